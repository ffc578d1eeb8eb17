theorem goodL (ws : List Cond) (is : List Nat) (h : is.filterMap (fun i => tables_1[i]?) = ws) (hg : ws.all goodWord = true) : ∀ w ∈ ws, w ∈ BIG := fun w hw => by
  refine List.mem_filter.mpr ⟨?_, List.all_eq_true.mp hg w hw⟩
  rw [← h] at hw
  obtain ⟨i, -, hi⟩ := List.mem_filterMap.mp hw
  exact List.mem_append_right _ (List.mem_of_getElem? hi)
theorem goodA (ws : List Cond) (is : List Nat) (h : is.filterMap (fun i => tables_1[i]?) = ws) (hg : ws.all (fun w => goodWord w || nw w) = true) : ∀ w ∈ ws, w ∈ BIG ∨ w ∈ NW := fun w hw => by
  have h1 := List.all_eq_true.mp hg w hw
  rw [← h] at hw
  obtain ⟨i, -, hi⟩ := List.mem_filterMap.mp hw
  have h2 : w ∈ lw_tbl := List.mem_append_right _ (List.mem_of_getElem? hi)
  rcases Bool.or_eq_true _ _ |>.mp h1 with h3 | h3
  · exact Or.inl (List.mem_filter.mpr ⟨h2, h3⟩)
  · exact Or.inr (List.mem_filter.mpr ⟨h2, h3⟩)
theorem goodW {w : Cond} (i : Nat) (h : tables_1[i]? = some w) (hg : goodWord w = true) : w ∈ BIG := List.mem_filter.mpr ⟨List.mem_append_right _ (List.mem_of_getElem? h), hg⟩
theorem goodN {w : Cond} (i : Nat) (h : tables_1[i]? = some w) (hg : nw w = true) : w ∈ NW := List.mem_filter.mpr ⟨List.mem_append_right _ (List.mem_of_getElem? h), hg⟩
theorem goodS {w : Cond} (i : Nat) (h : (k2_sels lw_privs)[i]? = some w) (hg : goodWord w = true) : w ∈ BIG := List.mem_filter.mpr ⟨List.mem_append_left _ (List.mem_of_getElem? h), hg⟩
theorem tk_1 {w : Cond} (h : w ∈ tables_1_1) : w ∈ tables_1 := List.mem_append_left _ h
theorem gdW1 {w : Cond} (i : Nat) (h : tables_1_1[i]? = some w) (hg : goodWord w = true) : w ∈ BIG := List.mem_filter.mpr ⟨List.mem_append_right _ (tk_1 (List.mem_of_getElem? h)), hg⟩
theorem gdN1 {w : Cond} (i : Nat) (h : tables_1_1[i]? = some w) (hg : nw w = true) : w ∈ NW := List.mem_filter.mpr ⟨List.mem_append_right _ (tk_1 (List.mem_of_getElem? h)), hg⟩
theorem tk_2 {w : Cond} (h : w ∈ tables_1_2) : w ∈ tables_1 := List.mem_append_right _ (List.mem_append_left _ h)
theorem gdW2 {w : Cond} (i : Nat) (h : tables_1_2[i]? = some w) (hg : goodWord w = true) : w ∈ BIG := List.mem_filter.mpr ⟨List.mem_append_right _ (tk_2 (List.mem_of_getElem? h)), hg⟩
theorem gdN2 {w : Cond} (i : Nat) (h : tables_1_2[i]? = some w) (hg : nw w = true) : w ∈ NW := List.mem_filter.mpr ⟨List.mem_append_right _ (tk_2 (List.mem_of_getElem? h)), hg⟩
theorem tk_3 {w : Cond} (h : w ∈ tables_1_3) : w ∈ tables_1 := List.mem_append_right _ (List.mem_append_right _ (List.mem_append_left _ h))
theorem gdW3 {w : Cond} (i : Nat) (h : tables_1_3[i]? = some w) (hg : goodWord w = true) : w ∈ BIG := List.mem_filter.mpr ⟨List.mem_append_right _ (tk_3 (List.mem_of_getElem? h)), hg⟩
theorem gdN3 {w : Cond} (i : Nat) (h : tables_1_3[i]? = some w) (hg : nw w = true) : w ∈ NW := List.mem_filter.mpr ⟨List.mem_append_right _ (tk_3 (List.mem_of_getElem? h)), hg⟩
theorem tk_4 {w : Cond} (h : w ∈ tables_1_4) : w ∈ tables_1 := List.mem_append_right _ (List.mem_append_right _ (List.mem_append_right _ (List.mem_append_left _ h)))
theorem gdW4 {w : Cond} (i : Nat) (h : tables_1_4[i]? = some w) (hg : goodWord w = true) : w ∈ BIG := List.mem_filter.mpr ⟨List.mem_append_right _ (tk_4 (List.mem_of_getElem? h)), hg⟩
theorem gdN4 {w : Cond} (i : Nat) (h : tables_1_4[i]? = some w) (hg : nw w = true) : w ∈ NW := List.mem_filter.mpr ⟨List.mem_append_right _ (tk_4 (List.mem_of_getElem? h)), hg⟩
theorem tk_5 {w : Cond} (h : w ∈ tables_1_5) : w ∈ tables_1 := List.mem_append_right _ (List.mem_append_right _ (List.mem_append_right _ (List.mem_append_right _ (List.mem_append_left _ h))))
theorem gdW5 {w : Cond} (i : Nat) (h : tables_1_5[i]? = some w) (hg : goodWord w = true) : w ∈ BIG := List.mem_filter.mpr ⟨List.mem_append_right _ (tk_5 (List.mem_of_getElem? h)), hg⟩
theorem gdN5 {w : Cond} (i : Nat) (h : tables_1_5[i]? = some w) (hg : nw w = true) : w ∈ NW := List.mem_filter.mpr ⟨List.mem_append_right _ (tk_5 (List.mem_of_getElem? h)), hg⟩
theorem tk_6 {w : Cond} (h : w ∈ tables_1_6) : w ∈ tables_1 := List.mem_append_right _ (List.mem_append_right _ (List.mem_append_right _ (List.mem_append_right _ (List.mem_append_right _ (List.mem_append_left _ h)))))
theorem gdW6 {w : Cond} (i : Nat) (h : tables_1_6[i]? = some w) (hg : goodWord w = true) : w ∈ BIG := List.mem_filter.mpr ⟨List.mem_append_right _ (tk_6 (List.mem_of_getElem? h)), hg⟩
theorem gdN6 {w : Cond} (i : Nat) (h : tables_1_6[i]? = some w) (hg : nw w = true) : w ∈ NW := List.mem_filter.mpr ⟨List.mem_append_right _ (tk_6 (List.mem_of_getElem? h)), hg⟩
theorem tk_7 {w : Cond} (h : w ∈ tables_1_7) : w ∈ tables_1 := List.mem_append_right _ (List.mem_append_right _ (List.mem_append_right _ (List.mem_append_right _ (List.mem_append_right _ (List.mem_append_right _ (h))))))
theorem gdW7 {w : Cond} (i : Nat) (h : tables_1_7[i]? = some w) (hg : goodWord w = true) : w ∈ BIG := List.mem_filter.mpr ⟨List.mem_append_right _ (tk_7 (List.mem_of_getElem? h)), hg⟩
theorem gdN7 {w : Cond} (i : Nat) (h : tables_1_7[i]? = some w) (hg : nw w = true) : w ∈ NW := List.mem_filter.mpr ⟨List.mem_append_right _ (tk_7 (List.mem_of_getElem? h)), hg⟩
theorem bw_0 : (Jvm.Cond.initialized "TollClockLaw") ∈ BIG := gdW1 0 (by decide +kernel) rfl
theorem bw_1 : (Jvm.Cond.initialized "TollClock") ∈ BIG := gdW1 1 (by decide +kernel) rfl
theorem bw_2 : (Jvm.Cond.initialized "TollClock$Text") ∈ BIG := gdW1 2 (by decide +kernel) rfl
theorem bw_3 : (Jvm.Cond.initialized "TollClock$Docket") ∈ BIG := gdW1 3 (by decide +kernel) rfl
theorem bw_4 : (Jvm.Cond.initialized "TollClock$Parties") ∈ BIG := gdW1 4 (by decide +kernel) rfl
theorem bw_5 : (Jvm.Cond.initialized "TollClock$Calendar") ∈ BIG := gdW1 5 (by decide +kernel) rfl
theorem bw_6 : (Jvm.Cond.initialized "TollClock$Rules") ∈ BIG := gdW1 6 (by decide +kernel) rfl
theorem bw_7 : (Jvm.Cond.initialized "TollClock$Deadlines") ∈ BIG := gdW1 7 (by decide +kernel) rfl
theorem bw_8 : (Jvm.Cond.initialized "TollClock$Stays") ∈ BIG := gdW1 8 (by decide +kernel) rfl
theorem bw_9 : (Jvm.Cond.initialized "TollClock$Claims") ∈ BIG := gdW1 9 (by decide +kernel) rfl
theorem bw_10 : (Jvm.Cond.initialized "TollClock$Weeks") ∈ BIG := gdW1 10 (by decide +kernel) rfl
theorem bw_11 : (Jvm.Cond.initialized "TollClock$Marks") ∈ BIG := gdW1 11 (by decide +kernel) rfl
theorem bw_12 : (Jvm.Cond.initialized "TollClock$Program") ∈ BIG := gdW1 12 (by decide +kernel) rfl
theorem bw_16 : (Jvm.Cond.initialized "java/lang/IndexOutOfBoundsException") ∈ BIG := gdW1 16 (by decide +kernel) rfl
theorem bw_19 : (Jvm.Cond.initialized "java/lang/System") ∈ BIG := gdW1 19 (by decide +kernel) rfl
theorem bw_20 : (Jvm.Cond.initialized "java/lang/IllegalArgumentException") ∈ BIG := gdW1 20 (by decide +kernel) rfl
theorem bw_21 : (Jvm.Cond.initialized "java/lang/IllegalStateException") ∈ BIG := gdW1 21 (by decide +kernel) rfl
theorem bw_22 : (Jvm.Cond.initialized "java/lang/UnsupportedOperationException") ∈ BIG := gdW1 22 (by decide +kernel) rfl
theorem bw_23 : (Jvm.Cond.initialized "java/util/NoSuchElementException") ∈ BIG := gdW1 23 (by decide +kernel) rfl
theorem bw_24 : (Jvm.Cond.initialized "java/lang/Math") ∈ BIG := gdW1 24 (by decide +kernel) rfl
theorem bw_28 : (Jvm.Cond.classLink "TollClockLaw" (16 : Nat) "TollClock") ∈ BIG := gdW1 28 (by decide +kernel) rfl
theorem bw_29 : (Jvm.Cond.instantiable "TollClock" (13 : Nat)) ∈ BIG := gdW1 29 (by decide +kernel) rfl
theorem bw_30 : (Jvm.Cond.methodLink "TollClockLaw" (249 : Nat) ({ cls := "TollClock", name := "<init>", desc := "()V" } : Jvm.MethodName)) ∈ BIG := gdW1 30 (by decide +kernel) rfl
theorem bw_31 : (Jvm.Cond.instanceMethod ({ cls := "TollClock", name := "<init>", desc := "()V" } : Jvm.MethodName)) ∈ BIG := gdW1 31 (by decide +kernel) rfl
theorem bw_32 : (Jvm.Cond.code ({ cls := "TollClock", name := "<init>", desc := "()V" } : Jvm.MethodName) prog_1_method_1_code (1 : Nat) (Option.none : Option Jvm.ClassFile.FieldType)) ∈ BIG := gdW1 32 (by decide +kernel) rfl
theorem bw_36 : (Jvm.Cond.classLink "TollClock" (9 : Nat) "TollClock$Text") ∈ BIG := gdW1 36 (by decide +kernel) rfl
theorem bw_37 : (Jvm.Cond.instantiable "TollClock$Text" (2 : Nat)) ∈ BIG := gdW1 37 (by decide +kernel) rfl
theorem bw_39 : (Jvm.Cond.instanceMethod ({ cls := "TollClock$Text", name := "<init>", desc := "()V" } : Jvm.MethodName)) ∈ BIG := gdW1 39 (by decide +kernel) rfl
theorem bw_40 : (Jvm.Cond.code ({ cls := "TollClock$Text", name := "<init>", desc := "()V" } : Jvm.MethodName) prog_11_method_1_code (1 : Nat) (Option.none : Option Jvm.ClassFile.FieldType)) ∈ BIG := gdW1 40 (by decide +kernel) rfl
theorem bw_42 : (Jvm.Cond.fieldLink "TollClock$Text" (9 : Nat) "TollClock$Text" "signs" "[C") ∈ BIG := gdW1 42 (by decide +kernel) rfl
theorem bw_43 : (Jvm.Cond.fieldLink "TollClock$Text" (15 : Nat) "TollClock$Text" "length" "I") ∈ BIG := gdW1 43 (by decide +kernel) rfl
theorem bw_51 : (Jvm.Cond.arrayClass Jvm.ClassFile.FieldType.char) ∈ BIG := gdW1 51 (by decide +kernel) rfl
theorem bw_52 : (Jvm.Cond.classLink "TollClock" (23 : Nat) "TollClock$Docket") ∈ BIG := gdW1 52 (by decide +kernel) rfl
theorem bw_53 : (Jvm.Cond.instantiable "TollClock$Docket" (6 : Nat)) ∈ BIG := gdW1 53 (by decide +kernel) rfl
theorem bw_55 : (Jvm.Cond.instanceMethod ({ cls := "TollClock$Docket", name := "<init>", desc := "()V" } : Jvm.MethodName)) ∈ BIG := gdW1 55 (by decide +kernel) rfl
theorem bw_56 : (Jvm.Cond.code ({ cls := "TollClock$Docket", name := "<init>", desc := "()V" } : Jvm.MethodName) prog_5_method_1_code (1 : Nat) (Option.none : Option Jvm.ClassFile.FieldType)) ∈ BIG := gdW1 56 (by decide +kernel) rfl
theorem bw_58 : (Jvm.Cond.classLink "TollClock$Docket" (7 : Nat) "TollClock$Parties") ∈ BIG := gdW1 58 (by decide +kernel) rfl
theorem bw_59 : (Jvm.Cond.instantiable "TollClock$Parties" (3 : Nat)) ∈ BIG := gdW1 59 (by decide +kernel) rfl
theorem bw_61 : (Jvm.Cond.instanceMethod ({ cls := "TollClock$Parties", name := "<init>", desc := "()V" } : Jvm.MethodName)) ∈ BIG := gdW1 61 (by decide +kernel) rfl
theorem bw_62 : (Jvm.Cond.code ({ cls := "TollClock$Parties", name := "<init>", desc := "()V" } : Jvm.MethodName) prog_7_method_1_code (1 : Nat) (Option.none : Option Jvm.ClassFile.FieldType)) ∈ BIG := gdW1 62 (by decide +kernel) rfl
theorem bw_64 : (Jvm.Cond.fieldLink "TollClock$Parties" (9 : Nat) "TollClock$Parties" "points" "[I") ∈ BIG := gdW1 64 (by decide +kernel) rfl
theorem bw_66 : (Jvm.Cond.fieldLink "TollClock$Parties" (15 : Nat) "TollClock$Parties" "lengths" "[I") ∈ BIG := gdW1 66 (by decide +kernel) rfl
theorem bw_68 : (Jvm.Cond.fieldLink "TollClock$Parties" (24 : Nat) "TollClock$Parties" "count" "I") ∈ BIG := gdW1 68 (by decide +kernel) rfl
theorem bw_77 : (Jvm.Cond.arrayClass Jvm.ClassFile.FieldType.int) ∈ BIG := gdW1 77 (by decide +kernel) rfl
theorem bw_78 : (Jvm.Cond.classLink "TollClock$Docket" (16 : Nat) "TollClock$Calendar") ∈ BIG := gdW1 78 (by decide +kernel) rfl
theorem bw_79 : (Jvm.Cond.instantiable "TollClock$Calendar" (3 : Nat)) ∈ BIG := gdW1 79 (by decide +kernel) rfl
theorem bw_81 : (Jvm.Cond.instanceMethod ({ cls := "TollClock$Calendar", name := "<init>", desc := "()V" } : Jvm.MethodName)) ∈ BIG := gdW1 81 (by decide +kernel) rfl
theorem bw_82 : (Jvm.Cond.code ({ cls := "TollClock$Calendar", name := "<init>", desc := "()V" } : Jvm.MethodName) prog_2_method_1_code (1 : Nat) (Option.none : Option Jvm.ClassFile.FieldType)) ∈ BIG := gdW1 82 (by decide +kernel) rfl
theorem bw_84 : (Jvm.Cond.fieldLink "TollClock$Calendar" (15 : Nat) "TollClock$Calendar" "today" "I") ∈ BIG := gdW1 84 (by decide +kernel) rfl
theorem bw_86 : (Jvm.Cond.fieldLink "TollClock$Calendar" (9 : Nat) "TollClock$Calendar" "holidays" "[I") ∈ BIG := gdW1 86 (by decide +kernel) rfl
theorem bw_89 : (Jvm.Cond.fieldLink "TollClock$Calendar" (25 : Nat) "TollClock$Calendar" "holidayCount" "I") ∈ BIG := gdW1 89 (by decide +kernel) rfl
theorem bw_98 : (Jvm.Cond.classLink "TollClock$Docket" (23 : Nat) "TollClock$Rules") ∈ BIG := gdW1 98 (by decide +kernel) rfl
theorem bw_99 : (Jvm.Cond.instantiable "TollClock$Rules" (3 : Nat)) ∈ BIG := gdW1 99 (by decide +kernel) rfl
theorem bw_100 : (Jvm.Cond.methodLink "TollClock$Docket" (25 : Nat) ({ cls := "TollClock$Rules", name := "<init>", desc := "()V" } : Jvm.MethodName)) ∈ BIG := gdW1 100 (by decide +kernel) rfl
theorem bw_101 : (Jvm.Cond.instanceMethod ({ cls := "TollClock$Rules", name := "<init>", desc := "()V" } : Jvm.MethodName)) ∈ BIG := gdW1 101 (by decide +kernel) rfl
theorem bw_102 : (Jvm.Cond.code ({ cls := "TollClock$Rules", name := "<init>", desc := "()V" } : Jvm.MethodName) prog_9_method_1_code (2 : Nat) (Option.none : Option Jvm.ClassFile.FieldType)) ∈ BIG := gdW1 102 (by decide +kernel) rfl
theorem bw_104 : (Jvm.Cond.fieldLink "TollClock$Rules" (9 : Nat) "TollClock$Rules" "lengths" "[I") ∈ BIG := gdW1 104 (by decide +kernel) rfl
theorem bw_107 : (Jvm.Cond.fieldLink "TollClock$Rules" (15 : Nat) "TollClock$Rules" "inCourtDays" "[Z") ∈ BIG := gdW1 107 (by decide +kernel) rfl
theorem bw_110 : (Jvm.Cond.fieldLink "TollClock$Rules" (19 : Nat) "TollClock$Rules" "serviceDays" "[I") ∈ BIG := gdW1 110 (by decide +kernel) rfl
theorem bw_119 : (Jvm.Cond.arrayClass Jvm.ClassFile.FieldType.boolean) ∈ BIG := gdW1 119 (by decide +kernel) rfl
theorem bw_120 : (Jvm.Cond.classLink "TollClock$Docket" (30 : Nat) "TollClock$Deadlines") ∈ BIG := gdW1 120 (by decide +kernel) rfl
theorem bw_121 : (Jvm.Cond.instantiable "TollClock$Deadlines" (12 : Nat)) ∈ BIG := gdW1 121 (by decide +kernel) rfl
theorem bw_123 : (Jvm.Cond.instanceMethod ({ cls := "TollClock$Deadlines", name := "<init>", desc := "()V" } : Jvm.MethodName)) ∈ BIG := gdW1 123 (by decide +kernel) rfl
theorem bw_124 : (Jvm.Cond.code ({ cls := "TollClock$Deadlines", name := "<init>", desc := "()V" } : Jvm.MethodName) prog_4_method_1_code (1 : Nat) (Option.none : Option Jvm.ClassFile.FieldType)) ∈ BIG := gdW1 124 (by decide +kernel) rfl
theorem bw_126 : (Jvm.Cond.fieldLink "TollClock$Deadlines" (9 : Nat) "TollClock$Deadlines" "parties" "[I") ∈ BIG := gdW1 126 (by decide +kernel) rfl
theorem bw_130 : (Jvm.Cond.fieldLink "TollClock$Deadlines" (15 : Nat) "TollClock$Deadlines" "rules" "[I") ∈ BIG := gdW1 130 (by decide +kernel) rfl
theorem bw_133 : (Jvm.Cond.fieldLink "TollClock$Deadlines" (18 : Nat) "TollClock$Deadlines" "startDays" "[I") ∈ BIG := gdW1 133 (by decide +kernel) rfl
theorem bw_136 : (Jvm.Cond.fieldLink "TollClock$Deadlines" (21 : Nat) "TollClock$Deadlines" "inCourtDays" "[Z") ∈ BIG := gdW1 136 (by decide +kernel) rfl
theorem bw_137 : (Jvm.Cond.fieldLink "TollClock$Deadlines" (25 : Nat) "TollClock$Deadlines" "partCounts" "[I") ∈ BIG := gdW1 137 (by decide +kernel) rfl
theorem bw_140 : (Jvm.Cond.fieldLink "TollClock$Deadlines" (28 : Nat) "TollClock$Deadlines" "parts" "[I") ∈ BIG := gdW1 140 (by decide +kernel) rfl
theorem bw_141 : (Jvm.Cond.fieldLink "TollClock$Deadlines" (31 : Nat) "TollClock$Deadlines" "consents" "[I") ∈ BIG := gdW1 141 (by decide +kernel) rfl
theorem bw_143 : (Jvm.Cond.fieldLink "TollClock$Deadlines" (34 : Nat) "TollClock$Deadlines" "consentDays" "[I") ∈ BIG := gdW1 143 (by decide +kernel) rfl
theorem bw_145 : (Jvm.Cond.fieldLink "TollClock$Deadlines" (37 : Nat) "TollClock$Deadlines" "orders" "[I") ∈ BIG := gdW1 145 (by decide +kernel) rfl
theorem bw_147 : (Jvm.Cond.fieldLink "TollClock$Deadlines" (40 : Nat) "TollClock$Deadlines" "grantedDays" "[I") ∈ BIG := gdW1 147 (by decide +kernel) rfl
theorem bw_149 : (Jvm.Cond.fieldLink "TollClock$Deadlines" (43 : Nat) "TollClock$Deadlines" "states" "[C") ∈ BIG := gdW1 149 (by decide +kernel) rfl
theorem bw_151 : (Jvm.Cond.fieldLink "TollClock$Deadlines" (53 : Nat) "TollClock$Deadlines" "count" "I") ∈ BIG := gdW1 151 (by decide +kernel) rfl
theorem bw_179 : (Jvm.Cond.classLink "TollClock$Docket" (37 : Nat) "TollClock$Stays") ∈ BIG := gdW1 179 (by decide +kernel) rfl
theorem bw_180 : (Jvm.Cond.instantiable "TollClock$Stays" (5 : Nat)) ∈ BIG := gdW1 180 (by decide +kernel) rfl
theorem bw_182 : (Jvm.Cond.instanceMethod ({ cls := "TollClock$Stays", name := "<init>", desc := "()V" } : Jvm.MethodName)) ∈ BIG := gdW1 182 (by decide +kernel) rfl
theorem bw_183 : (Jvm.Cond.code ({ cls := "TollClock$Stays", name := "<init>", desc := "()V" } : Jvm.MethodName) prog_10_method_1_code (1 : Nat) (Option.none : Option Jvm.ClassFile.FieldType)) ∈ BIG := gdW1 183 (by decide +kernel) rfl
theorem bw_185 : (Jvm.Cond.fieldLink "TollClock$Stays" (9 : Nat) "TollClock$Stays" "parties" "[I") ∈ BIG := gdW1 185 (by decide +kernel) rfl
theorem bw_186 : (Jvm.Cond.fieldLink "TollClock$Stays" (15 : Nat) "TollClock$Stays" "ruleSets" "[I") ∈ BIG := gdW1 186 (by decide +kernel) rfl
theorem bw_187 : (Jvm.Cond.fieldLink "TollClock$Stays" (18 : Nat) "TollClock$Stays" "orderDays" "[I") ∈ BIG := gdW1 187 (by decide +kernel) rfl
theorem bw_191 : (Jvm.Cond.fieldLink "TollClock$Stays" (21 : Nat) "TollClock$Stays" "lastDays" "[I") ∈ BIG := gdW1 191 (by decide +kernel) rfl
theorem bw_196 : (Jvm.Cond.fieldLink "TollClock$Stays" (30 : Nat) "TollClock$Stays" "count" "I") ∈ BIG := gdW1 196 (by decide +kernel) rfl
theorem bw_210 : (Jvm.Cond.classLink "TollClock$Docket" (44 : Nat) "TollClock$Claims") ∈ BIG := gdW1 210 (by decide +kernel) rfl
theorem bw_211 : (Jvm.Cond.instantiable "TollClock$Claims" (8 : Nat)) ∈ BIG := gdW1 211 (by decide +kernel) rfl
theorem bw_213 : (Jvm.Cond.instanceMethod ({ cls := "TollClock$Claims", name := "<init>", desc := "()V" } : Jvm.MethodName)) ∈ BIG := gdW1 213 (by decide +kernel) rfl
theorem bw_214 : (Jvm.Cond.code ({ cls := "TollClock$Claims", name := "<init>", desc := "()V" } : Jvm.MethodName) prog_3_method_1_code (1 : Nat) (Option.none : Option Jvm.ClassFile.FieldType)) ∈ BIG := gdW1 214 (by decide +kernel) rfl
theorem bw_216 : (Jvm.Cond.classLink "TollClock$Claims" (9 : Nat) "TollClock$Deadlines") ∈ BIG := gdW1 216 (by decide +kernel) rfl
theorem bw_218 : (Jvm.Cond.fieldLink "TollClock$Claims" (12 : Nat) "TollClock$Claims" "periods" "LTollClock$Deadlines;") ∈ BIG := gdW1 218 (by decide +kernel) rfl
theorem bw_220 : (Jvm.Cond.fieldLink "TollClock$Claims" (18 : Nat) "TollClock$Claims" "links" "[I") ∈ BIG := gdW1 220 (by decide +kernel) rfl
theorem bw_221 : (Jvm.Cond.fieldLink "TollClock$Claims" (22 : Nat) "TollClock$Claims" "groups" "[I") ∈ BIG := gdW1 221 (by decide +kernel) rfl
theorem bw_222 : (Jvm.Cond.fieldLink "TollClock$Claims" (25 : Nat) "TollClock$Claims" "parties" "[I") ∈ BIG := gdW1 222 (by decide +kernel) rfl
theorem bw_224 : (Jvm.Cond.fieldLink "TollClock$Claims" (28 : Nat) "TollClock$Claims" "occurrences" "[I") ∈ BIG := gdW1 224 (by decide +kernel) rfl
theorem bw_226 : (Jvm.Cond.fieldLink "TollClock$Claims" (31 : Nat) "TollClock$Claims" "fileDays" "[I") ∈ BIG := gdW1 226 (by decide +kernel) rfl
theorem bw_227 : (Jvm.Cond.fieldLink "TollClock$Claims" (34 : Nat) "TollClock$Claims" "amended" "[I") ∈ BIG := gdW1 227 (by decide +kernel) rfl
theorem bw_228 : (Jvm.Cond.fieldLink "TollClock$Claims" (47 : Nat) "TollClock$Claims" "count" "I") ∈ BIG := gdW1 228 (by decide +kernel) rfl
theorem bw_247 : (Jvm.Cond.fieldLink "TollClock$Docket" (10 : Nat) "TollClock$Docket" "parties" "LTollClock$Parties;") ∈ BIG := gdW2 7 (by decide +kernel) rfl
theorem bw_249 : (Jvm.Cond.fieldLink "TollClock$Docket" (19 : Nat) "TollClock$Docket" "calendar" "LTollClock$Calendar;") ∈ BIG := gdW2 9 (by decide +kernel) rfl
theorem bw_251 : (Jvm.Cond.fieldLink "TollClock$Docket" (26 : Nat) "TollClock$Docket" "rules" "LTollClock$Rules;") ∈ BIG := gdW2 11 (by decide +kernel) rfl
theorem bw_253 : (Jvm.Cond.fieldLink "TollClock$Docket" (33 : Nat) "TollClock$Docket" "deadlines" "LTollClock$Deadlines;") ∈ BIG := gdW2 13 (by decide +kernel) rfl
theorem bw_255 : (Jvm.Cond.fieldLink "TollClock$Docket" (40 : Nat) "TollClock$Docket" "stays" "LTollClock$Stays;") ∈ BIG := gdW2 15 (by decide +kernel) rfl
theorem bw_257 : (Jvm.Cond.fieldLink "TollClock$Docket" (47 : Nat) "TollClock$Docket" "claims" "LTollClock$Claims;") ∈ BIG := gdW2 17 (by decide +kernel) rfl
theorem bw_273 : (Jvm.Cond.classLink "TollClock" (34 : Nat) "TollClock$Weeks") ∈ BIG := gdW2 33 (by decide +kernel) rfl
theorem bw_274 : (Jvm.Cond.instantiable "TollClock$Weeks" (5 : Nat)) ∈ BIG := gdW2 34 (by decide +kernel) rfl
theorem bw_275 : (Jvm.Cond.methodLink "TollClock" (44 : Nat) ({ cls := "TollClock$Weeks", name := "<init>", desc := "(LTollClock$Calendar;LTollClock$Stays;)V" } : Jvm.MethodName)) ∈ BIG := gdW2 35 (by decide +kernel) rfl
theorem bw_276 : (Jvm.Cond.instanceMethod ({ cls := "TollClock$Weeks", name := "<init>", desc := "(LTollClock$Calendar;LTollClock$Stays;)V" } : Jvm.MethodName)) ∈ BIG := gdW2 36 (by decide +kernel) rfl
theorem bw_277 : (Jvm.Cond.code ({ cls := "TollClock$Weeks", name := "<init>", desc := "(LTollClock$Calendar;LTollClock$Stays;)V" } : Jvm.MethodName) prog_12_method_1_code (3 : Nat) (Option.none : Option Jvm.ClassFile.FieldType)) ∈ BIG := gdW2 37 (by decide +kernel) rfl
theorem bw_279 : (Jvm.Cond.fieldLink "TollClock$Weeks" (18 : Nat) "TollClock$Weeks" "calendar" "LTollClock$Calendar;") ∈ BIG := gdW2 39 (by decide +kernel) rfl
theorem bw_280 : (Jvm.Cond.fieldLink "TollClock$Weeks" (22 : Nat) "TollClock$Weeks" "stays" "LTollClock$Stays;") ∈ BIG := gdW2 40 (by decide +kernel) rfl
theorem bw_281 : (Jvm.Cond.fieldLink "TollClock$Weeks" (9 : Nat) "TollClock$Weeks" "firsts" "[I") ∈ BIG := gdW2 41 (by decide +kernel) rfl
theorem bw_282 : (Jvm.Cond.fieldLink "TollClock$Weeks" (15 : Nat) "TollClock$Weeks" "lasts" "[I") ∈ BIG := gdW2 42 (by decide +kernel) rfl
theorem bw_283 : (Jvm.Cond.fieldLink "TollClock$Weeks" (26 : Nat) "TollClock$Weeks" "ranges" "I") ∈ BIG := gdW2 43 (by decide +kernel) rfl
theorem bw_295 : (Jvm.Cond.classLink "TollClock" (51 : Nat) "TollClock$Marks") ∈ BIG := gdW2 55 (by decide +kernel) rfl
theorem bw_296 : (Jvm.Cond.instantiable "TollClock$Marks" (6 : Nat)) ∈ BIG := gdW2 56 (by decide +kernel) rfl
theorem bw_297 : (Jvm.Cond.methodLink "TollClock" (53 : Nat) ({ cls := "TollClock$Marks", name := "<init>", desc := "(LTollClock$Calendar;LTollClock$Stays;)V" } : Jvm.MethodName)) ∈ BIG := gdW2 57 (by decide +kernel) rfl
theorem bw_298 : (Jvm.Cond.instanceMethod ({ cls := "TollClock$Marks", name := "<init>", desc := "(LTollClock$Calendar;LTollClock$Stays;)V" } : Jvm.MethodName)) ∈ BIG := gdW2 58 (by decide +kernel) rfl
theorem bw_299 : (Jvm.Cond.code ({ cls := "TollClock$Marks", name := "<init>", desc := "(LTollClock$Calendar;LTollClock$Stays;)V" } : Jvm.MethodName) prog_6_method_1_code (3 : Nat) (Option.none : Option Jvm.ClassFile.FieldType)) ∈ BIG := gdW2 59 (by decide +kernel) rfl
theorem bw_301 : (Jvm.Cond.fieldLink "TollClock$Marks" (18 : Nat) "TollClock$Marks" "calendar" "LTollClock$Calendar;") ∈ BIG := gdW2 61 (by decide +kernel) rfl
theorem bw_302 : (Jvm.Cond.fieldLink "TollClock$Marks" (22 : Nat) "TollClock$Marks" "stays" "LTollClock$Stays;") ∈ BIG := gdW2 62 (by decide +kernel) rfl
theorem bw_303 : (Jvm.Cond.fieldLink "TollClock$Marks" (11 : Nat) "TollClock$Marks" "holidays" "[J") ∈ BIG := gdW2 63 (by decide +kernel) rfl
theorem bw_304 : (Jvm.Cond.fieldLink "TollClock$Marks" (15 : Nat) "TollClock$Marks" "stopped" "[J") ∈ BIG := gdW2 64 (by decide +kernel) rfl
theorem bw_305 : (Jvm.Cond.fieldLink "TollClock$Marks" (93 : Nat) "TollClock$Marks" "counted" "I") ∈ BIG := gdW2 65 (by decide +kernel) rfl
theorem bw_306 : (Jvm.Cond.fieldLink "TollClock$Marks" (90 : Nat) "TollClock$Marks" "end" "I") ∈ BIG := gdW2 66 (by decide +kernel) rfl
theorem bw_320 : (Jvm.Cond.arrayClass Jvm.ClassFile.FieldType.long) ∈ BIG := gdW2 80 (by decide +kernel) rfl
theorem bw_321 : (Jvm.Cond.classLink "TollClock" (61 : Nat) "TollClock$Program") ∈ BIG := gdW2 81 (by decide +kernel) rfl
theorem bw_322 : (Jvm.Cond.instantiable "TollClock$Program" (6 : Nat)) ∈ BIG := gdW2 82 (by decide +kernel) rfl
theorem bw_324 : (Jvm.Cond.instanceMethod ({ cls := "TollClock$Program", name := "<init>", desc := "()V" } : Jvm.MethodName)) ∈ BIG := gdW2 84 (by decide +kernel) rfl
theorem bw_325 : (Jvm.Cond.code ({ cls := "TollClock$Program", name := "<init>", desc := "()V" } : Jvm.MethodName) prog_8_method_1_code (1 : Nat) (Option.none : Option Jvm.ClassFile.FieldType)) ∈ BIG := gdW2 85 (by decide +kernel) rfl
theorem bw_327 : (Jvm.Cond.fieldLink "TollClock$Program" (9 : Nat) "TollClock$Program" "verbs" "[I") ∈ BIG := gdW2 87 (by decide +kernel) rfl
theorem bw_329 : (Jvm.Cond.fieldLink "TollClock$Program" (15 : Nat) "TollClock$Program" "firsts" "[I") ∈ BIG := gdW2 89 (by decide +kernel) rfl
theorem bw_331 : (Jvm.Cond.fieldLink "TollClock$Program" (18 : Nat) "TollClock$Program" "seconds" "[I") ∈ BIG := gdW2 91 (by decide +kernel) rfl
theorem bw_333 : (Jvm.Cond.fieldLink "TollClock$Program" (21 : Nat) "TollClock$Program" "ways" "[C") ∈ BIG := gdW2 93 (by decide +kernel) rfl
theorem bw_351 : (Jvm.Cond.fieldLink "TollClock" (12 : Nat) "TollClock" "buffer" "LTollClock$Text;") ∈ BIG := gdW2 111 (by decide +kernel) rfl
theorem bw_352 : (Jvm.Cond.fieldLink "TollClock" (16 : Nat) "TollClock" "line" "LTollClock$Text;") ∈ BIG := gdW2 112 (by decide +kernel) rfl
theorem bw_353 : (Jvm.Cond.fieldLink "TollClock" (19 : Nat) "TollClock" "name" "[I") ∈ BIG := gdW2 113 (by decide +kernel) rfl
theorem bw_354 : (Jvm.Cond.fieldLink "TollClock" (26 : Nat) "TollClock" "docket" "LTollClock$Docket;") ∈ BIG := gdW2 114 (by decide +kernel) rfl
theorem bw_355 : (Jvm.Cond.fieldLink "TollClock" (30 : Nat) "TollClock" "past" "[LTollClock$Docket;") ∈ BIG := gdW2 115 (by decide +kernel) rfl
theorem bw_356 : (Jvm.Cond.fieldLink "TollClock" (490 : Nat) "TollClock" "nextPast" "I") ∈ BIG := gdW2 116 (by decide +kernel) rfl
theorem bw_357 : (Jvm.Cond.fieldLink "TollClock" (485 : Nat) "TollClock" "undoable" "I") ∈ BIG := gdW2 117 (by decide +kernel) rfl
theorem bw_358 : (Jvm.Cond.fieldLink "TollClock" (47 : Nat) "TollClock" "weeks" "LTollClock$Weeks;") ∈ BIG := gdW2 118 (by decide +kernel) rfl
theorem bw_359 : (Jvm.Cond.fieldLink "TollClock" (54 : Nat) "TollClock" "marks" "LTollClock$Marks;") ∈ BIG := gdW2 119 (by decide +kernel) rfl
theorem bw_360 : (Jvm.Cond.fieldLink "TollClock" (58 : Nat) "TollClock" "openDues" "[I") ∈ BIG := gdW2 120 (by decide +kernel) rfl
theorem bw_361 : (Jvm.Cond.fieldLink "TollClock" (64 : Nat) "TollClock" "program" "LTollClock$Program;") ∈ BIG := gdW2 121 (by decide +kernel) rfl
theorem bw_362 : (Jvm.Cond.fieldLink "TollClock" (68 : Nat) "TollClock" "errorPosition" "I") ∈ BIG := gdW2 122 (by decide +kernel) rfl
theorem bw_363 : (Jvm.Cond.fieldLink "TollClock" (72 : Nat) "TollClock" "failedCommand" "I") ∈ BIG := gdW2 123 (by decide +kernel) rfl
theorem bw_391 : (Jvm.Cond.methodLink "TollClockLaw" (261 : Nat) ({ cls := "TollClock", name := "isConsistent", desc := "()Z" } : Jvm.MethodName)) ∈ BIG := gdW2 151 (by decide +kernel) rfl
theorem bw_392 : (Jvm.Cond.instanceMethod ({ cls := "TollClock", name := "isConsistent", desc := "()Z" } : Jvm.MethodName)) ∈ BIG := gdW2 152 (by decide +kernel) rfl
theorem bw_393 : (Jvm.Cond.selects "TollClock" ({ cls := "TollClock", name := "isConsistent", desc := "()Z" } : Jvm.MethodName) ({ cls := "TollClock", name := "isConsistent", desc := "()Z" } : Jvm.MethodName)) ∈ BIG := gdW2 153 (by decide +kernel) rfl
theorem bw_394 : (Jvm.Cond.code ({ cls := "TollClock", name := "isConsistent", desc := "()Z" } : Jvm.MethodName) prog_1_method_92_code (2 : Nat) (Option.some Jvm.ClassFile.FieldType.boolean)) ∈ BIG := gdW2 154 (by decide +kernel) rfl
theorem bw_395 : (Jvm.Cond.methodLink "TollClock" (453 : Nat) ({ cls := "TollClock", name := "deadlineAgrees", desc := "(I)Z" } : Jvm.MethodName)) ∈ BIG := gdW2 155 (by decide +kernel) rfl
theorem bw_397 : (Jvm.Cond.instanceMethod ({ cls := "TollClock", name := "deadlineAgrees", desc := "(I)Z" } : Jvm.MethodName)) ∈ BIG := gdW2 157 (by decide +kernel) rfl
theorem bw_398 : (Jvm.Cond.code ({ cls := "TollClock", name := "deadlineAgrees", desc := "(I)Z" } : Jvm.MethodName) prog_1_method_93_code (4 : Nat) (Option.some Jvm.ClassFile.FieldType.boolean)) ∈ BIG := gdW2 158 (by decide +kernel) rfl
theorem bw_399 : (Jvm.Cond.methodLink "TollClock" (262 : Nat) ({ cls := "TollClock$Weeks", name := "endOf", desc := "(LTollClock$Deadlines;I)I" } : Jvm.MethodName)) ∈ BIG := gdW2 159 (by decide +kernel) rfl
theorem bw_400 : (Jvm.Cond.instanceMethod ({ cls := "TollClock$Weeks", name := "endOf", desc := "(LTollClock$Deadlines;I)I" } : Jvm.MethodName)) ∈ BIG := gdW2 160 (by decide +kernel) rfl
theorem bw_401 : (Jvm.Cond.selects "TollClock$Weeks" ({ cls := "TollClock$Weeks", name := "endOf", desc := "(LTollClock$Deadlines;I)I" } : Jvm.MethodName) ({ cls := "TollClock$Weeks", name := "endOf", desc := "(LTollClock$Deadlines;I)I" } : Jvm.MethodName)) ∈ BIG := gdW2 161 (by decide +kernel) rfl
theorem bw_402 : (Jvm.Cond.code ({ cls := "TollClock$Weeks", name := "endOf", desc := "(LTollClock$Deadlines;I)I" } : Jvm.MethodName) prog_12_method_5_code (6 : Nat) (Option.some Jvm.ClassFile.FieldType.int)) ∈ BIG := gdW2 162 (by decide +kernel) rfl
theorem bw_403 : (Jvm.Cond.methodLink "TollClock$Weeks" (63 : Nat) ({ cls := "TollClock$Weeks", name := "takeStays", desc := "(LTollClock$Deadlines;I)V" } : Jvm.MethodName)) ∈ BIG := gdW2 163 (by decide +kernel) rfl
theorem bw_405 : (Jvm.Cond.instanceMethod ({ cls := "TollClock$Weeks", name := "takeStays", desc := "(LTollClock$Deadlines;I)V" } : Jvm.MethodName)) ∈ BIG := gdW2 165 (by decide +kernel) rfl
theorem bw_406 : (Jvm.Cond.code ({ cls := "TollClock$Weeks", name := "takeStays", desc := "(LTollClock$Deadlines;I)V" } : Jvm.MethodName) prog_12_method_2_code (4 : Nat) (Option.none : Option Jvm.ClassFile.FieldType)) ∈ BIG := gdW2 166 (by decide +kernel) rfl
theorem bw_407 : (Jvm.Cond.methodLink "TollClock$Weeks" (43 : Nat) ({ cls := "TollClock$Stays", name := "concerns", desc := "(III)Z" } : Jvm.MethodName)) ∈ BIG := gdW2 167 (by decide +kernel) rfl
theorem bw_408 : (Jvm.Cond.instanceMethod ({ cls := "TollClock$Stays", name := "concerns", desc := "(III)Z" } : Jvm.MethodName)) ∈ BIG := gdW2 168 (by decide +kernel) rfl
theorem bw_409 : (Jvm.Cond.selects "TollClock$Stays" ({ cls := "TollClock$Stays", name := "concerns", desc := "(III)Z" } : Jvm.MethodName) ({ cls := "TollClock$Stays", name := "concerns", desc := "(III)Z" } : Jvm.MethodName)) ∈ BIG := gdW2 169 (by decide +kernel) rfl
theorem bw_410 : (Jvm.Cond.code ({ cls := "TollClock$Stays", name := "concerns", desc := "(III)Z" } : Jvm.MethodName) prog_10_method_7_code (5 : Nat) (Option.some Jvm.ClassFile.FieldType.boolean)) ∈ BIG := gdW2 170 (by decide +kernel) rfl
theorem bw_411 : (Jvm.Cond.methodLink "TollClock$Weeks" (53 : Nat) ({ cls := "TollClock$Weeks", name := "joinRange", desc := "(II)V" } : Jvm.MethodName)) ∈ BIG := gdW2 171 (by decide +kernel) rfl
theorem bw_413 : (Jvm.Cond.instanceMethod ({ cls := "TollClock$Weeks", name := "joinRange", desc := "(II)V" } : Jvm.MethodName)) ∈ BIG := gdW2 173 (by decide +kernel) rfl
theorem bw_414 : (Jvm.Cond.code ({ cls := "TollClock$Weeks", name := "joinRange", desc := "(II)V" } : Jvm.MethodName) prog_12_method_3_code (3 : Nat) (Option.none : Option Jvm.ClassFile.FieldType)) ∈ BIG := gdW2 174 (by decide +kernel) rfl
theorem bw_415 : (Jvm.Cond.methodLink "TollClock$Weeks" (57 : Nat) ({ cls := "java/lang/Math", name := "max", desc := "(II)I" } : Jvm.MethodName)) ∈ BIG := gdW2 175 (by decide +kernel) rfl
theorem bw_416 : (Jvm.Cond.static ({ cls := "java/lang/Math", name := "max", desc := "(II)I" } : Jvm.MethodName)) ∈ BIG := gdW2 176 (by decide +kernel) rfl
theorem bw_417 : (Jvm.Cond.code ({ cls := "java/lang/Math", name := "max", desc := "(II)I" } : Jvm.MethodName) prog_23_method_65_code (2 : Nat) (Option.some Jvm.ClassFile.FieldType.int)) ∈ BIG := gdW2 177 (by decide +kernel) rfl
theorem bw_418 : (Jvm.Cond.methodLink "TollClock$Weeks" (76 : Nat) ({ cls := "TollClock$Deadlines", name := "partCountsCourt", desc := "(II)Z" } : Jvm.MethodName)) ∈ BIG := gdW2 178 (by decide +kernel) rfl
theorem bw_419 : (Jvm.Cond.instanceMethod ({ cls := "TollClock$Deadlines", name := "partCountsCourt", desc := "(II)Z" } : Jvm.MethodName)) ∈ BIG := gdW2 179 (by decide +kernel) rfl
theorem bw_420 : (Jvm.Cond.selects "TollClock$Deadlines" ({ cls := "TollClock$Deadlines", name := "partCountsCourt", desc := "(II)Z" } : Jvm.MethodName) ({ cls := "TollClock$Deadlines", name := "partCountsCourt", desc := "(II)Z" } : Jvm.MethodName)) ∈ BIG := gdW2 180 (by decide +kernel) rfl
theorem bw_421 : (Jvm.Cond.code ({ cls := "TollClock$Deadlines", name := "partCountsCourt", desc := "(II)Z" } : Jvm.MethodName) prog_4_method_10_code (3 : Nat) (Option.some Jvm.ClassFile.FieldType.boolean)) ∈ BIG := gdW2 181 (by decide +kernel) rfl
theorem bw_422 : (Jvm.Cond.methodLink "TollClock$Weeks" (80 : Nat) ({ cls := "TollClock$Deadlines", name := "lengthOfPart", desc := "(II)I" } : Jvm.MethodName)) ∈ BIG := gdW2 182 (by decide +kernel) rfl
theorem bw_423 : (Jvm.Cond.instanceMethod ({ cls := "TollClock$Deadlines", name := "lengthOfPart", desc := "(II)I" } : Jvm.MethodName)) ∈ BIG := gdW2 183 (by decide +kernel) rfl
theorem bw_424 : (Jvm.Cond.selects "TollClock$Deadlines" ({ cls := "TollClock$Deadlines", name := "lengthOfPart", desc := "(II)I" } : Jvm.MethodName) ({ cls := "TollClock$Deadlines", name := "lengthOfPart", desc := "(II)I" } : Jvm.MethodName)) ∈ BIG := gdW2 184 (by decide +kernel) rfl
theorem bw_425 : (Jvm.Cond.code ({ cls := "TollClock$Deadlines", name := "lengthOfPart", desc := "(II)I" } : Jvm.MethodName) prog_4_method_9_code (3 : Nat) (Option.some Jvm.ClassFile.FieldType.int)) ∈ BIG := gdW2 185 (by decide +kernel) rfl
theorem bw_426 : (Jvm.Cond.methodLink "TollClock$Weeks" (83 : Nat) ({ cls := "TollClock$Weeks", name := "dayOfCount", desc := "(IIZ)I" } : Jvm.MethodName)) ∈ BIG := gdW2 186 (by decide +kernel) rfl
theorem bw_428 : (Jvm.Cond.instanceMethod ({ cls := "TollClock$Weeks", name := "dayOfCount", desc := "(IIZ)I" } : Jvm.MethodName)) ∈ BIG := gdW2 188 (by decide +kernel) rfl
theorem bw_429 : (Jvm.Cond.code ({ cls := "TollClock$Weeks", name := "dayOfCount", desc := "(IIZ)I" } : Jvm.MethodName) prog_12_method_7_code (8 : Nat) (Option.some Jvm.ClassFile.FieldType.int)) ∈ BIG := gdW2 189 (by decide +kernel) rfl
theorem bw_430 : (Jvm.Cond.methodLink "TollClock$Weeks" (94 : Nat) ({ cls := "TollClock$Weeks", name := "lastDayOfGap", desc := "(I)I" } : Jvm.MethodName)) ∈ BIG := gdW2 190 (by decide +kernel) rfl
theorem bw_432 : (Jvm.Cond.instanceMethod ({ cls := "TollClock$Weeks", name := "lastDayOfGap", desc := "(I)I" } : Jvm.MethodName)) ∈ BIG := gdW2 192 (by decide +kernel) rfl
theorem bw_433 : (Jvm.Cond.code ({ cls := "TollClock$Weeks", name := "lastDayOfGap", desc := "(I)I" } : Jvm.MethodName) prog_12_method_9_code (2 : Nat) (Option.some Jvm.ClassFile.FieldType.int)) ∈ BIG := gdW2 193 (by decide +kernel) rfl
theorem bw_434 : (Jvm.Cond.methodLink "TollClock$Weeks" (97 : Nat) ({ cls := "TollClock$Weeks", name := "countDays", desc := "(IIZ)I" } : Jvm.MethodName)) ∈ BIG := gdW2 194 (by decide +kernel) rfl
theorem bw_436 : (Jvm.Cond.instanceMethod ({ cls := "TollClock$Weeks", name := "countDays", desc := "(IIZ)I" } : Jvm.MethodName)) ∈ BIG := gdW2 196 (by decide +kernel) rfl
theorem bw_437 : (Jvm.Cond.code ({ cls := "TollClock$Weeks", name := "countDays", desc := "(IIZ)I" } : Jvm.MethodName) prog_12_method_11_code (4 : Nat) (Option.some Jvm.ClassFile.FieldType.int)) ∈ BIG := gdW2 197 (by decide +kernel) rfl
theorem bw_438 : (Jvm.Cond.methodLink "TollClock$Weeks" (106 : Nat) ({ cls := "TollClock$Calendar", name := "countCourt", desc := "(II)I" } : Jvm.MethodName)) ∈ BIG := gdW2 198 (by decide +kernel) rfl
theorem bw_439 : (Jvm.Cond.instanceMethod ({ cls := "TollClock$Calendar", name := "countCourt", desc := "(II)I" } : Jvm.MethodName)) ∈ BIG := gdW2 199 (by decide +kernel) rfl
theorem bw_440 : (Jvm.Cond.selects "TollClock$Calendar" ({ cls := "TollClock$Calendar", name := "countCourt", desc := "(II)I" } : Jvm.MethodName) ({ cls := "TollClock$Calendar", name := "countCourt", desc := "(II)I" } : Jvm.MethodName)) ∈ BIG := gdW2 200 (by decide +kernel) rfl
theorem bw_441 : (Jvm.Cond.code ({ cls := "TollClock$Calendar", name := "countCourt", desc := "(II)I" } : Jvm.MethodName) prog_2_method_8_code (7 : Nat) (Option.some Jvm.ClassFile.FieldType.int)) ∈ BIG := gdW2 201 (by decide +kernel) rfl
theorem bw_442 : (Jvm.Cond.methodLink "TollClock$Weeks" (100 : Nat) ({ cls := "TollClock$Weeks", name := "courtDayOfCount", desc := "(II)I" } : Jvm.MethodName)) ∈ BIG := gdW2 202 (by decide +kernel) rfl
theorem bw_444 : (Jvm.Cond.instanceMethod ({ cls := "TollClock$Weeks", name := "courtDayOfCount", desc := "(II)I" } : Jvm.MethodName)) ∈ BIG := gdW2 204 (by decide +kernel) rfl
theorem bw_445 : (Jvm.Cond.code ({ cls := "TollClock$Weeks", name := "courtDayOfCount", desc := "(II)I" } : Jvm.MethodName) prog_12_method_12_code (6 : Nat) (Option.some Jvm.ClassFile.FieldType.int)) ∈ BIG := gdW2 205 (by decide +kernel) rfl
theorem bw_446 : (Jvm.Cond.methodLink "TollClock$Weeks" (67 : Nat) ({ cls := "java/lang/Math", name := "min", desc := "(II)I" } : Jvm.MethodName)) ∈ BIG := gdW2 206 (by decide +kernel) rfl
theorem bw_447 : (Jvm.Cond.static ({ cls := "java/lang/Math", name := "min", desc := "(II)I" } : Jvm.MethodName)) ∈ BIG := gdW2 207 (by decide +kernel) rfl
theorem bw_448 : (Jvm.Cond.code ({ cls := "java/lang/Math", name := "min", desc := "(II)I" } : Jvm.MethodName) prog_23_method_69_code (2 : Nat) (Option.some Jvm.ClassFile.FieldType.int)) ∈ BIG := gdW2 208 (by decide +kernel) rfl
theorem bw_449 : (Jvm.Cond.methodLink "TollClock$Weeks" (111 : Nat) ({ cls := "TollClock$Calendar", name := "isCourt", desc := "(I)Z" } : Jvm.MethodName)) ∈ BIG := gdW2 209 (by decide +kernel) rfl
theorem bw_450 : (Jvm.Cond.instanceMethod ({ cls := "TollClock$Calendar", name := "isCourt", desc := "(I)Z" } : Jvm.MethodName)) ∈ BIG := gdW2 210 (by decide +kernel) rfl
theorem bw_451 : (Jvm.Cond.selects "TollClock$Calendar" ({ cls := "TollClock$Calendar", name := "isCourt", desc := "(I)Z" } : Jvm.MethodName) ({ cls := "TollClock$Calendar", name := "isCourt", desc := "(I)Z" } : Jvm.MethodName)) ∈ BIG := gdW2 211 (by decide +kernel) rfl
theorem bw_452 : (Jvm.Cond.code ({ cls := "TollClock$Calendar", name := "isCourt", desc := "(I)Z" } : Jvm.MethodName) prog_2_method_4_code (2 : Nat) (Option.some Jvm.ClassFile.FieldType.boolean)) ∈ BIG := gdW2 212 (by decide +kernel) rfl
theorem bw_453 : (Jvm.Cond.methodLink "TollClock$Calendar" (28 : Nat) ({ cls := "TollClock$Calendar", name := "placeOf", desc := "(I)I" } : Jvm.MethodName)) ∈ BIG := gdW2 213 (by decide +kernel) rfl
theorem bw_455 : (Jvm.Cond.instanceMethod ({ cls := "TollClock$Calendar", name := "placeOf", desc := "(I)I" } : Jvm.MethodName)) ∈ BIG := gdW2 215 (by decide +kernel) rfl
theorem bw_456 : (Jvm.Cond.code ({ cls := "TollClock$Calendar", name := "placeOf", desc := "(I)I" } : Jvm.MethodName) prog_2_method_7_code (3 : Nat) (Option.some Jvm.ClassFile.FieldType.int)) ∈ BIG := gdW2 216 (by decide +kernel) rfl
theorem bw_457 : (Jvm.Cond.methodLink "TollClock$Weeks" (103 : Nat) ({ cls := "TollClock$Weeks", name := "dayBehindRange", desc := "(II)I" } : Jvm.MethodName)) ∈ BIG := gdW2 217 (by decide +kernel) rfl
theorem bw_459 : (Jvm.Cond.instanceMethod ({ cls := "TollClock$Weeks", name := "dayBehindRange", desc := "(II)I" } : Jvm.MethodName)) ∈ BIG := gdW2 219 (by decide +kernel) rfl
theorem bw_460 : (Jvm.Cond.code ({ cls := "TollClock$Weeks", name := "dayBehindRange", desc := "(II)I" } : Jvm.MethodName) prog_12_method_10_code (3 : Nat) (Option.some Jvm.ClassFile.FieldType.int)) ∈ BIG := gdW2 220 (by decide +kernel) rfl
theorem bw_461 : (Jvm.Cond.methodLink "TollClock$Weeks" (87 : Nat) ({ cls := "TollClock$Weeks", name := "moveEnd", desc := "(I)I" } : Jvm.MethodName)) ∈ BIG := gdW2 221 (by decide +kernel) rfl
theorem bw_463 : (Jvm.Cond.instanceMethod ({ cls := "TollClock$Weeks", name := "moveEnd", desc := "(I)I" } : Jvm.MethodName)) ∈ BIG := gdW2 223 (by decide +kernel) rfl
theorem bw_464 : (Jvm.Cond.code ({ cls := "TollClock$Weeks", name := "moveEnd", desc := "(I)I" } : Jvm.MethodName) prog_12_method_13_code (4 : Nat) (Option.some Jvm.ClassFile.FieldType.int)) ∈ BIG := gdW2 224 (by decide +kernel) rfl
theorem bw_465 : (Jvm.Cond.methodLink "TollClock$Weeks" (115 : Nat) ({ cls := "TollClock$Weeks", name := "skipRange", desc := "(I)I" } : Jvm.MethodName)) ∈ BIG := gdW2 225 (by decide +kernel) rfl
theorem bw_467 : (Jvm.Cond.instanceMethod ({ cls := "TollClock$Weeks", name := "skipRange", desc := "(I)I" } : Jvm.MethodName)) ∈ BIG := gdW2 227 (by decide +kernel) rfl
theorem bw_468 : (Jvm.Cond.code ({ cls := "TollClock$Weeks", name := "skipRange", desc := "(I)I" } : Jvm.MethodName) prog_12_method_14_code (3 : Nat) (Option.some Jvm.ClassFile.FieldType.int)) ∈ BIG := gdW2 228 (by decide +kernel) rfl
theorem bw_469 : (Jvm.Cond.methodLink "TollClock" (269 : Nat) ({ cls := "TollClock$Marks", name := "endOf", desc := "(LTollClock$Deadlines;I)I" } : Jvm.MethodName)) ∈ BIG := gdW2 229 (by decide +kernel) rfl
theorem bw_470 : (Jvm.Cond.instanceMethod ({ cls := "TollClock$Marks", name := "endOf", desc := "(LTollClock$Deadlines;I)I" } : Jvm.MethodName)) ∈ BIG := gdW2 230 (by decide +kernel) rfl
theorem bw_471 : (Jvm.Cond.selects "TollClock$Marks" ({ cls := "TollClock$Marks", name := "endOf", desc := "(LTollClock$Deadlines;I)I" } : Jvm.MethodName) ({ cls := "TollClock$Marks", name := "endOf", desc := "(LTollClock$Deadlines;I)I" } : Jvm.MethodName)) ∈ BIG := gdW2 231 (by decide +kernel) rfl
theorem bw_472 : (Jvm.Cond.code ({ cls := "TollClock$Marks", name := "endOf", desc := "(LTollClock$Deadlines;I)I" } : Jvm.MethodName) prog_6_method_10_code (3 : Nat) (Option.some Jvm.ClassFile.FieldType.int)) ∈ BIG := gdW2 232 (by decide +kernel) rfl
theorem bw_473 : (Jvm.Cond.methodLink "TollClock$Marks" (86 : Nat) ({ cls := "TollClock$Marks", name := "walk", desc := "(LTollClock$Deadlines;II)V" } : Jvm.MethodName)) ∈ BIG := gdW2 233 (by decide +kernel) rfl
theorem bw_475 : (Jvm.Cond.instanceMethod ({ cls := "TollClock$Marks", name := "walk", desc := "(LTollClock$Deadlines;II)V" } : Jvm.MethodName)) ∈ BIG := gdW2 235 (by decide +kernel) rfl
theorem bw_476 : (Jvm.Cond.code ({ cls := "TollClock$Marks", name := "walk", desc := "(LTollClock$Deadlines;II)V" } : Jvm.MethodName) prog_6_method_12_code (10 : Nat) (Option.none : Option Jvm.ClassFile.FieldType)) ∈ BIG := gdW2 236 (by decide +kernel) rfl
theorem bw_477 : (Jvm.Cond.methodLink "TollClock$Marks" (76 : Nat) ({ cls := "TollClock$Marks", name := "markHolidays", desc := "()V" } : Jvm.MethodName)) ∈ BIG := gdW2 237 (by decide +kernel) rfl
theorem bw_479 : (Jvm.Cond.instanceMethod ({ cls := "TollClock$Marks", name := "markHolidays", desc := "()V" } : Jvm.MethodName)) ∈ BIG := gdW2 239 (by decide +kernel) rfl
theorem bw_480 : (Jvm.Cond.code ({ cls := "TollClock$Marks", name := "markHolidays", desc := "()V" } : Jvm.MethodName) prog_6_method_2_code (2 : Nat) (Option.none : Option Jvm.ClassFile.FieldType)) ∈ BIG := gdW3 0 (by decide +kernel) rfl
theorem bw_481 : (Jvm.Cond.methodLink "TollClock$Marks" (26 : Nat) ({ cls := "TollClock$Marks", name := "clear", desc := "([J)V" } : Jvm.MethodName)) ∈ BIG := gdW3 1 (by decide +kernel) rfl
theorem bw_482 : (Jvm.Cond.static ({ cls := "TollClock$Marks", name := "clear", desc := "([J)V" } : Jvm.MethodName)) ∈ BIG := gdW3 2 (by decide +kernel) rfl
theorem bw_483 : (Jvm.Cond.code ({ cls := "TollClock$Marks", name := "clear", desc := "([J)V" } : Jvm.MethodName) prog_6_method_4_code (2 : Nat) (Option.none : Option Jvm.ClassFile.FieldType)) ∈ BIG := gdW3 3 (by decide +kernel) rfl
theorem bw_484 : (Jvm.Cond.methodLink "TollClock$Marks" (39 : Nat) ({ cls := "TollClock$Marks", name := "mark", desc := "([JII)V" } : Jvm.MethodName)) ∈ BIG := gdW3 4 (by decide +kernel) rfl
theorem bw_485 : (Jvm.Cond.static ({ cls := "TollClock$Marks", name := "mark", desc := "([JII)V" } : Jvm.MethodName)) ∈ BIG := gdW3 5 (by decide +kernel) rfl
theorem bw_486 : (Jvm.Cond.code ({ cls := "TollClock$Marks", name := "mark", desc := "([JII)V" } : Jvm.MethodName) prog_6_method_5_code (5 : Nat) (Option.none : Option Jvm.ClassFile.FieldType)) ∈ BIG := gdW3 6 (by decide +kernel) rfl
theorem bw_487 : (Jvm.Cond.constantLong "TollClock$Marks" (66 : Nat) (-1 : Int64)) ∈ BIG := gdW3 7 (by decide +kernel) rfl
theorem bw_488 : (Jvm.Cond.methodLink "TollClock$Marks" (82 : Nat) ({ cls := "TollClock$Marks", name := "markStays", desc := "(LTollClock$Deadlines;I)V" } : Jvm.MethodName)) ∈ BIG := gdW3 8 (by decide +kernel) rfl
theorem bw_490 : (Jvm.Cond.instanceMethod ({ cls := "TollClock$Marks", name := "markStays", desc := "(LTollClock$Deadlines;I)V" } : Jvm.MethodName)) ∈ BIG := gdW3 10 (by decide +kernel) rfl
theorem bw_491 : (Jvm.Cond.code ({ cls := "TollClock$Marks", name := "markStays", desc := "(LTollClock$Deadlines;I)V" } : Jvm.MethodName) prog_6_method_3_code (4 : Nat) (Option.none : Option Jvm.ClassFile.FieldType)) ∈ BIG := gdW3 11 (by decide +kernel) rfl
theorem bw_492 : (Jvm.Cond.methodLink "TollClock$Marks" (56 : Nat) ({ cls := "TollClock$Stays", name := "concerns", desc := "(III)Z" } : Jvm.MethodName)) ∈ BIG := gdW3 12 (by decide +kernel) rfl
theorem bw_493 : (Jvm.Cond.methodLink "TollClock$Marks" (72 : Nat) ({ cls := "TollClock$Marks", name := "isMarked", desc := "([JI)Z" } : Jvm.MethodName)) ∈ BIG := gdW3 13 (by decide +kernel) rfl
theorem bw_494 : (Jvm.Cond.static ({ cls := "TollClock$Marks", name := "isMarked", desc := "([JI)Z" } : Jvm.MethodName)) ∈ BIG := gdW3 14 (by decide +kernel) rfl
theorem bw_495 : (Jvm.Cond.code ({ cls := "TollClock$Marks", name := "isMarked", desc := "([JI)Z" } : Jvm.MethodName) prog_6_method_6_code (2 : Nat) (Option.some Jvm.ClassFile.FieldType.boolean)) ∈ BIG := gdW3 15 (by decide +kernel) rfl
theorem bw_497 : (Jvm.Cond.static ({ cls := "TollClock", name := "isDay", desc := "(I)Z" } : Jvm.MethodName)) ∈ BIG := gdW3 17 (by decide +kernel) rfl
theorem bw_498 : (Jvm.Cond.code ({ cls := "TollClock", name := "isDay", desc := "(I)Z" } : Jvm.MethodName) prog_1_method_22_code (1 : Nat) (Option.some Jvm.ClassFile.FieldType.boolean)) ∈ BIG := gdW3 18 (by decide +kernel) rfl
theorem bw_499 : (Jvm.Cond.methodLink "TollClock$Marks" (79 : Nat) ({ cls := "TollClock$Marks", name := "isCourt", desc := "(I)Z" } : Jvm.MethodName)) ∈ BIG := gdW3 19 (by decide +kernel) rfl
theorem bw_501 : (Jvm.Cond.instanceMethod ({ cls := "TollClock$Marks", name := "isCourt", desc := "(I)Z" } : Jvm.MethodName)) ∈ BIG := gdW3 21 (by decide +kernel) rfl
theorem bw_502 : (Jvm.Cond.code ({ cls := "TollClock$Marks", name := "isCourt", desc := "(I)Z" } : Jvm.MethodName) prog_6_method_7_code (2 : Nat) (Option.some Jvm.ClassFile.FieldType.boolean)) ∈ BIG := gdW3 22 (by decide +kernel) rfl
theorem bw_503 : (Jvm.Cond.methodLink "TollClock$Marks" (102 : Nat) ({ cls := "TollClock$Deadlines", name := "lengthOfPart", desc := "(II)I" } : Jvm.MethodName)) ∈ BIG := gdW3 23 (by decide +kernel) rfl
theorem bw_504 : (Jvm.Cond.methodLink "TollClock$Marks" (106 : Nat) ({ cls := "TollClock$Deadlines", name := "partCountsCourt", desc := "(II)Z" } : Jvm.MethodName)) ∈ BIG := gdW3 24 (by decide +kernel) rfl
theorem bw_505 : (Jvm.Cond.methodLink "TollClock" (273 : Nat) ({ cls := "TollClock$Weeks", name := "countedUntil", desc := "(LTollClock$Deadlines;II)I" } : Jvm.MethodName)) ∈ BIG := gdW3 25 (by decide +kernel) rfl
theorem bw_506 : (Jvm.Cond.instanceMethod ({ cls := "TollClock$Weeks", name := "countedUntil", desc := "(LTollClock$Deadlines;II)I" } : Jvm.MethodName)) ∈ BIG := gdW3 26 (by decide +kernel) rfl
theorem bw_507 : (Jvm.Cond.selects "TollClock$Weeks" ({ cls := "TollClock$Weeks", name := "countedUntil", desc := "(LTollClock$Deadlines;II)I" } : Jvm.MethodName) ({ cls := "TollClock$Weeks", name := "countedUntil", desc := "(LTollClock$Deadlines;II)I" } : Jvm.MethodName)) ∈ BIG := gdW3 27 (by decide +kernel) rfl
theorem bw_508 : (Jvm.Cond.code ({ cls := "TollClock$Weeks", name := "countedUntil", desc := "(LTollClock$Deadlines;II)I" } : Jvm.MethodName) prog_12_method_6_code (10 : Nat) (Option.some Jvm.ClassFile.FieldType.int)) ∈ BIG := gdW3 28 (by decide +kernel) rfl
theorem bw_509 : (Jvm.Cond.methodLink "TollClock$Weeks" (91 : Nat) ({ cls := "TollClock$Weeks", name := "countFree", desc := "(IIZ)I" } : Jvm.MethodName)) ∈ BIG := gdW3 29 (by decide +kernel) rfl
theorem bw_511 : (Jvm.Cond.instanceMethod ({ cls := "TollClock$Weeks", name := "countFree", desc := "(IIZ)I" } : Jvm.MethodName)) ∈ BIG := gdW3 31 (by decide +kernel) rfl
theorem bw_512 : (Jvm.Cond.code ({ cls := "TollClock$Weeks", name := "countFree", desc := "(IIZ)I" } : Jvm.MethodName) prog_12_method_8_code (7 : Nat) (Option.some Jvm.ClassFile.FieldType.int)) ∈ BIG := gdW3 32 (by decide +kernel) rfl
theorem bw_513 : (Jvm.Cond.methodLink "TollClock" (277 : Nat) ({ cls := "TollClock$Marks", name := "countedUntil", desc := "(LTollClock$Deadlines;II)I" } : Jvm.MethodName)) ∈ BIG := gdW3 33 (by decide +kernel) rfl
theorem bw_514 : (Jvm.Cond.instanceMethod ({ cls := "TollClock$Marks", name := "countedUntil", desc := "(LTollClock$Deadlines;II)I" } : Jvm.MethodName)) ∈ BIG := gdW3 34 (by decide +kernel) rfl
theorem bw_515 : (Jvm.Cond.selects "TollClock$Marks" ({ cls := "TollClock$Marks", name := "countedUntil", desc := "(LTollClock$Deadlines;II)I" } : Jvm.MethodName) ({ cls := "TollClock$Marks", name := "countedUntil", desc := "(LTollClock$Deadlines;II)I" } : Jvm.MethodName)) ∈ BIG := gdW3 35 (by decide +kernel) rfl
theorem bw_516 : (Jvm.Cond.code ({ cls := "TollClock$Marks", name := "countedUntil", desc := "(LTollClock$Deadlines;II)I" } : Jvm.MethodName) prog_6_method_11_code (4 : Nat) (Option.some Jvm.ClassFile.FieldType.int)) ∈ BIG := gdW3 36 (by decide +kernel) rfl
theorem bw_517 : (Jvm.Cond.methodLink "TollClock" (356 : Nat) ({ cls := "TollClock$Weeks", name := "countStopped", desc := "(LTollClock$Deadlines;III)I" } : Jvm.MethodName)) ∈ BIG := gdW3 37 (by decide +kernel) rfl
theorem bw_518 : (Jvm.Cond.instanceMethod ({ cls := "TollClock$Weeks", name := "countStopped", desc := "(LTollClock$Deadlines;III)I" } : Jvm.MethodName)) ∈ BIG := gdW3 38 (by decide +kernel) rfl
theorem bw_519 : (Jvm.Cond.selects "TollClock$Weeks" ({ cls := "TollClock$Weeks", name := "countStopped", desc := "(LTollClock$Deadlines;III)I" } : Jvm.MethodName) ({ cls := "TollClock$Weeks", name := "countStopped", desc := "(LTollClock$Deadlines;III)I" } : Jvm.MethodName)) ∈ BIG := gdW3 39 (by decide +kernel) rfl
theorem bw_520 : (Jvm.Cond.code ({ cls := "TollClock$Weeks", name := "countStopped", desc := "(LTollClock$Deadlines;III)I" } : Jvm.MethodName) prog_12_method_4_code (9 : Nat) (Option.some Jvm.ClassFile.FieldType.int)) ∈ BIG := gdW3 40 (by decide +kernel) rfl
theorem bw_521 : (Jvm.Cond.methodLink "TollClock" (360 : Nat) ({ cls := "TollClock$Marks", name := "countStopped", desc := "(LTollClock$Deadlines;III)I" } : Jvm.MethodName)) ∈ BIG := gdW3 41 (by decide +kernel) rfl
theorem bw_522 : (Jvm.Cond.instanceMethod ({ cls := "TollClock$Marks", name := "countStopped", desc := "(LTollClock$Deadlines;III)I" } : Jvm.MethodName)) ∈ BIG := gdW3 42 (by decide +kernel) rfl
theorem bw_523 : (Jvm.Cond.selects "TollClock$Marks" ({ cls := "TollClock$Marks", name := "countStopped", desc := "(LTollClock$Deadlines;III)I" } : Jvm.MethodName) ({ cls := "TollClock$Marks", name := "countStopped", desc := "(LTollClock$Deadlines;III)I" } : Jvm.MethodName)) ∈ BIG := gdW3 43 (by decide +kernel) rfl
theorem bw_524 : (Jvm.Cond.code ({ cls := "TollClock$Marks", name := "countStopped", desc := "(LTollClock$Deadlines;III)I" } : Jvm.MethodName) prog_6_method_9_code (7 : Nat) (Option.some Jvm.ClassFile.FieldType.int)) ∈ BIG := gdW3 44 (by decide +kernel) rfl
theorem bw_525 : (Jvm.Cond.methodLink "TollClock" (456 : Nat) ({ cls := "TollClock", name := "conductAgrees", desc := "()Z" } : Jvm.MethodName)) ∈ BIG := gdW3 45 (by decide +kernel) rfl
theorem bw_527 : (Jvm.Cond.instanceMethod ({ cls := "TollClock", name := "conductAgrees", desc := "()Z" } : Jvm.MethodName)) ∈ BIG := gdW3 47 (by decide +kernel) rfl
theorem bw_528 : (Jvm.Cond.code ({ cls := "TollClock", name := "conductAgrees", desc := "()Z" } : Jvm.MethodName) prog_1_method_94_code (3 : Nat) (Option.some Jvm.ClassFile.FieldType.boolean)) ∈ BIG := gdW3 48 (by decide +kernel) rfl
theorem bw_529 : (Jvm.Cond.methodLink "TollClock" (388 : Nat) ({ cls := "TollClock$Claims", name := "inSameGroup", desc := "(II)Z" } : Jvm.MethodName)) ∈ BIG := gdW3 49 (by decide +kernel) rfl
theorem bw_530 : (Jvm.Cond.instanceMethod ({ cls := "TollClock$Claims", name := "inSameGroup", desc := "(II)Z" } : Jvm.MethodName)) ∈ BIG := gdW3 50 (by decide +kernel) rfl
theorem bw_531 : (Jvm.Cond.selects "TollClock$Claims" ({ cls := "TollClock$Claims", name := "inSameGroup", desc := "(II)Z" } : Jvm.MethodName) ({ cls := "TollClock$Claims", name := "inSameGroup", desc := "(II)Z" } : Jvm.MethodName)) ∈ BIG := gdW3 51 (by decide +kernel) rfl
theorem bw_532 : (Jvm.Cond.code ({ cls := "TollClock$Claims", name := "inSameGroup", desc := "(II)Z" } : Jvm.MethodName) prog_3_method_8_code (3 : Nat) (Option.some Jvm.ClassFile.FieldType.boolean)) ∈ BIG := gdW3 52 (by decide +kernel) rfl
theorem bw_533 : (Jvm.Cond.methodLink "TollClock" (394 : Nat) ({ cls := "TollClock$Claims", name := "isReached", desc := "(II)Z" } : Jvm.MethodName)) ∈ BIG := gdW3 53 (by decide +kernel) rfl
theorem bw_534 : (Jvm.Cond.instanceMethod ({ cls := "TollClock$Claims", name := "isReached", desc := "(II)Z" } : Jvm.MethodName)) ∈ BIG := gdW3 54 (by decide +kernel) rfl
theorem bw_535 : (Jvm.Cond.selects "TollClock$Claims" ({ cls := "TollClock$Claims", name := "isReached", desc := "(II)Z" } : Jvm.MethodName) ({ cls := "TollClock$Claims", name := "isReached", desc := "(II)Z" } : Jvm.MethodName)) ∈ BIG := gdW3 55 (by decide +kernel) rfl
theorem bw_536 : (Jvm.Cond.code ({ cls := "TollClock$Claims", name := "isReached", desc := "(II)Z" } : Jvm.MethodName) prog_3_method_9_code (3 : Nat) (Option.some Jvm.ClassFile.FieldType.boolean)) ∈ BIG := gdW3 56 (by decide +kernel) rfl
theorem bw_537 : (Jvm.Cond.methodLink "TollClock$Claims" (65 : Nat) ({ cls := "TollClock$Claims", name := "visit", desc := "([IIII)I" } : Jvm.MethodName)) ∈ BIG := gdW3 57 (by decide +kernel) rfl
theorem bw_538 : (Jvm.Cond.static ({ cls := "TollClock$Claims", name := "visit", desc := "([IIII)I" } : Jvm.MethodName)) ∈ BIG := gdW3 58 (by decide +kernel) rfl
theorem bw_539 : (Jvm.Cond.code ({ cls := "TollClock$Claims", name := "visit", desc := "([IIII)I" } : Jvm.MethodName) prog_3_method_10_code (6 : Nat) (Option.some Jvm.ClassFile.FieldType.int)) ∈ BIG := gdW3 59 (by decide +kernel) rfl
theorem bw_540 : (Jvm.Cond.methodLink "TollClock" (460 : Nat) ({ cls := "TollClock", name := "courtDaysAgree", desc := "()Z" } : Jvm.MethodName)) ∈ BIG := gdW3 60 (by decide +kernel) rfl
theorem bw_542 : (Jvm.Cond.instanceMethod ({ cls := "TollClock", name := "courtDaysAgree", desc := "()Z" } : Jvm.MethodName)) ∈ BIG := gdW3 62 (by decide +kernel) rfl
theorem bw_543 : (Jvm.Cond.code ({ cls := "TollClock", name := "courtDaysAgree", desc := "()Z" } : Jvm.MethodName) prog_1_method_95_code (2 : Nat) (Option.some Jvm.ClassFile.FieldType.boolean)) ∈ BIG := gdW3 63 (by decide +kernel) rfl
theorem bw_544 : (Jvm.Cond.methodLink "TollClock" (176 : Nat) ({ cls := "TollClock$Calendar", name := "countCourt", desc := "(II)I" } : Jvm.MethodName)) ∈ BIG := gdW3 64 (by decide +kernel) rfl
theorem bw_545 : (Jvm.Cond.methodLink "TollClock" (180 : Nat) ({ cls := "TollClock$Marks", name := "countCourt", desc := "(II)I" } : Jvm.MethodName)) ∈ BIG := gdW3 65 (by decide +kernel) rfl
theorem bw_546 : (Jvm.Cond.instanceMethod ({ cls := "TollClock$Marks", name := "countCourt", desc := "(II)I" } : Jvm.MethodName)) ∈ BIG := gdW3 66 (by decide +kernel) rfl
theorem bw_547 : (Jvm.Cond.selects "TollClock$Marks" ({ cls := "TollClock$Marks", name := "countCourt", desc := "(II)I" } : Jvm.MethodName) ({ cls := "TollClock$Marks", name := "countCourt", desc := "(II)I" } : Jvm.MethodName)) ∈ BIG := gdW3 67 (by decide +kernel) rfl
theorem bw_548 : (Jvm.Cond.code ({ cls := "TollClock$Marks", name := "countCourt", desc := "(II)I" } : Jvm.MethodName) prog_6_method_8_code (5 : Nat) (Option.some Jvm.ClassFile.FieldType.int)) ∈ BIG := gdW3 68 (by decide +kernel) rfl
theorem bw_549 : (Jvm.Cond.methodLink "TollClockLaw" (223 : Nat) ({ cls := "TollClockLaw", name := "pick", desc := "([III)I" } : Jvm.MethodName)) ∈ BIG := gdW3 69 (by decide +kernel) rfl
theorem bw_550 : (Jvm.Cond.static ({ cls := "TollClockLaw", name := "pick", desc := "([III)I" } : Jvm.MethodName)) ∈ BIG := gdW3 70 (by decide +kernel) rfl
theorem bw_551 : (Jvm.Cond.code ({ cls := "TollClockLaw", name := "pick", desc := "([III)I" } : Jvm.MethodName) method_3_code (3 : Nat) (Option.some Jvm.ClassFile.FieldType.int)) ∈ BIG := gdW3 71 (by decide +kernel) rfl
theorem bw_552 : (Jvm.Cond.methodLink "TollClockLaw" (9 : Nat) ({ cls := "TollClockLaw", name := "cell", desc := "([II)I" } : Jvm.MethodName)) ∈ BIG := gdW3 72 (by decide +kernel) rfl
theorem bw_553 : (Jvm.Cond.static ({ cls := "TollClockLaw", name := "cell", desc := "([II)I" } : Jvm.MethodName)) ∈ BIG := gdW3 73 (by decide +kernel) rfl
theorem bw_554 : (Jvm.Cond.code ({ cls := "TollClockLaw", name := "cell", desc := "([II)I" } : Jvm.MethodName) method_2_code (3 : Nat) (Option.some Jvm.ClassFile.FieldType.int)) ∈ BIG := gdW3 74 (by decide +kernel) rfl
theorem bw_555 : (Jvm.Cond.constant "TollClockLaw" (7 : Nat) (69069 : Int32)) ∈ BIG := gdW3 75 (by decide +kernel) rfl
theorem bw_556 : (Jvm.Cond.constant "TollClockLaw" (8 : Nat) (1103515245 : Int32)) ∈ BIG := gdW3 76 (by decide +kernel) rfl
theorem bw_557 : (Jvm.Cond.methodLink "TollClockLaw" (250 : Nat) ({ cls := "TollClockLaw", name := "lay", desc := "(LTollClock;[I)V" } : Jvm.MethodName)) ∈ BIG := gdW3 77 (by decide +kernel) rfl
theorem bw_558 : (Jvm.Cond.static ({ cls := "TollClockLaw", name := "lay", desc := "(LTollClock;[I)V" } : Jvm.MethodName)) ∈ BIG := gdW3 78 (by decide +kernel) rfl
theorem bw_559 : (Jvm.Cond.code ({ cls := "TollClockLaw", name := "lay", desc := "(LTollClock;[I)V" } : Jvm.MethodName) method_11_code (4 : Nat) (Option.none : Option Jvm.ClassFile.FieldType)) ∈ BIG := gdW3 79 (by decide +kernel) rfl
theorem bw_563 : (Jvm.Cond.classLink "TollClockLaw" (99 : Nat) "java/lang/IndexOutOfBoundsException") ∈ BIG := gdW3 83 (by decide +kernel) rfl
theorem bw_637 : (Jvm.Cond.arrayClass Jvm.ClassFile.FieldType.byte) ∈ BIG := gdW3 157 (by decide +kernel) rfl
theorem bw_642 : (Jvm.Cond.classLink "TollClockLaw" (101 : Nat) "java/lang/IllegalArgumentException") ∈ BIG := gdW3 162 (by decide +kernel) rfl
theorem bw_643 : (Jvm.Cond.classLink "TollClockLaw" (103 : Nat) "java/lang/IllegalStateException") ∈ BIG := gdW3 163 (by decide +kernel) rfl
theorem bw_644 : (Jvm.Cond.classLink "TollClockLaw" (105 : Nat) "java/lang/UnsupportedOperationException") ∈ BIG := gdW3 164 (by decide +kernel) rfl
theorem bw_645 : (Jvm.Cond.classLink "TollClockLaw" (107 : Nat) "java/util/NoSuchElementException") ∈ BIG := gdW3 165 (by decide +kernel) rfl
theorem bw_646 : (Jvm.Cond.methodLink "TollClockLaw" (95 : Nat) ({ cls := "TollClockLaw", name := "plain", desc := "(LTollClock;IIII)I" } : Jvm.MethodName)) ∈ BIG := gdW3 166 (by decide +kernel) rfl
theorem bw_647 : (Jvm.Cond.static ({ cls := "TollClockLaw", name := "plain", desc := "(LTollClock;IIII)I" } : Jvm.MethodName)) ∈ BIG := gdW3 167 (by decide +kernel) rfl
theorem bw_648 : (Jvm.Cond.code ({ cls := "TollClockLaw", name := "plain", desc := "(LTollClock;IIII)I" } : Jvm.MethodName) method_6_code (5 : Nat) (Option.some Jvm.ClassFile.FieldType.int)) ∈ BIG := gdW3 168 (by decide +kernel) rfl
theorem bw_649 : (Jvm.Cond.methodLink "TollClockLaw" (15 : Nat) ({ cls := "TollClock", name := "advance", desc := "(I)I" } : Jvm.MethodName)) ∈ BIG := gdW3 169 (by decide +kernel) rfl
theorem bw_650 : (Jvm.Cond.instanceMethod ({ cls := "TollClock", name := "advance", desc := "(I)I" } : Jvm.MethodName)) ∈ BIG := gdW3 170 (by decide +kernel) rfl
theorem bw_651 : (Jvm.Cond.selects "TollClock" ({ cls := "TollClock", name := "advance", desc := "(I)I" } : Jvm.MethodName) ({ cls := "TollClock", name := "advance", desc := "(I)I" } : Jvm.MethodName)) ∈ BIG := gdW3 171 (by decide +kernel) rfl
theorem bw_652 : (Jvm.Cond.code ({ cls := "TollClock", name := "advance", desc := "(I)I" } : Jvm.MethodName) prog_1_method_12_code (2 : Nat) (Option.some Jvm.ClassFile.FieldType.int)) ∈ BIG := gdW3 172 (by decide +kernel) rfl
theorem bw_653 : (Jvm.Cond.methodLink "TollClock" (89 : Nat) ({ cls := "TollClock", name := "setAside", desc := "()V" } : Jvm.MethodName)) ∈ BIG := gdW3 173 (by decide +kernel) rfl
theorem bw_655 : (Jvm.Cond.instanceMethod ({ cls := "TollClock", name := "setAside", desc := "()V" } : Jvm.MethodName)) ∈ BIG := gdW3 175 (by decide +kernel) rfl
theorem bw_656 : (Jvm.Cond.code ({ cls := "TollClock", name := "setAside", desc := "()V" } : Jvm.MethodName) prog_1_method_101_code (2 : Nat) (Option.none : Option Jvm.ClassFile.FieldType)) ∈ BIG := gdW3 176 (by decide +kernel) rfl
theorem bw_657 : (Jvm.Cond.methodLink "TollClock" (505 : Nat) ({ cls := "TollClock$Docket", name := "copy", desc := "(LTollClock$Docket;)V" } : Jvm.MethodName)) ∈ BIG := gdW3 177 (by decide +kernel) rfl
theorem bw_658 : (Jvm.Cond.instanceMethod ({ cls := "TollClock$Docket", name := "copy", desc := "(LTollClock$Docket;)V" } : Jvm.MethodName)) ∈ BIG := gdW3 178 (by decide +kernel) rfl
theorem bw_659 : (Jvm.Cond.selects "TollClock$Docket" ({ cls := "TollClock$Docket", name := "copy", desc := "(LTollClock$Docket;)V" } : Jvm.MethodName) ({ cls := "TollClock$Docket", name := "copy", desc := "(LTollClock$Docket;)V" } : Jvm.MethodName)) ∈ BIG := gdW3 179 (by decide +kernel) rfl
theorem bw_660 : (Jvm.Cond.code ({ cls := "TollClock$Docket", name := "copy", desc := "(LTollClock$Docket;)V" } : Jvm.MethodName) prog_5_method_2_code (2 : Nat) (Option.none : Option Jvm.ClassFile.FieldType)) ∈ BIG := gdW3 180 (by decide +kernel) rfl
theorem bw_661 : (Jvm.Cond.methodLink "TollClock$Docket" (51 : Nat) ({ cls := "TollClock$Parties", name := "copy", desc := "(LTollClock$Parties;)V" } : Jvm.MethodName)) ∈ BIG := gdW3 181 (by decide +kernel) rfl
theorem bw_662 : (Jvm.Cond.instanceMethod ({ cls := "TollClock$Parties", name := "copy", desc := "(LTollClock$Parties;)V" } : Jvm.MethodName)) ∈ BIG := gdW3 182 (by decide +kernel) rfl
theorem bw_663 : (Jvm.Cond.selects "TollClock$Parties" ({ cls := "TollClock$Parties", name := "copy", desc := "(LTollClock$Parties;)V" } : Jvm.MethodName) ({ cls := "TollClock$Parties", name := "copy", desc := "(LTollClock$Parties;)V" } : Jvm.MethodName)) ∈ BIG := gdW3 183 (by decide +kernel) rfl
theorem bw_664 : (Jvm.Cond.code ({ cls := "TollClock$Parties", name := "copy", desc := "(LTollClock$Parties;)V" } : Jvm.MethodName) prog_7_method_2_code (2 : Nat) (Option.none : Option Jvm.ClassFile.FieldType)) ∈ BIG := gdW3 184 (by decide +kernel) rfl
theorem bw_665 : (Jvm.Cond.methodLink "TollClock$Parties" (18 : Nat) ({ cls := "java/lang/System", name := "arraycopy", desc := "(Ljava/lang/Object;ILjava/lang/Object;II)V" } : Jvm.MethodName)) ∈ BIG := gdW3 185 (by decide +kernel) rfl
theorem bw_666 : (Jvm.Cond.static ({ cls := "java/lang/System", name := "arraycopy", desc := "(Ljava/lang/Object;ILjava/lang/Object;II)V" } : Jvm.MethodName)) ∈ BIG := gdW3 186 (by decide +kernel) rfl
theorem bw_667 : (Jvm.Cond.native ({ cls := "java/lang/System", name := "arraycopy", desc := "(Ljava/lang/Object;ILjava/lang/Object;II)V" } : Jvm.MethodName)) ∈ BIG := gdW3 187 (by decide +kernel) rfl
theorem bw_668 : (Jvm.Cond.methodLink "TollClock$Docket" (55 : Nat) ({ cls := "TollClock$Calendar", name := "copy", desc := "(LTollClock$Calendar;)V" } : Jvm.MethodName)) ∈ BIG := gdW3 188 (by decide +kernel) rfl
theorem bw_669 : (Jvm.Cond.instanceMethod ({ cls := "TollClock$Calendar", name := "copy", desc := "(LTollClock$Calendar;)V" } : Jvm.MethodName)) ∈ BIG := gdW3 189 (by decide +kernel) rfl
theorem bw_670 : (Jvm.Cond.selects "TollClock$Calendar" ({ cls := "TollClock$Calendar", name := "copy", desc := "(LTollClock$Calendar;)V" } : Jvm.MethodName) ({ cls := "TollClock$Calendar", name := "copy", desc := "(LTollClock$Calendar;)V" } : Jvm.MethodName)) ∈ BIG := gdW3 190 (by decide +kernel) rfl
theorem bw_671 : (Jvm.Cond.code ({ cls := "TollClock$Calendar", name := "copy", desc := "(LTollClock$Calendar;)V" } : Jvm.MethodName) prog_2_method_2_code (2 : Nat) (Option.none : Option Jvm.ClassFile.FieldType)) ∈ BIG := gdW3 191 (by decide +kernel) rfl
theorem bw_672 : (Jvm.Cond.methodLink "TollClock$Calendar" (19 : Nat) ({ cls := "java/lang/System", name := "arraycopy", desc := "(Ljava/lang/Object;ILjava/lang/Object;II)V" } : Jvm.MethodName)) ∈ BIG := gdW3 192 (by decide +kernel) rfl
theorem bw_673 : (Jvm.Cond.methodLink "TollClock$Docket" (58 : Nat) ({ cls := "TollClock$Rules", name := "copy", desc := "(LTollClock$Rules;)V" } : Jvm.MethodName)) ∈ BIG := gdW3 193 (by decide +kernel) rfl
theorem bw_674 : (Jvm.Cond.instanceMethod ({ cls := "TollClock$Rules", name := "copy", desc := "(LTollClock$Rules;)V" } : Jvm.MethodName)) ∈ BIG := gdW3 194 (by decide +kernel) rfl
theorem bw_675 : (Jvm.Cond.selects "TollClock$Rules" ({ cls := "TollClock$Rules", name := "copy", desc := "(LTollClock$Rules;)V" } : Jvm.MethodName) ({ cls := "TollClock$Rules", name := "copy", desc := "(LTollClock$Rules;)V" } : Jvm.MethodName)) ∈ BIG := gdW3 195 (by decide +kernel) rfl
theorem bw_676 : (Jvm.Cond.code ({ cls := "TollClock$Rules", name := "copy", desc := "(LTollClock$Rules;)V" } : Jvm.MethodName) prog_9_method_2_code (2 : Nat) (Option.none : Option Jvm.ClassFile.FieldType)) ∈ BIG := gdW3 196 (by decide +kernel) rfl
theorem bw_677 : (Jvm.Cond.methodLink "TollClock$Rules" (22 : Nat) ({ cls := "java/lang/System", name := "arraycopy", desc := "(Ljava/lang/Object;ILjava/lang/Object;II)V" } : Jvm.MethodName)) ∈ BIG := gdW3 197 (by decide +kernel) rfl
theorem bw_678 : (Jvm.Cond.methodLink "TollClock$Docket" (61 : Nat) ({ cls := "TollClock$Deadlines", name := "copy", desc := "(LTollClock$Deadlines;)V" } : Jvm.MethodName)) ∈ BIG := gdW3 198 (by decide +kernel) rfl
theorem bw_679 : (Jvm.Cond.instanceMethod ({ cls := "TollClock$Deadlines", name := "copy", desc := "(LTollClock$Deadlines;)V" } : Jvm.MethodName)) ∈ BIG := gdW3 199 (by decide +kernel) rfl
theorem bw_680 : (Jvm.Cond.selects "TollClock$Deadlines" ({ cls := "TollClock$Deadlines", name := "copy", desc := "(LTollClock$Deadlines;)V" } : Jvm.MethodName) ({ cls := "TollClock$Deadlines", name := "copy", desc := "(LTollClock$Deadlines;)V" } : Jvm.MethodName)) ∈ BIG := gdW3 200 (by decide +kernel) rfl
theorem bw_681 : (Jvm.Cond.code ({ cls := "TollClock$Deadlines", name := "copy", desc := "(LTollClock$Deadlines;)V" } : Jvm.MethodName) prog_4_method_2_code (2 : Nat) (Option.none : Option Jvm.ClassFile.FieldType)) ∈ BIG := gdW3 201 (by decide +kernel) rfl
theorem bw_682 : (Jvm.Cond.methodLink "TollClock$Deadlines" (47 : Nat) ({ cls := "java/lang/System", name := "arraycopy", desc := "(Ljava/lang/Object;ILjava/lang/Object;II)V" } : Jvm.MethodName)) ∈ BIG := gdW3 202 (by decide +kernel) rfl
theorem bw_683 : (Jvm.Cond.methodLink "TollClock$Docket" (64 : Nat) ({ cls := "TollClock$Stays", name := "copy", desc := "(LTollClock$Stays;)V" } : Jvm.MethodName)) ∈ BIG := gdW3 203 (by decide +kernel) rfl
theorem bw_684 : (Jvm.Cond.instanceMethod ({ cls := "TollClock$Stays", name := "copy", desc := "(LTollClock$Stays;)V" } : Jvm.MethodName)) ∈ BIG := gdW3 204 (by decide +kernel) rfl
theorem bw_685 : (Jvm.Cond.selects "TollClock$Stays" ({ cls := "TollClock$Stays", name := "copy", desc := "(LTollClock$Stays;)V" } : Jvm.MethodName) ({ cls := "TollClock$Stays", name := "copy", desc := "(LTollClock$Stays;)V" } : Jvm.MethodName)) ∈ BIG := gdW3 205 (by decide +kernel) rfl
theorem bw_686 : (Jvm.Cond.code ({ cls := "TollClock$Stays", name := "copy", desc := "(LTollClock$Stays;)V" } : Jvm.MethodName) prog_10_method_2_code (2 : Nat) (Option.none : Option Jvm.ClassFile.FieldType)) ∈ BIG := gdW3 206 (by decide +kernel) rfl
theorem bw_687 : (Jvm.Cond.methodLink "TollClock$Stays" (24 : Nat) ({ cls := "java/lang/System", name := "arraycopy", desc := "(Ljava/lang/Object;ILjava/lang/Object;II)V" } : Jvm.MethodName)) ∈ BIG := gdW3 207 (by decide +kernel) rfl
theorem bw_688 : (Jvm.Cond.methodLink "TollClock$Docket" (67 : Nat) ({ cls := "TollClock$Claims", name := "copy", desc := "(LTollClock$Claims;)V" } : Jvm.MethodName)) ∈ BIG := gdW3 208 (by decide +kernel) rfl
theorem bw_689 : (Jvm.Cond.instanceMethod ({ cls := "TollClock$Claims", name := "copy", desc := "(LTollClock$Claims;)V" } : Jvm.MethodName)) ∈ BIG := gdW3 209 (by decide +kernel) rfl
theorem bw_690 : (Jvm.Cond.selects "TollClock$Claims" ({ cls := "TollClock$Claims", name := "copy", desc := "(LTollClock$Claims;)V" } : Jvm.MethodName) ({ cls := "TollClock$Claims", name := "copy", desc := "(LTollClock$Claims;)V" } : Jvm.MethodName)) ∈ BIG := gdW3 210 (by decide +kernel) rfl
theorem bw_691 : (Jvm.Cond.code ({ cls := "TollClock$Claims", name := "copy", desc := "(LTollClock$Claims;)V" } : Jvm.MethodName) prog_3_method_2_code (2 : Nat) (Option.none : Option Jvm.ClassFile.FieldType)) ∈ BIG := gdW3 211 (by decide +kernel) rfl
theorem bw_692 : (Jvm.Cond.methodLink "TollClock$Claims" (37 : Nat) ({ cls := "TollClock$Deadlines", name := "copy", desc := "(LTollClock$Deadlines;)V" } : Jvm.MethodName)) ∈ BIG := gdW3 212 (by decide +kernel) rfl
theorem bw_693 : (Jvm.Cond.methodLink "TollClock$Claims" (41 : Nat) ({ cls := "java/lang/System", name := "arraycopy", desc := "(Ljava/lang/Object;ILjava/lang/Object;II)V" } : Jvm.MethodName)) ∈ BIG := gdW3 213 (by decide +kernel) rfl
theorem bw_694 : (Jvm.Cond.methodLink "TollClock" (157 : Nat) ({ cls := "TollClock", name := "tryAdvance", desc := "(I)I" } : Jvm.MethodName)) ∈ BIG := gdW3 214 (by decide +kernel) rfl
theorem bw_696 : (Jvm.Cond.instanceMethod ({ cls := "TollClock", name := "tryAdvance", desc := "(I)I" } : Jvm.MethodName)) ∈ BIG := gdW3 216 (by decide +kernel) rfl
theorem bw_697 : (Jvm.Cond.code ({ cls := "TollClock", name := "tryAdvance", desc := "(I)I" } : Jvm.MethodName) prog_1_method_19_code (2 : Nat) (Option.some Jvm.ClassFile.FieldType.int)) ∈ BIG := gdW3 217 (by decide +kernel) rfl
theorem bw_698 : (Jvm.Cond.methodLink "TollClock" (96 : Nat) ({ cls := "TollClock", name := "settle", desc := "(I)I" } : Jvm.MethodName)) ∈ BIG := gdW3 218 (by decide +kernel) rfl
theorem bw_700 : (Jvm.Cond.instanceMethod ({ cls := "TollClock", name := "settle", desc := "(I)I" } : Jvm.MethodName)) ∈ BIG := gdW3 220 (by decide +kernel) rfl
theorem bw_701 : (Jvm.Cond.code ({ cls := "TollClock", name := "settle", desc := "(I)I" } : Jvm.MethodName) prog_1_method_103_code (2 : Nat) (Option.some Jvm.ClassFile.FieldType.int)) ∈ BIG := gdW3 221 (by decide +kernel) rfl
theorem bw_702 : (Jvm.Cond.classLink "TollClock" (132 : Nat) "java/lang/IndexOutOfBoundsException") ∈ BIG := gdW3 222 (by decide +kernel) rfl
theorem bw_715 : (Jvm.Cond.classLink "TollClock" (196 : Nat) "java/lang/IllegalArgumentException") ∈ BIG := gdW3 235 (by decide +kernel) rfl
theorem bw_731 : (Jvm.Cond.classLink "TollClock" (78 : Nat) "java/lang/IllegalStateException") ∈ BIG := gdW4 11 (by decide +kernel) rfl
theorem bw_747 : (Jvm.Cond.classLink "TollClock" (476 : Nat) "java/lang/UnsupportedOperationException") ∈ BIG := gdW4 27 (by decide +kernel) rfl
theorem bw_763 : (Jvm.Cond.classLink "TollClock" (117 : Nat) "java/util/NoSuchElementException") ∈ BIG := gdW4 43 (by decide +kernel) rfl
theorem bw_779 : (Jvm.Cond.methodLink "TollClock" (519 : Nat) ({ cls := "java/lang/Math", name := "min", desc := "(II)I" } : Jvm.MethodName)) ∈ BIG := gdW4 59 (by decide +kernel) rfl
theorem bw_780 : (Jvm.Cond.methodLink "TollClockLaw" (21 : Nat) ({ cls := "TollClock", name := "addHoliday", desc := "(I)I" } : Jvm.MethodName)) ∈ BIG := gdW4 60 (by decide +kernel) rfl
theorem bw_781 : (Jvm.Cond.instanceMethod ({ cls := "TollClock", name := "addHoliday", desc := "(I)I" } : Jvm.MethodName)) ∈ BIG := gdW4 61 (by decide +kernel) rfl
theorem bw_782 : (Jvm.Cond.selects "TollClock" ({ cls := "TollClock", name := "addHoliday", desc := "(I)I" } : Jvm.MethodName) ({ cls := "TollClock", name := "addHoliday", desc := "(I)I" } : Jvm.MethodName)) ∈ BIG := gdW4 62 (by decide +kernel) rfl
theorem bw_783 : (Jvm.Cond.code ({ cls := "TollClock", name := "addHoliday", desc := "(I)I" } : Jvm.MethodName) prog_1_method_15_code (2 : Nat) (Option.some Jvm.ClassFile.FieldType.int)) ∈ BIG := gdW4 63 (by decide +kernel) rfl
theorem bw_784 : (Jvm.Cond.methodLink "TollClock" (166 : Nat) ({ cls := "TollClock", name := "tryAddHoliday", desc := "(I)I" } : Jvm.MethodName)) ∈ BIG := gdW4 64 (by decide +kernel) rfl
theorem bw_786 : (Jvm.Cond.instanceMethod ({ cls := "TollClock", name := "tryAddHoliday", desc := "(I)I" } : Jvm.MethodName)) ∈ BIG := gdW4 66 (by decide +kernel) rfl
theorem bw_787 : (Jvm.Cond.code ({ cls := "TollClock", name := "tryAddHoliday", desc := "(I)I" } : Jvm.MethodName) prog_1_method_20_code (2 : Nat) (Option.some Jvm.ClassFile.FieldType.int)) ∈ BIG := gdW4 67 (by decide +kernel) rfl
theorem bw_788 : (Jvm.Cond.methodLink "TollClock" (181 : Nat) ({ cls := "TollClock", name := "isDay", desc := "(I)Z" } : Jvm.MethodName)) ∈ BIG := gdW4 68 (by decide +kernel) rfl
theorem bw_789 : (Jvm.Cond.methodLink "TollClock" (184 : Nat) ({ cls := "TollClock$Calendar", name := "isHoliday", desc := "(I)Z" } : Jvm.MethodName)) ∈ BIG := gdW4 69 (by decide +kernel) rfl
theorem bw_790 : (Jvm.Cond.instanceMethod ({ cls := "TollClock$Calendar", name := "isHoliday", desc := "(I)Z" } : Jvm.MethodName)) ∈ BIG := gdW4 70 (by decide +kernel) rfl
theorem bw_791 : (Jvm.Cond.selects "TollClock$Calendar" ({ cls := "TollClock$Calendar", name := "isHoliday", desc := "(I)Z" } : Jvm.MethodName) ({ cls := "TollClock$Calendar", name := "isHoliday", desc := "(I)Z" } : Jvm.MethodName)) ∈ BIG := gdW4 71 (by decide +kernel) rfl
theorem bw_792 : (Jvm.Cond.code ({ cls := "TollClock$Calendar", name := "isHoliday", desc := "(I)Z" } : Jvm.MethodName) prog_2_method_3_code (2 : Nat) (Option.some Jvm.ClassFile.FieldType.boolean)) ∈ BIG := gdW4 72 (by decide +kernel) rfl
theorem bw_793 : (Jvm.Cond.methodLink "TollClock" (190 : Nat) ({ cls := "TollClock$Calendar", name := "insertHoliday", desc := "(I)V" } : Jvm.MethodName)) ∈ BIG := gdW4 73 (by decide +kernel) rfl
theorem bw_794 : (Jvm.Cond.instanceMethod ({ cls := "TollClock$Calendar", name := "insertHoliday", desc := "(I)V" } : Jvm.MethodName)) ∈ BIG := gdW4 74 (by decide +kernel) rfl
theorem bw_795 : (Jvm.Cond.selects "TollClock$Calendar" ({ cls := "TollClock$Calendar", name := "insertHoliday", desc := "(I)V" } : Jvm.MethodName) ({ cls := "TollClock$Calendar", name := "insertHoliday", desc := "(I)V" } : Jvm.MethodName)) ∈ BIG := gdW4 75 (by decide +kernel) rfl
theorem bw_796 : (Jvm.Cond.code ({ cls := "TollClock$Calendar", name := "insertHoliday", desc := "(I)V" } : Jvm.MethodName) prog_2_method_5_code (2 : Nat) (Option.none : Option Jvm.ClassFile.FieldType)) ∈ BIG := gdW4 76 (by decide +kernel) rfl
theorem bw_809 : (Jvm.Cond.methodLink "TollClockLaw" (27 : Nat) ({ cls := "TollClock", name := "setRule", desc := "(IIZ)I" } : Jvm.MethodName)) ∈ BIG := gdW4 89 (by decide +kernel) rfl
theorem bw_810 : (Jvm.Cond.instanceMethod ({ cls := "TollClock", name := "setRule", desc := "(IIZ)I" } : Jvm.MethodName)) ∈ BIG := gdW4 90 (by decide +kernel) rfl
theorem bw_811 : (Jvm.Cond.selects "TollClock" ({ cls := "TollClock", name := "setRule", desc := "(IIZ)I" } : Jvm.MethodName) ({ cls := "TollClock", name := "setRule", desc := "(IIZ)I" } : Jvm.MethodName)) ∈ BIG := gdW4 91 (by decide +kernel) rfl
theorem bw_812 : (Jvm.Cond.code ({ cls := "TollClock", name := "setRule", desc := "(IIZ)I" } : Jvm.MethodName) prog_1_method_25_code (4 : Nat) (Option.some Jvm.ClassFile.FieldType.int)) ∈ BIG := gdW4 92 (by decide +kernel) rfl
theorem bw_813 : (Jvm.Cond.methodLink "TollClock" (203 : Nat) ({ cls := "TollClock", name := "trySetRule", desc := "(IIZ)I" } : Jvm.MethodName)) ∈ BIG := gdW4 93 (by decide +kernel) rfl
theorem bw_815 : (Jvm.Cond.instanceMethod ({ cls := "TollClock", name := "trySetRule", desc := "(IIZ)I" } : Jvm.MethodName)) ∈ BIG := gdW4 95 (by decide +kernel) rfl
theorem bw_816 : (Jvm.Cond.code ({ cls := "TollClock", name := "trySetRule", desc := "(IIZ)I" } : Jvm.MethodName) prog_1_method_32_code (5 : Nat) (Option.some Jvm.ClassFile.FieldType.int)) ∈ BIG := gdW4 96 (by decide +kernel) rfl
theorem bw_817 : (Jvm.Cond.methodLink "TollClock" (241 : Nat) ({ cls := "TollClock", name := "isRule", desc := "(I)Z" } : Jvm.MethodName)) ∈ BIG := gdW4 97 (by decide +kernel) rfl
theorem bw_818 : (Jvm.Cond.static ({ cls := "TollClock", name := "isRule", desc := "(I)Z" } : Jvm.MethodName)) ∈ BIG := gdW4 98 (by decide +kernel) rfl
theorem bw_819 : (Jvm.Cond.code ({ cls := "TollClock", name := "isRule", desc := "(I)Z" } : Jvm.MethodName) prog_1_method_34_code (1 : Nat) (Option.some Jvm.ClassFile.FieldType.boolean)) ∈ BIG := gdW4 99 (by decide +kernel) rfl
theorem bw_820 : (Jvm.Cond.methodLink "TollClockLaw" (31 : Nat) ({ cls := "TollClock", name := "setServiceDays", desc := "(CI)I" } : Jvm.MethodName)) ∈ BIG := gdW4 100 (by decide +kernel) rfl
theorem bw_821 : (Jvm.Cond.instanceMethod ({ cls := "TollClock", name := "setServiceDays", desc := "(CI)I" } : Jvm.MethodName)) ∈ BIG := gdW4 101 (by decide +kernel) rfl
theorem bw_822 : (Jvm.Cond.selects "TollClock" ({ cls := "TollClock", name := "setServiceDays", desc := "(CI)I" } : Jvm.MethodName) ({ cls := "TollClock", name := "setServiceDays", desc := "(CI)I" } : Jvm.MethodName)) ∈ BIG := gdW4 102 (by decide +kernel) rfl
theorem bw_823 : (Jvm.Cond.code ({ cls := "TollClock", name := "setServiceDays", desc := "(CI)I" } : Jvm.MethodName) prog_1_method_28_code (3 : Nat) (Option.some Jvm.ClassFile.FieldType.int)) ∈ BIG := gdW4 103 (by decide +kernel) rfl
theorem bw_824 : (Jvm.Cond.methodLink "TollClock" (221 : Nat) ({ cls := "TollClock", name := "trySetServiceDays", desc := "(CI)I" } : Jvm.MethodName)) ∈ BIG := gdW4 104 (by decide +kernel) rfl
theorem bw_826 : (Jvm.Cond.instanceMethod ({ cls := "TollClock", name := "trySetServiceDays", desc := "(CI)I" } : Jvm.MethodName)) ∈ BIG := gdW4 106 (by decide +kernel) rfl
theorem bw_827 : (Jvm.Cond.code ({ cls := "TollClock", name := "trySetServiceDays", desc := "(CI)I" } : Jvm.MethodName) prog_1_method_33_code (5 : Nat) (Option.some Jvm.ClassFile.FieldType.int)) ∈ BIG := gdW4 107 (by decide +kernel) rfl
theorem bw_828 : (Jvm.Cond.methodLink "TollClock" (225 : Nat) ({ cls := "TollClock$Rules", name := "placeOfWay", desc := "(C)I" } : Jvm.MethodName)) ∈ BIG := gdW4 108 (by decide +kernel) rfl
theorem bw_829 : (Jvm.Cond.static ({ cls := "TollClock$Rules", name := "placeOfWay", desc := "(C)I" } : Jvm.MethodName)) ∈ BIG := gdW4 109 (by decide +kernel) rfl
theorem bw_830 : (Jvm.Cond.code ({ cls := "TollClock$Rules", name := "placeOfWay", desc := "(C)I" } : Jvm.MethodName) prog_9_method_3_code (1 : Nat) (Option.some Jvm.ClassFile.FieldType.int)) ∈ BIG := gdW4 110 (by decide +kernel) rfl
theorem bw_831 : (Jvm.Cond.methodLink "TollClockLaw" (35 : Nat) ({ cls := "TollClock", name := "serve", desc := "(IIC)I" } : Jvm.MethodName)) ∈ BIG := gdW4 111 (by decide +kernel) rfl
theorem bw_832 : (Jvm.Cond.instanceMethod ({ cls := "TollClock", name := "serve", desc := "(IIC)I" } : Jvm.MethodName)) ∈ BIG := gdW4 112 (by decide +kernel) rfl
theorem bw_833 : (Jvm.Cond.selects "TollClock" ({ cls := "TollClock", name := "serve", desc := "(IIC)I" } : Jvm.MethodName) ({ cls := "TollClock", name := "serve", desc := "(IIC)I" } : Jvm.MethodName)) ∈ BIG := gdW4 113 (by decide +kernel) rfl
theorem bw_834 : (Jvm.Cond.code ({ cls := "TollClock", name := "serve", desc := "(IIC)I" } : Jvm.MethodName) prog_1_method_37_code (4 : Nat) (Option.some Jvm.ClassFile.FieldType.int)) ∈ BIG := gdW4 114 (by decide +kernel) rfl
theorem bw_835 : (Jvm.Cond.methodLink "TollClock" (248 : Nat) ({ cls := "TollClock", name := "tryServe", desc := "(IIC)I" } : Jvm.MethodName)) ∈ BIG := gdW4 115 (by decide +kernel) rfl
theorem bw_837 : (Jvm.Cond.instanceMethod ({ cls := "TollClock", name := "tryServe", desc := "(IIC)I" } : Jvm.MethodName)) ∈ BIG := gdW4 117 (by decide +kernel) rfl
theorem bw_838 : (Jvm.Cond.code ({ cls := "TollClock", name := "tryServe", desc := "(IIC)I" } : Jvm.MethodName) prog_1_method_53_code (6 : Nat) (Option.some Jvm.ClassFile.FieldType.int)) ∈ BIG := gdW4 118 (by decide +kernel) rfl
theorem bw_839 : (Jvm.Cond.methodLink "TollClock" (146 : Nat) ({ cls := "TollClock$Parties", name := "has", desc := "(I)Z" } : Jvm.MethodName)) ∈ BIG := gdW4 119 (by decide +kernel) rfl
theorem bw_840 : (Jvm.Cond.instanceMethod ({ cls := "TollClock$Parties", name := "has", desc := "(I)Z" } : Jvm.MethodName)) ∈ BIG := gdW4 120 (by decide +kernel) rfl
theorem bw_841 : (Jvm.Cond.selects "TollClock$Parties" ({ cls := "TollClock$Parties", name := "has", desc := "(I)Z" } : Jvm.MethodName) ({ cls := "TollClock$Parties", name := "has", desc := "(I)Z" } : Jvm.MethodName)) ∈ BIG := gdW4 121 (by decide +kernel) rfl
theorem bw_842 : (Jvm.Cond.code ({ cls := "TollClock$Parties", name := "has", desc := "(I)Z" } : Jvm.MethodName) prog_7_method_3_code (2 : Nat) (Option.some Jvm.ClassFile.FieldType.boolean)) ∈ BIG := gdW4 122 (by decide +kernel) rfl
theorem bw_843 : (Jvm.Cond.methodLink "TollClock" (316 : Nat) ({ cls := "TollClock$Deadlines", name := "add", desc := "(IIILTollClock$Rules;)I" } : Jvm.MethodName)) ∈ BIG := gdW4 123 (by decide +kernel) rfl
theorem bw_844 : (Jvm.Cond.instanceMethod ({ cls := "TollClock$Deadlines", name := "add", desc := "(IIILTollClock$Rules;)I" } : Jvm.MethodName)) ∈ BIG := gdW4 124 (by decide +kernel) rfl
theorem bw_845 : (Jvm.Cond.selects "TollClock$Deadlines" ({ cls := "TollClock$Deadlines", name := "add", desc := "(IIILTollClock$Rules;)I" } : Jvm.MethodName) ({ cls := "TollClock$Deadlines", name := "add", desc := "(IIILTollClock$Rules;)I" } : Jvm.MethodName)) ∈ BIG := gdW4 125 (by decide +kernel) rfl
theorem bw_846 : (Jvm.Cond.code ({ cls := "TollClock$Deadlines", name := "add", desc := "(IIILTollClock$Rules;)I" } : Jvm.MethodName) prog_4_method_6_code (6 : Nat) (Option.some Jvm.ClassFile.FieldType.int)) ∈ BIG := gdW4 126 (by decide +kernel) rfl
theorem bw_847 : (Jvm.Cond.methodLink "TollClock$Deadlines" (67 : Nat) ({ cls := "TollClock$Deadlines", name := "addPart", desc := "(II)V" } : Jvm.MethodName)) ∈ BIG := gdW4 127 (by decide +kernel) rfl
theorem bw_848 : (Jvm.Cond.instanceMethod ({ cls := "TollClock$Deadlines", name := "addPart", desc := "(II)V" } : Jvm.MethodName)) ∈ BIG := gdW4 128 (by decide +kernel) rfl
theorem bw_849 : (Jvm.Cond.selects "TollClock$Deadlines" ({ cls := "TollClock$Deadlines", name := "addPart", desc := "(II)V" } : Jvm.MethodName) ({ cls := "TollClock$Deadlines", name := "addPart", desc := "(II)V" } : Jvm.MethodName)) ∈ BIG := gdW4 129 (by decide +kernel) rfl
theorem bw_850 : (Jvm.Cond.code ({ cls := "TollClock$Deadlines", name := "addPart", desc := "(II)V" } : Jvm.MethodName) prog_4_method_7_code (3 : Nat) (Option.none : Option Jvm.ClassFile.FieldType)) ∈ BIG := gdW4 130 (by decide +kernel) rfl
theorem bw_851 : (Jvm.Cond.methodLink "TollClock" (319 : Nat) ({ cls := "TollClock$Deadlines", name := "addPart", desc := "(II)V" } : Jvm.MethodName)) ∈ BIG := gdW4 131 (by decide +kernel) rfl
theorem bw_852 : (Jvm.Cond.methodLink "TollClockLaw" (39 : Nat) ({ cls := "TollClock", name := "extendByConsent", desc := "(II)I" } : Jvm.MethodName)) ∈ BIG := gdW4 132 (by decide +kernel) rfl
theorem bw_853 : (Jvm.Cond.instanceMethod ({ cls := "TollClock", name := "extendByConsent", desc := "(II)I" } : Jvm.MethodName)) ∈ BIG := gdW4 133 (by decide +kernel) rfl
theorem bw_854 : (Jvm.Cond.selects "TollClock" ({ cls := "TollClock", name := "extendByConsent", desc := "(II)I" } : Jvm.MethodName) ({ cls := "TollClock", name := "extendByConsent", desc := "(II)I" } : Jvm.MethodName)) ∈ BIG := gdW4 134 (by decide +kernel) rfl
theorem bw_855 : (Jvm.Cond.code ({ cls := "TollClock", name := "extendByConsent", desc := "(II)I" } : Jvm.MethodName) prog_1_method_43_code (3 : Nat) (Option.some Jvm.ClassFile.FieldType.int)) ∈ BIG := gdW4 135 (by decide +kernel) rfl
theorem bw_856 : (Jvm.Cond.methodLink "TollClock" (278 : Nat) ({ cls := "TollClock", name := "tryExtendByConsent", desc := "(II)I" } : Jvm.MethodName)) ∈ BIG := gdW4 136 (by decide +kernel) rfl
theorem bw_858 : (Jvm.Cond.instanceMethod ({ cls := "TollClock", name := "tryExtendByConsent", desc := "(II)I" } : Jvm.MethodName)) ∈ BIG := gdW4 138 (by decide +kernel) rfl
theorem bw_859 : (Jvm.Cond.code ({ cls := "TollClock", name := "tryExtendByConsent", desc := "(II)I" } : Jvm.MethodName) prog_1_method_54_code (3 : Nat) (Option.some Jvm.ClassFile.FieldType.int)) ∈ BIG := gdW4 139 (by decide +kernel) rfl
theorem bw_860 : (Jvm.Cond.methodLink "TollClock" (322 : Nat) ({ cls := "TollClock$Deadlines", name := "has", desc := "(I)Z" } : Jvm.MethodName)) ∈ BIG := gdW4 140 (by decide +kernel) rfl
theorem bw_861 : (Jvm.Cond.instanceMethod ({ cls := "TollClock$Deadlines", name := "has", desc := "(I)Z" } : Jvm.MethodName)) ∈ BIG := gdW4 141 (by decide +kernel) rfl
theorem bw_862 : (Jvm.Cond.selects "TollClock$Deadlines" ({ cls := "TollClock$Deadlines", name := "has", desc := "(I)Z" } : Jvm.MethodName) ({ cls := "TollClock$Deadlines", name := "has", desc := "(I)Z" } : Jvm.MethodName)) ∈ BIG := gdW4 142 (by decide +kernel) rfl
theorem bw_863 : (Jvm.Cond.code ({ cls := "TollClock$Deadlines", name := "has", desc := "(I)Z" } : Jvm.MethodName) prog_4_method_3_code (2 : Nat) (Option.some Jvm.ClassFile.FieldType.boolean)) ∈ BIG := gdW4 143 (by decide +kernel) rfl
theorem bw_864 : (Jvm.Cond.methodLink "TollClock" (300 : Nat) ({ cls := "TollClock$Deadlines", name := "isOpen", desc := "(I)Z" } : Jvm.MethodName)) ∈ BIG := gdW4 144 (by decide +kernel) rfl
theorem bw_865 : (Jvm.Cond.instanceMethod ({ cls := "TollClock$Deadlines", name := "isOpen", desc := "(I)Z" } : Jvm.MethodName)) ∈ BIG := gdW4 145 (by decide +kernel) rfl
theorem bw_866 : (Jvm.Cond.selects "TollClock$Deadlines" ({ cls := "TollClock$Deadlines", name := "isOpen", desc := "(I)Z" } : Jvm.MethodName) ({ cls := "TollClock$Deadlines", name := "isOpen", desc := "(I)Z" } : Jvm.MethodName)) ∈ BIG := gdW4 146 (by decide +kernel) rfl
theorem bw_867 : (Jvm.Cond.code ({ cls := "TollClock$Deadlines", name := "isOpen", desc := "(I)Z" } : Jvm.MethodName) prog_4_method_4_code (2 : Nat) (Option.some Jvm.ClassFile.FieldType.boolean)) ∈ BIG := gdW4 147 (by decide +kernel) rfl
theorem bw_868 : (Jvm.Cond.methodLink "TollClock" (329 : Nat) ({ cls := "TollClock$Deadlines", name := "grant", desc := "(II)I" } : Jvm.MethodName)) ∈ BIG := gdW4 148 (by decide +kernel) rfl
theorem bw_869 : (Jvm.Cond.instanceMethod ({ cls := "TollClock$Deadlines", name := "grant", desc := "(II)I" } : Jvm.MethodName)) ∈ BIG := gdW4 149 (by decide +kernel) rfl
theorem bw_870 : (Jvm.Cond.selects "TollClock$Deadlines" ({ cls := "TollClock$Deadlines", name := "grant", desc := "(II)I" } : Jvm.MethodName) ({ cls := "TollClock$Deadlines", name := "grant", desc := "(II)I" } : Jvm.MethodName)) ∈ BIG := gdW4 150 (by decide +kernel) rfl
theorem bw_871 : (Jvm.Cond.code ({ cls := "TollClock$Deadlines", name := "grant", desc := "(II)I" } : Jvm.MethodName) prog_4_method_8_code (3 : Nat) (Option.some Jvm.ClassFile.FieldType.int)) ∈ BIG := gdW4 151 (by decide +kernel) rfl
theorem bw_872 : (Jvm.Cond.methodLink "TollClockLaw" (43 : Nat) ({ cls := "TollClock", name := "extendByOrder", desc := "(II)I" } : Jvm.MethodName)) ∈ BIG := gdW4 152 (by decide +kernel) rfl
theorem bw_873 : (Jvm.Cond.instanceMethod ({ cls := "TollClock", name := "extendByOrder", desc := "(II)I" } : Jvm.MethodName)) ∈ BIG := gdW4 153 (by decide +kernel) rfl
theorem bw_874 : (Jvm.Cond.selects "TollClock" ({ cls := "TollClock", name := "extendByOrder", desc := "(II)I" } : Jvm.MethodName) ({ cls := "TollClock", name := "extendByOrder", desc := "(II)I" } : Jvm.MethodName)) ∈ BIG := gdW4 154 (by decide +kernel) rfl
theorem bw_875 : (Jvm.Cond.code ({ cls := "TollClock", name := "extendByOrder", desc := "(II)I" } : Jvm.MethodName) prog_1_method_44_code (3 : Nat) (Option.some Jvm.ClassFile.FieldType.int)) ∈ BIG := gdW4 155 (by decide +kernel) rfl
theorem bw_876 : (Jvm.Cond.methodLink "TollClock" (281 : Nat) ({ cls := "TollClock", name := "tryExtendByOrder", desc := "(II)I" } : Jvm.MethodName)) ∈ BIG := gdW4 156 (by decide +kernel) rfl
theorem bw_878 : (Jvm.Cond.instanceMethod ({ cls := "TollClock", name := "tryExtendByOrder", desc := "(II)I" } : Jvm.MethodName)) ∈ BIG := gdW4 158 (by decide +kernel) rfl
theorem bw_879 : (Jvm.Cond.code ({ cls := "TollClock", name := "tryExtendByOrder", desc := "(II)I" } : Jvm.MethodName) prog_1_method_55_code (3 : Nat) (Option.some Jvm.ClassFile.FieldType.int)) ∈ BIG := gdW4 159 (by decide +kernel) rfl
theorem bw_880 : (Jvm.Cond.methodLink "TollClockLaw" (46 : Nat) ({ cls := "TollClock", name := "file", desc := "(I)Z" } : Jvm.MethodName)) ∈ BIG := gdW4 160 (by decide +kernel) rfl
theorem bw_881 : (Jvm.Cond.instanceMethod ({ cls := "TollClock", name := "file", desc := "(I)Z" } : Jvm.MethodName)) ∈ BIG := gdW4 161 (by decide +kernel) rfl
theorem bw_882 : (Jvm.Cond.selects "TollClock" ({ cls := "TollClock", name := "file", desc := "(I)Z" } : Jvm.MethodName) ({ cls := "TollClock", name := "file", desc := "(I)Z" } : Jvm.MethodName)) ∈ BIG := gdW4 162 (by decide +kernel) rfl
theorem bw_883 : (Jvm.Cond.code ({ cls := "TollClock", name := "file", desc := "(I)Z" } : Jvm.MethodName) prog_1_method_46_code (2 : Nat) (Option.some Jvm.ClassFile.FieldType.boolean)) ∈ BIG := gdW4 163 (by decide +kernel) rfl
theorem bw_884 : (Jvm.Cond.methodLink "TollClock" (287 : Nat) ({ cls := "TollClock", name := "tryFile", desc := "(I)I" } : Jvm.MethodName)) ∈ BIG := gdW4 164 (by decide +kernel) rfl
theorem bw_886 : (Jvm.Cond.instanceMethod ({ cls := "TollClock", name := "tryFile", desc := "(I)I" } : Jvm.MethodName)) ∈ BIG := gdW4 166 (by decide +kernel) rfl
theorem bw_887 : (Jvm.Cond.code ({ cls := "TollClock", name := "tryFile", desc := "(I)I" } : Jvm.MethodName) prog_1_method_56_code (3 : Nat) (Option.some Jvm.ClassFile.FieldType.int)) ∈ BIG := gdW4 167 (by decide +kernel) rfl
theorem bw_888 : (Jvm.Cond.methodLink "TollClockLaw" (50 : Nat) ({ cls := "TollClockLaw", name := "told", desc := "(Z)I" } : Jvm.MethodName)) ∈ BIG := gdW4 168 (by decide +kernel) rfl
theorem bw_889 : (Jvm.Cond.static ({ cls := "TollClockLaw", name := "told", desc := "(Z)I" } : Jvm.MethodName)) ∈ BIG := gdW4 169 (by decide +kernel) rfl
theorem bw_890 : (Jvm.Cond.code ({ cls := "TollClockLaw", name := "told", desc := "(Z)I" } : Jvm.MethodName) method_4_code (1 : Nat) (Option.some Jvm.ClassFile.FieldType.int)) ∈ BIG := gdW4 170 (by decide +kernel) rfl
theorem bw_891 : (Jvm.Cond.methodLink "TollClockLaw" (54 : Nat) ({ cls := "TollClock", name := "strike", desc := "(I)I" } : Jvm.MethodName)) ∈ BIG := gdW4 171 (by decide +kernel) rfl
theorem bw_892 : (Jvm.Cond.instanceMethod ({ cls := "TollClock", name := "strike", desc := "(I)I" } : Jvm.MethodName)) ∈ BIG := gdW4 172 (by decide +kernel) rfl
theorem bw_893 : (Jvm.Cond.selects "TollClock" ({ cls := "TollClock", name := "strike", desc := "(I)I" } : Jvm.MethodName) ({ cls := "TollClock", name := "strike", desc := "(I)I" } : Jvm.MethodName)) ∈ BIG := gdW4 173 (by decide +kernel) rfl
theorem bw_894 : (Jvm.Cond.code ({ cls := "TollClock", name := "strike", desc := "(I)I" } : Jvm.MethodName) prog_1_method_47_code (2 : Nat) (Option.some Jvm.ClassFile.FieldType.int)) ∈ BIG := gdW4 174 (by decide +kernel) rfl
theorem bw_895 : (Jvm.Cond.methodLink "TollClock" (290 : Nat) ({ cls := "TollClock", name := "tryStrike", desc := "(I)I" } : Jvm.MethodName)) ∈ BIG := gdW4 175 (by decide +kernel) rfl
theorem bw_897 : (Jvm.Cond.instanceMethod ({ cls := "TollClock", name := "tryStrike", desc := "(I)I" } : Jvm.MethodName)) ∈ BIG := gdW4 177 (by decide +kernel) rfl
theorem bw_898 : (Jvm.Cond.code ({ cls := "TollClock", name := "tryStrike", desc := "(I)I" } : Jvm.MethodName) prog_1_method_57_code (2 : Nat) (Option.some Jvm.ClassFile.FieldType.int)) ∈ BIG := gdW4 178 (by decide +kernel) rfl
theorem bw_899 : (Jvm.Cond.methodLink "TollClock" (335 : Nat) ({ cls := "TollClock$Deadlines", name := "countOpen", desc := "()I" } : Jvm.MethodName)) ∈ BIG := gdW4 179 (by decide +kernel) rfl
theorem bw_900 : (Jvm.Cond.instanceMethod ({ cls := "TollClock$Deadlines", name := "countOpen", desc := "()I" } : Jvm.MethodName)) ∈ BIG := gdW4 180 (by decide +kernel) rfl
theorem bw_901 : (Jvm.Cond.selects "TollClock$Deadlines" ({ cls := "TollClock$Deadlines", name := "countOpen", desc := "()I" } : Jvm.MethodName) ({ cls := "TollClock$Deadlines", name := "countOpen", desc := "()I" } : Jvm.MethodName)) ∈ BIG := gdW4 181 (by decide +kernel) rfl
theorem bw_902 : (Jvm.Cond.code ({ cls := "TollClock$Deadlines", name := "countOpen", desc := "()I" } : Jvm.MethodName) prog_4_method_5_code (3 : Nat) (Option.some Jvm.ClassFile.FieldType.int)) ∈ BIG := gdW4 182 (by decide +kernel) rfl
theorem bw_903 : (Jvm.Cond.methodLink "TollClock$Deadlines" (57 : Nat) ({ cls := "TollClock$Deadlines", name := "isOpen", desc := "(I)Z" } : Jvm.MethodName)) ∈ BIG := gdW4 183 (by decide +kernel) rfl
theorem bw_904 : (Jvm.Cond.methodLink "TollClockLaw" (57 : Nat) ({ cls := "TollClock", name := "stayParty", desc := "(II)I" } : Jvm.MethodName)) ∈ BIG := gdW4 184 (by decide +kernel) rfl
theorem bw_905 : (Jvm.Cond.instanceMethod ({ cls := "TollClock", name := "stayParty", desc := "(II)I" } : Jvm.MethodName)) ∈ BIG := gdW4 185 (by decide +kernel) rfl
theorem bw_906 : (Jvm.Cond.selects "TollClock" ({ cls := "TollClock", name := "stayParty", desc := "(II)I" } : Jvm.MethodName) ({ cls := "TollClock", name := "stayParty", desc := "(II)I" } : Jvm.MethodName)) ∈ BIG := gdW4 186 (by decide +kernel) rfl
theorem bw_907 : (Jvm.Cond.code ({ cls := "TollClock", name := "stayParty", desc := "(II)I" } : Jvm.MethodName) prog_1_method_63_code (3 : Nat) (Option.some Jvm.ClassFile.FieldType.int)) ∈ BIG := gdW4 187 (by decide +kernel) rfl
theorem bw_908 : (Jvm.Cond.methodLink "TollClock" (342 : Nat) ({ cls := "TollClock", name := "tryStayParty", desc := "(II)I" } : Jvm.MethodName)) ∈ BIG := gdW4 188 (by decide +kernel) rfl
theorem bw_910 : (Jvm.Cond.instanceMethod ({ cls := "TollClock", name := "tryStayParty", desc := "(II)I" } : Jvm.MethodName)) ∈ BIG := gdW4 190 (by decide +kernel) rfl
theorem bw_911 : (Jvm.Cond.code ({ cls := "TollClock", name := "tryStayParty", desc := "(II)I" } : Jvm.MethodName) prog_1_method_70_code (3 : Nat) (Option.some Jvm.ClassFile.FieldType.int)) ∈ BIG := gdW4 191 (by decide +kernel) rfl
theorem bw_912 : (Jvm.Cond.methodLink "TollClock" (345 : Nat) ({ cls := "TollClock", name := "tryStay", desc := "(II)I" } : Jvm.MethodName)) ∈ BIG := gdW4 192 (by decide +kernel) rfl
theorem bw_914 : (Jvm.Cond.instanceMethod ({ cls := "TollClock", name := "tryStay", desc := "(II)I" } : Jvm.MethodName)) ∈ BIG := gdW4 194 (by decide +kernel) rfl
theorem bw_915 : (Jvm.Cond.code ({ cls := "TollClock", name := "tryStay", desc := "(II)I" } : Jvm.MethodName) prog_1_method_71_code (3 : Nat) (Option.some Jvm.ClassFile.FieldType.int)) ∈ BIG := gdW4 195 (by decide +kernel) rfl
theorem bw_916 : (Jvm.Cond.methodLink "TollClock" (362 : Nat) ({ cls := "TollClock$Stays", name := "add", desc := "(III)I" } : Jvm.MethodName)) ∈ BIG := gdW4 196 (by decide +kernel) rfl
theorem bw_917 : (Jvm.Cond.instanceMethod ({ cls := "TollClock$Stays", name := "add", desc := "(III)I" } : Jvm.MethodName)) ∈ BIG := gdW4 197 (by decide +kernel) rfl
theorem bw_918 : (Jvm.Cond.selects "TollClock$Stays" ({ cls := "TollClock$Stays", name := "add", desc := "(III)I" } : Jvm.MethodName) ({ cls := "TollClock$Stays", name := "add", desc := "(III)I" } : Jvm.MethodName)) ∈ BIG := gdW4 198 (by decide +kernel) rfl
theorem bw_919 : (Jvm.Cond.code ({ cls := "TollClock$Stays", name := "add", desc := "(III)I" } : Jvm.MethodName) prog_10_method_4_code (4 : Nat) (Option.some Jvm.ClassFile.FieldType.int)) ∈ BIG := gdW4 199 (by decide +kernel) rfl
theorem bw_920 : (Jvm.Cond.methodLink "TollClockLaw" (60 : Nat) ({ cls := "TollClock", name := "stayAll", desc := "(I)I" } : Jvm.MethodName)) ∈ BIG := gdW4 200 (by decide +kernel) rfl
theorem bw_921 : (Jvm.Cond.instanceMethod ({ cls := "TollClock", name := "stayAll", desc := "(I)I" } : Jvm.MethodName)) ∈ BIG := gdW4 201 (by decide +kernel) rfl
theorem bw_922 : (Jvm.Cond.selects "TollClock" ({ cls := "TollClock", name := "stayAll", desc := "(I)I" } : Jvm.MethodName) ({ cls := "TollClock", name := "stayAll", desc := "(I)I" } : Jvm.MethodName)) ∈ BIG := gdW4 202 (by decide +kernel) rfl
theorem bw_923 : (Jvm.Cond.code ({ cls := "TollClock", name := "stayAll", desc := "(I)I" } : Jvm.MethodName) prog_1_method_64_code (2 : Nat) (Option.some Jvm.ClassFile.FieldType.int)) ∈ BIG := gdW4 203 (by decide +kernel) rfl
theorem bw_924 : (Jvm.Cond.methodLink "TollClockLaw" (63 : Nat) ({ cls := "TollClock", name := "lift", desc := "(I)I" } : Jvm.MethodName)) ∈ BIG := gdW4 204 (by decide +kernel) rfl
theorem bw_925 : (Jvm.Cond.instanceMethod ({ cls := "TollClock", name := "lift", desc := "(I)I" } : Jvm.MethodName)) ∈ BIG := gdW4 205 (by decide +kernel) rfl
theorem bw_926 : (Jvm.Cond.selects "TollClock" ({ cls := "TollClock", name := "lift", desc := "(I)I" } : Jvm.MethodName) ({ cls := "TollClock", name := "lift", desc := "(I)I" } : Jvm.MethodName)) ∈ BIG := gdW4 206 (by decide +kernel) rfl
theorem bw_927 : (Jvm.Cond.code ({ cls := "TollClock", name := "lift", desc := "(I)I" } : Jvm.MethodName) prog_1_method_65_code (2 : Nat) (Option.some Jvm.ClassFile.FieldType.int)) ∈ BIG := gdW4 207 (by decide +kernel) rfl
theorem bw_928 : (Jvm.Cond.methodLink "TollClock" (348 : Nat) ({ cls := "TollClock", name := "tryLift", desc := "(I)I" } : Jvm.MethodName)) ∈ BIG := gdW4 208 (by decide +kernel) rfl
theorem bw_930 : (Jvm.Cond.instanceMethod ({ cls := "TollClock", name := "tryLift", desc := "(I)I" } : Jvm.MethodName)) ∈ BIG := gdW4 210 (by decide +kernel) rfl
theorem bw_931 : (Jvm.Cond.code ({ cls := "TollClock", name := "tryLift", desc := "(I)I" } : Jvm.MethodName) prog_1_method_72_code (2 : Nat) (Option.some Jvm.ClassFile.FieldType.int)) ∈ BIG := gdW4 211 (by decide +kernel) rfl
theorem bw_932 : (Jvm.Cond.methodLink "TollClock" (365 : Nat) ({ cls := "TollClock$Stays", name := "has", desc := "(I)Z" } : Jvm.MethodName)) ∈ BIG := gdW4 212 (by decide +kernel) rfl
theorem bw_933 : (Jvm.Cond.instanceMethod ({ cls := "TollClock$Stays", name := "has", desc := "(I)Z" } : Jvm.MethodName)) ∈ BIG := gdW4 213 (by decide +kernel) rfl
theorem bw_934 : (Jvm.Cond.selects "TollClock$Stays" ({ cls := "TollClock$Stays", name := "has", desc := "(I)Z" } : Jvm.MethodName) ({ cls := "TollClock$Stays", name := "has", desc := "(I)Z" } : Jvm.MethodName)) ∈ BIG := gdW4 214 (by decide +kernel) rfl
theorem bw_935 : (Jvm.Cond.code ({ cls := "TollClock$Stays", name := "has", desc := "(I)Z" } : Jvm.MethodName) prog_10_method_3_code (2 : Nat) (Option.some Jvm.ClassFile.FieldType.boolean)) ∈ BIG := gdW4 215 (by decide +kernel) rfl
theorem bw_936 : (Jvm.Cond.methodLink "TollClock" (366 : Nat) ({ cls := "TollClock$Stays", name := "isInForce", desc := "(I)Z" } : Jvm.MethodName)) ∈ BIG := gdW4 216 (by decide +kernel) rfl
theorem bw_937 : (Jvm.Cond.instanceMethod ({ cls := "TollClock$Stays", name := "isInForce", desc := "(I)Z" } : Jvm.MethodName)) ∈ BIG := gdW4 217 (by decide +kernel) rfl
theorem bw_938 : (Jvm.Cond.selects "TollClock$Stays" ({ cls := "TollClock$Stays", name := "isInForce", desc := "(I)Z" } : Jvm.MethodName) ({ cls := "TollClock$Stays", name := "isInForce", desc := "(I)Z" } : Jvm.MethodName)) ∈ BIG := gdW4 218 (by decide +kernel) rfl
theorem bw_939 : (Jvm.Cond.code ({ cls := "TollClock$Stays", name := "isInForce", desc := "(I)Z" } : Jvm.MethodName) prog_10_method_5_code (2 : Nat) (Option.some Jvm.ClassFile.FieldType.boolean)) ∈ BIG := gdW4 219 (by decide +kernel) rfl
theorem bw_940 : (Jvm.Cond.methodLink "TollClockLaw" (66 : Nat) ({ cls := "TollClock", name := "addOccurrence", desc := "(II)I" } : Jvm.MethodName)) ∈ BIG := gdW4 220 (by decide +kernel) rfl
theorem bw_941 : (Jvm.Cond.instanceMethod ({ cls := "TollClock", name := "addOccurrence", desc := "(II)I" } : Jvm.MethodName)) ∈ BIG := gdW4 221 (by decide +kernel) rfl
theorem bw_942 : (Jvm.Cond.selects "TollClock" ({ cls := "TollClock", name := "addOccurrence", desc := "(II)I" } : Jvm.MethodName) ({ cls := "TollClock", name := "addOccurrence", desc := "(II)I" } : Jvm.MethodName)) ∈ BIG := gdW4 222 (by decide +kernel) rfl
theorem bw_943 : (Jvm.Cond.code ({ cls := "TollClock", name := "addOccurrence", desc := "(II)I" } : Jvm.MethodName) prog_1_method_73_code (3 : Nat) (Option.some Jvm.ClassFile.FieldType.int)) ∈ BIG := gdW4 223 (by decide +kernel) rfl
theorem bw_944 : (Jvm.Cond.methodLink "TollClock" (375 : Nat) ({ cls := "TollClock", name := "tryAddOccurrence", desc := "(II)I" } : Jvm.MethodName)) ∈ BIG := gdW4 224 (by decide +kernel) rfl
theorem bw_946 : (Jvm.Cond.instanceMethod ({ cls := "TollClock", name := "tryAddOccurrence", desc := "(II)I" } : Jvm.MethodName)) ∈ BIG := gdW4 226 (by decide +kernel) rfl
theorem bw_947 : (Jvm.Cond.code ({ cls := "TollClock", name := "tryAddOccurrence", desc := "(II)I" } : Jvm.MethodName) prog_1_method_83_code (3 : Nat) (Option.some Jvm.ClassFile.FieldType.int)) ∈ BIG := gdW4 227 (by decide +kernel) rfl
theorem bw_948 : (Jvm.Cond.methodLink "TollClock" (418 : Nat) ({ cls := "TollClock$Claims", name := "keepOccurrence", desc := "(IILTollClock$Rules;)I" } : Jvm.MethodName)) ∈ BIG := gdW4 228 (by decide +kernel) rfl
theorem bw_949 : (Jvm.Cond.instanceMethod ({ cls := "TollClock$Claims", name := "keepOccurrence", desc := "(IILTollClock$Rules;)I" } : Jvm.MethodName)) ∈ BIG := gdW4 229 (by decide +kernel) rfl
theorem bw_950 : (Jvm.Cond.selects "TollClock$Claims" ({ cls := "TollClock$Claims", name := "keepOccurrence", desc := "(IILTollClock$Rules;)I" } : Jvm.MethodName) ({ cls := "TollClock$Claims", name := "keepOccurrence", desc := "(IILTollClock$Rules;)I" } : Jvm.MethodName)) ∈ BIG := gdW4 230 (by decide +kernel) rfl
theorem bw_951 : (Jvm.Cond.code ({ cls := "TollClock$Claims", name := "keepOccurrence", desc := "(IILTollClock$Rules;)I" } : Jvm.MethodName) prog_3_method_4_code (5 : Nat) (Option.some Jvm.ClassFile.FieldType.int)) ∈ BIG := gdW4 231 (by decide +kernel) rfl
theorem bw_952 : (Jvm.Cond.methodLink "TollClock$Claims" (52 : Nat) ({ cls := "TollClock$Deadlines", name := "add", desc := "(IIILTollClock$Rules;)I" } : Jvm.MethodName)) ∈ BIG := gdW4 232 (by decide +kernel) rfl
theorem bw_953 : (Jvm.Cond.methodLink "TollClockLaw" (69 : Nat) ({ cls := "TollClock", name := "linkOccurrences", desc := "(II)I" } : Jvm.MethodName)) ∈ BIG := gdW4 233 (by decide +kernel) rfl
theorem bw_954 : (Jvm.Cond.instanceMethod ({ cls := "TollClock", name := "linkOccurrences", desc := "(II)I" } : Jvm.MethodName)) ∈ BIG := gdW4 234 (by decide +kernel) rfl
theorem bw_955 : (Jvm.Cond.selects "TollClock" ({ cls := "TollClock", name := "linkOccurrences", desc := "(II)I" } : Jvm.MethodName) ({ cls := "TollClock", name := "linkOccurrences", desc := "(II)I" } : Jvm.MethodName)) ∈ BIG := gdW4 235 (by decide +kernel) rfl
theorem bw_956 : (Jvm.Cond.code ({ cls := "TollClock", name := "linkOccurrences", desc := "(II)I" } : Jvm.MethodName) prog_1_method_74_code (3 : Nat) (Option.some Jvm.ClassFile.FieldType.int)) ∈ BIG := gdW4 236 (by decide +kernel) rfl
theorem bw_957 : (Jvm.Cond.methodLink "TollClock" (378 : Nat) ({ cls := "TollClock", name := "tryLinkOccurrences", desc := "(II)I" } : Jvm.MethodName)) ∈ BIG := gdW4 237 (by decide +kernel) rfl
theorem bw_959 : (Jvm.Cond.instanceMethod ({ cls := "TollClock", name := "tryLinkOccurrences", desc := "(II)I" } : Jvm.MethodName)) ∈ BIG := gdW4 239 (by decide +kernel) rfl
theorem bw_960 : (Jvm.Cond.code ({ cls := "TollClock", name := "tryLinkOccurrences", desc := "(II)I" } : Jvm.MethodName) prog_1_method_84_code (3 : Nat) (Option.some Jvm.ClassFile.FieldType.int)) ∈ BIG := gdW5 0 (by decide +kernel) rfl
theorem bw_961 : (Jvm.Cond.methodLink "TollClock" (422 : Nat) ({ cls := "TollClock$Claims", name := "areLinked", desc := "(II)Z" } : Jvm.MethodName)) ∈ BIG := gdW5 1 (by decide +kernel) rfl
theorem bw_962 : (Jvm.Cond.instanceMethod ({ cls := "TollClock$Claims", name := "areLinked", desc := "(II)Z" } : Jvm.MethodName)) ∈ BIG := gdW5 2 (by decide +kernel) rfl
theorem bw_963 : (Jvm.Cond.selects "TollClock$Claims" ({ cls := "TollClock$Claims", name := "areLinked", desc := "(II)Z" } : Jvm.MethodName) ({ cls := "TollClock$Claims", name := "areLinked", desc := "(II)Z" } : Jvm.MethodName)) ∈ BIG := gdW5 3 (by decide +kernel) rfl
theorem bw_964 : (Jvm.Cond.code ({ cls := "TollClock$Claims", name := "areLinked", desc := "(II)Z" } : Jvm.MethodName) prog_3_method_5_code (3 : Nat) (Option.some Jvm.ClassFile.FieldType.boolean)) ∈ BIG := gdW5 4 (by decide +kernel) rfl
theorem bw_965 : (Jvm.Cond.methodLink "TollClock" (425 : Nat) ({ cls := "TollClock$Claims", name := "link", desc := "(II)V" } : Jvm.MethodName)) ∈ BIG := gdW5 5 (by decide +kernel) rfl
theorem bw_966 : (Jvm.Cond.instanceMethod ({ cls := "TollClock$Claims", name := "link", desc := "(II)V" } : Jvm.MethodName)) ∈ BIG := gdW5 6 (by decide +kernel) rfl
theorem bw_967 : (Jvm.Cond.selects "TollClock$Claims" ({ cls := "TollClock$Claims", name := "link", desc := "(II)V" } : Jvm.MethodName) ({ cls := "TollClock$Claims", name := "link", desc := "(II)V" } : Jvm.MethodName)) ∈ BIG := gdW5 7 (by decide +kernel) rfl
theorem bw_968 : (Jvm.Cond.code ({ cls := "TollClock$Claims", name := "link", desc := "(II)V" } : Jvm.MethodName) prog_3_method_6_code (6 : Nat) (Option.none : Option Jvm.ClassFile.FieldType)) ∈ BIG := gdW5 8 (by decide +kernel) rfl
theorem bw_969 : (Jvm.Cond.methodLink "TollClock$Claims" (56 : Nat) ({ cls := "java/lang/Math", name := "min", desc := "(II)I" } : Jvm.MethodName)) ∈ BIG := gdW5 9 (by decide +kernel) rfl
theorem bw_970 : (Jvm.Cond.methodLink "TollClock$Claims" (62 : Nat) ({ cls := "java/lang/Math", name := "max", desc := "(II)I" } : Jvm.MethodName)) ∈ BIG := gdW5 10 (by decide +kernel) rfl
theorem bw_971 : (Jvm.Cond.methodLink "TollClock" (428 : Nat) ({ cls := "TollClock$Claims", name := "countGroups", desc := "()I" } : Jvm.MethodName)) ∈ BIG := gdW5 11 (by decide +kernel) rfl
theorem bw_972 : (Jvm.Cond.instanceMethod ({ cls := "TollClock$Claims", name := "countGroups", desc := "()I" } : Jvm.MethodName)) ∈ BIG := gdW5 12 (by decide +kernel) rfl
theorem bw_973 : (Jvm.Cond.selects "TollClock$Claims" ({ cls := "TollClock$Claims", name := "countGroups", desc := "()I" } : Jvm.MethodName) ({ cls := "TollClock$Claims", name := "countGroups", desc := "()I" } : Jvm.MethodName)) ∈ BIG := gdW5 13 (by decide +kernel) rfl
theorem bw_974 : (Jvm.Cond.code ({ cls := "TollClock$Claims", name := "countGroups", desc := "()I" } : Jvm.MethodName) prog_3_method_7_code (3 : Nat) (Option.some Jvm.ClassFile.FieldType.int)) ∈ BIG := gdW5 14 (by decide +kernel) rfl
theorem bw_975 : (Jvm.Cond.methodLink "TollClockLaw" (72 : Nat) ({ cls := "TollClock", name := "fileClaim", desc := "(II)I" } : Jvm.MethodName)) ∈ BIG := gdW5 15 (by decide +kernel) rfl
theorem bw_976 : (Jvm.Cond.instanceMethod ({ cls := "TollClock", name := "fileClaim", desc := "(II)I" } : Jvm.MethodName)) ∈ BIG := gdW5 16 (by decide +kernel) rfl
theorem bw_977 : (Jvm.Cond.selects "TollClock" ({ cls := "TollClock", name := "fileClaim", desc := "(II)I" } : Jvm.MethodName) ({ cls := "TollClock", name := "fileClaim", desc := "(II)I" } : Jvm.MethodName)) ∈ BIG := gdW5 17 (by decide +kernel) rfl
theorem bw_978 : (Jvm.Cond.code ({ cls := "TollClock", name := "fileClaim", desc := "(II)I" } : Jvm.MethodName) prog_1_method_78_code (3 : Nat) (Option.some Jvm.ClassFile.FieldType.int)) ∈ BIG := gdW5 18 (by decide +kernel) rfl
theorem bw_979 : (Jvm.Cond.methodLink "TollClock" (400 : Nat) ({ cls := "TollClock", name := "tryFileClaim", desc := "(II)I" } : Jvm.MethodName)) ∈ BIG := gdW5 19 (by decide +kernel) rfl
theorem bw_981 : (Jvm.Cond.instanceMethod ({ cls := "TollClock", name := "tryFileClaim", desc := "(II)I" } : Jvm.MethodName)) ∈ BIG := gdW5 21 (by decide +kernel) rfl
theorem bw_982 : (Jvm.Cond.code ({ cls := "TollClock", name := "tryFileClaim", desc := "(II)I" } : Jvm.MethodName) prog_1_method_85_code (3 : Nat) (Option.some Jvm.ClassFile.FieldType.int)) ∈ BIG := gdW5 22 (by decide +kernel) rfl
theorem bw_983 : (Jvm.Cond.methodLink "TollClock" (431 : Nat) ({ cls := "TollClock$Claims", name := "addClaim", desc := "(IIII)I" } : Jvm.MethodName)) ∈ BIG := gdW5 23 (by decide +kernel) rfl
theorem bw_984 : (Jvm.Cond.instanceMethod ({ cls := "TollClock$Claims", name := "addClaim", desc := "(IIII)I" } : Jvm.MethodName)) ∈ BIG := gdW5 24 (by decide +kernel) rfl
theorem bw_985 : (Jvm.Cond.selects "TollClock$Claims" ({ cls := "TollClock$Claims", name := "addClaim", desc := "(IIII)I" } : Jvm.MethodName) ({ cls := "TollClock$Claims", name := "addClaim", desc := "(IIII)I" } : Jvm.MethodName)) ∈ BIG := gdW5 25 (by decide +kernel) rfl
theorem bw_986 : (Jvm.Cond.code ({ cls := "TollClock$Claims", name := "addClaim", desc := "(IIII)I" } : Jvm.MethodName) prog_3_method_11_code (5 : Nat) (Option.some Jvm.ClassFile.FieldType.int)) ∈ BIG := gdW5 26 (by decide +kernel) rfl
theorem bw_987 : (Jvm.Cond.methodLink "TollClockLaw" (75 : Nat) ({ cls := "TollClock", name := "amendClaim", desc := "(II)I" } : Jvm.MethodName)) ∈ BIG := gdW5 27 (by decide +kernel) rfl
theorem bw_988 : (Jvm.Cond.instanceMethod ({ cls := "TollClock", name := "amendClaim", desc := "(II)I" } : Jvm.MethodName)) ∈ BIG := gdW5 28 (by decide +kernel) rfl
theorem bw_989 : (Jvm.Cond.selects "TollClock" ({ cls := "TollClock", name := "amendClaim", desc := "(II)I" } : Jvm.MethodName) ({ cls := "TollClock", name := "amendClaim", desc := "(II)I" } : Jvm.MethodName)) ∈ BIG := gdW5 29 (by decide +kernel) rfl
theorem bw_990 : (Jvm.Cond.code ({ cls := "TollClock", name := "amendClaim", desc := "(II)I" } : Jvm.MethodName) prog_1_method_79_code (3 : Nat) (Option.some Jvm.ClassFile.FieldType.int)) ∈ BIG := gdW5 30 (by decide +kernel) rfl
theorem bw_991 : (Jvm.Cond.methodLink "TollClock" (403 : Nat) ({ cls := "TollClock", name := "tryAmendClaim", desc := "(II)I" } : Jvm.MethodName)) ∈ BIG := gdW5 31 (by decide +kernel) rfl
theorem bw_993 : (Jvm.Cond.instanceMethod ({ cls := "TollClock", name := "tryAmendClaim", desc := "(II)I" } : Jvm.MethodName)) ∈ BIG := gdW5 33 (by decide +kernel) rfl
theorem bw_994 : (Jvm.Cond.code ({ cls := "TollClock", name := "tryAmendClaim", desc := "(II)I" } : Jvm.MethodName) prog_1_method_86_code (3 : Nat) (Option.some Jvm.ClassFile.FieldType.int)) ∈ BIG := gdW5 34 (by decide +kernel) rfl
theorem bw_995 : (Jvm.Cond.methodLink "TollClock" (435 : Nat) ({ cls := "TollClock$Claims", name := "has", desc := "(I)Z" } : Jvm.MethodName)) ∈ BIG := gdW5 35 (by decide +kernel) rfl
theorem bw_996 : (Jvm.Cond.instanceMethod ({ cls := "TollClock$Claims", name := "has", desc := "(I)Z" } : Jvm.MethodName)) ∈ BIG := gdW5 36 (by decide +kernel) rfl
theorem bw_997 : (Jvm.Cond.selects "TollClock$Claims" ({ cls := "TollClock$Claims", name := "has", desc := "(I)Z" } : Jvm.MethodName) ({ cls := "TollClock$Claims", name := "has", desc := "(I)Z" } : Jvm.MethodName)) ∈ BIG := gdW5 37 (by decide +kernel) rfl
theorem bw_998 : (Jvm.Cond.code ({ cls := "TollClock$Claims", name := "has", desc := "(I)Z" } : Jvm.MethodName) prog_3_method_3_code (2 : Nat) (Option.some Jvm.ClassFile.FieldType.boolean)) ∈ BIG := gdW5 38 (by decide +kernel) rfl
theorem bw_999 : (Jvm.Cond.methodLink "TollClockLaw" (78 : Nat) ({ cls := "TollClock", name := "addParty", desc := "()I" } : Jvm.MethodName)) ∈ BIG := gdW5 39 (by decide +kernel) rfl
theorem bw_1000 : (Jvm.Cond.instanceMethod ({ cls := "TollClock", name := "addParty", desc := "()I" } : Jvm.MethodName)) ∈ BIG := gdW5 40 (by decide +kernel) rfl
theorem bw_1001 : (Jvm.Cond.selects "TollClock" ({ cls := "TollClock", name := "addParty", desc := "()I" } : Jvm.MethodName) ({ cls := "TollClock", name := "addParty", desc := "()I" } : Jvm.MethodName)) ∈ BIG := gdW5 41 (by decide +kernel) rfl
theorem bw_1002 : (Jvm.Cond.code ({ cls := "TollClock", name := "addParty", desc := "()I" } : Jvm.MethodName) prog_1_method_3_code (1 : Nat) (Option.some Jvm.ClassFile.FieldType.int)) ∈ BIG := gdW5 42 (by decide +kernel) rfl
theorem bw_1003 : (Jvm.Cond.methodLink "TollClock" (92 : Nat) ({ cls := "TollClock", name := "tryAddParty", desc := "()I" } : Jvm.MethodName)) ∈ BIG := gdW5 43 (by decide +kernel) rfl
theorem bw_1005 : (Jvm.Cond.instanceMethod ({ cls := "TollClock", name := "tryAddParty", desc := "()I" } : Jvm.MethodName)) ∈ BIG := gdW5 45 (by decide +kernel) rfl
theorem bw_1006 : (Jvm.Cond.code ({ cls := "TollClock", name := "tryAddParty", desc := "()I" } : Jvm.MethodName) prog_1_method_9_code (2 : Nat) (Option.some Jvm.ClassFile.FieldType.int)) ∈ BIG := gdW5 46 (by decide +kernel) rfl
theorem bw_1007 : (Jvm.Cond.methodLink "TollClock" (100 : Nat) ({ cls := "TollClock$Text", name := "readName", desc := "([I)I" } : Jvm.MethodName)) ∈ BIG := gdW5 47 (by decide +kernel) rfl
theorem bw_1008 : (Jvm.Cond.instanceMethod ({ cls := "TollClock$Text", name := "readName", desc := "([I)I" } : Jvm.MethodName)) ∈ BIG := gdW5 48 (by decide +kernel) rfl
theorem bw_1009 : (Jvm.Cond.selects "TollClock$Text" ({ cls := "TollClock$Text", name := "readName", desc := "([I)I" } : Jvm.MethodName) ({ cls := "TollClock$Text", name := "readName", desc := "([I)I" } : Jvm.MethodName)) ∈ BIG := gdW5 49 (by decide +kernel) rfl
theorem bw_1010 : (Jvm.Cond.code ({ cls := "TollClock$Text", name := "readName", desc := "([I)I" } : Jvm.MethodName) prog_11_method_7_code (6 : Nat) (Option.some Jvm.ClassFile.FieldType.int)) ∈ BIG := gdW5 50 (by decide +kernel) rfl
theorem bw_1011 : (Jvm.Cond.methodLink "TollClock$Text" (26 : Nat) ({ cls := "TollClock$Text", name := "isHigh", desc := "(I)Z" } : Jvm.MethodName)) ∈ BIG := gdW5 51 (by decide +kernel) rfl
theorem bw_1012 : (Jvm.Cond.static ({ cls := "TollClock$Text", name := "isHigh", desc := "(I)Z" } : Jvm.MethodName)) ∈ BIG := gdW5 52 (by decide +kernel) rfl
theorem bw_1013 : (Jvm.Cond.code ({ cls := "TollClock$Text", name := "isHigh", desc := "(I)Z" } : Jvm.MethodName) prog_11_method_8_code (1 : Nat) (Option.some Jvm.ClassFile.FieldType.boolean)) ∈ BIG := gdW5 53 (by decide +kernel) rfl
theorem bw_1014 : (Jvm.Cond.constant "TollClock$Text" (24 : Nat) (55296 : Int32)) ∈ BIG := gdW5 54 (by decide +kernel) rfl
theorem bw_1015 : (Jvm.Cond.constant "TollClock$Text" (41 : Nat) (56319 : Int32)) ∈ BIG := gdW5 55 (by decide +kernel) rfl
theorem bw_1016 : (Jvm.Cond.methodLink "TollClock$Text" (30 : Nat) ({ cls := "TollClock$Text", name := "signAt", desc := "(I)C" } : Jvm.MethodName)) ∈ BIG := gdW5 56 (by decide +kernel) rfl
theorem bw_1017 : (Jvm.Cond.instanceMethod ({ cls := "TollClock$Text", name := "signAt", desc := "(I)C" } : Jvm.MethodName)) ∈ BIG := gdW5 57 (by decide +kernel) rfl
theorem bw_1018 : (Jvm.Cond.selects "TollClock$Text" ({ cls := "TollClock$Text", name := "signAt", desc := "(I)C" } : Jvm.MethodName) ({ cls := "TollClock$Text", name := "signAt", desc := "(I)C" } : Jvm.MethodName)) ∈ BIG := gdW5 58 (by decide +kernel) rfl
theorem bw_1019 : (Jvm.Cond.code ({ cls := "TollClock$Text", name := "signAt", desc := "(I)C" } : Jvm.MethodName) prog_11_method_6_code (2 : Nat) (Option.some Jvm.ClassFile.FieldType.char)) ∈ BIG := gdW5 59 (by decide +kernel) rfl
theorem bw_1020 : (Jvm.Cond.methodLink "TollClock$Text" (34 : Nat) ({ cls := "TollClock$Text", name := "isLow", desc := "(I)Z" } : Jvm.MethodName)) ∈ BIG := gdW5 60 (by decide +kernel) rfl
theorem bw_1021 : (Jvm.Cond.static ({ cls := "TollClock$Text", name := "isLow", desc := "(I)Z" } : Jvm.MethodName)) ∈ BIG := gdW5 61 (by decide +kernel) rfl
theorem bw_1022 : (Jvm.Cond.code ({ cls := "TollClock$Text", name := "isLow", desc := "(I)Z" } : Jvm.MethodName) prog_11_method_9_code (1 : Nat) (Option.some Jvm.ClassFile.FieldType.boolean)) ∈ BIG := gdW5 62 (by decide +kernel) rfl
theorem bw_1023 : (Jvm.Cond.constant "TollClock$Text" (25 : Nat) (56320 : Int32)) ∈ BIG := gdW5 63 (by decide +kernel) rfl
theorem bw_1024 : (Jvm.Cond.constant "TollClock$Text" (42 : Nat) (57343 : Int32)) ∈ BIG := gdW5 64 (by decide +kernel) rfl
theorem bw_1025 : (Jvm.Cond.methodLink "TollClock$Text" (37 : Nat) ({ cls := "TollClock$Text", name := "joinPair", desc := "(II)I" } : Jvm.MethodName)) ∈ BIG := gdW5 65 (by decide +kernel) rfl
theorem bw_1026 : (Jvm.Cond.static ({ cls := "TollClock$Text", name := "joinPair", desc := "(II)I" } : Jvm.MethodName)) ∈ BIG := gdW5 66 (by decide +kernel) rfl
theorem bw_1027 : (Jvm.Cond.code ({ cls := "TollClock$Text", name := "joinPair", desc := "(II)I" } : Jvm.MethodName) prog_11_method_10_code (2 : Nat) (Option.some Jvm.ClassFile.FieldType.int)) ∈ BIG := gdW5 67 (by decide +kernel) rfl
theorem bw_1028 : (Jvm.Cond.constant "TollClock$Text" (19 : Nat) (65536 : Int32)) ∈ BIG := gdW5 68 (by decide +kernel) rfl
theorem bw_1029 : (Jvm.Cond.methodLink "TollClock" (104 : Nat) ({ cls := "TollClock$Text", name := "clear", desc := "()V" } : Jvm.MethodName)) ∈ BIG := gdW5 69 (by decide +kernel) rfl
theorem bw_1030 : (Jvm.Cond.instanceMethod ({ cls := "TollClock$Text", name := "clear", desc := "()V" } : Jvm.MethodName)) ∈ BIG := gdW5 70 (by decide +kernel) rfl
theorem bw_1031 : (Jvm.Cond.selects "TollClock$Text" ({ cls := "TollClock$Text", name := "clear", desc := "()V" } : Jvm.MethodName) ({ cls := "TollClock$Text", name := "clear", desc := "()V" } : Jvm.MethodName)) ∈ BIG := gdW5 71 (by decide +kernel) rfl
theorem bw_1032 : (Jvm.Cond.code ({ cls := "TollClock$Text", name := "clear", desc := "()V" } : Jvm.MethodName) prog_11_method_2_code (1 : Nat) (Option.none : Option Jvm.ClassFile.FieldType)) ∈ BIG := gdW5 72 (by decide +kernel) rfl
theorem bw_1033 : (Jvm.Cond.methodLink "TollClock" (111 : Nat) ({ cls := "TollClock$Parties", name := "find", desc := "([II)I" } : Jvm.MethodName)) ∈ BIG := gdW5 73 (by decide +kernel) rfl
theorem bw_1034 : (Jvm.Cond.instanceMethod ({ cls := "TollClock$Parties", name := "find", desc := "([II)I" } : Jvm.MethodName)) ∈ BIG := gdW5 74 (by decide +kernel) rfl
theorem bw_1035 : (Jvm.Cond.selects "TollClock$Parties" ({ cls := "TollClock$Parties", name := "find", desc := "([II)I" } : Jvm.MethodName) ({ cls := "TollClock$Parties", name := "find", desc := "([II)I" } : Jvm.MethodName)) ∈ BIG := gdW5 75 (by decide +kernel) rfl
theorem bw_1036 : (Jvm.Cond.code ({ cls := "TollClock$Parties", name := "find", desc := "([II)I" } : Jvm.MethodName) prog_7_method_5_code (4 : Nat) (Option.some Jvm.ClassFile.FieldType.int)) ∈ BIG := gdW5 76 (by decide +kernel) rfl
theorem bw_1037 : (Jvm.Cond.methodLink "TollClock$Parties" (28 : Nat) ({ cls := "TollClock$Parties", name := "isNamed", desc := "(I[II)Z" } : Jvm.MethodName)) ∈ BIG := gdW5 77 (by decide +kernel) rfl
theorem bw_1039 : (Jvm.Cond.instanceMethod ({ cls := "TollClock$Parties", name := "isNamed", desc := "(I[II)Z" } : Jvm.MethodName)) ∈ BIG := gdW5 79 (by decide +kernel) rfl
theorem bw_1040 : (Jvm.Cond.code ({ cls := "TollClock$Parties", name := "isNamed", desc := "(I[II)Z" } : Jvm.MethodName) prog_7_method_6_code (5 : Nat) (Option.some Jvm.ClassFile.FieldType.boolean)) ∈ BIG := gdW5 80 (by decide +kernel) rfl
theorem bw_1041 : (Jvm.Cond.methodLink "TollClock" (143 : Nat) ({ cls := "TollClock$Parties", name := "add", desc := "([II)I" } : Jvm.MethodName)) ∈ BIG := gdW5 81 (by decide +kernel) rfl
theorem bw_1042 : (Jvm.Cond.instanceMethod ({ cls := "TollClock$Parties", name := "add", desc := "([II)I" } : Jvm.MethodName)) ∈ BIG := gdW5 82 (by decide +kernel) rfl
theorem bw_1043 : (Jvm.Cond.selects "TollClock$Parties" ({ cls := "TollClock$Parties", name := "add", desc := "([II)I" } : Jvm.MethodName) ({ cls := "TollClock$Parties", name := "add", desc := "([II)I" } : Jvm.MethodName)) ∈ BIG := gdW5 83 (by decide +kernel) rfl
theorem bw_1044 : (Jvm.Cond.code ({ cls := "TollClock$Parties", name := "add", desc := "([II)I" } : Jvm.MethodName) prog_7_method_4_code (3 : Nat) (Option.some Jvm.ClassFile.FieldType.int)) ∈ BIG := gdW5 84 (by decide +kernel) rfl
theorem bw_1050 : (Jvm.Cond.methodLink "TollClockLaw" (85 : Nat) ({ cls := "TollClock", name := "type", desc := "(C)I" } : Jvm.MethodName)) ∈ BIG := gdW5 90 (by decide +kernel) rfl
theorem bw_1051 : (Jvm.Cond.instanceMethod ({ cls := "TollClock", name := "type", desc := "(C)I" } : Jvm.MethodName)) ∈ BIG := gdW5 91 (by decide +kernel) rfl
theorem bw_1052 : (Jvm.Cond.selects "TollClock" ({ cls := "TollClock", name := "type", desc := "(C)I" } : Jvm.MethodName) ({ cls := "TollClock", name := "type", desc := "(C)I" } : Jvm.MethodName)) ∈ BIG := gdW5 92 (by decide +kernel) rfl
theorem bw_1053 : (Jvm.Cond.code ({ cls := "TollClock", name := "type", desc := "(C)I" } : Jvm.MethodName) prog_1_method_2_code (2 : Nat) (Option.some Jvm.ClassFile.FieldType.int)) ∈ BIG := gdW5 93 (by decide +kernel) rfl
theorem bw_1055 : (Jvm.Cond.methodLink "TollClock" (85 : Nat) ({ cls := "TollClock$Text", name := "append", desc := "(C)V" } : Jvm.MethodName)) ∈ BIG := gdW5 95 (by decide +kernel) rfl
theorem bw_1056 : (Jvm.Cond.instanceMethod ({ cls := "TollClock$Text", name := "append", desc := "(C)V" } : Jvm.MethodName)) ∈ BIG := gdW5 96 (by decide +kernel) rfl
theorem bw_1057 : (Jvm.Cond.selects "TollClock$Text" ({ cls := "TollClock$Text", name := "append", desc := "(C)V" } : Jvm.MethodName) ({ cls := "TollClock$Text", name := "append", desc := "(C)V" } : Jvm.MethodName)) ∈ BIG := gdW5 97 (by decide +kernel) rfl
theorem bw_1058 : (Jvm.Cond.code ({ cls := "TollClock$Text", name := "append", desc := "(C)V" } : Jvm.MethodName) prog_11_method_3_code (2 : Nat) (Option.none : Option Jvm.ClassFile.FieldType)) ∈ BIG := gdW5 98 (by decide +kernel) rfl
theorem bw_1138 : (Jvm.Cond.methodLink "TollClock$Program" (66 : Nat) ({ cls := "java/lang/Math", name := "max", desc := "(II)I" } : Jvm.MethodName)) ∈ BIG := gdW5 178 (by decide +kernel) rfl
theorem bw_1177 : (Jvm.Cond.methodLink "TollClock" (473 : Nat) ({ cls := "TollClock", name := "takeBack", desc := "()V" } : Jvm.MethodName)) ∈ BIG := gdW5 217 (by decide +kernel) rfl
theorem bw_1179 : (Jvm.Cond.instanceMethod ({ cls := "TollClock", name := "takeBack", desc := "()V" } : Jvm.MethodName)) ∈ BIG := gdW5 219 (by decide +kernel) rfl
theorem bw_1180 : (Jvm.Cond.code ({ cls := "TollClock", name := "takeBack", desc := "()V" } : Jvm.MethodName) prog_1_method_102_code (2 : Nat) (Option.none : Option Jvm.ClassFile.FieldType)) ∈ BIG := gdW5 220 (by decide +kernel) rfl
theorem bw_1182 : (Jvm.Cond.methodLink "TollClockLaw" (92 : Nat) ({ cls := "TollClock", name := "undo", desc := "()I" } : Jvm.MethodName)) ∈ BIG := gdW5 222 (by decide +kernel) rfl
theorem bw_1183 : (Jvm.Cond.instanceMethod ({ cls := "TollClock", name := "undo", desc := "()I" } : Jvm.MethodName)) ∈ BIG := gdW5 223 (by decide +kernel) rfl
theorem bw_1184 : (Jvm.Cond.selects "TollClock" ({ cls := "TollClock", name := "undo", desc := "()I" } : Jvm.MethodName) ({ cls := "TollClock", name := "undo", desc := "()I" } : Jvm.MethodName)) ∈ BIG := gdW5 224 (by decide +kernel) rfl
theorem bw_1185 : (Jvm.Cond.code ({ cls := "TollClock", name := "undo", desc := "()I" } : Jvm.MethodName) prog_1_method_99_code (1 : Nat) (Option.some Jvm.ClassFile.FieldType.int)) ∈ BIG := gdW5 225 (by decide +kernel) rfl
theorem bw_1187 : (Jvm.Cond.methodLink "TollClockLaw" (227 : Nat) ({ cls := "TollClockLaw", name := "way", desc := "(I)C" } : Jvm.MethodName)) ∈ BIG := gdW5 227 (by decide +kernel) rfl
theorem bw_1188 : (Jvm.Cond.static ({ cls := "TollClockLaw", name := "way", desc := "(I)C" } : Jvm.MethodName)) ∈ BIG := gdW5 228 (by decide +kernel) rfl
theorem bw_1189 : (Jvm.Cond.code ({ cls := "TollClockLaw", name := "way", desc := "(I)C" } : Jvm.MethodName) method_5_code (1 : Nat) (Option.some Jvm.ClassFile.FieldType.char)) ∈ BIG := gdW5 229 (by decide +kernel) rfl
theorem bw_1190 : (Jvm.Cond.methodLink "TollClockLaw" (265 : Nat) ({ cls := "TollClockLaw", name := "any", desc := "(LTollClock;[II)I" } : Jvm.MethodName)) ∈ BIG := gdW5 230 (by decide +kernel) rfl
theorem bw_1191 : (Jvm.Cond.static ({ cls := "TollClockLaw", name := "any", desc := "(LTollClock;[II)I" } : Jvm.MethodName)) ∈ BIG := gdW5 231 (by decide +kernel) rfl
theorem bw_1192 : (Jvm.Cond.code ({ cls := "TollClockLaw", name := "any", desc := "(LTollClock;[II)I" } : Jvm.MethodName) method_12_code (4 : Nat) (Option.some Jvm.ClassFile.FieldType.int)) ∈ BIG := gdW5 232 (by decide +kernel) rfl
theorem bw_1193 : (Jvm.Cond.methodLink "TollClockLaw" (230 : Nat) ({ cls := "TollClock", name := "deadlines", desc := "()I" } : Jvm.MethodName)) ∈ BIG := gdW5 233 (by decide +kernel) rfl
theorem bw_1194 : (Jvm.Cond.instanceMethod ({ cls := "TollClock", name := "deadlines", desc := "()I" } : Jvm.MethodName)) ∈ BIG := gdW5 234 (by decide +kernel) rfl
theorem bw_1195 : (Jvm.Cond.selects "TollClock" ({ cls := "TollClock", name := "deadlines", desc := "()I" } : Jvm.MethodName) ({ cls := "TollClock", name := "deadlines", desc := "()I" } : Jvm.MethodName)) ∈ BIG := gdW5 235 (by decide +kernel) rfl
theorem bw_1196 : (Jvm.Cond.code ({ cls := "TollClock", name := "deadlines", desc := "()I" } : Jvm.MethodName) prog_1_method_38_code (1 : Nat) (Option.some Jvm.ClassFile.FieldType.int)) ∈ BIG := gdW5 236 (by decide +kernel) rfl
theorem bw_1197 : (Jvm.Cond.methodLink "TollClockLaw" (233 : Nat) ({ cls := "TollClock", name := "today", desc := "()I" } : Jvm.MethodName)) ∈ BIG := gdW5 237 (by decide +kernel) rfl
theorem bw_1198 : (Jvm.Cond.instanceMethod ({ cls := "TollClock", name := "today", desc := "()I" } : Jvm.MethodName)) ∈ BIG := gdW5 238 (by decide +kernel) rfl
theorem bw_1199 : (Jvm.Cond.selects "TollClock" ({ cls := "TollClock", name := "today", desc := "()I" } : Jvm.MethodName) ({ cls := "TollClock", name := "today", desc := "()I" } : Jvm.MethodName)) ∈ BIG := gdW5 239 (by decide +kernel) rfl
theorem bw_1200 : (Jvm.Cond.code ({ cls := "TollClock", name := "today", desc := "()I" } : Jvm.MethodName) prog_1_method_11_code (1 : Nat) (Option.some Jvm.ClassFile.FieldType.int)) ∈ BIG := gdW6 0 (by decide +kernel) rfl
theorem bw_1201 : (Jvm.Cond.methodLink "TollClockLaw" (254 : Nat) ({ cls := "TollClockLaw", name := "areDeadlines", desc := "(LTollClock;)Z" } : Jvm.MethodName)) ∈ BIG := gdW6 1 (by decide +kernel) rfl
theorem bw_1202 : (Jvm.Cond.static ({ cls := "TollClockLaw", name := "areDeadlines", desc := "(LTollClock;)Z" } : Jvm.MethodName)) ∈ BIG := gdW6 2 (by decide +kernel) rfl
theorem bw_1203 : (Jvm.Cond.code ({ cls := "TollClockLaw", name := "areDeadlines", desc := "(LTollClock;)Z" } : Jvm.MethodName) method_13_code (5 : Nat) (Option.some Jvm.ClassFile.FieldType.boolean)) ∈ BIG := gdW6 3 (by decide +kernel) rfl
theorem bw_1207 : (Jvm.Cond.methodLink "TollClockLaw" (211 : Nat) ({ cls := "TollClockLaw", name := "asked", desc := "(LTollClock;IIII)I" } : Jvm.MethodName)) ∈ BIG := gdW6 7 (by decide +kernel) rfl
theorem bw_1208 : (Jvm.Cond.static ({ cls := "TollClockLaw", name := "asked", desc := "(LTollClock;IIII)I" } : Jvm.MethodName)) ∈ BIG := gdW6 8 (by decide +kernel) rfl
theorem bw_1209 : (Jvm.Cond.code ({ cls := "TollClockLaw", name := "asked", desc := "(LTollClock;IIII)I" } : Jvm.MethodName) method_8_code (5 : Nat) (Option.some Jvm.ClassFile.FieldType.int)) ∈ BIG := gdW6 9 (by decide +kernel) rfl
theorem bw_1210 : (Jvm.Cond.methodLink "TollClockLaw" (109 : Nat) ({ cls := "TollClock", name := "due", desc := "(I)I" } : Jvm.MethodName)) ∈ BIG := gdW6 10 (by decide +kernel) rfl
theorem bw_1211 : (Jvm.Cond.instanceMethod ({ cls := "TollClock", name := "due", desc := "(I)I" } : Jvm.MethodName)) ∈ BIG := gdW6 11 (by decide +kernel) rfl
theorem bw_1212 : (Jvm.Cond.selects "TollClock" ({ cls := "TollClock", name := "due", desc := "(I)I" } : Jvm.MethodName) ({ cls := "TollClock", name := "due", desc := "(I)I" } : Jvm.MethodName)) ∈ BIG := gdW6 12 (by decide +kernel) rfl
theorem bw_1213 : (Jvm.Cond.code ({ cls := "TollClock", name := "due", desc := "(I)I" } : Jvm.MethodName) prog_1_method_39_code (2 : Nat) (Option.some Jvm.ClassFile.FieldType.int)) ∈ BIG := gdW6 13 (by decide +kernel) rfl
theorem bw_1214 : (Jvm.Cond.methodLink "TollClock" (259 : Nat) ({ cls := "TollClock", name := "needDeadline", desc := "(I)V" } : Jvm.MethodName)) ∈ BIG := gdW6 14 (by decide +kernel) rfl
theorem bw_1216 : (Jvm.Cond.instanceMethod ({ cls := "TollClock", name := "needDeadline", desc := "(I)V" } : Jvm.MethodName)) ∈ BIG := gdW6 16 (by decide +kernel) rfl
theorem bw_1217 : (Jvm.Cond.code ({ cls := "TollClock", name := "needDeadline", desc := "(I)V" } : Jvm.MethodName) prog_1_method_58_code (2 : Nat) (Option.none : Option Jvm.ClassFile.FieldType)) ∈ BIG := gdW6 17 (by decide +kernel) rfl
theorem bw_1219 : (Jvm.Cond.methodLink "TollClock" (266 : Nat) ({ cls := "TollClock", name := "needSomeDay", desc := "(I)I" } : Jvm.MethodName)) ∈ BIG := gdW6 19 (by decide +kernel) rfl
theorem bw_1220 : (Jvm.Cond.static ({ cls := "TollClock", name := "needSomeDay", desc := "(I)I" } : Jvm.MethodName)) ∈ BIG := gdW6 20 (by decide +kernel) rfl
theorem bw_1221 : (Jvm.Cond.code ({ cls := "TollClock", name := "needSomeDay", desc := "(I)I" } : Jvm.MethodName) prog_1_method_59_code (1 : Nat) (Option.some Jvm.ClassFile.FieldType.int)) ∈ BIG := gdW6 21 (by decide +kernel) rfl
theorem bw_1223 : (Jvm.Cond.methodLink "TollClockLaw" (112 : Nat) ({ cls := "TollClock", name := "dueByMarking", desc := "(I)I" } : Jvm.MethodName)) ∈ BIG := gdW6 23 (by decide +kernel) rfl
theorem bw_1224 : (Jvm.Cond.instanceMethod ({ cls := "TollClock", name := "dueByMarking", desc := "(I)I" } : Jvm.MethodName)) ∈ BIG := gdW6 24 (by decide +kernel) rfl
theorem bw_1225 : (Jvm.Cond.selects "TollClock" ({ cls := "TollClock", name := "dueByMarking", desc := "(I)I" } : Jvm.MethodName) ({ cls := "TollClock", name := "dueByMarking", desc := "(I)I" } : Jvm.MethodName)) ∈ BIG := gdW6 25 (by decide +kernel) rfl
theorem bw_1226 : (Jvm.Cond.code ({ cls := "TollClock", name := "dueByMarking", desc := "(I)I" } : Jvm.MethodName) prog_1_method_40_code (2 : Nat) (Option.some Jvm.ClassFile.FieldType.int)) ∈ BIG := gdW6 26 (by decide +kernel) rfl
theorem bw_1227 : (Jvm.Cond.methodLink "TollClockLaw" (115 : Nat) ({ cls := "TollClock", name := "daysLeft", desc := "(I)I" } : Jvm.MethodName)) ∈ BIG := gdW6 27 (by decide +kernel) rfl
theorem bw_1228 : (Jvm.Cond.instanceMethod ({ cls := "TollClock", name := "daysLeft", desc := "(I)I" } : Jvm.MethodName)) ∈ BIG := gdW6 28 (by decide +kernel) rfl
theorem bw_1229 : (Jvm.Cond.selects "TollClock" ({ cls := "TollClock", name := "daysLeft", desc := "(I)I" } : Jvm.MethodName) ({ cls := "TollClock", name := "daysLeft", desc := "(I)I" } : Jvm.MethodName)) ∈ BIG := gdW6 29 (by decide +kernel) rfl
theorem bw_1230 : (Jvm.Cond.code ({ cls := "TollClock", name := "daysLeft", desc := "(I)I" } : Jvm.MethodName) prog_1_method_41_code (2 : Nat) (Option.some Jvm.ClassFile.FieldType.int)) ∈ BIG := gdW6 30 (by decide +kernel) rfl
theorem bw_1231 : (Jvm.Cond.methodLink "TollClock" (270 : Nat) ({ cls := "TollClock$Deadlines", name := "sumOfParts", desc := "(I)I" } : Jvm.MethodName)) ∈ BIG := gdW6 31 (by decide +kernel) rfl
theorem bw_1232 : (Jvm.Cond.instanceMethod ({ cls := "TollClock$Deadlines", name := "sumOfParts", desc := "(I)I" } : Jvm.MethodName)) ∈ BIG := gdW6 32 (by decide +kernel) rfl
theorem bw_1233 : (Jvm.Cond.selects "TollClock$Deadlines" ({ cls := "TollClock$Deadlines", name := "sumOfParts", desc := "(I)I" } : Jvm.MethodName) ({ cls := "TollClock$Deadlines", name := "sumOfParts", desc := "(I)I" } : Jvm.MethodName)) ∈ BIG := gdW6 33 (by decide +kernel) rfl
theorem bw_1234 : (Jvm.Cond.code ({ cls := "TollClock$Deadlines", name := "sumOfParts", desc := "(I)I" } : Jvm.MethodName) prog_4_method_11_code (4 : Nat) (Option.some Jvm.ClassFile.FieldType.int)) ∈ BIG := gdW6 34 (by decide +kernel) rfl
theorem bw_1235 : (Jvm.Cond.methodLink "TollClock$Deadlines" (71 : Nat) ({ cls := "TollClock$Deadlines", name := "lengthOfPart", desc := "(II)I" } : Jvm.MethodName)) ∈ BIG := gdW6 35 (by decide +kernel) rfl
theorem bw_1236 : (Jvm.Cond.methodLink "TollClockLaw" (118 : Nat) ({ cls := "TollClock", name := "daysLeftByMarking", desc := "(I)I" } : Jvm.MethodName)) ∈ BIG := gdW6 36 (by decide +kernel) rfl
theorem bw_1237 : (Jvm.Cond.instanceMethod ({ cls := "TollClock", name := "daysLeftByMarking", desc := "(I)I" } : Jvm.MethodName)) ∈ BIG := gdW6 37 (by decide +kernel) rfl
theorem bw_1238 : (Jvm.Cond.selects "TollClock" ({ cls := "TollClock", name := "daysLeftByMarking", desc := "(I)I" } : Jvm.MethodName) ({ cls := "TollClock", name := "daysLeftByMarking", desc := "(I)I" } : Jvm.MethodName)) ∈ BIG := gdW6 38 (by decide +kernel) rfl
theorem bw_1239 : (Jvm.Cond.code ({ cls := "TollClock", name := "daysLeftByMarking", desc := "(I)I" } : Jvm.MethodName) prog_1_method_42_code (2 : Nat) (Option.some Jvm.ClassFile.FieldType.int)) ∈ BIG := gdW6 39 (by decide +kernel) rfl
theorem bw_1240 : (Jvm.Cond.methodLink "TollClockLaw" (121 : Nat) ({ cls := "TollClock", name := "stoppedDays", desc := "(III)I" } : Jvm.MethodName)) ∈ BIG := gdW6 40 (by decide +kernel) rfl
theorem bw_1241 : (Jvm.Cond.instanceMethod ({ cls := "TollClock", name := "stoppedDays", desc := "(III)I" } : Jvm.MethodName)) ∈ BIG := gdW6 41 (by decide +kernel) rfl
theorem bw_1242 : (Jvm.Cond.selects "TollClock" ({ cls := "TollClock", name := "stoppedDays", desc := "(III)I" } : Jvm.MethodName) ({ cls := "TollClock", name := "stoppedDays", desc := "(III)I" } : Jvm.MethodName)) ∈ BIG := gdW6 42 (by decide +kernel) rfl
theorem bw_1243 : (Jvm.Cond.code ({ cls := "TollClock", name := "stoppedDays", desc := "(III)I" } : Jvm.MethodName) prog_1_method_68_code (4 : Nat) (Option.some Jvm.ClassFile.FieldType.int)) ∈ BIG := gdW6 43 (by decide +kernel) rfl
theorem bw_1244 : (Jvm.Cond.methodLink "TollClock" (172 : Nat) ({ cls := "TollClock", name := "needRange", desc := "(II)V" } : Jvm.MethodName)) ∈ BIG := gdW6 44 (by decide +kernel) rfl
theorem bw_1245 : (Jvm.Cond.static ({ cls := "TollClock", name := "needRange", desc := "(II)V" } : Jvm.MethodName)) ∈ BIG := gdW6 45 (by decide +kernel) rfl
theorem bw_1246 : (Jvm.Cond.code ({ cls := "TollClock", name := "needRange", desc := "(II)V" } : Jvm.MethodName) prog_1_method_24_code (2 : Nat) (Option.none : Option Jvm.ClassFile.FieldType)) ∈ BIG := gdW6 46 (by decide +kernel) rfl
theorem bw_1248 : (Jvm.Cond.methodLink "TollClockLaw" (125 : Nat) ({ cls := "TollClock", name := "stoppedDaysByMarking", desc := "(III)I" } : Jvm.MethodName)) ∈ BIG := gdW6 48 (by decide +kernel) rfl
theorem bw_1249 : (Jvm.Cond.instanceMethod ({ cls := "TollClock", name := "stoppedDaysByMarking", desc := "(III)I" } : Jvm.MethodName)) ∈ BIG := gdW6 49 (by decide +kernel) rfl
theorem bw_1250 : (Jvm.Cond.selects "TollClock" ({ cls := "TollClock", name := "stoppedDaysByMarking", desc := "(III)I" } : Jvm.MethodName) ({ cls := "TollClock", name := "stoppedDaysByMarking", desc := "(III)I" } : Jvm.MethodName)) ∈ BIG := gdW6 50 (by decide +kernel) rfl
theorem bw_1251 : (Jvm.Cond.code ({ cls := "TollClock", name := "stoppedDaysByMarking", desc := "(III)I" } : Jvm.MethodName) prog_1_method_69_code (4 : Nat) (Option.some Jvm.ClassFile.FieldType.int)) ∈ BIG := gdW6 51 (by decide +kernel) rfl
theorem bw_1252 : (Jvm.Cond.methodLink "TollClockLaw" (128 : Nat) ({ cls := "TollClock", name := "courtDays", desc := "(II)I" } : Jvm.MethodName)) ∈ BIG := gdW6 52 (by decide +kernel) rfl
theorem bw_1253 : (Jvm.Cond.instanceMethod ({ cls := "TollClock", name := "courtDays", desc := "(II)I" } : Jvm.MethodName)) ∈ BIG := gdW6 53 (by decide +kernel) rfl
theorem bw_1254 : (Jvm.Cond.selects "TollClock" ({ cls := "TollClock", name := "courtDays", desc := "(II)I" } : Jvm.MethodName) ({ cls := "TollClock", name := "courtDays", desc := "(II)I" } : Jvm.MethodName)) ∈ BIG := gdW6 54 (by decide +kernel) rfl
theorem bw_1255 : (Jvm.Cond.code ({ cls := "TollClock", name := "courtDays", desc := "(II)I" } : Jvm.MethodName) prog_1_method_17_code (3 : Nat) (Option.some Jvm.ClassFile.FieldType.int)) ∈ BIG := gdW6 55 (by decide +kernel) rfl
theorem bw_1256 : (Jvm.Cond.methodLink "TollClockLaw" (131 : Nat) ({ cls := "TollClock", name := "courtDaysByMarking", desc := "(II)I" } : Jvm.MethodName)) ∈ BIG := gdW6 56 (by decide +kernel) rfl
theorem bw_1257 : (Jvm.Cond.instanceMethod ({ cls := "TollClock", name := "courtDaysByMarking", desc := "(II)I" } : Jvm.MethodName)) ∈ BIG := gdW6 57 (by decide +kernel) rfl
theorem bw_1258 : (Jvm.Cond.selects "TollClock" ({ cls := "TollClock", name := "courtDaysByMarking", desc := "(II)I" } : Jvm.MethodName) ({ cls := "TollClock", name := "courtDaysByMarking", desc := "(II)I" } : Jvm.MethodName)) ∈ BIG := gdW6 58 (by decide +kernel) rfl
theorem bw_1259 : (Jvm.Cond.code ({ cls := "TollClock", name := "courtDaysByMarking", desc := "(II)I" } : Jvm.MethodName) prog_1_method_18_code (3 : Nat) (Option.some Jvm.ClassFile.FieldType.int)) ∈ BIG := gdW6 59 (by decide +kernel) rfl
theorem bw_1260 : (Jvm.Cond.methodLink "TollClockLaw" (134 : Nat) ({ cls := "TollClock", name := "lastDayBefore", desc := "(II)I" } : Jvm.MethodName)) ∈ BIG := gdW6 60 (by decide +kernel) rfl
theorem bw_1261 : (Jvm.Cond.instanceMethod ({ cls := "TollClock", name := "lastDayBefore", desc := "(II)I" } : Jvm.MethodName)) ∈ BIG := gdW6 61 (by decide +kernel) rfl
theorem bw_1262 : (Jvm.Cond.selects "TollClock" ({ cls := "TollClock", name := "lastDayBefore", desc := "(II)I" } : Jvm.MethodName) ({ cls := "TollClock", name := "lastDayBefore", desc := "(II)I" } : Jvm.MethodName)) ∈ BIG := gdW6 62 (by decide +kernel) rfl
theorem bw_1263 : (Jvm.Cond.code ({ cls := "TollClock", name := "lastDayBefore", desc := "(II)I" } : Jvm.MethodName) prog_1_method_30_code (3 : Nat) (Option.some Jvm.ClassFile.FieldType.int)) ∈ BIG := gdW6 63 (by decide +kernel) rfl
theorem bw_1264 : (Jvm.Cond.methodLink "TollClock" (207 : Nat) ({ cls := "TollClock", name := "needRule", desc := "(I)V" } : Jvm.MethodName)) ∈ BIG := gdW6 64 (by decide +kernel) rfl
theorem bw_1265 : (Jvm.Cond.static ({ cls := "TollClock", name := "needRule", desc := "(I)V" } : Jvm.MethodName)) ∈ BIG := gdW6 65 (by decide +kernel) rfl
theorem bw_1266 : (Jvm.Cond.code ({ cls := "TollClock", name := "needRule", desc := "(I)V" } : Jvm.MethodName) prog_1_method_35_code (1 : Nat) (Option.none : Option Jvm.ClassFile.FieldType)) ∈ BIG := gdW6 66 (by decide +kernel) rfl
theorem bw_1268 : (Jvm.Cond.methodLink "TollClock" (160 : Nat) ({ cls := "TollClock", name := "needDay", desc := "(I)V" } : Jvm.MethodName)) ∈ BIG := gdW6 68 (by decide +kernel) rfl
theorem bw_1269 : (Jvm.Cond.static ({ cls := "TollClock", name := "needDay", desc := "(I)V" } : Jvm.MethodName)) ∈ BIG := gdW6 69 (by decide +kernel) rfl
theorem bw_1270 : (Jvm.Cond.code ({ cls := "TollClock", name := "needDay", desc := "(I)V" } : Jvm.MethodName) prog_1_method_23_code (1 : Nat) (Option.none : Option Jvm.ClassFile.FieldType)) ∈ BIG := gdW6 70 (by decide +kernel) rfl
theorem bw_1272 : (Jvm.Cond.methodLink "TollClock" (234 : Nat) ({ cls := "TollClock$Weeks", name := "countBack", desc := "(IIZ)I" } : Jvm.MethodName)) ∈ BIG := gdW6 72 (by decide +kernel) rfl
theorem bw_1273 : (Jvm.Cond.instanceMethod ({ cls := "TollClock$Weeks", name := "countBack", desc := "(IIZ)I" } : Jvm.MethodName)) ∈ BIG := gdW6 73 (by decide +kernel) rfl
theorem bw_1274 : (Jvm.Cond.selects "TollClock$Weeks" ({ cls := "TollClock$Weeks", name := "countBack", desc := "(IIZ)I" } : Jvm.MethodName) ({ cls := "TollClock$Weeks", name := "countBack", desc := "(IIZ)I" } : Jvm.MethodName)) ∈ BIG := gdW6 74 (by decide +kernel) rfl
theorem bw_1275 : (Jvm.Cond.code ({ cls := "TollClock$Weeks", name := "countBack", desc := "(IIZ)I" } : Jvm.MethodName) prog_12_method_15_code (5 : Nat) (Option.some Jvm.ClassFile.FieldType.int)) ∈ BIG := gdW6 75 (by decide +kernel) rfl
theorem bw_1276 : (Jvm.Cond.methodLink "TollClock$Weeks" (118 : Nat) ({ cls := "TollClock$Weeks", name := "dayOfCountBack", desc := "(II)I" } : Jvm.MethodName)) ∈ BIG := gdW6 76 (by decide +kernel) rfl
theorem bw_1278 : (Jvm.Cond.instanceMethod ({ cls := "TollClock$Weeks", name := "dayOfCountBack", desc := "(II)I" } : Jvm.MethodName)) ∈ BIG := gdW6 78 (by decide +kernel) rfl
theorem bw_1279 : (Jvm.Cond.code ({ cls := "TollClock$Weeks", name := "dayOfCountBack", desc := "(II)I" } : Jvm.MethodName) prog_12_method_16_code (6 : Nat) (Option.some Jvm.ClassFile.FieldType.int)) ∈ BIG := gdW6 79 (by decide +kernel) rfl
theorem bw_1280 : (Jvm.Cond.methodLink "TollClock" (237 : Nat) ({ cls := "TollClock", name := "needNotBeforeDayZero", desc := "(I)I" } : Jvm.MethodName)) ∈ BIG := gdW6 80 (by decide +kernel) rfl
theorem bw_1281 : (Jvm.Cond.static ({ cls := "TollClock", name := "needNotBeforeDayZero", desc := "(I)I" } : Jvm.MethodName)) ∈ BIG := gdW6 81 (by decide +kernel) rfl
theorem bw_1282 : (Jvm.Cond.code ({ cls := "TollClock", name := "needNotBeforeDayZero", desc := "(I)I" } : Jvm.MethodName) prog_1_method_36_code (1 : Nat) (Option.some Jvm.ClassFile.FieldType.int)) ∈ BIG := gdW6 82 (by decide +kernel) rfl
theorem bw_1284 : (Jvm.Cond.methodLink "TollClockLaw" (137 : Nat) ({ cls := "TollClock", name := "lastDayBeforeByMarking", desc := "(II)I" } : Jvm.MethodName)) ∈ BIG := gdW6 84 (by decide +kernel) rfl
theorem bw_1285 : (Jvm.Cond.instanceMethod ({ cls := "TollClock", name := "lastDayBeforeByMarking", desc := "(II)I" } : Jvm.MethodName)) ∈ BIG := gdW6 85 (by decide +kernel) rfl
theorem bw_1286 : (Jvm.Cond.selects "TollClock" ({ cls := "TollClock", name := "lastDayBeforeByMarking", desc := "(II)I" } : Jvm.MethodName) ({ cls := "TollClock", name := "lastDayBeforeByMarking", desc := "(II)I" } : Jvm.MethodName)) ∈ BIG := gdW6 86 (by decide +kernel) rfl
theorem bw_1287 : (Jvm.Cond.code ({ cls := "TollClock", name := "lastDayBeforeByMarking", desc := "(II)I" } : Jvm.MethodName) prog_1_method_31_code (3 : Nat) (Option.some Jvm.ClassFile.FieldType.int)) ∈ BIG := gdW6 87 (by decide +kernel) rfl
theorem bw_1288 : (Jvm.Cond.methodLink "TollClock" (240 : Nat) ({ cls := "TollClock$Marks", name := "countBack", desc := "(IIZ)I" } : Jvm.MethodName)) ∈ BIG := gdW6 88 (by decide +kernel) rfl
theorem bw_1289 : (Jvm.Cond.instanceMethod ({ cls := "TollClock$Marks", name := "countBack", desc := "(IIZ)I" } : Jvm.MethodName)) ∈ BIG := gdW6 89 (by decide +kernel) rfl
theorem bw_1290 : (Jvm.Cond.selects "TollClock$Marks" ({ cls := "TollClock$Marks", name := "countBack", desc := "(IIZ)I" } : Jvm.MethodName) ({ cls := "TollClock$Marks", name := "countBack", desc := "(IIZ)I" } : Jvm.MethodName)) ∈ BIG := gdW6 90 (by decide +kernel) rfl
theorem bw_1291 : (Jvm.Cond.code ({ cls := "TollClock$Marks", name := "countBack", desc := "(IIZ)I" } : Jvm.MethodName) prog_6_method_13_code (7 : Nat) (Option.some Jvm.ClassFile.FieldType.int)) ∈ BIG := gdW6 91 (by decide +kernel) rfl
theorem bw_1292 : (Jvm.Cond.methodLink "TollClockLaw" (140 : Nat) ({ cls := "TollClock", name := "isStopped", desc := "(II)Z" } : Jvm.MethodName)) ∈ BIG := gdW6 92 (by decide +kernel) rfl
theorem bw_1293 : (Jvm.Cond.instanceMethod ({ cls := "TollClock", name := "isStopped", desc := "(II)Z" } : Jvm.MethodName)) ∈ BIG := gdW6 93 (by decide +kernel) rfl
theorem bw_1294 : (Jvm.Cond.selects "TollClock" ({ cls := "TollClock", name := "isStopped", desc := "(II)Z" } : Jvm.MethodName) ({ cls := "TollClock", name := "isStopped", desc := "(II)Z" } : Jvm.MethodName)) ∈ BIG := gdW6 94 (by decide +kernel) rfl
theorem bw_1295 : (Jvm.Cond.code ({ cls := "TollClock", name := "isStopped", desc := "(II)Z" } : Jvm.MethodName) prog_1_method_67_code (3 : Nat) (Option.some Jvm.ClassFile.FieldType.boolean)) ∈ BIG := gdW6 95 (by decide +kernel) rfl
theorem bw_1296 : (Jvm.Cond.methodLink "TollClockLaw" (144 : Nat) ({ cls := "TollClock", name := "isCourtDay", desc := "(I)Z" } : Jvm.MethodName)) ∈ BIG := gdW6 96 (by decide +kernel) rfl
theorem bw_1297 : (Jvm.Cond.instanceMethod ({ cls := "TollClock", name := "isCourtDay", desc := "(I)Z" } : Jvm.MethodName)) ∈ BIG := gdW6 97 (by decide +kernel) rfl
theorem bw_1298 : (Jvm.Cond.selects "TollClock" ({ cls := "TollClock", name := "isCourtDay", desc := "(I)Z" } : Jvm.MethodName) ({ cls := "TollClock", name := "isCourtDay", desc := "(I)Z" } : Jvm.MethodName)) ∈ BIG := gdW6 98 (by decide +kernel) rfl
theorem bw_1299 : (Jvm.Cond.code ({ cls := "TollClock", name := "isCourtDay", desc := "(I)Z" } : Jvm.MethodName) prog_1_method_14_code (2 : Nat) (Option.some Jvm.ClassFile.FieldType.boolean)) ∈ BIG := gdW6 99 (by decide +kernel) rfl
theorem bw_1300 : (Jvm.Cond.methodLink "TollClock" (163 : Nat) ({ cls := "TollClock$Calendar", name := "isCourt", desc := "(I)Z" } : Jvm.MethodName)) ∈ BIG := gdW6 100 (by decide +kernel) rfl
theorem bw_1301 : (Jvm.Cond.methodLink "TollClockLaw" (147 : Nat) ({ cls := "TollClock", name := "openAt", desc := "(I)I" } : Jvm.MethodName)) ∈ BIG := gdW6 101 (by decide +kernel) rfl
theorem bw_1302 : (Jvm.Cond.instanceMethod ({ cls := "TollClock", name := "openAt", desc := "(I)I" } : Jvm.MethodName)) ∈ BIG := gdW6 102 (by decide +kernel) rfl
theorem bw_1303 : (Jvm.Cond.selects "TollClock" ({ cls := "TollClock", name := "openAt", desc := "(I)I" } : Jvm.MethodName) ({ cls := "TollClock", name := "openAt", desc := "(I)I" } : Jvm.MethodName)) ∈ BIG := gdW6 103 (by decide +kernel) rfl
theorem bw_1304 : (Jvm.Cond.code ({ cls := "TollClock", name := "openAt", desc := "(I)I" } : Jvm.MethodName) prog_1_method_49_code (3 : Nat) (Option.some Jvm.ClassFile.FieldType.int)) ∈ BIG := gdW6 104 (by decide +kernel) rfl
theorem bw_1305 : (Jvm.Cond.methodLink "TollClock" (297 : Nat) ({ cls := "TollClock", name := "findOpenDues", desc := "()V" } : Jvm.MethodName)) ∈ BIG := gdW6 105 (by decide +kernel) rfl
theorem bw_1307 : (Jvm.Cond.instanceMethod ({ cls := "TollClock", name := "findOpenDues", desc := "()V" } : Jvm.MethodName)) ∈ BIG := gdW6 107 (by decide +kernel) rfl
theorem bw_1308 : (Jvm.Cond.code ({ cls := "TollClock", name := "findOpenDues", desc := "()V" } : Jvm.MethodName) prog_1_method_60_code (2 : Nat) (Option.none : Option Jvm.ClassFile.FieldType)) ∈ BIG := gdW6 108 (by decide +kernel) rfl
theorem bw_1309 : (Jvm.Cond.methodLink "TollClock" (303 : Nat) ({ cls := "TollClock", name := "countOpenAhead", desc := "(I)I" } : Jvm.MethodName)) ∈ BIG := gdW6 109 (by decide +kernel) rfl
theorem bw_1311 : (Jvm.Cond.instanceMethod ({ cls := "TollClock", name := "countOpenAhead", desc := "(I)I" } : Jvm.MethodName)) ∈ BIG := gdW6 111 (by decide +kernel) rfl
theorem bw_1312 : (Jvm.Cond.code ({ cls := "TollClock", name := "countOpenAhead", desc := "(I)I" } : Jvm.MethodName) prog_1_method_61_code (5 : Nat) (Option.some Jvm.ClassFile.FieldType.int)) ∈ BIG := gdW6 112 (by decide +kernel) rfl
theorem bw_1326 : (Jvm.Cond.methodLink "TollClock" (381 : Nat) ({ cls := "TollClock", name := "needOccurrence", desc := "(I)V" } : Jvm.MethodName)) ∈ BIG := gdW6 126 (by decide +kernel) rfl
theorem bw_1328 : (Jvm.Cond.instanceMethod ({ cls := "TollClock", name := "needOccurrence", desc := "(I)V" } : Jvm.MethodName)) ∈ BIG := gdW6 128 (by decide +kernel) rfl
theorem bw_1329 : (Jvm.Cond.code ({ cls := "TollClock", name := "needOccurrence", desc := "(I)V" } : Jvm.MethodName) prog_1_method_87_code (2 : Nat) (Option.none : Option Jvm.ClassFile.FieldType)) ∈ BIG := gdW6 129 (by decide +kernel) rfl
theorem bw_1357 : (Jvm.Cond.methodLink "TollClockLaw" (162 : Nat) ({ cls := "TollClock", name := "sameConduct", desc := "(II)Z" } : Jvm.MethodName)) ∈ BIG := gdW6 157 (by decide +kernel) rfl
theorem bw_1358 : (Jvm.Cond.instanceMethod ({ cls := "TollClock", name := "sameConduct", desc := "(II)Z" } : Jvm.MethodName)) ∈ BIG := gdW6 158 (by decide +kernel) rfl
theorem bw_1359 : (Jvm.Cond.selects "TollClock" ({ cls := "TollClock", name := "sameConduct", desc := "(II)Z" } : Jvm.MethodName) ({ cls := "TollClock", name := "sameConduct", desc := "(II)Z" } : Jvm.MethodName)) ∈ BIG := gdW6 159 (by decide +kernel) rfl
theorem bw_1360 : (Jvm.Cond.code ({ cls := "TollClock", name := "sameConduct", desc := "(II)Z" } : Jvm.MethodName) prog_1_method_75_code (3 : Nat) (Option.some Jvm.ClassFile.FieldType.boolean)) ∈ BIG := gdW6 160 (by decide +kernel) rfl
theorem bw_1361 : (Jvm.Cond.methodLink "TollClockLaw" (165 : Nat) ({ cls := "TollClock", name := "sameConductBySearch", desc := "(II)Z" } : Jvm.MethodName)) ∈ BIG := gdW6 161 (by decide +kernel) rfl
theorem bw_1362 : (Jvm.Cond.instanceMethod ({ cls := "TollClock", name := "sameConductBySearch", desc := "(II)Z" } : Jvm.MethodName)) ∈ BIG := gdW6 162 (by decide +kernel) rfl
theorem bw_1363 : (Jvm.Cond.selects "TollClock" ({ cls := "TollClock", name := "sameConductBySearch", desc := "(II)Z" } : Jvm.MethodName) ({ cls := "TollClock", name := "sameConductBySearch", desc := "(II)Z" } : Jvm.MethodName)) ∈ BIG := gdW6 163 (by decide +kernel) rfl
theorem bw_1364 : (Jvm.Cond.code ({ cls := "TollClock", name := "sameConductBySearch", desc := "(II)Z" } : Jvm.MethodName) prog_1_method_76_code (3 : Nat) (Option.some Jvm.ClassFile.FieldType.boolean)) ∈ BIG := gdW6 164 (by decide +kernel) rfl
theorem bw_1380 : (Jvm.Cond.methodLink "TollClockLaw" (175 : Nat) ({ cls := "TollClock", name := "status", desc := "(I)C" } : Jvm.MethodName)) ∈ BIG := gdW6 180 (by decide +kernel) rfl
theorem bw_1381 : (Jvm.Cond.instanceMethod ({ cls := "TollClock", name := "status", desc := "(I)C" } : Jvm.MethodName)) ∈ BIG := gdW6 181 (by decide +kernel) rfl
theorem bw_1382 : (Jvm.Cond.selects "TollClock" ({ cls := "TollClock", name := "status", desc := "(I)C" } : Jvm.MethodName) ({ cls := "TollClock", name := "status", desc := "(I)C" } : Jvm.MethodName)) ∈ BIG := gdW6 182 (by decide +kernel) rfl
theorem bw_1383 : (Jvm.Cond.code ({ cls := "TollClock", name := "status", desc := "(I)C" } : Jvm.MethodName) prog_1_method_48_code (2 : Nat) (Option.some Jvm.ClassFile.FieldType.char)) ∈ BIG := gdW6 183 (by decide +kernel) rfl
theorem bw_1441 : (Jvm.Cond.methodLink "TollClockLaw" (258 : Nat) ({ cls := "TollClockLaw", name := "isOrdered", desc := "(LTollClock;)Z" } : Jvm.MethodName)) ∈ BIG := gdW7 1 (by decide +kernel) rfl
theorem bw_1442 : (Jvm.Cond.static ({ cls := "TollClockLaw", name := "isOrdered", desc := "(LTollClock;)Z" } : Jvm.MethodName)) ∈ BIG := gdW7 2 (by decide +kernel) rfl
theorem bw_1443 : (Jvm.Cond.code ({ cls := "TollClockLaw", name := "isOrdered", desc := "(LTollClock;)Z" } : Jvm.MethodName) method_14_code (8 : Nat) (Option.some Jvm.ClassFile.FieldType.boolean)) ∈ BIG := gdW7 3 (by decide +kernel) rfl
theorem bw_1444 : (Jvm.Cond.methodLink "TollClockLaw" (239 : Nat) ({ cls := "TollClock", name := "overdue", desc := "()I" } : Jvm.MethodName)) ∈ BIG := gdW7 4 (by decide +kernel) rfl
theorem bw_1445 : (Jvm.Cond.instanceMethod ({ cls := "TollClock", name := "overdue", desc := "()I" } : Jvm.MethodName)) ∈ BIG := gdW7 5 (by decide +kernel) rfl
theorem bw_1446 : (Jvm.Cond.selects "TollClock" ({ cls := "TollClock", name := "overdue", desc := "()I" } : Jvm.MethodName) ({ cls := "TollClock", name := "overdue", desc := "()I" } : Jvm.MethodName)) ∈ BIG := gdW7 6 (by decide +kernel) rfl
theorem bw_1447 : (Jvm.Cond.code ({ cls := "TollClock", name := "overdue", desc := "()I" } : Jvm.MethodName) prog_1_method_50_code (3 : Nat) (Option.some Jvm.ClassFile.FieldType.int)) ∈ BIG := gdW7 7 (by decide +kernel) rfl
theorem bw_1448 : (Jvm.Cond.methodLink "TollClockLaw" (269 : Nat) ({ cls := "TollClockLaw", name := "areRanges", desc := "(LTollClock;[II)Z" } : Jvm.MethodName)) ∈ BIG := gdW7 8 (by decide +kernel) rfl
theorem bw_1449 : (Jvm.Cond.static ({ cls := "TollClockLaw", name := "areRanges", desc := "(LTollClock;[II)Z" } : Jvm.MethodName)) ∈ BIG := gdW7 9 (by decide +kernel) rfl
theorem bw_1450 : (Jvm.Cond.code ({ cls := "TollClockLaw", name := "areRanges", desc := "(LTollClock;[II)Z" } : Jvm.MethodName) method_15_code (10 : Nat) (Option.some Jvm.ClassFile.FieldType.boolean)) ∈ BIG := gdW7 10 (by decide +kernel) rfl
theorem bw_1451 : (Jvm.Cond.methodLink "TollClockLaw" (281 : Nat) ({ cls := "TollClockLaw", name := "isConduct", desc := "(LTollClock;)Z" } : Jvm.MethodName)) ∈ BIG := gdW7 11 (by decide +kernel) rfl
theorem bw_1452 : (Jvm.Cond.static ({ cls := "TollClockLaw", name := "isConduct", desc := "(LTollClock;)Z" } : Jvm.MethodName)) ∈ BIG := gdW7 12 (by decide +kernel) rfl
theorem bw_1453 : (Jvm.Cond.code ({ cls := "TollClockLaw", name := "isConduct", desc := "(LTollClock;)Z" } : Jvm.MethodName) method_16_code (4 : Nat) (Option.some Jvm.ClassFile.FieldType.boolean)) ∈ BIG := gdW7 13 (by decide +kernel) rfl
theorem bw_1454 : (Jvm.Cond.methodLink "TollClockLaw" (245 : Nat) ({ cls := "TollClockLaw", name := "print", desc := "(LTollClock;)I" } : Jvm.MethodName)) ∈ BIG := gdW7 14 (by decide +kernel) rfl
theorem bw_1455 : (Jvm.Cond.static ({ cls := "TollClockLaw", name := "print", desc := "(LTollClock;)I" } : Jvm.MethodName)) ∈ BIG := gdW7 15 (by decide +kernel) rfl
theorem bw_1456 : (Jvm.Cond.code ({ cls := "TollClockLaw", name := "print", desc := "(LTollClock;)I" } : Jvm.MethodName) method_17_code (3 : Nat) (Option.some Jvm.ClassFile.FieldType.int)) ∈ BIG := gdW7 16 (by decide +kernel) rfl
theorem bw_1457 : (Jvm.Cond.methodLink "TollClockLaw" (242 : Nat) ({ cls := "TollClock", name := "staysInForce", desc := "()I" } : Jvm.MethodName)) ∈ BIG := gdW7 17 (by decide +kernel) rfl
theorem bw_1458 : (Jvm.Cond.instanceMethod ({ cls := "TollClock", name := "staysInForce", desc := "()I" } : Jvm.MethodName)) ∈ BIG := gdW7 18 (by decide +kernel) rfl
theorem bw_1459 : (Jvm.Cond.selects "TollClock" ({ cls := "TollClock", name := "staysInForce", desc := "()I" } : Jvm.MethodName) ({ cls := "TollClock", name := "staysInForce", desc := "()I" } : Jvm.MethodName)) ∈ BIG := gdW7 19 (by decide +kernel) rfl
theorem bw_1460 : (Jvm.Cond.code ({ cls := "TollClock", name := "staysInForce", desc := "()I" } : Jvm.MethodName) prog_1_method_66_code (1 : Nat) (Option.some Jvm.ClassFile.FieldType.int)) ∈ BIG := gdW7 20 (by decide +kernel) rfl
theorem bw_1461 : (Jvm.Cond.methodLink "TollClock" (351 : Nat) ({ cls := "TollClock$Stays", name := "countInForce", desc := "()I" } : Jvm.MethodName)) ∈ BIG := gdW7 21 (by decide +kernel) rfl
theorem bw_1462 : (Jvm.Cond.instanceMethod ({ cls := "TollClock$Stays", name := "countInForce", desc := "()I" } : Jvm.MethodName)) ∈ BIG := gdW7 22 (by decide +kernel) rfl
theorem bw_1463 : (Jvm.Cond.selects "TollClock$Stays" ({ cls := "TollClock$Stays", name := "countInForce", desc := "()I" } : Jvm.MethodName) ({ cls := "TollClock$Stays", name := "countInForce", desc := "()I" } : Jvm.MethodName)) ∈ BIG := gdW7 23 (by decide +kernel) rfl
theorem bw_1464 : (Jvm.Cond.code ({ cls := "TollClock$Stays", name := "countInForce", desc := "()I" } : Jvm.MethodName) prog_10_method_6_code (3 : Nat) (Option.some Jvm.ClassFile.FieldType.int)) ∈ BIG := gdW7 24 (by decide +kernel) rfl
theorem bw_1465 : (Jvm.Cond.methodLink "TollClock$Stays" (34 : Nat) ({ cls := "TollClock$Stays", name := "isInForce", desc := "(I)Z" } : Jvm.MethodName)) ∈ BIG := gdW7 25 (by decide +kernel) rfl
theorem bw_1466 : (Jvm.Cond.methodLink "TollClockLaw" (273 : Nat) ({ cls := "TollClockLaw", name := "isStayed", desc := "(LTollClock;I)Z" } : Jvm.MethodName)) ∈ BIG := gdW7 26 (by decide +kernel) rfl
theorem bw_1467 : (Jvm.Cond.static ({ cls := "TollClockLaw", name := "isStayed", desc := "(LTollClock;I)Z" } : Jvm.MethodName)) ∈ BIG := gdW7 27 (by decide +kernel) rfl
theorem bw_1468 : (Jvm.Cond.code ({ cls := "TollClockLaw", name := "isStayed", desc := "(LTollClock;I)Z" } : Jvm.MethodName) method_18_code (9 : Nat) (Option.some Jvm.ClassFile.FieldType.boolean)) ∈ BIG := gdW7 28 (by decide +kernel) rfl
theorem bw_1469 : (Jvm.Cond.methodLink "TollClockLaw" (277 : Nat) ({ cls := "TollClockLaw", name := "isUndone", desc := "(LTollClock;[III)Z" } : Jvm.MethodName)) ∈ BIG := gdW7 29 (by decide +kernel) rfl
theorem bw_1470 : (Jvm.Cond.static ({ cls := "TollClockLaw", name := "isUndone", desc := "(LTollClock;[III)Z" } : Jvm.MethodName)) ∈ BIG := gdW7 30 (by decide +kernel) rfl
theorem bw_1471 : (Jvm.Cond.code ({ cls := "TollClockLaw", name := "isUndone", desc := "(LTollClock;[III)Z" } : Jvm.MethodName) method_20_code (5 : Nat) (Option.some Jvm.ClassFile.FieldType.boolean)) ∈ BIG := gdW7 31 (by decide +kernel) rfl
theorem nw_38 : (Jvm.Cond.methodLinkNest "TollClock" (11 : Nat) ({ cls := "TollClock$Text", name := "<init>", desc := "()V" } : Jvm.MethodName) "TollClock") ∈ NW := gdN1 38 (by decide +kernel) rfl
theorem nw_44 : (Jvm.Cond.fieldLinkNest "TollClock" (75 : Nat) "TollClock$Text" "length" "I" "TollClock") ∈ NW := gdN1 44 (by decide +kernel) rfl
theorem nw_54 : (Jvm.Cond.methodLinkNest "TollClock" (25 : Nat) ({ cls := "TollClock$Docket", name := "<init>", desc := "()V" } : Jvm.MethodName) "TollClock") ∈ NW := gdN1 54 (by decide +kernel) rfl
theorem nw_60 : (Jvm.Cond.methodLinkNest "TollClock$Docket" (9 : Nat) ({ cls := "TollClock$Parties", name := "<init>", desc := "()V" } : Jvm.MethodName) "TollClock") ∈ NW := gdN1 60 (by decide +kernel) rfl
theorem nw_69 : (Jvm.Cond.fieldLinkNest "TollClock" (122 : Nat) "TollClock$Parties" "count" "I" "TollClock") ∈ NW := gdN1 69 (by decide +kernel) rfl
theorem nw_80 : (Jvm.Cond.methodLinkNest "TollClock$Docket" (18 : Nat) ({ cls := "TollClock$Calendar", name := "<init>", desc := "()V" } : Jvm.MethodName) "TollClock") ∈ NW := gdN1 80 (by decide +kernel) rfl
theorem nw_85 : (Jvm.Cond.fieldLinkNest "TollClock" (152 : Nat) "TollClock$Calendar" "today" "I" "TollClock") ∈ NW := gdN1 85 (by decide +kernel) rfl
theorem nw_87 : (Jvm.Cond.fieldLinkNest "TollClock$Marks" (36 : Nat) "TollClock$Calendar" "holidays" "[I" "TollClock") ∈ NW := gdN1 87 (by decide +kernel) rfl
theorem nw_88 : (Jvm.Cond.fieldLinkNest "TollClock$Marks" (30 : Nat) "TollClock$Calendar" "holidayCount" "I" "TollClock") ∈ NW := gdN1 88 (by decide +kernel) rfl
theorem nw_90 : (Jvm.Cond.fieldLinkNest "TollClock" (187 : Nat) "TollClock$Calendar" "holidayCount" "I" "TollClock") ∈ NW := gdN1 90 (by decide +kernel) rfl
theorem nw_105 : (Jvm.Cond.fieldLinkNest "TollClock$Deadlines" (64 : Nat) "TollClock$Rules" "lengths" "[I" "TollClock") ∈ NW := gdN1 105 (by decide +kernel) rfl
theorem nw_106 : (Jvm.Cond.fieldLinkNest "TollClock" (214 : Nat) "TollClock$Rules" "lengths" "[I" "TollClock") ∈ NW := gdN1 106 (by decide +kernel) rfl
theorem nw_108 : (Jvm.Cond.fieldLinkNest "TollClock$Deadlines" (61 : Nat) "TollClock$Rules" "inCourtDays" "[Z" "TollClock") ∈ NW := gdN1 108 (by decide +kernel) rfl
theorem nw_109 : (Jvm.Cond.fieldLinkNest "TollClock" (217 : Nat) "TollClock$Rules" "inCourtDays" "[Z" "TollClock") ∈ NW := gdN1 109 (by decide +kernel) rfl
theorem nw_111 : (Jvm.Cond.fieldLinkNest "TollClock" (231 : Nat) "TollClock$Rules" "serviceDays" "[I" "TollClock") ∈ NW := gdN1 111 (by decide +kernel) rfl
theorem nw_122 : (Jvm.Cond.methodLinkNest "TollClock$Docket" (32 : Nat) ({ cls := "TollClock$Deadlines", name := "<init>", desc := "()V" } : Jvm.MethodName) "TollClock") ∈ NW := gdN1 122 (by decide +kernel) rfl
theorem nw_127 : (Jvm.Cond.fieldLinkNest "TollClock$Weeks" (35 : Nat) "TollClock$Deadlines" "parties" "[I" "TollClock") ∈ NW := gdN1 127 (by decide +kernel) rfl
theorem nw_128 : (Jvm.Cond.fieldLinkNest "TollClock$Marks" (48 : Nat) "TollClock$Deadlines" "parties" "[I" "TollClock") ∈ NW := gdN1 128 (by decide +kernel) rfl
theorem nw_131 : (Jvm.Cond.fieldLinkNest "TollClock$Weeks" (40 : Nat) "TollClock$Deadlines" "rules" "[I" "TollClock") ∈ NW := gdN1 131 (by decide +kernel) rfl
theorem nw_132 : (Jvm.Cond.fieldLinkNest "TollClock$Marks" (53 : Nat) "TollClock$Deadlines" "rules" "[I" "TollClock") ∈ NW := gdN1 132 (by decide +kernel) rfl
theorem nw_134 : (Jvm.Cond.fieldLinkNest "TollClock$Weeks" (70 : Nat) "TollClock$Deadlines" "startDays" "[I" "TollClock") ∈ NW := gdN1 134 (by decide +kernel) rfl
theorem nw_135 : (Jvm.Cond.fieldLinkNest "TollClock$Marks" (99 : Nat) "TollClock$Deadlines" "startDays" "[I" "TollClock") ∈ NW := gdN1 135 (by decide +kernel) rfl
theorem nw_138 : (Jvm.Cond.fieldLinkNest "TollClock$Weeks" (73 : Nat) "TollClock$Deadlines" "partCounts" "[I" "TollClock") ∈ NW := gdN1 138 (by decide +kernel) rfl
theorem nw_139 : (Jvm.Cond.fieldLinkNest "TollClock$Marks" (96 : Nat) "TollClock$Deadlines" "partCounts" "[I" "TollClock") ∈ NW := gdN1 139 (by decide +kernel) rfl
theorem nw_142 : (Jvm.Cond.fieldLinkNest "TollClock" (323 : Nat) "TollClock$Deadlines" "consents" "[I" "TollClock") ∈ NW := gdN1 142 (by decide +kernel) rfl
theorem nw_144 : (Jvm.Cond.fieldLinkNest "TollClock" (326 : Nat) "TollClock$Deadlines" "consentDays" "[I" "TollClock") ∈ NW := gdN1 144 (by decide +kernel) rfl
theorem nw_146 : (Jvm.Cond.fieldLinkNest "TollClock" (332 : Nat) "TollClock$Deadlines" "orders" "[I" "TollClock") ∈ NW := gdN1 146 (by decide +kernel) rfl
theorem nw_150 : (Jvm.Cond.fieldLinkNest "TollClock" (293 : Nat) "TollClock$Deadlines" "states" "[C" "TollClock") ∈ NW := gdN1 150 (by decide +kernel) rfl
theorem nw_152 : (Jvm.Cond.fieldLinkNest "TollClock$Claims" (51 : Nat) "TollClock$Deadlines" "count" "I" "TollClock") ∈ NW := gdN1 152 (by decide +kernel) rfl
theorem nw_153 : (Jvm.Cond.fieldLinkNest "TollClock" (256 : Nat) "TollClock$Deadlines" "count" "I" "TollClock") ∈ NW := gdN1 153 (by decide +kernel) rfl
theorem nw_181 : (Jvm.Cond.methodLinkNest "TollClock$Docket" (39 : Nat) ({ cls := "TollClock$Stays", name := "<init>", desc := "()V" } : Jvm.MethodName) "TollClock") ∈ NW := gdN1 181 (by decide +kernel) rfl
theorem nw_188 : (Jvm.Cond.fieldLinkNest "TollClock$Weeks" (47 : Nat) "TollClock$Stays" "orderDays" "[I" "TollClock") ∈ NW := gdN1 188 (by decide +kernel) rfl
theorem nw_189 : (Jvm.Cond.fieldLinkNest "TollClock$Marks" (60 : Nat) "TollClock$Stays" "orderDays" "[I" "TollClock") ∈ NW := gdN1 189 (by decide +kernel) rfl
theorem nw_190 : (Jvm.Cond.fieldLinkNest "TollClock" (372 : Nat) "TollClock$Stays" "orderDays" "[I" "TollClock") ∈ NW := gdN1 190 (by decide +kernel) rfl
theorem nw_192 : (Jvm.Cond.fieldLinkNest "TollClock$Weeks" (50 : Nat) "TollClock$Stays" "lastDays" "[I" "TollClock") ∈ NW := gdN1 192 (by decide +kernel) rfl
theorem nw_193 : (Jvm.Cond.fieldLinkNest "TollClock$Marks" (63 : Nat) "TollClock$Stays" "lastDays" "[I" "TollClock") ∈ NW := gdN1 193 (by decide +kernel) rfl
theorem nw_194 : (Jvm.Cond.fieldLinkNest "TollClock" (369 : Nat) "TollClock$Stays" "lastDays" "[I" "TollClock") ∈ NW := gdN1 194 (by decide +kernel) rfl
theorem nw_195 : (Jvm.Cond.fieldLinkNest "TollClock$Weeks" (30 : Nat) "TollClock$Stays" "count" "I" "TollClock") ∈ NW := gdN1 195 (by decide +kernel) rfl
theorem nw_197 : (Jvm.Cond.fieldLinkNest "TollClock$Marks" (43 : Nat) "TollClock$Stays" "count" "I" "TollClock") ∈ NW := gdN1 197 (by decide +kernel) rfl
theorem nw_198 : (Jvm.Cond.fieldLinkNest "TollClock" (361 : Nat) "TollClock$Stays" "count" "I" "TollClock") ∈ NW := gdN1 198 (by decide +kernel) rfl
theorem nw_212 : (Jvm.Cond.methodLinkNest "TollClock$Docket" (46 : Nat) ({ cls := "TollClock$Claims", name := "<init>", desc := "()V" } : Jvm.MethodName) "TollClock") ∈ NW := gdN1 212 (by decide +kernel) rfl
theorem nw_217 : (Jvm.Cond.methodLinkNest "TollClock$Claims" (11 : Nat) ({ cls := "TollClock$Deadlines", name := "<init>", desc := "()V" } : Jvm.MethodName) "TollClock") ∈ NW := gdN1 217 (by decide +kernel) rfl
theorem nw_219 : (Jvm.Cond.fieldLinkNest "TollClock" (397 : Nat) "TollClock$Claims" "periods" "LTollClock$Deadlines;" "TollClock") ∈ NW := gdN1 219 (by decide +kernel) rfl
theorem nw_223 : (Jvm.Cond.fieldLinkNest "TollClock" (416 : Nat) "TollClock$Claims" "parties" "[I" "TollClock") ∈ NW := gdN1 223 (by decide +kernel) rfl
theorem nw_229 : (Jvm.Cond.fieldLinkNest "TollClock" (415 : Nat) "TollClock$Claims" "count" "I" "TollClock") ∈ NW := gdN1 229 (by decide +kernel) rfl
theorem nw_248 : (Jvm.Cond.fieldLinkNest "TollClock" (107 : Nat) "TollClock$Docket" "parties" "LTollClock$Parties;" "TollClock") ∈ NW := gdN2 8 (by decide +kernel) rfl
theorem nw_250 : (Jvm.Cond.fieldLinkNest "TollClock" (36 : Nat) "TollClock$Docket" "calendar" "LTollClock$Calendar;" "TollClock") ∈ NW := gdN2 10 (by decide +kernel) rfl
theorem nw_252 : (Jvm.Cond.fieldLinkNest "TollClock" (210 : Nat) "TollClock$Docket" "rules" "LTollClock$Rules;" "TollClock") ∈ NW := gdN2 12 (by decide +kernel) rfl
theorem nw_254 : (Jvm.Cond.fieldLinkNest "TollClock" (252 : Nat) "TollClock$Docket" "deadlines" "LTollClock$Deadlines;" "TollClock") ∈ NW := gdN2 14 (by decide +kernel) rfl
theorem nw_256 : (Jvm.Cond.fieldLinkNest "TollClock" (40 : Nat) "TollClock$Docket" "stays" "LTollClock$Stays;" "TollClock") ∈ NW := gdN2 16 (by decide +kernel) rfl
theorem nw_258 : (Jvm.Cond.fieldLinkNest "TollClock" (384 : Nat) "TollClock$Docket" "claims" "LTollClock$Claims;" "TollClock") ∈ NW := gdN2 18 (by decide +kernel) rfl
theorem nw_323 : (Jvm.Cond.methodLinkNest "TollClock" (63 : Nat) ({ cls := "TollClock$Program", name := "<init>", desc := "()V" } : Jvm.MethodName) "TollClock") ∈ NW := gdN2 83 (by decide +kernel) rfl
theorem nw_496 : (Jvm.Cond.methodLinkNest "TollClock$Marks" (68 : Nat) ({ cls := "TollClock", name := "isDay", desc := "(I)Z" } : Jvm.MethodName) "TollClock") ∈ NW := gdN3 16 (by decide +kernel) rfl
theorem nw_704 : (Jvm.Cond.castable "java/lang/IndexOutOfBoundsException" "java/lang/IndexOutOfBoundsException") ∈ NW := gdN3 224 (by decide +kernel) rfl
theorem nw_717 : (Jvm.Cond.castable "java/lang/IllegalArgumentException" "java/lang/IllegalArgumentException") ∈ NW := gdN3 237 (by decide +kernel) rfl
theorem nw_733 : (Jvm.Cond.castable "java/lang/IllegalStateException" "java/lang/IllegalStateException") ∈ NW := gdN4 13 (by decide +kernel) rfl
theorem nw_749 : (Jvm.Cond.castable "java/lang/UnsupportedOperationException" "java/lang/UnsupportedOperationException") ∈ NW := gdN4 29 (by decide +kernel) rfl
theorem nw_765 : (Jvm.Cond.castable "java/util/NoSuchElementException" "java/util/NoSuchElementException") ∈ NW := gdN4 45 (by decide +kernel) rfl
theorem bs_0 : Cond.selects "TollClock" ⟨"TollClock", "deadlineAgrees", "(I)Z"⟩ ⟨"TollClock", "deadlineAgrees", "(I)Z"⟩ ∈ BIG := goodS 0 (by decide +kernel) rfl
theorem bs_1 : Cond.selects "TollClock$Weeks" ⟨"TollClock$Weeks", "takeStays", "(LTollClock$Deadlines;I)V"⟩ ⟨"TollClock$Weeks", "takeStays", "(LTollClock$Deadlines;I)V"⟩ ∈ BIG := goodS 1 (by decide +kernel) rfl
theorem bs_2 : Cond.selects "TollClock$Weeks" ⟨"TollClock$Weeks", "joinRange", "(II)V"⟩ ⟨"TollClock$Weeks", "joinRange", "(II)V"⟩ ∈ BIG := goodS 2 (by decide +kernel) rfl
theorem bs_3 : Cond.selects "TollClock$Weeks" ⟨"TollClock$Weeks", "dayOfCount", "(IIZ)I"⟩ ⟨"TollClock$Weeks", "dayOfCount", "(IIZ)I"⟩ ∈ BIG := goodS 3 (by decide +kernel) rfl
theorem bs_4 : Cond.selects "TollClock$Weeks" ⟨"TollClock$Weeks", "lastDayOfGap", "(I)I"⟩ ⟨"TollClock$Weeks", "lastDayOfGap", "(I)I"⟩ ∈ BIG := goodS 4 (by decide +kernel) rfl
theorem bs_5 : Cond.selects "TollClock$Weeks" ⟨"TollClock$Weeks", "countDays", "(IIZ)I"⟩ ⟨"TollClock$Weeks", "countDays", "(IIZ)I"⟩ ∈ BIG := goodS 5 (by decide +kernel) rfl
theorem bs_6 : Cond.selects "TollClock$Weeks" ⟨"TollClock$Weeks", "courtDayOfCount", "(II)I"⟩ ⟨"TollClock$Weeks", "courtDayOfCount", "(II)I"⟩ ∈ BIG := goodS 6 (by decide +kernel) rfl
theorem bs_7 : Cond.selects "TollClock$Calendar" ⟨"TollClock$Calendar", "placeOf", "(I)I"⟩ ⟨"TollClock$Calendar", "placeOf", "(I)I"⟩ ∈ BIG := goodS 7 (by decide +kernel) rfl
theorem bs_8 : Cond.selects "TollClock$Weeks" ⟨"TollClock$Weeks", "dayBehindRange", "(II)I"⟩ ⟨"TollClock$Weeks", "dayBehindRange", "(II)I"⟩ ∈ BIG := goodS 8 (by decide +kernel) rfl
theorem bs_9 : Cond.selects "TollClock$Weeks" ⟨"TollClock$Weeks", "moveEnd", "(I)I"⟩ ⟨"TollClock$Weeks", "moveEnd", "(I)I"⟩ ∈ BIG := goodS 9 (by decide +kernel) rfl
theorem bs_10 : Cond.selects "TollClock$Weeks" ⟨"TollClock$Weeks", "skipRange", "(I)I"⟩ ⟨"TollClock$Weeks", "skipRange", "(I)I"⟩ ∈ BIG := goodS 10 (by decide +kernel) rfl
theorem bs_11 : Cond.selects "TollClock$Marks" ⟨"TollClock$Marks", "walk", "(LTollClock$Deadlines;II)V"⟩ ⟨"TollClock$Marks", "walk", "(LTollClock$Deadlines;II)V"⟩ ∈ BIG := goodS 11 (by decide +kernel) rfl
theorem bs_12 : Cond.selects "TollClock$Marks" ⟨"TollClock$Marks", "markHolidays", "()V"⟩ ⟨"TollClock$Marks", "markHolidays", "()V"⟩ ∈ BIG := goodS 12 (by decide +kernel) rfl
theorem bs_13 : Cond.selects "TollClock$Marks" ⟨"TollClock$Marks", "markStays", "(LTollClock$Deadlines;I)V"⟩ ⟨"TollClock$Marks", "markStays", "(LTollClock$Deadlines;I)V"⟩ ∈ BIG := goodS 13 (by decide +kernel) rfl
theorem bs_14 : Cond.selects "TollClock$Marks" ⟨"TollClock$Marks", "isCourt", "(I)Z"⟩ ⟨"TollClock$Marks", "isCourt", "(I)Z"⟩ ∈ BIG := goodS 14 (by decide +kernel) rfl
theorem bs_15 : Cond.selects "TollClock$Weeks" ⟨"TollClock$Weeks", "countFree", "(IIZ)I"⟩ ⟨"TollClock$Weeks", "countFree", "(IIZ)I"⟩ ∈ BIG := goodS 15 (by decide +kernel) rfl
theorem bs_16 : Cond.selects "TollClock" ⟨"TollClock", "conductAgrees", "()Z"⟩ ⟨"TollClock", "conductAgrees", "()Z"⟩ ∈ BIG := goodS 16 (by decide +kernel) rfl
theorem bs_17 : Cond.selects "TollClock" ⟨"TollClock", "courtDaysAgree", "()Z"⟩ ⟨"TollClock", "courtDaysAgree", "()Z"⟩ ∈ BIG := goodS 17 (by decide +kernel) rfl
theorem bs_18 : Cond.selects "java/lang/Throwable" ⟨"java/lang/Throwable", "fillInStackTrace", "(I)Ljava/lang/Throwable;"⟩ ⟨"java/lang/Throwable", "fillInStackTrace", "(I)Ljava/lang/Throwable;"⟩ ∈ BIG := goodS 18 (by decide +kernel) rfl
theorem bs_19 : Cond.selects "TollClock" ⟨"TollClock", "setAside", "()V"⟩ ⟨"TollClock", "setAside", "()V"⟩ ∈ BIG := goodS 19 (by decide +kernel) rfl
theorem bs_20 : Cond.selects "TollClock" ⟨"TollClock", "tryAdvance", "(I)I"⟩ ⟨"TollClock", "tryAdvance", "(I)I"⟩ ∈ BIG := goodS 20 (by decide +kernel) rfl
theorem bs_21 : Cond.selects "TollClock" ⟨"TollClock", "settle", "(I)I"⟩ ⟨"TollClock", "settle", "(I)I"⟩ ∈ BIG := goodS 21 (by decide +kernel) rfl
theorem bs_22 : Cond.selects "TollClock" ⟨"TollClock", "tryAddHoliday", "(I)I"⟩ ⟨"TollClock", "tryAddHoliday", "(I)I"⟩ ∈ BIG := goodS 22 (by decide +kernel) rfl
theorem bs_23 : Cond.selects "TollClock" ⟨"TollClock", "tryRemoveHoliday", "(I)I"⟩ ⟨"TollClock", "tryRemoveHoliday", "(I)I"⟩ ∈ BIG := goodS 23 (by decide +kernel) rfl
theorem bs_24 : Cond.selects "TollClock" ⟨"TollClock", "trySetRule", "(IIZ)I"⟩ ⟨"TollClock", "trySetRule", "(IIZ)I"⟩ ∈ BIG := goodS 24 (by decide +kernel) rfl
theorem bs_25 : Cond.selects "TollClock" ⟨"TollClock", "trySetServiceDays", "(CI)I"⟩ ⟨"TollClock", "trySetServiceDays", "(CI)I"⟩ ∈ BIG := goodS 25 (by decide +kernel) rfl
theorem bs_26 : Cond.selects "TollClock" ⟨"TollClock", "tryServe", "(IIC)I"⟩ ⟨"TollClock", "tryServe", "(IIC)I"⟩ ∈ BIG := goodS 26 (by decide +kernel) rfl
theorem bs_27 : Cond.selects "TollClock" ⟨"TollClock", "tryExtendByConsent", "(II)I"⟩ ⟨"TollClock", "tryExtendByConsent", "(II)I"⟩ ∈ BIG := goodS 27 (by decide +kernel) rfl
theorem bs_28 : Cond.selects "TollClock" ⟨"TollClock", "tryExtendByOrder", "(II)I"⟩ ⟨"TollClock", "tryExtendByOrder", "(II)I"⟩ ∈ BIG := goodS 28 (by decide +kernel) rfl
theorem bs_29 : Cond.selects "TollClock" ⟨"TollClock", "tryFile", "(I)I"⟩ ⟨"TollClock", "tryFile", "(I)I"⟩ ∈ BIG := goodS 29 (by decide +kernel) rfl
theorem bs_30 : Cond.selects "TollClock" ⟨"TollClock", "tryStrike", "(I)I"⟩ ⟨"TollClock", "tryStrike", "(I)I"⟩ ∈ BIG := goodS 30 (by decide +kernel) rfl
theorem bs_31 : Cond.selects "TollClock" ⟨"TollClock", "tryStayParty", "(II)I"⟩ ⟨"TollClock", "tryStayParty", "(II)I"⟩ ∈ BIG := goodS 31 (by decide +kernel) rfl
theorem bs_32 : Cond.selects "TollClock" ⟨"TollClock", "tryStay", "(II)I"⟩ ⟨"TollClock", "tryStay", "(II)I"⟩ ∈ BIG := goodS 32 (by decide +kernel) rfl
theorem bs_33 : Cond.selects "TollClock" ⟨"TollClock", "tryLift", "(I)I"⟩ ⟨"TollClock", "tryLift", "(I)I"⟩ ∈ BIG := goodS 33 (by decide +kernel) rfl
theorem bs_34 : Cond.selects "TollClock" ⟨"TollClock", "tryAddOccurrence", "(II)I"⟩ ⟨"TollClock", "tryAddOccurrence", "(II)I"⟩ ∈ BIG := goodS 34 (by decide +kernel) rfl
theorem bs_35 : Cond.selects "TollClock" ⟨"TollClock", "tryLinkOccurrences", "(II)I"⟩ ⟨"TollClock", "tryLinkOccurrences", "(II)I"⟩ ∈ BIG := goodS 35 (by decide +kernel) rfl
theorem bs_36 : Cond.selects "TollClock" ⟨"TollClock", "tryFileClaim", "(II)I"⟩ ⟨"TollClock", "tryFileClaim", "(II)I"⟩ ∈ BIG := goodS 36 (by decide +kernel) rfl
theorem bs_37 : Cond.selects "TollClock" ⟨"TollClock", "tryAmendClaim", "(II)I"⟩ ⟨"TollClock", "tryAmendClaim", "(II)I"⟩ ∈ BIG := goodS 37 (by decide +kernel) rfl
theorem bs_38 : Cond.selects "TollClock" ⟨"TollClock", "tryAddParty", "()I"⟩ ⟨"TollClock", "tryAddParty", "()I"⟩ ∈ BIG := goodS 38 (by decide +kernel) rfl
theorem bs_39 : Cond.selects "TollClock$Parties" ⟨"TollClock$Parties", "isNamed", "(I[II)Z"⟩ ⟨"TollClock$Parties", "isNamed", "(I[II)Z"⟩ ∈ BIG := goodS 39 (by decide +kernel) rfl
theorem bs_40 : Cond.selects "TollClock$Program" ⟨"TollClock$Program", "readCommand", "(LTollClock$Text;)Z"⟩ ⟨"TollClock$Program", "readCommand", "(LTollClock$Text;)Z"⟩ ∈ BIG := goodS 40 (by decide +kernel) rfl
theorem bs_41 : Cond.selects "TollClock$Program" ⟨"TollClock$Program", "readVerb", "(LTollClock$Text;)I"⟩ ⟨"TollClock$Program", "readVerb", "(LTollClock$Text;)I"⟩ ∈ BIG := goodS 41 (by decide +kernel) rfl
theorem bs_42 : Cond.selects "TollClock$Program" ⟨"TollClock$Program", "countCommon", "(LTollClock$Text;Ljava/lang/String;)I"⟩ ⟨"TollClock$Program", "countCommon", "(LTollClock$Text;Ljava/lang/String;)I"⟩ ∈ BIG := goodS 42 (by decide +kernel) rfl
theorem bs_43 : Cond.selects "TollClock$Program" ⟨"TollClock$Program", "readValues", "(LTollClock$Text;I)Z"⟩ ⟨"TollClock$Program", "readValues", "(LTollClock$Text;I)Z"⟩ ∈ BIG := goodS 43 (by decide +kernel) rfl
theorem bs_44 : Cond.selects "TollClock$Program" ⟨"TollClock$Program", "readServe", "(LTollClock$Text;)Z"⟩ ⟨"TollClock$Program", "readServe", "(LTollClock$Text;)Z"⟩ ∈ BIG := goodS 44 (by decide +kernel) rfl
theorem bs_45 : Cond.selects "TollClock$Program" ⟨"TollClock$Program", "readFirst", "(LTollClock$Text;I)Z"⟩ ⟨"TollClock$Program", "readFirst", "(LTollClock$Text;I)Z"⟩ ∈ BIG := goodS 45 (by decide +kernel) rfl
theorem bs_46 : Cond.selects "TollClock$Program" ⟨"TollClock$Program", "readNumber", "(LTollClock$Text;I)I"⟩ ⟨"TollClock$Program", "readNumber", "(LTollClock$Text;I)I"⟩ ∈ BIG := goodS 46 (by decide +kernel) rfl
theorem bs_47 : Cond.selects "TollClock$Program" ⟨"TollClock$Program", "readSign", "(LTollClock$Text;C)Z"⟩ ⟨"TollClock$Program", "readSign", "(LTollClock$Text;C)Z"⟩ ∈ BIG := goodS 47 (by decide +kernel) rfl
theorem bs_48 : Cond.selects "TollClock$Program" ⟨"TollClock$Program", "readSecond", "(LTollClock$Text;I)Z"⟩ ⟨"TollClock$Program", "readSecond", "(LTollClock$Text;I)Z"⟩ ∈ BIG := goodS 48 (by decide +kernel) rfl
theorem bs_49 : Cond.selects "TollClock$Program" ⟨"TollClock$Program", "readWay", "(LTollClock$Text;)Z"⟩ ⟨"TollClock$Program", "readWay", "(LTollClock$Text;)Z"⟩ ∈ BIG := goodS 49 (by decide +kernel) rfl
theorem bs_50 : Cond.selects "TollClock$Program" ⟨"TollClock$Program", "readDays", "(LTollClock$Text;)Z"⟩ ⟨"TollClock$Program", "readDays", "(LTollClock$Text;)Z"⟩ ∈ BIG := goodS 50 (by decide +kernel) rfl
theorem bs_51 : Cond.selects "TollClock" ⟨"TollClock", "execute", "(I)I"⟩ ⟨"TollClock", "execute", "(I)I"⟩ ∈ BIG := goodS 51 (by decide +kernel) rfl
theorem bs_52 : Cond.selects "TollClock" ⟨"TollClock", "takeBack", "()V"⟩ ⟨"TollClock", "takeBack", "()V"⟩ ∈ BIG := goodS 52 (by decide +kernel) rfl
theorem bs_53 : Cond.selects "TollClock" ⟨"TollClock", "needDeadline", "(I)V"⟩ ⟨"TollClock", "needDeadline", "(I)V"⟩ ∈ BIG := goodS 53 (by decide +kernel) rfl
theorem bs_54 : Cond.selects "TollClock$Weeks" ⟨"TollClock$Weeks", "dayOfCountBack", "(II)I"⟩ ⟨"TollClock$Weeks", "dayOfCountBack", "(II)I"⟩ ∈ BIG := goodS 54 (by decide +kernel) rfl
theorem bs_55 : Cond.selects "TollClock" ⟨"TollClock", "findOpenDues", "()V"⟩ ⟨"TollClock", "findOpenDues", "()V"⟩ ∈ BIG := goodS 55 (by decide +kernel) rfl
theorem bs_56 : Cond.selects "TollClock" ⟨"TollClock", "countOpenAhead", "(I)I"⟩ ⟨"TollClock", "countOpenAhead", "(I)I"⟩ ∈ BIG := goodS 56 (by decide +kernel) rfl
theorem bs_57 : Cond.selects "TollClock" ⟨"TollClock", "countOpenDueOn", "(I)I"⟩ ⟨"TollClock", "countOpenDueOn", "(I)I"⟩ ∈ BIG := goodS 57 (by decide +kernel) rfl
theorem bs_58 : Cond.selects "TollClock" ⟨"TollClock", "needOccurrence", "(I)V"⟩ ⟨"TollClock", "needOccurrence", "(I)V"⟩ ∈ BIG := goodS 58 (by decide +kernel) rfl
theorem bs_59 : Cond.selects "TollClock" ⟨"TollClock", "needClaim", "(I)V"⟩ ⟨"TollClock", "needClaim", "(I)V"⟩ ∈ BIG := goodS 59 (by decide +kernel) rfl
theorem bs_60 : Cond.selects "TollClock$Claims" ⟨"TollClock$Claims", "relatesBack", "(I)Z"⟩ ⟨"TollClock$Claims", "relatesBack", "(I)Z"⟩ ∈ BIG := goodS 60 (by decide +kernel) rfl
theorem bs_61 : Cond.selects "TollClock" ⟨"TollClock", "meetsBar", "(I)Z"⟩ ⟨"TollClock", "meetsBar", "(I)Z"⟩ ∈ BIG := goodS 61 (by decide +kernel) rfl
theorem bs_62 : Cond.selects "TollClock" ⟨"TollClock", "needParty", "(I)V"⟩ ⟨"TollClock", "needParty", "(I)V"⟩ ∈ BIG := goodS 62 (by decide +kernel) rfl
theorem inB0 : ∀ w ∈ u_ws RX0 TX0 3, w ∈ BIG := goodL _ [91, 93, 95] (by decide +kernel) (by decide +kernel)
theorem inB1 : ∀ w ∈ u_ws RX1 TX1 8, w ∈ BIG := goodL _ [230, 232, 234, 236, 238, 240, 242, 244] (by decide +kernel) (by decide +kernel)
theorem inB2 : ∀ w ∈ u_ws RX2 TX2 12, w ∈ BIG := goodL _ [154, 156, 158, 160, 162, 164, 166, 168, 170, 172, 174, 176] (by decide +kernel) (by decide +kernel)
theorem inB3 : ∀ w ∈ u_ws RX3 TX3 6, w ∈ BIG := goodL _ [259, 261, 263, 265, 267, 269] (by decide +kernel) (by decide +kernel)
theorem inB4 : ∀ w ∈ u_ws RX4 TX4 6, w ∈ BIG := goodL _ [307, 309, 311, 313, 315, 317] (by decide +kernel) (by decide +kernel)
theorem inB5 : ∀ w ∈ u_ws RX5 TX5 3, w ∈ BIG := goodL _ [70, 72, 74] (by decide +kernel) (by decide +kernel)
theorem inB6 : ∀ w ∈ u_ws RX6 TX6 6, w ∈ BIG := goodL _ [338, 340, 342, 344, 346, 348] (by decide +kernel) (by decide +kernel)
theorem inB7 : ∀ w ∈ u_ws RX7 TX7 3, w ∈ BIG := goodL _ [112, 114, 116] (by decide +kernel) (by decide +kernel)
theorem inB8 : ∀ w ∈ u_ws RX8 TX8 5, w ∈ BIG := goodL _ [199, 201, 203, 205, 207] (by decide +kernel) (by decide +kernel)
theorem inB9 : ∀ w ∈ u_ws RX9 TX9 2, w ∈ BIG := goodL _ [46, 48] (by decide +kernel) (by decide +kernel)
theorem inB10 : ∀ w ∈ u_ws RX10 TX10 5, w ∈ BIG := goodL _ [284, 286, 288, 290, 292] (by decide +kernel) (by decide +kernel)
theorem inB11 : ∀ w ∈ u_ws RX11 TX11 13, w ∈ BIG := goodL _ [364, 366, 368, 370, 372, 374, 376, 378, 380, 382, 384, 386, 388] (by decide +kernel) (by decide +kernel)
def mX0_init : mM := (yX0_init, cX0_init, 1, RX0, none, (8, 200, 1, 215), 0, [])
def mX0_copy : mM := (yX0_copy, cX0_copy, 2, RX0, none, (8, 200, 0, 0), 65, [])
def mX0_isHoliday : mM := (yX0_isHoliday, cX0_isHoliday, 2, RX0, (some .boolean), (9, 222, 0, 0), 65, [])
def mX0_isCourt : mM := (yX0_isCourt, cX0_isCourt, 2, RX0, (some .boolean), (9, 222, 0, 0), 65, [])
def mX0_insertHoliday : mM := (yX0_insertHoliday, cX0_insertHoliday, 2, RX0, none, (8, 200, 0, 0), 65, [])
def mX0_placeOf : mM := (yX0_placeOf, cX0_placeOf, 3, RX0, (some .int), (8, 200, 0, 0), 65, [])
def mX0_countCourt : mM := (yX0_countCourt, cX0_countCourt, 7, RX0, (some .int), (8, 200, 0, 0), 65, [])
def mX1_init : mM := (yX1_init, cX1_init, 1, RX1, none, (9, 220, 18, 3667), 0, [])
def mX1_copy : mM := (yX1_copy, cX1_copy, 2, RX1, none, (9, 221, 0, 0), 65, [])
def mX1_has : mM := (yX1_has, cX1_has, 2, RX1, (some .boolean), (8, 200, 0, 0), 65, [])
def mX1_keepOccurrence : mM := (yX1_keepOccurrence, cX1_keepOccurrence, 5, RX1, (some .int), (10, 247, 0, 0), 65, [])
def mX1_areLinked : mM := (yX1_areLinked, cX1_areLinked, 3, RX1, (some .boolean), (8, 200, 0, 0), 65, [])
def mX1_link : mM := (yX1_link, cX1_link, 6, RX1, none, (8, 200, 0, 0), 65, [])
def mX1_countGroups : mM := (yX1_countGroups, cX1_countGroups, 3, RX1, (some .int), (8, 200, 0, 0), 65, [])
def mX1_inSameGroup : mM := (yX1_inSameGroup, cX1_inSameGroup, 3, RX1, (some .boolean), (8, 200, 0, 0), 65, [])
def mX1_isReached : mM := (yX1_isReached, cX1_isReached, 3, RX1, (some .boolean), (21, 825, 0, 0), 65, [])
def mX1_visit : mM := (yX1_visit, cX1_visit, 6, RX1, (some .int), (20, 800, 0, 0), 65, [])
def mX1_addClaim : mM := (yX1_addClaim, cX1_addClaim, 5, RX1, (some .int), (8, 200, 0, 0), 65, [])
def mX2_init : mM := (yX2_init, cX2_init, 1, RX2, none, (8, 200, 11, 2365), 0, [])
def mX2_copy : mM := (yX2_copy, cX2_copy, 2, RX2, none, (8, 200, 0, 0), 65, [])
def mX2_has : mM := (yX2_has, cX2_has, 2, RX2, (some .boolean), (8, 200, 0, 0), 65, [])
def mX2_isOpen : mM := (yX2_isOpen, cX2_isOpen, 2, RX2, (some .boolean), (8, 200, 0, 0), 65, [])
def mX2_countOpen : mM := (yX2_countOpen, cX2_countOpen, 3, RX2, (some .int), (9, 221, 0, 0), 65, [])
def mX2_add : mM := (yX2_add, cX2_add, 6, RX2, (some .int), (9, 222, 0, 0), 65, [])
def mX2_addPart : mM := (yX2_addPart, cX2_addPart, 3, RX2, none, (8, 200, 0, 0), 65, [])
def mX2_grant : mM := (yX2_grant, cX2_grant, 3, RX2, (some .int), (9, 222, 0, 0), 65, [])
def mX2_lengthOfPart : mM := (yX2_lengthOfPart, cX2_lengthOfPart, 3, RX2, (some .int), (8, 200, 0, 0), 65, [])
def mX2_partCountsCourt : mM := (yX2_partCountsCourt, cX2_partCountsCourt, 3, RX2, (some .boolean), (8, 200, 0, 0), 65, [])
def mX2_sumOfParts : mM := (yX2_sumOfParts, cX2_sumOfParts, 4, RX2, (some .int), (9, 222, 0, 0), 65, [])
def mX3_init : mM := (yX3_init, cX3_init, 1, RX3, none, (10, 240, 45, 8216), 0, [])
def mX3_copy : mM := (yX3_copy, cX3_copy, 2, RX3, none, (10, 242, 0, 0), 65, [])
def mX4_init : mM := (yX4_init, cX4_init, 3, RX4, none, (8, 200, 2, 430), 0, [])
def mX4_markHolidays : mM := (yX4_markHolidays, cX4_markHolidays, 2, RX4, none, (9, 224, 0, 0), 65, [])
def mX4_markStays : mM := (yX4_markStays, cX4_markStays, 4, RX4, none, (9, 224, 0, 0), 65, [])
def mX4_clear : mM := (yX4_clear, cX4_clear, 2, RX4, none, (8, 200, 0, 0), 65, [])
def mX4_mark : mM := (yX4_mark, cX4_mark, 5, RX4, none, (8, 200, 0, 0), 65, [])
def mX4_isMarked : mM := (yX4_isMarked, cX4_isMarked, 2, RX4, (some .boolean), (9, 220, 0, 0), 65, [])
def mX4_isCourt : mM := (yX4_isCourt, cX4_isCourt, 2, RX4, (some .boolean), (10, 241, 0, 0), 65, [])
def mX4_countCourt : mM := (yX4_countCourt, cX4_countCourt, 5, RX4, (some .int), (11, 262, 0, 0), 65, [])
def mX4_countStopped : mM := (yX4_countStopped, cX4_countStopped, 7, RX4, (some .int), (10, 247, 0, 0), 65, [])
def mX4_endOf : mM := (yX4_endOf, cX4_endOf, 3, RX4, (some .int), (12, 291, 0, 0), 65, [])
def mX4_countedUntil : mM := (yX4_countedUntil, cX4_countedUntil, 4, RX4, (some .int), (12, 291, 0, 0), 65, [])
def mX4_walk : mM := (yX4_walk, cX4_walk, 10, RX4, none, (11, 262, 0, 0), 65, [])
def mX4_countBack : mM := (yX4_countBack, cX4_countBack, 7, RX4, (some .int), (11, 262, 0, 0), 65, [])
def mX5_init : mM := (yX5_init, cX5_init, 1, RX5, none, (8, 200, 2, 430), 0, [])
def mX5_copy : mM := (yX5_copy, cX5_copy, 2, RX5, none, (8, 200, 0, 0), 65, [])
def mX5_has : mM := (yX5_has, cX5_has, 2, RX5, (some .boolean), (8, 200, 0, 0), 65, [])
def mX5_add : mM := (yX5_add, cX5_add, 3, RX5, (some .int), (8, 200, 0, 0), 65, [])
def mX5_find : mM := (yX5_find, cX5_find, 4, RX5, (some .int), (9, 224, 0, 0), 65, [])
def mX5_isNamed : mM := (yX5_isNamed, cX5_isNamed, 5, RX5, (some .boolean), (8, 200, 0, 0), 65, [])
def mX6_init : mM := (yX6_init, cX6_init, 1, RX6, none, (8, 200, 4, 860), 0, [])
def mX7_init : mM := (yX7_init, cX7_init, 2, RX7, none, (8, 200, 3, 645), 0, [])
def mX7_copy : mM := (yX7_copy, cX7_copy, 2, RX7, none, (8, 200, 0, 0), 65, [])
def mX7_placeOfWay : mM := (yX7_placeOfWay, cX7_placeOfWay, 1, RX7, (some .int), (8, 200, 0, 0), 65, [])
def mX8_init : mM := (yX8_init, cX8_init, 1, RX8, none, (8, 200, 4, 860), 0, [])
def mX8_copy : mM := (yX8_copy, cX8_copy, 2, RX8, none, (8, 200, 0, 0), 65, [])
def mX8_has : mM := (yX8_has, cX8_has, 2, RX8, (some .boolean), (8, 200, 0, 0), 65, [])
def mX8_add : mM := (yX8_add, cX8_add, 4, RX8, (some .int), (8, 200, 0, 0), 65, [])
def mX8_isInForce : mM := (yX8_isInForce, cX8_isInForce, 2, RX8, (some .boolean), (8, 200, 0, 0), 65, [])
def mX8_countInForce : mM := (yX8_countInForce, cX8_countInForce, 3, RX8, (some .int), (9, 221, 0, 0), 65, [])
def mX8_concerns : mM := (yX8_concerns, cX8_concerns, 5, RX8, (some .boolean), (8, 200, 0, 0), 65, [])
def mX9_init : mM := (yX9_init, cX9_init, 1, RX9, none, (8, 200, 1, 215), 0, [])
def mX9_clear : mM := (yX9_clear, cX9_clear, 1, RX9, none, (8, 200, 0, 0), 65, [])
def mX9_append : mM := (yX9_append, cX9_append, 2, RX9, none, (8, 200, 0, 0), 65, [])
def mX9_signAt : mM := (yX9_signAt, cX9_signAt, 2, RX9, (some .char), (8, 200, 0, 0), 65, [])
def mX9_readName : mM := (yX9_readName, cX9_readName, 6, RX9, (some .int), (9, 221, 0, 0), 65, [])
def mX9_isHigh : mM := (yX9_isHigh, cX9_isHigh, 1, RX9, (some .boolean), (8, 200, 0, 0), 65, [])
def mX9_isLow : mM := (yX9_isLow, cX9_isLow, 1, RX9, (some .boolean), (8, 200, 0, 0), 65, [])
def mX9_joinPair : mM := (yX9_joinPair, cX9_joinPair, 2, RX9, (some .int), (8, 200, 0, 0), 65, [])
def mX10_init : mM := (yX10_init, cX10_init, 3, RX10, none, (8, 200, 2, 430), 0, [])
def mX10_takeStays : mM := (yX10_takeStays, cX10_takeStays, 4, RX10, none, (9, 224, 0, 0), 65, [])
def mX10_joinRange : mM := (yX10_joinRange, cX10_joinRange, 3, RX10, none, (8, 200, 0, 0), 65, [])
def mX10_countStopped : mM := (yX10_countStopped, cX10_countStopped, 9, RX10, (some .int), (10, 247, 0, 0), 65, [])
def mX10_endOf : mM := (yX10_endOf, cX10_endOf, 6, RX10, (some .int), (12, 295, 0, 0), 65, [])
def mX10_countedUntil : mM := (yX10_countedUntil, cX10_countedUntil, 10, RX10, (some .int), (12, 295, 0, 0), 65, [])
def mX10_dayOfCount : mM := (yX10_dayOfCount, cX10_dayOfCount, 8, RX10, (some .int), (11, 268, 0, 0), 65, [])
def mX10_countFree : mM := (yX10_countFree, cX10_countFree, 7, RX10, (some .int), (10, 249, 0, 0), 65, [])
def mX10_lastDayOfGap : mM := (yX10_lastDayOfGap, cX10_lastDayOfGap, 2, RX10, (some .int), (8, 200, 0, 0), 65, [])
def mX10_dayBehindRange : mM := (yX10_dayBehindRange, cX10_dayBehindRange, 3, RX10, (some .int), (8, 200, 0, 0), 65, [])
def mX10_countDays : mM := (yX10_countDays, cX10_countDays, 4, RX10, (some .int), (9, 226, 0, 0), 65, [])
def mX10_courtDayOfCount : mM := (yX10_courtDayOfCount, cX10_courtDayOfCount, 6, RX10, (some .int), (10, 243, 0, 0), 65, [])
def mX10_moveEnd : mM := (yX10_moveEnd, cX10_moveEnd, 4, RX10, (some .int), (10, 243, 0, 0), 65, [])
def mX10_skipRange : mM := (yX10_skipRange, cX10_skipRange, 3, RX10, (some .int), (8, 200, 0, 0), 65, [])
def mX10_countBack : mM := (yX10_countBack, cX10_countBack, 5, RX10, (some .int), (11, 268, 0, 0), 65, [])
def mX10_dayOfCountBack : mM := (yX10_dayOfCountBack, cX10_dayOfCountBack, 6, RX10, (some .int), (10, 243, 0, 0), 65, [])
def mX11_init : mM := (yX11_init, cX11_init, 1, RX11, none, (11, 260, 64, 11038), 0, [])
def mX11_type : mM := (yX11_type, cX11_type, 2, RX11, (some .int), (9, 221, 1, 6), 65, [])
def mX11_addParty : mM := (yX11_addParty, cX11_addParty, 1, RX11, (some .int), (12, 284, 47, 8228), 65, [])
def mX11_tryAddParty : mM := (yX11_tryAddParty, cX11_tryAddParty, 2, RX11, (some .int), (10, 247, 0, 0), 65, [])
def mX11_today : mM := (yX11_today, cX11_today, 1, RX11, (some .int), (8, 200, 0, 0), 65, [])
def mX11_advance : mM := (yX11_advance, cX11_advance, 2, RX11, (some .int), (12, 284, 47, 8228), 65, [])
def mX11_isCourtDay : mM := (yX11_isCourtDay, cX11_isCourtDay, 2, RX11, (some .boolean), (10, 243, 1, 6), 65, [])
def mX11_addHoliday : mM := (yX11_addHoliday, cX11_addHoliday, 2, RX11, (some .int), (12, 284, 47, 8228), 65, [])
def mX11_courtDays : mM := (yX11_courtDays, cX11_courtDays, 3, RX11, (some .int), (10, 241, 1, 6), 65, [])
def mX11_courtDaysByMarking : mM := (yX11_courtDaysByMarking, cX11_courtDaysByMarking, 3, RX11, (some .int), (12, 286, 1, 6), 65, [])
def mX11_tryAdvance : mM := (yX11_tryAdvance, cX11_tryAdvance, 2, RX11, (some .int), (8, 200, 0, 0), 65, [])
def mX11_tryAddHoliday : mM := (yX11_tryAddHoliday, cX11_tryAddHoliday, 2, RX11, (some .int), (10, 243, 0, 0), 65, [])
def mX11_isDay : mM := (yX11_isDay, cX11_isDay, 1, RX11, (some .boolean), (8, 200, 0, 0), 65, [])
def mX11_needDay : mM := (yX11_needDay, cX11_needDay, 1, RX11, none, (9, 220, 1, 6), 65, [])
def mX11_needRange : mM := (yX11_needRange, cX11_needRange, 2, RX11, none, (9, 220, 1, 6), 65, [])
def mX11_setRule : mM := (yX11_setRule, cX11_setRule, 4, RX11, (some .int), (12, 284, 47, 8228), 65, [])
def mX11_setServiceDays : mM := (yX11_setServiceDays, cX11_setServiceDays, 3, RX11, (some .int), (12, 284, 47, 8228), 65, [])
def mX11_lastDayBefore : mM := (yX11_lastDayBefore, cX11_lastDayBefore, 3, RX11, (some .int), (12, 292, 3, 18), 65, [])
def mX11_lastDayBeforeByMarking : mM := (yX11_lastDayBeforeByMarking, cX11_lastDayBeforeByMarking, 3, RX11, (some .int), (12, 288, 3, 18), 65, [])
def mX11_trySetRule : mM := (yX11_trySetRule, cX11_trySetRule, 5, RX11, (some .int), (9, 220, 0, 0), 65, [])
def mX11_trySetServiceDays : mM := (yX11_trySetServiceDays, cX11_trySetServiceDays, 5, RX11, (some .int), (9, 220, 0, 0), 65, [])
def mX11_isRule : mM := (yX11_isRule, cX11_isRule, 1, RX11, (some .boolean), (8, 200, 0, 0), 65, [])
def mX11_needRule : mM := (yX11_needRule, cX11_needRule, 1, RX11, none, (9, 220, 1, 6), 65, [])
def mX11_needNotBeforeDayZero : mM := (yX11_needNotBeforeDayZero, cX11_needNotBeforeDayZero, 1, RX11, (some .int), (8, 200, 1, 6), 65, [])
def mX11_serve : mM := (yX11_serve, cX11_serve, 4, RX11, (some .int), (12, 284, 47, 8228), 65, [])
def mX11_deadlines : mM := (yX11_deadlines, cX11_deadlines, 1, RX11, (some .int), (8, 200, 0, 0), 65, [])
def mX11_due : mM := (yX11_due, cX11_due, 2, RX11, (some .int), (13, 320, 2, 12), 65, [])
def mX11_dueByMarking : mM := (yX11_dueByMarking, cX11_dueByMarking, 2, RX11, (some .int), (13, 313, 2, 12), 65, [])
def mX11_daysLeft : mM := (yX11_daysLeft, cX11_daysLeft, 2, RX11, (some .int), (13, 324, 1, 6), 65, [])
def mX11_daysLeftByMarking : mM := (yX11_daysLeftByMarking, cX11_daysLeftByMarking, 2, RX11, (some .int), (13, 314, 1, 6), 65, [])
def mX11_extendByConsent : mM := (yX11_extendByConsent, cX11_extendByConsent, 3, RX11, (some .int), (14, 342, 47, 8228), 65, [])
def mX11_extendByOrder : mM := (yX11_extendByOrder, cX11_extendByOrder, 3, RX11, (some .int), (12, 284, 47, 8228), 65, [])
def mX11_file : mM := (yX11_file, cX11_file, 2, RX11, (some .boolean), (14, 342, 47, 8228), 65, [])
def mX11_strike : mM := (yX11_strike, cX11_strike, 2, RX11, (some .int), (12, 284, 47, 8228), 65, [])
def mX11_status : mM := (yX11_status, cX11_status, 2, RX11, (some .char), (10, 242, 1, 6), 65, [])
def mX11_openAt : mM := (yX11_openAt, cX11_openAt, 3, RX11, (some .int), (14, 341, 1, 6), 65, [])
def mX11_overdue : mM := (yX11_overdue, cX11_overdue, 3, RX11, (some .int), (14, 341, 0, 0), 65, [])
def mX11_tryServe : mM := (yX11_tryServe, cX11_tryServe, 6, RX11, (some .int), (10, 247, 0, 0), 65, [])
def mX11_tryExtendByConsent : mM := (yX11_tryExtendByConsent, cX11_tryExtendByConsent, 3, RX11, (some .int), (13, 320, 0, 0), 65, [])
def mX11_tryExtendByOrder : mM := (yX11_tryExtendByOrder, cX11_tryExtendByOrder, 3, RX11, (some .int), (10, 244, 0, 0), 65, [])
def mX11_tryFile : mM := (yX11_tryFile, cX11_tryFile, 3, RX11, (some .int), (13, 320, 0, 0), 65, [])
def mX11_tryStrike : mM := (yX11_tryStrike, cX11_tryStrike, 2, RX11, (some .int), (10, 243, 0, 0), 65, [])
def mX11_needDeadline : mM := (yX11_needDeadline, cX11_needDeadline, 2, RX11, none, (9, 221, 1, 6), 65, [])
def mX11_needSomeDay : mM := (yX11_needSomeDay, cX11_needSomeDay, 1, RX11, (some .int), (8, 200, 1, 6), 65, [])
def mX11_findOpenDues : mM := (yX11_findOpenDues, cX11_findOpenDues, 2, RX11, none, (13, 320, 0, 0), 65, [])
def mX11_countOpenAhead : mM := (yX11_countOpenAhead, cX11_countOpenAhead, 5, RX11, (some .int), (9, 221, 0, 0), 65, [])
def mX11_stayParty : mM := (yX11_stayParty, cX11_stayParty, 3, RX11, (some .int), (12, 284, 47, 8228), 65, [])
def mX11_stayAll : mM := (yX11_stayAll, cX11_stayAll, 2, RX11, (some .int), (12, 284, 47, 8228), 65, [])
def mX11_lift : mM := (yX11_lift, cX11_lift, 2, RX11, (some .int), (12, 284, 47, 8228), 65, [])
def mX11_staysInForce : mM := (yX11_staysInForce, cX11_staysInForce, 1, RX11, (some .int), (10, 243, 0, 0), 65, [])
def mX11_isStopped : mM := (yX11_isStopped, cX11_isStopped, 3, RX11, (some .boolean), (11, 275, 2, 12), 65, [])
def mX11_stoppedDays : mM := (yX11_stoppedDays, cX11_stoppedDays, 4, RX11, (some .int), (11, 275, 2, 12), 65, [])
def mX11_stoppedDaysByMarking : mM := (yX11_stoppedDaysByMarking, cX11_stoppedDaysByMarking, 4, RX11, (some .int), (11, 273, 2, 12), 65, [])
def mX11_tryStayParty : mM := (yX11_tryStayParty, cX11_tryStayParty, 3, RX11, (some .int), (10, 245, 0, 0), 65, [])
def mX11_tryStay : mM := (yX11_tryStay, cX11_tryStay, 3, RX11, (some .int), (9, 223, 0, 0), 65, [])
def mX11_tryLift : mM := (yX11_tryLift, cX11_tryLift, 2, RX11, (some .int), (9, 221, 0, 0), 65, [])
def mX11_addOccurrence : mM := (yX11_addOccurrence, cX11_addOccurrence, 3, RX11, (some .int), (12, 293, 47, 8228), 65, [])
def mX11_linkOccurrences : mM := (yX11_linkOccurrences, cX11_linkOccurrences, 3, RX11, (some .int), (12, 284, 47, 8228), 65, [])
def mX11_sameConduct : mM := (yX11_sameConduct, cX11_sameConduct, 3, RX11, (some .boolean), (10, 242, 2, 12), 65, [])
def mX11_sameConductBySearch : mM := (yX11_sameConductBySearch, cX11_sameConductBySearch, 3, RX11, (some .boolean), (22, 847, 2, 12), 65, [])
def mX11_fileClaim : mM := (yX11_fileClaim, cX11_fileClaim, 3, RX11, (some .int), (12, 284, 47, 8228), 65, [])
def mX11_amendClaim : mM := (yX11_amendClaim, cX11_amendClaim, 3, RX11, (some .int), (12, 284, 47, 8228), 65, [])
def mX11_tryAddOccurrence : mM := (yX11_tryAddOccurrence, cX11_tryAddOccurrence, 3, RX11, (some .int), (11, 271, 0, 0), 65, [])
def mX11_tryLinkOccurrences : mM := (yX11_tryLinkOccurrences, cX11_tryLinkOccurrences, 3, RX11, (some .int), (9, 225, 0, 0), 65, [])
def mX11_tryFileClaim : mM := (yX11_tryFileClaim, cX11_tryFileClaim, 3, RX11, (some .int), (9, 224, 0, 0), 65, [])
def mX11_tryAmendClaim : mM := (yX11_tryAmendClaim, cX11_tryAmendClaim, 3, RX11, (some .int), (9, 224, 0, 0), 65, [])
def mX11_needOccurrence : mM := (yX11_needOccurrence, cX11_needOccurrence, 2, RX11, none, (9, 221, 1, 6), 65, [])
def mX11_isConsistent : mM := (yX11_isConsistent, cX11_isConsistent, 2, RX11, (some .boolean), (23, 869, 0, 0), 65, [])
def mX11_deadlineAgrees : mM := (yX11_deadlineAgrees, cX11_deadlineAgrees, 4, RX11, (some .boolean), (13, 324, 0, 0), 65, [])
def mX11_conductAgrees : mM := (yX11_conductAgrees, cX11_conductAgrees, 3, RX11, (some .boolean), (22, 847, 0, 0), 65, [])
def mX11_courtDaysAgree : mM := (yX11_courtDaysAgree, cX11_courtDaysAgree, 2, RX11, (some .boolean), (12, 286, 0, 0), 65, [])
def mX11_undo : mM := (yX11_undo, cX11_undo, 1, RX11, (some .int), (12, 284, 1, 6), 65, [])
def mX11_setAside : mM := (yX11_setAside, cX11_setAside, 2, RX11, none, (11, 263, 46, 8222), 65, [])
def mX11_takeBack : mM := (yX11_takeBack, cX11_takeBack, 2, RX11, none, (11, 263, 0, 0), 65, [])
def mX11_settle : mM := (yX11_settle, cX11_settle, 2, RX11, (some .int), (8, 200, 1, 6), 65, [])
def mL_cell : mM := (yL_cell, cL_cell, 3, RL, (some .int), (8, 200, 0, 0), 65, [])
def mL_pick : mM := (yL_pick, cL_pick, 3, RL, (some .int), (9, 222, 0, 0), 65, [])
def mL_told : mM := (yL_told, cL_told, 1, RL, (some .int), (8, 200, 0, 0), 65, [])
def mL_way : mM := (yL_way, cL_way, 1, RL, (some .char), (8, 200, 0, 0), 65, [])
def mL_plain : mM := (yL_plain, cL_plain, 5, RL, (some .int), (16, 387, 48, 8234), 65, [])
def mL_deed : mM := (yL_deed, cL_deed, 6, RL, (some .int), (17, 411, 48, 8234), 65, [(0, 9, 10, 99), (0, 9, 16, 101), (0, 9, 22, 103), (0, 9, 28, 105), (0, 9, 34, 107)])
def mL_asked : mM := (yL_asked, cL_asked, 5, RL, (some .int), (23, 869, 3, 18), 65, [])
def mL_ask : mM := (yL_ask, cL_ask, 6, RL, (some .int), (24, 893, 3, 18), 65, [(0, 9, 10, 99), (0, 9, 16, 101), (0, 9, 22, 107)])
def mL_lay : mM := (yL_lay, cL_lay, 4, RL, none, (18, 436, 1344, 230552), 65, [])
def mL_any : mM := (yL_any, cL_any, 4, RL, (some .int), (18, 436, 48, 8234), 65, [])
def mL_areDeadlines : mM := (yL_areDeadlines, cL_areDeadlines, 5, RL, (some .boolean), (25, 918, 558, 3348), 65, [])
def mL_isOrdered : mM := (yL_isOrdered, cL_isOrdered, 8, RL, (some .boolean), (25, 918, 300, 1800), 65, [])
def mL_areRanges : mM := (yL_areRanges, cL_areRanges, 10, RL, (some .boolean), (25, 918, 30, 180), 65, [])
def mL_isConduct : mM := (yL_isConduct, cL_isConduct, 4, RL, (some .boolean), (25, 918, 333, 1998), 65, [])
def mL_print : mM := (yL_print, cL_print, 3, RL, (some .int), (25, 918, 300, 1800), 65, [])
def mL_isStayed : mM := (yL_isStayed, cL_isStayed, 9, RL, (some .boolean), (26, 940, 1400, 80000), 65, [])
def mL_law : mM := (yL_law, cL_law, 7, RL, (some .boolean), (2048, 94400, 600390, 7290680), 65, [])
def mL_isUndone : mM := (yL_isUndone, cL_isUndone, 5, RL, (some .boolean), (26, 940, 400, 20000), 65, [])
theorem fg_RX0_9 : FG RX0 9 0 1 := ⟨RX0, TX0, 3, rfl, by decide, rfl, inB0, rfl, Or.inl bw_86⟩
theorem fp_RX0_9 : FP RX0 9 0 1 (tyX0 1) true := ⟨fg_RX0_9, RX0, TX0, 3, tyX0, rfl, tyX0_ok, nmX0, rfl, by decide +kernel⟩
theorem fg_RX0_15 : FG RX0 15 0 0 := ⟨RX0, TX0, 3, rfl, by decide, rfl, inB0, rfl, Or.inl bw_84⟩
theorem fp_RX0_15 : FP RX0 15 0 0 .int false := ⟨fg_RX0_15, RX0, TX0, 3, tyX0, rfl, tyX0_ok, nmX0, rfl, by decide +kernel⟩
theorem fg_RX0_25 : FG RX0 25 0 2 := ⟨RX0, TX0, 3, rfl, by decide, rfl, inB0, rfl, Or.inl bw_89⟩
theorem fp_RX0_25 : FP RX0 25 0 2 .int false := ⟨fg_RX0_25, RX0, TX0, 3, tyX0, rfl, tyX0_ok, nmX0, rfl, by decide +kernel⟩
theorem cl_RX0_28 : CL RX0 28 mX0_placeOf := Or.inl bw_453
theorem cm_X0_placeOf : CM mX0_placeOf 1 := ⟨bw_456, bw_5, ⟨by decide, by decide⟩, by decide +kernel, rfl⟩
theorem ci_X0_placeOf : Cond.instanceMethod (mY mX0_placeOf) ∈ BIG := bw_455
theorem cv_X0_placeOf : CV mX0_placeOf := ⟨ci_X0_placeOf, bs_7⟩
theorem fn_RX1_9 : FN RX1 9 2 := ⟨RX2, TX2, 12, tyX2, rfl, rfl, inB2, tyX2_ok, by decide +kernel, bw_216, bw_121, bw_7⟩
theorem cl_RX1_11 : CL RX1 11 mX2_init := Or.inr ⟨_, nw_217⟩
theorem cm_X2_init : CM mX2_init 0 := ⟨bw_124, bw_7, ⟨by decide, by decide⟩, by decide +kernel, rfl⟩
theorem ci_X2_init : Cond.instanceMethod (mY mX2_init) ∈ BIG := bw_123
theorem fg_RX1_12 : FG RX1 12 1 0 := ⟨RX1, TX1, 8, rfl, by decide, rfl, inB1, rfl, Or.inl bw_218⟩
theorem fp_RX1_12 : FP RX1 12 1 0 (tyX1 0) true := ⟨fg_RX1_12, RX1, TX1, 8, tyX1, rfl, tyX1_ok, nmX1, rfl, by decide +kernel⟩
theorem fg_RX1_18 : FG RX1 18 1 1 := ⟨RX1, TX1, 8, rfl, by decide, rfl, inB1, rfl, Or.inl bw_220⟩
theorem fp_RX1_18 : FP RX1 18 1 1 (tyX1 1) true := ⟨fg_RX1_18, RX1, TX1, 8, tyX1, rfl, tyX1_ok, nmX1, rfl, by decide +kernel⟩
theorem fg_RX1_22 : FG RX1 22 1 2 := ⟨RX1, TX1, 8, rfl, by decide, rfl, inB1, rfl, Or.inl bw_221⟩
theorem fp_RX1_22 : FP RX1 22 1 2 (tyX1 2) true := ⟨fg_RX1_22, RX1, TX1, 8, tyX1, rfl, tyX1_ok, nmX1, rfl, by decide +kernel⟩
theorem fg_RX1_25 : FG RX1 25 1 3 := ⟨RX1, TX1, 8, rfl, by decide, rfl, inB1, rfl, Or.inl bw_222⟩
theorem fp_RX1_25 : FP RX1 25 1 3 (tyX1 3) true := ⟨fg_RX1_25, RX1, TX1, 8, tyX1, rfl, tyX1_ok, nmX1, rfl, by decide +kernel⟩
theorem fg_RX1_28 : FG RX1 28 1 4 := ⟨RX1, TX1, 8, rfl, by decide, rfl, inB1, rfl, Or.inl bw_224⟩
theorem fp_RX1_28 : FP RX1 28 1 4 (tyX1 4) true := ⟨fg_RX1_28, RX1, TX1, 8, tyX1, rfl, tyX1_ok, nmX1, rfl, by decide +kernel⟩
theorem fg_RX1_31 : FG RX1 31 1 5 := ⟨RX1, TX1, 8, rfl, by decide, rfl, inB1, rfl, Or.inl bw_226⟩
theorem fp_RX1_31 : FP RX1 31 1 5 (tyX1 5) true := ⟨fg_RX1_31, RX1, TX1, 8, tyX1, rfl, tyX1_ok, nmX1, rfl, by decide +kernel⟩
theorem fg_RX1_34 : FG RX1 34 1 6 := ⟨RX1, TX1, 8, rfl, by decide, rfl, inB1, rfl, Or.inl bw_227⟩
theorem fp_RX1_34 : FP RX1 34 1 6 (tyX1 6) true := ⟨fg_RX1_34, RX1, TX1, 8, tyX1, rfl, tyX1_ok, nmX1, rfl, by decide +kernel⟩
theorem cl_RX1_37 : CL RX1 37 mX2_copy := Or.inl bw_692
theorem cm_X2_copy : CM mX2_copy 1 := ⟨bw_681, bw_7, ⟨by decide, by decide⟩, by decide +kernel, rfl⟩
theorem ci_X2_copy : Cond.instanceMethod (mY mX2_copy) ∈ BIG := bw_679
theorem cv_X2_copy : CV mX2_copy := ⟨ci_X2_copy, bw_680⟩
theorem fg_RX1_47 : FG RX1 47 1 7 := ⟨RX1, TX1, 8, rfl, by decide, rfl, inB1, rfl, Or.inl bw_228⟩
theorem fp_RX1_47 : FP RX1 47 1 7 .int false := ⟨fg_RX1_47, RX1, TX1, 8, tyX1, rfl, tyX1_ok, nmX1, rfl, by decide +kernel⟩
theorem fg_RX1_51 : FG RX1 51 2 11 := ⟨RX2, TX2, 12, rfl, by decide, rfl, inB2, rfl, Or.inr ⟨_, nw_152⟩⟩
theorem cl_RX1_52 : CL RX1 52 mX2_add := Or.inl bw_952
theorem cm_X2_add : CM mX2_add 4 := ⟨bw_846, bw_7, ⟨by decide, by decide⟩, by decide +kernel, rfl⟩
theorem ci_X2_add : Cond.instanceMethod (mY mX2_add) ∈ BIG := bw_844
theorem cv_X2_add : CV mX2_add := ⟨ci_X2_add, bw_845⟩
theorem cl_RX1_65 : CL RX1 65 mX1_visit := Or.inl bw_537
theorem cm_X1_visit : CM mX1_visit 4 := ⟨bw_539, bw_9, ⟨by decide, by decide⟩, by decide +kernel, rfl⟩
theorem cs_X1_visit : Cond.static (mY mX1_visit) ∈ BIG := bw_538
theorem fg_RX2_9 : FG RX2 9 2 0 := ⟨RX2, TX2, 12, rfl, by decide, rfl, inB2, rfl, Or.inl bw_126⟩
theorem fp_RX2_9 : FP RX2 9 2 0 (tyX2 0) true := ⟨fg_RX2_9, RX2, TX2, 12, tyX2, rfl, tyX2_ok, nmX2, rfl, by decide +kernel⟩
theorem fg_RX2_15 : FG RX2 15 2 1 := ⟨RX2, TX2, 12, rfl, by decide, rfl, inB2, rfl, Or.inl bw_130⟩
theorem fp_RX2_15 : FP RX2 15 2 1 (tyX2 1) true := ⟨fg_RX2_15, RX2, TX2, 12, tyX2, rfl, tyX2_ok, nmX2, rfl, by decide +kernel⟩
theorem fg_RX2_18 : FG RX2 18 2 2 := ⟨RX2, TX2, 12, rfl, by decide, rfl, inB2, rfl, Or.inl bw_133⟩
theorem fp_RX2_18 : FP RX2 18 2 2 (tyX2 2) true := ⟨fg_RX2_18, RX2, TX2, 12, tyX2, rfl, tyX2_ok, nmX2, rfl, by decide +kernel⟩
theorem fg_RX2_21 : FG RX2 21 2 3 := ⟨RX2, TX2, 12, rfl, by decide, rfl, inB2, rfl, Or.inl bw_136⟩
theorem fp_RX2_21 : FP RX2 21 2 3 (tyX2 3) true := ⟨fg_RX2_21, RX2, TX2, 12, tyX2, rfl, tyX2_ok, nmX2, rfl, by decide +kernel⟩
theorem fg_RX2_25 : FG RX2 25 2 4 := ⟨RX2, TX2, 12, rfl, by decide, rfl, inB2, rfl, Or.inl bw_137⟩
theorem fp_RX2_25 : FP RX2 25 2 4 (tyX2 4) true := ⟨fg_RX2_25, RX2, TX2, 12, tyX2, rfl, tyX2_ok, nmX2, rfl, by decide +kernel⟩
theorem fg_RX2_28 : FG RX2 28 2 5 := ⟨RX2, TX2, 12, rfl, by decide, rfl, inB2, rfl, Or.inl bw_140⟩
theorem fp_RX2_28 : FP RX2 28 2 5 (tyX2 5) true := ⟨fg_RX2_28, RX2, TX2, 12, tyX2, rfl, tyX2_ok, nmX2, rfl, by decide +kernel⟩
theorem fg_RX2_31 : FG RX2 31 2 6 := ⟨RX2, TX2, 12, rfl, by decide, rfl, inB2, rfl, Or.inl bw_141⟩
theorem fp_RX2_31 : FP RX2 31 2 6 (tyX2 6) true := ⟨fg_RX2_31, RX2, TX2, 12, tyX2, rfl, tyX2_ok, nmX2, rfl, by decide +kernel⟩
theorem fg_RX2_34 : FG RX2 34 2 7 := ⟨RX2, TX2, 12, rfl, by decide, rfl, inB2, rfl, Or.inl bw_143⟩
theorem fp_RX2_34 : FP RX2 34 2 7 (tyX2 7) true := ⟨fg_RX2_34, RX2, TX2, 12, tyX2, rfl, tyX2_ok, nmX2, rfl, by decide +kernel⟩
theorem fg_RX2_37 : FG RX2 37 2 8 := ⟨RX2, TX2, 12, rfl, by decide, rfl, inB2, rfl, Or.inl bw_145⟩
theorem fp_RX2_37 : FP RX2 37 2 8 (tyX2 8) true := ⟨fg_RX2_37, RX2, TX2, 12, tyX2, rfl, tyX2_ok, nmX2, rfl, by decide +kernel⟩
theorem fg_RX2_40 : FG RX2 40 2 9 := ⟨RX2, TX2, 12, rfl, by decide, rfl, inB2, rfl, Or.inl bw_147⟩
theorem fp_RX2_40 : FP RX2 40 2 9 (tyX2 9) true := ⟨fg_RX2_40, RX2, TX2, 12, tyX2, rfl, tyX2_ok, nmX2, rfl, by decide +kernel⟩
theorem fg_RX2_43 : FG RX2 43 2 10 := ⟨RX2, TX2, 12, rfl, by decide, rfl, inB2, rfl, Or.inl bw_149⟩
theorem fp_RX2_43 : FP RX2 43 2 10 (tyX2 10) true := ⟨fg_RX2_43, RX2, TX2, 12, tyX2, rfl, tyX2_ok, nmX2, rfl, by decide +kernel⟩
theorem fg_RX2_53 : FG RX2 53 2 11 := ⟨RX2, TX2, 12, rfl, by decide, rfl, inB2, rfl, Or.inl bw_151⟩
theorem fp_RX2_53 : FP RX2 53 2 11 .int false := ⟨fg_RX2_53, RX2, TX2, 12, tyX2, rfl, tyX2_ok, nmX2, rfl, by decide +kernel⟩
theorem cl_RX2_57 : CL RX2 57 mX2_isOpen := Or.inl bw_903
theorem cm_X2_isOpen : CM mX2_isOpen 1 := ⟨bw_867, bw_7, ⟨by decide, by decide⟩, by decide +kernel, rfl⟩
theorem ci_X2_isOpen : Cond.instanceMethod (mY mX2_isOpen) ∈ BIG := bw_865
theorem cv_X2_isOpen : CV mX2_isOpen := ⟨ci_X2_isOpen, bw_866⟩
theorem fg_RX2_61 : FG RX2 61 7 1 := ⟨RX7, TX7, 3, rfl, by decide, rfl, inB7, rfl, Or.inr ⟨_, nw_108⟩⟩
theorem fg_RX2_64 : FG RX2 64 7 0 := ⟨RX7, TX7, 3, rfl, by decide, rfl, inB7, rfl, Or.inr ⟨_, nw_105⟩⟩
theorem cl_RX2_67 : CL RX2 67 mX2_addPart := Or.inl bw_847
theorem cm_X2_addPart : CM mX2_addPart 2 := ⟨bw_850, bw_7, ⟨by decide, by decide⟩, by decide +kernel, rfl⟩
theorem ci_X2_addPart : Cond.instanceMethod (mY mX2_addPart) ∈ BIG := bw_848
theorem cv_X2_addPart : CV mX2_addPart := ⟨ci_X2_addPart, bw_849⟩
theorem cl_RX2_71 : CL RX2 71 mX2_lengthOfPart := Or.inl bw_1235
theorem cm_X2_lengthOfPart : CM mX2_lengthOfPart 2 := ⟨bw_425, bw_7, ⟨by decide, by decide⟩, by decide +kernel, rfl⟩
theorem ci_X2_lengthOfPart : Cond.instanceMethod (mY mX2_lengthOfPart) ∈ BIG := bw_423
theorem cv_X2_lengthOfPart : CV mX2_lengthOfPart := ⟨ci_X2_lengthOfPart, bw_424⟩
theorem fn_RX3_7 : FN RX3 7 5 := ⟨RX5, TX5, 3, tyX5, rfl, rfl, inB5, tyX5_ok, by decide +kernel, bw_58, bw_59, bw_4⟩
theorem cl_RX3_9 : CL RX3 9 mX5_init := Or.inr ⟨_, nw_60⟩
theorem cm_X5_init : CM mX5_init 0 := ⟨bw_62, bw_4, ⟨by decide, by decide⟩, by decide +kernel, rfl⟩
theorem ci_X5_init : Cond.instanceMethod (mY mX5_init) ∈ BIG := bw_61
theorem fg_RX3_10 : FG RX3 10 3 0 := ⟨RX3, TX3, 6, rfl, by decide, rfl, inB3, rfl, Or.inl bw_247⟩
theorem fp_RX3_10 : FP RX3 10 3 0 (tyX3 0) true := ⟨fg_RX3_10, RX3, TX3, 6, tyX3, rfl, tyX3_ok, nmX3, rfl, by decide +kernel⟩
theorem fn_RX3_16 : FN RX3 16 0 := ⟨RX0, TX0, 3, tyX0, rfl, rfl, inB0, tyX0_ok, by decide +kernel, bw_78, bw_79, bw_5⟩
theorem cl_RX3_18 : CL RX3 18 mX0_init := Or.inr ⟨_, nw_80⟩
theorem cm_X0_init : CM mX0_init 0 := ⟨bw_82, bw_5, ⟨by decide, by decide⟩, by decide +kernel, rfl⟩
theorem ci_X0_init : Cond.instanceMethod (mY mX0_init) ∈ BIG := bw_81
theorem fg_RX3_19 : FG RX3 19 3 1 := ⟨RX3, TX3, 6, rfl, by decide, rfl, inB3, rfl, Or.inl bw_249⟩
theorem fp_RX3_19 : FP RX3 19 3 1 (tyX3 1) true := ⟨fg_RX3_19, RX3, TX3, 6, tyX3, rfl, tyX3_ok, nmX3, rfl, by decide +kernel⟩
theorem fn_RX3_23 : FN RX3 23 7 := ⟨RX7, TX7, 3, tyX7, rfl, rfl, inB7, tyX7_ok, by decide +kernel, bw_98, bw_99, bw_6⟩
theorem cl_RX3_25 : CL RX3 25 mX7_init := Or.inl bw_100
theorem cm_X7_init : CM mX7_init 0 := ⟨bw_102, bw_6, ⟨by decide, by decide⟩, by decide +kernel, rfl⟩
theorem ci_X7_init : Cond.instanceMethod (mY mX7_init) ∈ BIG := bw_101
theorem fg_RX3_26 : FG RX3 26 3 2 := ⟨RX3, TX3, 6, rfl, by decide, rfl, inB3, rfl, Or.inl bw_251⟩
theorem fp_RX3_26 : FP RX3 26 3 2 (tyX3 2) true := ⟨fg_RX3_26, RX3, TX3, 6, tyX3, rfl, tyX3_ok, nmX3, rfl, by decide +kernel⟩
theorem fn_RX3_30 : FN RX3 30 2 := ⟨RX2, TX2, 12, tyX2, rfl, rfl, inB2, tyX2_ok, by decide +kernel, bw_120, bw_121, bw_7⟩
theorem cl_RX3_32 : CL RX3 32 mX2_init := Or.inr ⟨_, nw_122⟩
theorem fg_RX3_33 : FG RX3 33 3 3 := ⟨RX3, TX3, 6, rfl, by decide, rfl, inB3, rfl, Or.inl bw_253⟩
theorem fp_RX3_33 : FP RX3 33 3 3 (tyX3 3) true := ⟨fg_RX3_33, RX3, TX3, 6, tyX3, rfl, tyX3_ok, nmX3, rfl, by decide +kernel⟩
theorem fn_RX3_37 : FN RX3 37 8 := ⟨RX8, TX8, 5, tyX8, rfl, rfl, inB8, tyX8_ok, by decide +kernel, bw_179, bw_180, bw_8⟩
theorem cl_RX3_39 : CL RX3 39 mX8_init := Or.inr ⟨_, nw_181⟩
theorem cm_X8_init : CM mX8_init 0 := ⟨bw_183, bw_8, ⟨by decide, by decide⟩, by decide +kernel, rfl⟩
theorem ci_X8_init : Cond.instanceMethod (mY mX8_init) ∈ BIG := bw_182
theorem fg_RX3_40 : FG RX3 40 3 4 := ⟨RX3, TX3, 6, rfl, by decide, rfl, inB3, rfl, Or.inl bw_255⟩
theorem fp_RX3_40 : FP RX3 40 3 4 (tyX3 4) true := ⟨fg_RX3_40, RX3, TX3, 6, tyX3, rfl, tyX3_ok, nmX3, rfl, by decide +kernel⟩
theorem fn_RX3_44 : FN RX3 44 1 := ⟨RX1, TX1, 8, tyX1, rfl, rfl, inB1, tyX1_ok, by decide +kernel, bw_210, bw_211, bw_9⟩
theorem cl_RX3_46 : CL RX3 46 mX1_init := Or.inr ⟨_, nw_212⟩
theorem cm_X1_init : CM mX1_init 0 := ⟨bw_214, bw_9, ⟨by decide, by decide⟩, by decide +kernel, rfl⟩
theorem ci_X1_init : Cond.instanceMethod (mY mX1_init) ∈ BIG := bw_213
theorem fg_RX3_47 : FG RX3 47 3 5 := ⟨RX3, TX3, 6, rfl, by decide, rfl, inB3, rfl, Or.inl bw_257⟩
theorem fp_RX3_47 : FP RX3 47 3 5 (tyX3 5) true := ⟨fg_RX3_47, RX3, TX3, 6, tyX3, rfl, tyX3_ok, nmX3, rfl, by decide +kernel⟩
theorem cl_RX3_51 : CL RX3 51 mX5_copy := Or.inl bw_661
theorem cm_X5_copy : CM mX5_copy 1 := ⟨bw_664, bw_4, ⟨by decide, by decide⟩, by decide +kernel, rfl⟩
theorem ci_X5_copy : Cond.instanceMethod (mY mX5_copy) ∈ BIG := bw_662
theorem cv_X5_copy : CV mX5_copy := ⟨ci_X5_copy, bw_663⟩
theorem cl_RX3_55 : CL RX3 55 mX0_copy := Or.inl bw_668
theorem cm_X0_copy : CM mX0_copy 1 := ⟨bw_671, bw_5, ⟨by decide, by decide⟩, by decide +kernel, rfl⟩
theorem ci_X0_copy : Cond.instanceMethod (mY mX0_copy) ∈ BIG := bw_669
theorem cv_X0_copy : CV mX0_copy := ⟨ci_X0_copy, bw_670⟩
theorem cl_RX3_58 : CL RX3 58 mX7_copy := Or.inl bw_673
theorem cm_X7_copy : CM mX7_copy 1 := ⟨bw_676, bw_6, ⟨by decide, by decide⟩, by decide +kernel, rfl⟩
theorem ci_X7_copy : Cond.instanceMethod (mY mX7_copy) ∈ BIG := bw_674
theorem cv_X7_copy : CV mX7_copy := ⟨ci_X7_copy, bw_675⟩
theorem cl_RX3_61 : CL RX3 61 mX2_copy := Or.inl bw_678
theorem cl_RX3_64 : CL RX3 64 mX8_copy := Or.inl bw_683
theorem cm_X8_copy : CM mX8_copy 1 := ⟨bw_686, bw_8, ⟨by decide, by decide⟩, by decide +kernel, rfl⟩
theorem ci_X8_copy : Cond.instanceMethod (mY mX8_copy) ∈ BIG := bw_684
theorem cv_X8_copy : CV mX8_copy := ⟨ci_X8_copy, bw_685⟩
theorem cl_RX3_67 : CL RX3 67 mX1_copy := Or.inl bw_688
theorem cm_X1_copy : CM mX1_copy 1 := ⟨bw_691, bw_9, ⟨by decide, by decide⟩, by decide +kernel, rfl⟩
theorem ci_X1_copy : Cond.instanceMethod (mY mX1_copy) ∈ BIG := bw_689
theorem cv_X1_copy : CV mX1_copy := ⟨ci_X1_copy, bw_690⟩
theorem fg_RX4_11 : FG RX4 11 4 2 := ⟨RX4, TX4, 6, rfl, by decide, rfl, inB4, rfl, Or.inl bw_303⟩
theorem fp_RX4_11 : FP RX4 11 4 2 (tyX4 2) true := ⟨fg_RX4_11, RX4, TX4, 6, tyX4, rfl, tyX4_ok, nmX4, rfl, by decide +kernel⟩
theorem fg_RX4_15 : FG RX4 15 4 3 := ⟨RX4, TX4, 6, rfl, by decide, rfl, inB4, rfl, Or.inl bw_304⟩
theorem fp_RX4_15 : FP RX4 15 4 3 (tyX4 3) true := ⟨fg_RX4_15, RX4, TX4, 6, tyX4, rfl, tyX4_ok, nmX4, rfl, by decide +kernel⟩
theorem fg_RX4_18 : FG RX4 18 4 0 := ⟨RX4, TX4, 6, rfl, by decide, rfl, inB4, rfl, Or.inl bw_301⟩
theorem fp_RX4_18 : FP RX4 18 4 0 (tyX4 0) true := ⟨fg_RX4_18, RX4, TX4, 6, tyX4, rfl, tyX4_ok, nmX4, rfl, by decide +kernel⟩
theorem fg_RX4_22 : FG RX4 22 4 1 := ⟨RX4, TX4, 6, rfl, by decide, rfl, inB4, rfl, Or.inl bw_302⟩
theorem fp_RX4_22 : FP RX4 22 4 1 (tyX4 1) true := ⟨fg_RX4_22, RX4, TX4, 6, tyX4, rfl, tyX4_ok, nmX4, rfl, by decide +kernel⟩
theorem cl_RX4_26 : CL RX4 26 mX4_clear := Or.inl bw_481
theorem cm_X4_clear : CM mX4_clear 1 := ⟨bw_483, bw_11, ⟨by decide, by decide⟩, by decide +kernel, rfl⟩
theorem cs_X4_clear : Cond.static (mY mX4_clear) ∈ BIG := bw_482
theorem fg_RX4_30 : FG RX4 30 0 2 := ⟨RX0, TX0, 3, rfl, by decide, rfl, inB0, rfl, Or.inr ⟨_, nw_88⟩⟩
theorem fg_RX4_36 : FG RX4 36 0 1 := ⟨RX0, TX0, 3, rfl, by decide, rfl, inB0, rfl, Or.inr ⟨_, nw_87⟩⟩
theorem cl_RX4_39 : CL RX4 39 mX4_mark := Or.inl bw_484
theorem cm_X4_mark : CM mX4_mark 3 := ⟨bw_486, bw_11, ⟨by decide, by decide⟩, by decide +kernel, rfl⟩
theorem cs_X4_mark : Cond.static (mY mX4_mark) ∈ BIG := bw_485
theorem fg_RX4_43 : FG RX4 43 8 4 := ⟨RX8, TX8, 5, rfl, by decide, rfl, inB8, rfl, Or.inr ⟨_, nw_197⟩⟩
theorem fg_RX4_48 : FG RX4 48 2 0 := ⟨RX2, TX2, 12, rfl, by decide, rfl, inB2, rfl, Or.inr ⟨_, nw_128⟩⟩
theorem fg_RX4_53 : FG RX4 53 2 1 := ⟨RX2, TX2, 12, rfl, by decide, rfl, inB2, rfl, Or.inr ⟨_, nw_132⟩⟩
theorem cl_RX4_56 : CL RX4 56 mX8_concerns := Or.inl bw_492
theorem cm_X8_concerns : CM mX8_concerns 3 := ⟨bw_410, bw_8, ⟨by decide, by decide⟩, by decide +kernel, rfl⟩
theorem ci_X8_concerns : Cond.instanceMethod (mY mX8_concerns) ∈ BIG := bw_408
theorem cv_X8_concerns : CV mX8_concerns := ⟨ci_X8_concerns, bw_409⟩
theorem fg_RX4_60 : FG RX4 60 8 2 := ⟨RX8, TX8, 5, rfl, by decide, rfl, inB8, rfl, Or.inr ⟨_, nw_189⟩⟩
theorem fg_RX4_63 : FG RX4 63 8 3 := ⟨RX8, TX8, 5, rfl, by decide, rfl, inB8, rfl, Or.inr ⟨_, nw_193⟩⟩
theorem cl_RX4_68 : CL RX4 68 mX11_isDay := Or.inr ⟨_, nw_496⟩
theorem cm_X11_isDay : CM mX11_isDay 1 := ⟨bw_498, bw_1, ⟨by decide, by decide⟩, by decide +kernel, rfl⟩
theorem cs_X11_isDay : Cond.static (mY mX11_isDay) ∈ BIG := bw_497
theorem cl_RX4_72 : CL RX4 72 mX4_isMarked := Or.inl bw_493
theorem cm_X4_isMarked : CM mX4_isMarked 2 := ⟨bw_495, bw_11, ⟨by decide, by decide⟩, by decide +kernel, rfl⟩
theorem cs_X4_isMarked : Cond.static (mY mX4_isMarked) ∈ BIG := bw_494
theorem cl_RX4_76 : CL RX4 76 mX4_markHolidays := Or.inl bw_477
theorem cm_X4_markHolidays : CM mX4_markHolidays 0 := ⟨bw_480, bw_11, ⟨by decide, by decide⟩, by decide +kernel, rfl⟩
theorem ci_X4_markHolidays : Cond.instanceMethod (mY mX4_markHolidays) ∈ BIG := bw_479
theorem cv_X4_markHolidays : CV mX4_markHolidays := ⟨ci_X4_markHolidays, bs_12⟩
theorem cl_RX4_79 : CL RX4 79 mX4_isCourt := Or.inl bw_499
theorem cm_X4_isCourt : CM mX4_isCourt 1 := ⟨bw_502, bw_11, ⟨by decide, by decide⟩, by decide +kernel, rfl⟩
theorem ci_X4_isCourt : Cond.instanceMethod (mY mX4_isCourt) ∈ BIG := bw_501
theorem cv_X4_isCourt : CV mX4_isCourt := ⟨ci_X4_isCourt, bs_14⟩
theorem cl_RX4_82 : CL RX4 82 mX4_markStays := Or.inl bw_488
theorem cm_X4_markStays : CM mX4_markStays 2 := ⟨bw_491, bw_11, ⟨by decide, by decide⟩, by decide +kernel, rfl⟩
theorem ci_X4_markStays : Cond.instanceMethod (mY mX4_markStays) ∈ BIG := bw_490
theorem cv_X4_markStays : CV mX4_markStays := ⟨ci_X4_markStays, bs_13⟩
theorem cl_RX4_86 : CL RX4 86 mX4_walk := Or.inl bw_473
theorem cm_X4_walk : CM mX4_walk 3 := ⟨bw_476, bw_11, ⟨by decide, by decide⟩, by decide +kernel, rfl⟩
theorem ci_X4_walk : Cond.instanceMethod (mY mX4_walk) ∈ BIG := bw_475
theorem cv_X4_walk : CV mX4_walk := ⟨ci_X4_walk, bs_11⟩
theorem fg_RX4_90 : FG RX4 90 4 5 := ⟨RX4, TX4, 6, rfl, by decide, rfl, inB4, rfl, Or.inl bw_306⟩
theorem fg_RX4_93 : FG RX4 93 4 4 := ⟨RX4, TX4, 6, rfl, by decide, rfl, inB4, rfl, Or.inl bw_305⟩
theorem fg_RX4_96 : FG RX4 96 2 4 := ⟨RX2, TX2, 12, rfl, by decide, rfl, inB2, rfl, Or.inr ⟨_, nw_139⟩⟩
theorem fp_RX4_93 : FP RX4 93 4 4 .int false := ⟨fg_RX4_93, RX4, TX4, 6, tyX4, rfl, tyX4_ok, nmX4, rfl, by decide +kernel⟩
theorem fp_RX4_90 : FP RX4 90 4 5 .int false := ⟨fg_RX4_90, RX4, TX4, 6, tyX4, rfl, tyX4_ok, nmX4, rfl, by decide +kernel⟩
theorem fg_RX4_99 : FG RX4 99 2 2 := ⟨RX2, TX2, 12, rfl, by decide, rfl, inB2, rfl, Or.inr ⟨_, nw_135⟩⟩
theorem cl_RX4_102 : CL RX4 102 mX2_lengthOfPart := Or.inl bw_503
theorem cl_RX4_106 : CL RX4 106 mX2_partCountsCourt := Or.inl bw_504
theorem cm_X2_partCountsCourt : CM mX2_partCountsCourt 2 := ⟨bw_421, bw_7, ⟨by decide, by decide⟩, by decide +kernel, rfl⟩
theorem ci_X2_partCountsCourt : Cond.instanceMethod (mY mX2_partCountsCourt) ∈ BIG := bw_419
theorem cv_X2_partCountsCourt : CV mX2_partCountsCourt := ⟨ci_X2_partCountsCourt, bw_420⟩
theorem fg_RX5_9 : FG RX5 9 5 0 := ⟨RX5, TX5, 3, rfl, by decide, rfl, inB5, rfl, Or.inl bw_64⟩
theorem fp_RX5_9 : FP RX5 9 5 0 (tyX5 0) true := ⟨fg_RX5_9, RX5, TX5, 3, tyX5, rfl, tyX5_ok, nmX5, rfl, by decide +kernel⟩
theorem fg_RX5_15 : FG RX5 15 5 1 := ⟨RX5, TX5, 3, rfl, by decide, rfl, inB5, rfl, Or.inl bw_66⟩
theorem fp_RX5_15 : FP RX5 15 5 1 (tyX5 1) true := ⟨fg_RX5_15, RX5, TX5, 3, tyX5, rfl, tyX5_ok, nmX5, rfl, by decide +kernel⟩
theorem fg_RX5_24 : FG RX5 24 5 2 := ⟨RX5, TX5, 3, rfl, by decide, rfl, inB5, rfl, Or.inl bw_68⟩
theorem fp_RX5_24 : FP RX5 24 5 2 .int false := ⟨fg_RX5_24, RX5, TX5, 3, tyX5, rfl, tyX5_ok, nmX5, rfl, by decide +kernel⟩
theorem cl_RX5_28 : CL RX5 28 mX5_isNamed := Or.inl bw_1037
theorem cm_X5_isNamed : CM mX5_isNamed 3 := ⟨bw_1040, bw_4, ⟨by decide, by decide⟩, by decide +kernel, rfl⟩
theorem ci_X5_isNamed : Cond.instanceMethod (mY mX5_isNamed) ∈ BIG := bw_1039
theorem cv_X5_isNamed : CV mX5_isNamed := ⟨ci_X5_isNamed, bs_39⟩
theorem fg_RX6_9 : FG RX6 9 6 0 := ⟨RX6, TX6, 6, rfl, by decide, rfl, inB6, rfl, Or.inl bw_327⟩
theorem fp_RX6_9 : FP RX6 9 6 0 (tyX6 0) true := ⟨fg_RX6_9, RX6, TX6, 6, tyX6, rfl, tyX6_ok, nmX6, rfl, by decide +kernel⟩
theorem fg_RX6_15 : FG RX6 15 6 1 := ⟨RX6, TX6, 6, rfl, by decide, rfl, inB6, rfl, Or.inl bw_329⟩
theorem fp_RX6_15 : FP RX6 15 6 1 (tyX6 1) true := ⟨fg_RX6_15, RX6, TX6, 6, tyX6, rfl, tyX6_ok, nmX6, rfl, by decide +kernel⟩
theorem fg_RX6_18 : FG RX6 18 6 2 := ⟨RX6, TX6, 6, rfl, by decide, rfl, inB6, rfl, Or.inl bw_331⟩
theorem fp_RX6_18 : FP RX6 18 6 2 (tyX6 2) true := ⟨fg_RX6_18, RX6, TX6, 6, tyX6, rfl, tyX6_ok, nmX6, rfl, by decide +kernel⟩
theorem fg_RX6_21 : FG RX6 21 6 3 := ⟨RX6, TX6, 6, rfl, by decide, rfl, inB6, rfl, Or.inl bw_333⟩
theorem fp_RX6_21 : FP RX6 21 6 3 (tyX6 3) true := ⟨fg_RX6_21, RX6, TX6, 6, tyX6, rfl, tyX6_ok, nmX6, rfl, by decide +kernel⟩
theorem fg_RX7_9 : FG RX7 9 7 0 := ⟨RX7, TX7, 3, rfl, by decide, rfl, inB7, rfl, Or.inl bw_104⟩
theorem fp_RX7_9 : FP RX7 9 7 0 (tyX7 0) true := ⟨fg_RX7_9, RX7, TX7, 3, tyX7, rfl, tyX7_ok, nmX7, rfl, by decide +kernel⟩
theorem fg_RX7_15 : FG RX7 15 7 1 := ⟨RX7, TX7, 3, rfl, by decide, rfl, inB7, rfl, Or.inl bw_107⟩
theorem fp_RX7_15 : FP RX7 15 7 1 (tyX7 1) true := ⟨fg_RX7_15, RX7, TX7, 3, tyX7, rfl, tyX7_ok, nmX7, rfl, by decide +kernel⟩
theorem fg_RX7_19 : FG RX7 19 7 2 := ⟨RX7, TX7, 3, rfl, by decide, rfl, inB7, rfl, Or.inl bw_110⟩
theorem fp_RX7_19 : FP RX7 19 7 2 (tyX7 2) true := ⟨fg_RX7_19, RX7, TX7, 3, tyX7, rfl, tyX7_ok, nmX7, rfl, by decide +kernel⟩
theorem fg_RX8_9 : FG RX8 9 8 0 := ⟨RX8, TX8, 5, rfl, by decide, rfl, inB8, rfl, Or.inl bw_185⟩
theorem fp_RX8_9 : FP RX8 9 8 0 (tyX8 0) true := ⟨fg_RX8_9, RX8, TX8, 5, tyX8, rfl, tyX8_ok, nmX8, rfl, by decide +kernel⟩
theorem fg_RX8_15 : FG RX8 15 8 1 := ⟨RX8, TX8, 5, rfl, by decide, rfl, inB8, rfl, Or.inl bw_186⟩
theorem fp_RX8_15 : FP RX8 15 8 1 (tyX8 1) true := ⟨fg_RX8_15, RX8, TX8, 5, tyX8, rfl, tyX8_ok, nmX8, rfl, by decide +kernel⟩
theorem fg_RX8_18 : FG RX8 18 8 2 := ⟨RX8, TX8, 5, rfl, by decide, rfl, inB8, rfl, Or.inl bw_187⟩
theorem fp_RX8_18 : FP RX8 18 8 2 (tyX8 2) true := ⟨fg_RX8_18, RX8, TX8, 5, tyX8, rfl, tyX8_ok, nmX8, rfl, by decide +kernel⟩
theorem fg_RX8_21 : FG RX8 21 8 3 := ⟨RX8, TX8, 5, rfl, by decide, rfl, inB8, rfl, Or.inl bw_191⟩
theorem fp_RX8_21 : FP RX8 21 8 3 (tyX8 3) true := ⟨fg_RX8_21, RX8, TX8, 5, tyX8, rfl, tyX8_ok, nmX8, rfl, by decide +kernel⟩
theorem fg_RX8_30 : FG RX8 30 8 4 := ⟨RX8, TX8, 5, rfl, by decide, rfl, inB8, rfl, Or.inl bw_196⟩
theorem fp_RX8_30 : FP RX8 30 8 4 .int false := ⟨fg_RX8_30, RX8, TX8, 5, tyX8, rfl, tyX8_ok, nmX8, rfl, by decide +kernel⟩
theorem cl_RX8_34 : CL RX8 34 mX8_isInForce := Or.inl bw_1465
theorem cm_X8_isInForce : CM mX8_isInForce 1 := ⟨bw_939, bw_8, ⟨by decide, by decide⟩, by decide +kernel, rfl⟩
theorem ci_X8_isInForce : Cond.instanceMethod (mY mX8_isInForce) ∈ BIG := bw_937
theorem cv_X8_isInForce : CV mX8_isInForce := ⟨ci_X8_isInForce, bw_938⟩
theorem fg_RX9_9 : FG RX9 9 9 0 := ⟨RX9, TX9, 2, rfl, by decide, rfl, inB9, rfl, Or.inl bw_42⟩
theorem fp_RX9_9 : FP RX9 9 9 0 (tyX9 0) true := ⟨fg_RX9_9, RX9, TX9, 2, tyX9, rfl, tyX9_ok, nmX9, rfl, by decide +kernel⟩
theorem fg_RX9_15 : FG RX9 15 9 1 := ⟨RX9, TX9, 2, rfl, by decide, rfl, inB9, rfl, Or.inl bw_43⟩
theorem fp_RX9_15 : FP RX9 15 9 1 .int false := ⟨fg_RX9_15, RX9, TX9, 2, tyX9, rfl, tyX9_ok, nmX9, rfl, by decide +kernel⟩
theorem cl_RX9_26 : CL RX9 26 mX9_isHigh := Or.inl bw_1011
theorem cm_X9_isHigh : CM mX9_isHigh 1 := ⟨bw_1013, bw_2, ⟨by decide, by decide⟩, by decide +kernel, rfl⟩
theorem cs_X9_isHigh : Cond.static (mY mX9_isHigh) ∈ BIG := bw_1012
theorem cl_RX9_30 : CL RX9 30 mX9_signAt := Or.inl bw_1016
theorem cm_X9_signAt : CM mX9_signAt 1 := ⟨bw_1019, bw_2, ⟨by decide, by decide⟩, by decide +kernel, rfl⟩
theorem ci_X9_signAt : Cond.instanceMethod (mY mX9_signAt) ∈ BIG := bw_1017
theorem cv_X9_signAt : CV mX9_signAt := ⟨ci_X9_signAt, bw_1018⟩
theorem cl_RX9_34 : CL RX9 34 mX9_isLow := Or.inl bw_1020
theorem cm_X9_isLow : CM mX9_isLow 1 := ⟨bw_1022, bw_2, ⟨by decide, by decide⟩, by decide +kernel, rfl⟩
theorem cs_X9_isLow : Cond.static (mY mX9_isLow) ∈ BIG := bw_1021
theorem cl_RX9_37 : CL RX9 37 mX9_joinPair := Or.inl bw_1025
theorem cm_X9_joinPair : CM mX9_joinPair 2 := ⟨bw_1027, bw_2, ⟨by decide, by decide⟩, by decide +kernel, rfl⟩
theorem cs_X9_joinPair : Cond.static (mY mX9_joinPair) ∈ BIG := bw_1026
theorem fg_RX10_9 : FG RX10 9 10 2 := ⟨RX10, TX10, 5, rfl, by decide, rfl, inB10, rfl, Or.inl bw_281⟩
theorem fp_RX10_9 : FP RX10 9 10 2 (tyX10 2) true := ⟨fg_RX10_9, RX10, TX10, 5, tyX10, rfl, tyX10_ok, nmX10, rfl, by decide +kernel⟩
theorem fg_RX10_15 : FG RX10 15 10 3 := ⟨RX10, TX10, 5, rfl, by decide, rfl, inB10, rfl, Or.inl bw_282⟩
theorem fp_RX10_15 : FP RX10 15 10 3 (tyX10 3) true := ⟨fg_RX10_15, RX10, TX10, 5, tyX10, rfl, tyX10_ok, nmX10, rfl, by decide +kernel⟩
theorem fg_RX10_18 : FG RX10 18 10 0 := ⟨RX10, TX10, 5, rfl, by decide, rfl, inB10, rfl, Or.inl bw_279⟩
theorem fp_RX10_18 : FP RX10 18 10 0 (tyX10 0) true := ⟨fg_RX10_18, RX10, TX10, 5, tyX10, rfl, tyX10_ok, nmX10, rfl, by decide +kernel⟩
theorem fg_RX10_22 : FG RX10 22 10 1 := ⟨RX10, TX10, 5, rfl, by decide, rfl, inB10, rfl, Or.inl bw_280⟩
theorem fp_RX10_22 : FP RX10 22 10 1 (tyX10 1) true := ⟨fg_RX10_22, RX10, TX10, 5, tyX10, rfl, tyX10_ok, nmX10, rfl, by decide +kernel⟩
theorem fg_RX10_26 : FG RX10 26 10 4 := ⟨RX10, TX10, 5, rfl, by decide, rfl, inB10, rfl, Or.inl bw_283⟩
theorem fp_RX10_26 : FP RX10 26 10 4 .int false := ⟨fg_RX10_26, RX10, TX10, 5, tyX10, rfl, tyX10_ok, nmX10, rfl, by decide +kernel⟩
theorem fg_RX10_30 : FG RX10 30 8 4 := ⟨RX8, TX8, 5, rfl, by decide, rfl, inB8, rfl, Or.inr ⟨_, nw_195⟩⟩
theorem fg_RX10_35 : FG RX10 35 2 0 := ⟨RX2, TX2, 12, rfl, by decide, rfl, inB2, rfl, Or.inr ⟨_, nw_127⟩⟩
theorem fg_RX10_40 : FG RX10 40 2 1 := ⟨RX2, TX2, 12, rfl, by decide, rfl, inB2, rfl, Or.inr ⟨_, nw_131⟩⟩
theorem cl_RX10_43 : CL RX10 43 mX8_concerns := Or.inl bw_407
theorem fg_RX10_47 : FG RX10 47 8 2 := ⟨RX8, TX8, 5, rfl, by decide, rfl, inB8, rfl, Or.inr ⟨_, nw_188⟩⟩
theorem fg_RX10_50 : FG RX10 50 8 3 := ⟨RX8, TX8, 5, rfl, by decide, rfl, inB8, rfl, Or.inr ⟨_, nw_192⟩⟩
theorem cl_RX10_53 : CL RX10 53 mX10_joinRange := Or.inl bw_411
theorem cm_X10_joinRange : CM mX10_joinRange 2 := ⟨bw_414, bw_10, ⟨by decide, by decide⟩, by decide +kernel, rfl⟩
theorem ci_X10_joinRange : Cond.instanceMethod (mY mX10_joinRange) ∈ BIG := bw_413
theorem cv_X10_joinRange : CV mX10_joinRange := ⟨ci_X10_joinRange, bs_2⟩
theorem cl_RX10_63 : CL RX10 63 mX10_takeStays := Or.inl bw_403
theorem cm_X10_takeStays : CM mX10_takeStays 2 := ⟨bw_406, bw_10, ⟨by decide, by decide⟩, by decide +kernel, rfl⟩
theorem ci_X10_takeStays : Cond.instanceMethod (mY mX10_takeStays) ∈ BIG := bw_405
theorem cv_X10_takeStays : CV mX10_takeStays := ⟨ci_X10_takeStays, bs_1⟩
theorem fg_RX10_70 : FG RX10 70 2 2 := ⟨RX2, TX2, 12, rfl, by decide, rfl, inB2, rfl, Or.inr ⟨_, nw_134⟩⟩
theorem fg_RX10_73 : FG RX10 73 2 4 := ⟨RX2, TX2, 12, rfl, by decide, rfl, inB2, rfl, Or.inr ⟨_, nw_138⟩⟩
theorem cl_RX10_76 : CL RX10 76 mX2_partCountsCourt := Or.inl bw_418
theorem cl_RX10_80 : CL RX10 80 mX2_lengthOfPart := Or.inl bw_422
theorem cl_RX10_83 : CL RX10 83 mX10_dayOfCount := Or.inl bw_426
theorem cm_X10_dayOfCount : CM mX10_dayOfCount 3 := ⟨bw_429, bw_10, ⟨by decide, by decide⟩, by decide +kernel, rfl⟩
theorem ci_X10_dayOfCount : Cond.instanceMethod (mY mX10_dayOfCount) ∈ BIG := bw_428
theorem cv_X10_dayOfCount : CV mX10_dayOfCount := ⟨ci_X10_dayOfCount, bs_3⟩
theorem cl_RX10_87 : CL RX10 87 mX10_moveEnd := Or.inl bw_461
theorem cm_X10_moveEnd : CM mX10_moveEnd 1 := ⟨bw_464, bw_10, ⟨by decide, by decide⟩, by decide +kernel, rfl⟩
theorem ci_X10_moveEnd : Cond.instanceMethod (mY mX10_moveEnd) ∈ BIG := bw_463
theorem cv_X10_moveEnd : CV mX10_moveEnd := ⟨ci_X10_moveEnd, bs_9⟩
theorem cl_RX10_91 : CL RX10 91 mX10_countFree := Or.inl bw_509
theorem cm_X10_countFree : CM mX10_countFree 3 := ⟨bw_512, bw_10, ⟨by decide, by decide⟩, by decide +kernel, rfl⟩
theorem ci_X10_countFree : Cond.instanceMethod (mY mX10_countFree) ∈ BIG := bw_511
theorem cv_X10_countFree : CV mX10_countFree := ⟨ci_X10_countFree, bs_15⟩
theorem cl_RX10_94 : CL RX10 94 mX10_lastDayOfGap := Or.inl bw_430
theorem cm_X10_lastDayOfGap : CM mX10_lastDayOfGap 1 := ⟨bw_433, bw_10, ⟨by decide, by decide⟩, by decide +kernel, rfl⟩
theorem ci_X10_lastDayOfGap : Cond.instanceMethod (mY mX10_lastDayOfGap) ∈ BIG := bw_432
theorem cv_X10_lastDayOfGap : CV mX10_lastDayOfGap := ⟨ci_X10_lastDayOfGap, bs_4⟩
theorem cl_RX10_97 : CL RX10 97 mX10_countDays := Or.inl bw_434
theorem cm_X10_countDays : CM mX10_countDays 3 := ⟨bw_437, bw_10, ⟨by decide, by decide⟩, by decide +kernel, rfl⟩
theorem ci_X10_countDays : Cond.instanceMethod (mY mX10_countDays) ∈ BIG := bw_436
theorem cv_X10_countDays : CV mX10_countDays := ⟨ci_X10_countDays, bs_5⟩
theorem cl_RX10_100 : CL RX10 100 mX10_courtDayOfCount := Or.inl bw_442
theorem cm_X10_courtDayOfCount : CM mX10_courtDayOfCount 2 := ⟨bw_445, bw_10, ⟨by decide, by decide⟩, by decide +kernel, rfl⟩
theorem ci_X10_courtDayOfCount : Cond.instanceMethod (mY mX10_courtDayOfCount) ∈ BIG := bw_444
theorem cv_X10_courtDayOfCount : CV mX10_courtDayOfCount := ⟨ci_X10_courtDayOfCount, bs_6⟩
theorem cl_RX10_103 : CL RX10 103 mX10_dayBehindRange := Or.inl bw_457
theorem cm_X10_dayBehindRange : CM mX10_dayBehindRange 2 := ⟨bw_460, bw_10, ⟨by decide, by decide⟩, by decide +kernel, rfl⟩
theorem ci_X10_dayBehindRange : Cond.instanceMethod (mY mX10_dayBehindRange) ∈ BIG := bw_459
theorem cv_X10_dayBehindRange : CV mX10_dayBehindRange := ⟨ci_X10_dayBehindRange, bs_8⟩
theorem cl_RX10_106 : CL RX10 106 mX0_countCourt := Or.inl bw_438
theorem cm_X0_countCourt : CM mX0_countCourt 2 := ⟨bw_441, bw_5, ⟨by decide, by decide⟩, by decide +kernel, rfl⟩
theorem ci_X0_countCourt : Cond.instanceMethod (mY mX0_countCourt) ∈ BIG := bw_439
theorem cv_X0_countCourt : CV mX0_countCourt := ⟨ci_X0_countCourt, bw_440⟩
theorem cl_RX10_111 : CL RX10 111 mX0_isCourt := Or.inl bw_449
theorem cm_X0_isCourt : CM mX0_isCourt 1 := ⟨bw_452, bw_5, ⟨by decide, by decide⟩, by decide +kernel, rfl⟩
theorem ci_X0_isCourt : Cond.instanceMethod (mY mX0_isCourt) ∈ BIG := bw_450
theorem cv_X0_isCourt : CV mX0_isCourt := ⟨ci_X0_isCourt, bw_451⟩
theorem cl_RX10_115 : CL RX10 115 mX10_skipRange := Or.inl bw_465
theorem cm_X10_skipRange : CM mX10_skipRange 1 := ⟨bw_468, bw_10, ⟨by decide, by decide⟩, by decide +kernel, rfl⟩
theorem ci_X10_skipRange : Cond.instanceMethod (mY mX10_skipRange) ∈ BIG := bw_467
theorem cv_X10_skipRange : CV mX10_skipRange := ⟨ci_X10_skipRange, bs_10⟩
theorem cl_RX10_118 : CL RX10 118 mX10_dayOfCountBack := Or.inl bw_1276
theorem cm_X10_dayOfCountBack : CM mX10_dayOfCountBack 2 := ⟨bw_1279, bw_10, ⟨by decide, by decide⟩, by decide +kernel, rfl⟩
theorem ci_X10_dayOfCountBack : Cond.instanceMethod (mY mX10_dayOfCountBack) ∈ BIG := bw_1278
theorem cv_X10_dayOfCountBack : CV mX10_dayOfCountBack := ⟨ci_X10_dayOfCountBack, bs_54⟩
theorem fn_RX11_9 : FN RX11 9 9 := ⟨RX9, TX9, 2, tyX9, rfl, rfl, inB9, tyX9_ok, by decide +kernel, bw_36, bw_37, bw_2⟩
theorem cl_RX11_11 : CL RX11 11 mX9_init := Or.inr ⟨_, nw_38⟩
theorem cm_X9_init : CM mX9_init 0 := ⟨bw_40, bw_2, ⟨by decide, by decide⟩, by decide +kernel, rfl⟩
theorem ci_X9_init : Cond.instanceMethod (mY mX9_init) ∈ BIG := bw_39
theorem fg_RX11_12 : FG RX11 12 11 0 := ⟨RX11, TX11, 13, rfl, by decide, rfl, inB11, rfl, Or.inl bw_351⟩
theorem fp_RX11_12 : FP RX11 12 11 0 (tyX11 0) true := ⟨fg_RX11_12, RX11, TX11, 13, tyX11, rfl, tyX11_ok, nmX11, rfl, by decide +kernel⟩
theorem fg_RX11_16 : FG RX11 16 11 1 := ⟨RX11, TX11, 13, rfl, by decide, rfl, inB11, rfl, Or.inl bw_352⟩
theorem fp_RX11_16 : FP RX11 16 11 1 (tyX11 1) true := ⟨fg_RX11_16, RX11, TX11, 13, tyX11, rfl, tyX11_ok, nmX11, rfl, by decide +kernel⟩
theorem fg_RX11_19 : FG RX11 19 11 2 := ⟨RX11, TX11, 13, rfl, by decide, rfl, inB11, rfl, Or.inl bw_353⟩
theorem fp_RX11_19 : FP RX11 19 11 2 (tyX11 2) true := ⟨fg_RX11_19, RX11, TX11, 13, tyX11, rfl, tyX11_ok, nmX11, rfl, by decide +kernel⟩
theorem fn_RX11_23 : FN RX11 23 3 := ⟨RX3, TX3, 6, tyX3, rfl, rfl, inB3, tyX3_ok, by decide +kernel, bw_52, bw_53, bw_3⟩
theorem cl_RX11_25 : CL RX11 25 mX3_init := Or.inr ⟨_, nw_54⟩
theorem cm_X3_init : CM mX3_init 0 := ⟨bw_56, bw_3, ⟨by decide, by decide⟩, by decide +kernel, rfl⟩
theorem ci_X3_init : Cond.instanceMethod (mY mX3_init) ∈ BIG := bw_55
theorem fg_RX11_26 : FG RX11 26 11 3 := ⟨RX11, TX11, 13, rfl, by decide, rfl, inB11, rfl, Or.inl bw_354⟩
theorem fp_RX11_26 : FP RX11 26 11 3 (tyX11 3) true := ⟨fg_RX11_26, RX11, TX11, 13, tyX11, rfl, tyX11_ok, nmX11, rfl, by decide +kernel⟩
theorem fg_RX11_30 : FG RX11 30 11 4 := ⟨RX11, TX11, 13, rfl, by decide, rfl, inB11, rfl, Or.inl bw_355⟩
theorem fp_RX11_30 : FP RX11 30 11 4 (tyX11 4) true := ⟨fg_RX11_30, RX11, TX11, 13, tyX11, rfl, tyX11_ok, nmX11, rfl, by decide +kernel⟩
theorem fn_RX11_34 : FN RX11 34 10 := ⟨RX10, TX10, 5, tyX10, rfl, rfl, inB10, tyX10_ok, by decide +kernel, bw_273, bw_274, bw_10⟩
theorem fg_RX11_36 : FG RX11 36 3 1 := ⟨RX3, TX3, 6, rfl, by decide, rfl, inB3, rfl, Or.inr ⟨_, nw_250⟩⟩
theorem fg_RX11_40 : FG RX11 40 3 4 := ⟨RX3, TX3, 6, rfl, by decide, rfl, inB3, rfl, Or.inr ⟨_, nw_256⟩⟩
theorem cl_RX11_44 : CL RX11 44 mX10_init := Or.inl bw_275
theorem cm_X10_init : CM mX10_init 2 := ⟨bw_277, bw_10, ⟨by decide, by decide⟩, by decide +kernel, rfl⟩
theorem ci_X10_init : Cond.instanceMethod (mY mX10_init) ∈ BIG := bw_276
theorem fg_RX11_47 : FG RX11 47 11 7 := ⟨RX11, TX11, 13, rfl, by decide, rfl, inB11, rfl, Or.inl bw_358⟩
theorem fp_RX11_47 : FP RX11 47 11 7 (tyX11 7) true := ⟨fg_RX11_47, RX11, TX11, 13, tyX11, rfl, tyX11_ok, nmX11, rfl, by decide +kernel⟩
theorem fn_RX11_51 : FN RX11 51 4 := ⟨RX4, TX4, 6, tyX4, rfl, rfl, inB4, tyX4_ok, by decide +kernel, bw_295, bw_296, bw_11⟩
theorem cl_RX11_53 : CL RX11 53 mX4_init := Or.inl bw_297
theorem cm_X4_init : CM mX4_init 2 := ⟨bw_299, bw_11, ⟨by decide, by decide⟩, by decide +kernel, rfl⟩
theorem ci_X4_init : Cond.instanceMethod (mY mX4_init) ∈ BIG := bw_298
theorem fg_RX11_54 : FG RX11 54 11 8 := ⟨RX11, TX11, 13, rfl, by decide, rfl, inB11, rfl, Or.inl bw_359⟩
theorem fp_RX11_54 : FP RX11 54 11 8 (tyX11 8) true := ⟨fg_RX11_54, RX11, TX11, 13, tyX11, rfl, tyX11_ok, nmX11, rfl, by decide +kernel⟩
theorem fg_RX11_58 : FG RX11 58 11 9 := ⟨RX11, TX11, 13, rfl, by decide, rfl, inB11, rfl, Or.inl bw_360⟩
theorem fp_RX11_58 : FP RX11 58 11 9 (tyX11 9) true := ⟨fg_RX11_58, RX11, TX11, 13, tyX11, rfl, tyX11_ok, nmX11, rfl, by decide +kernel⟩
theorem fn_RX11_61 : FN RX11 61 6 := ⟨RX6, TX6, 6, tyX6, rfl, rfl, inB6, tyX6_ok, by decide +kernel, bw_321, bw_322, bw_12⟩
theorem cl_RX11_63 : CL RX11 63 mX6_init := Or.inr ⟨_, nw_323⟩
theorem cm_X6_init : CM mX6_init 0 := ⟨bw_325, bw_12, ⟨by decide, by decide⟩, by decide +kernel, rfl⟩
theorem ci_X6_init : Cond.instanceMethod (mY mX6_init) ∈ BIG := bw_324
theorem fg_RX11_64 : FG RX11 64 11 10 := ⟨RX11, TX11, 13, rfl, by decide, rfl, inB11, rfl, Or.inl bw_361⟩
theorem fp_RX11_64 : FP RX11 64 11 10 (tyX11 10) true := ⟨fg_RX11_64, RX11, TX11, 13, tyX11, rfl, tyX11_ok, nmX11, rfl, by decide +kernel⟩
theorem fg_RX11_68 : FG RX11 68 11 11 := ⟨RX11, TX11, 13, rfl, by decide, rfl, inB11, rfl, Or.inl bw_362⟩
theorem fp_RX11_68 : FP RX11 68 11 11 .int false := ⟨fg_RX11_68, RX11, TX11, 13, tyX11, rfl, tyX11_ok, nmX11, rfl, by decide +kernel⟩
theorem fg_RX11_72 : FG RX11 72 11 12 := ⟨RX11, TX11, 13, rfl, by decide, rfl, inB11, rfl, Or.inl bw_363⟩
theorem fp_RX11_72 : FP RX11 72 11 12 .int false := ⟨fg_RX11_72, RX11, TX11, 13, tyX11, rfl, tyX11_ok, nmX11, rfl, by decide +kernel⟩
theorem fg_RX11_75 : FG RX11 75 9 1 := ⟨RX9, TX9, 2, rfl, by decide, rfl, inB9, rfl, Or.inr ⟨_, nw_44⟩⟩
theorem ta_RX11_78_82 : ∀ w ∈ vx_atS RX11 82 (XN 1) NMS, w ∈ BIG ∨ w ∈ NW := goodA _ [13, 633, 585, 593, 596, 598, 634, 635, 34, 35, 579, 584, 594, 601, 627, 602, 628, 603, 629, 580, 582, 630, 577, 578, 600, 630, 742, 743, 744, 571, 621, 571, 572, 573, 574, 623, 574, 575, 576, 577, 625, 741, 732, 733, 734, 589, 735, 736, 737, 738, 632, 631, 739] (by decide +kernel) (by decide +kernel)
theorem tg_RX11_78_82 : ∀ w ∈ Cond.classLink RX11 78 (XN 1) :: Cond.initialized (XN 1) :: vx_atS RX11 82 (XN 1) NMS, vx_ot w = true := by decide +kernel
theorem tk_RX11_78_82 : Cond.classLink RX11 78 (XN 1) ∈ BIG := bw_731
theorem ti_RX11_78_82 : Cond.initialized (XN 1) ∈ BIG := bw_21
theorem cl_RX11_85 : CL RX11 85 mX9_append := Or.inl bw_1055
theorem cm_X9_append : CM mX9_append 1 := ⟨bw_1058, bw_2, ⟨by decide, by decide⟩, by decide +kernel, rfl⟩
theorem ci_X9_append : Cond.instanceMethod (mY mX9_append) ∈ BIG := bw_1056
theorem cv_X9_append : CV mX9_append := ⟨ci_X9_append, bw_1057⟩
theorem cl_RX11_89 : CL RX11 89 mX11_setAside := Or.inl bw_653
theorem cm_X11_setAside : CM mX11_setAside 0 := ⟨bw_656, bw_1, ⟨by decide, by decide⟩, by decide +kernel, rfl⟩
theorem ci_X11_setAside : Cond.instanceMethod (mY mX11_setAside) ∈ BIG := bw_655
theorem cv_X11_setAside : CV mX11_setAside := ⟨ci_X11_setAside, bs_19⟩
theorem cl_RX11_92 : CL RX11 92 mX11_tryAddParty := Or.inl bw_1003
theorem cm_X11_tryAddParty : CM mX11_tryAddParty 0 := ⟨bw_1006, bw_1, ⟨by decide, by decide⟩, by decide +kernel, rfl⟩
theorem ci_X11_tryAddParty : Cond.instanceMethod (mY mX11_tryAddParty) ∈ BIG := bw_1005
theorem cv_X11_tryAddParty : CV mX11_tryAddParty := ⟨ci_X11_tryAddParty, bs_38⟩
theorem cl_RX11_96 : CL RX11 96 mX11_settle := Or.inl bw_698
theorem cm_X11_settle : CM mX11_settle 1 := ⟨bw_701, bw_1, ⟨by decide, by decide⟩, by decide +kernel, rfl⟩
theorem ci_X11_settle : Cond.instanceMethod (mY mX11_settle) ∈ BIG := bw_700
theorem cv_X11_settle : CV mX11_settle := ⟨ci_X11_settle, bs_21⟩
theorem cl_RX11_100 : CL RX11 100 mX9_readName := Or.inl bw_1007
theorem cm_X9_readName : CM mX9_readName 1 := ⟨bw_1010, bw_2, ⟨by decide, by decide⟩, by decide +kernel, rfl⟩
theorem ci_X9_readName : Cond.instanceMethod (mY mX9_readName) ∈ BIG := bw_1008
theorem cv_X9_readName : CV mX9_readName := ⟨ci_X9_readName, bw_1009⟩
theorem cl_RX11_104 : CL RX11 104 mX9_clear := Or.inl bw_1029
theorem cm_X9_clear : CM mX9_clear 0 := ⟨bw_1032, bw_2, ⟨by decide, by decide⟩, by decide +kernel, rfl⟩
theorem ci_X9_clear : Cond.instanceMethod (mY mX9_clear) ∈ BIG := bw_1030
theorem cv_X9_clear : CV mX9_clear := ⟨ci_X9_clear, bw_1031⟩
theorem fg_RX11_107 : FG RX11 107 3 0 := ⟨RX3, TX3, 6, rfl, by decide, rfl, inB3, rfl, Or.inr ⟨_, nw_248⟩⟩
theorem fg_RX11_122 : FG RX11 122 5 2 := ⟨RX5, TX5, 3, rfl, by decide, rfl, inB5, rfl, Or.inr ⟨_, nw_69⟩⟩
theorem cl_RX11_111 : CL RX11 111 mX5_find := Or.inl bw_1033
theorem cm_X5_find : CM mX5_find 2 := ⟨bw_1036, bw_4, ⟨by decide, by decide⟩, by decide +kernel, rfl⟩
theorem ci_X5_find : Cond.instanceMethod (mY mX5_find) ∈ BIG := bw_1034
theorem cv_X5_find : CV mX5_find := ⟨ci_X5_find, bw_1035⟩
theorem cl_RX11_143 : CL RX11 143 mX5_add := Or.inl bw_1041
theorem cm_X5_add : CM mX5_add 2 := ⟨bw_1044, bw_4, ⟨by decide, by decide⟩, by decide +kernel, rfl⟩
theorem ci_X5_add : Cond.instanceMethod (mY mX5_add) ∈ BIG := bw_1042
theorem cv_X5_add : CV mX5_add := ⟨ci_X5_add, bw_1043⟩
theorem fg_RX11_152 : FG RX11 152 0 0 := ⟨RX0, TX0, 3, rfl, by decide, rfl, inB0, rfl, Or.inr ⟨_, nw_85⟩⟩
theorem cl_RX11_157 : CL RX11 157 mX11_tryAdvance := Or.inl bw_694
theorem cm_X11_tryAdvance : CM mX11_tryAdvance 1 := ⟨bw_697, bw_1, ⟨by decide, by decide⟩, by decide +kernel, rfl⟩
theorem ci_X11_tryAdvance : Cond.instanceMethod (mY mX11_tryAdvance) ∈ BIG := bw_696
theorem cv_X11_tryAdvance : CV mX11_tryAdvance := ⟨ci_X11_tryAdvance, bs_20⟩
theorem cl_RX11_160 : CL RX11 160 mX11_needDay := Or.inl bw_1268
theorem cm_X11_needDay : CM mX11_needDay 1 := ⟨bw_1270, bw_1, ⟨by decide, by decide⟩, by decide +kernel, rfl⟩
theorem cs_X11_needDay : Cond.static (mY mX11_needDay) ∈ BIG := bw_1269
theorem cl_RX11_163 : CL RX11 163 mX0_isCourt := Or.inl bw_1300
theorem cl_RX11_166 : CL RX11 166 mX11_tryAddHoliday := Or.inl bw_784
theorem cm_X11_tryAddHoliday : CM mX11_tryAddHoliday 1 := ⟨bw_787, bw_1, ⟨by decide, by decide⟩, by decide +kernel, rfl⟩
theorem ci_X11_tryAddHoliday : Cond.instanceMethod (mY mX11_tryAddHoliday) ∈ BIG := bw_786
theorem cv_X11_tryAddHoliday : CV mX11_tryAddHoliday := ⟨ci_X11_tryAddHoliday, bs_22⟩
theorem cl_RX11_172 : CL RX11 172 mX11_needRange := Or.inl bw_1244
theorem cm_X11_needRange : CM mX11_needRange 2 := ⟨bw_1246, bw_1, ⟨by decide, by decide⟩, by decide +kernel, rfl⟩
theorem cs_X11_needRange : Cond.static (mY mX11_needRange) ∈ BIG := bw_1245
theorem cl_RX11_176 : CL RX11 176 mX0_countCourt := Or.inl bw_544
theorem cl_RX11_180 : CL RX11 180 mX4_countCourt := Or.inl bw_545
theorem cm_X4_countCourt : CM mX4_countCourt 2 := ⟨bw_548, bw_11, ⟨by decide, by decide⟩, by decide +kernel, rfl⟩
theorem ci_X4_countCourt : Cond.instanceMethod (mY mX4_countCourt) ∈ BIG := bw_546
theorem cv_X4_countCourt : CV mX4_countCourt := ⟨ci_X4_countCourt, bw_547⟩
theorem fp_RX11_152 : FP RX11 152 0 0 .int false := ⟨fg_RX11_152, RX0, TX0, 3, tyX0, rfl, tyX0_ok, nmX0, rfl, by decide +kernel⟩
theorem cl_RX11_181 : CL RX11 181 mX11_isDay := Or.inl bw_788
theorem cl_RX11_184 : CL RX11 184 mX0_isHoliday := Or.inl bw_789
theorem cm_X0_isHoliday : CM mX0_isHoliday 1 := ⟨bw_792, bw_5, ⟨by decide, by decide⟩, by decide +kernel, rfl⟩
theorem ci_X0_isHoliday : Cond.instanceMethod (mY mX0_isHoliday) ∈ BIG := bw_790
theorem cv_X0_isHoliday : CV mX0_isHoliday := ⟨ci_X0_isHoliday, bw_791⟩
theorem fg_RX11_187 : FG RX11 187 0 2 := ⟨RX0, TX0, 3, rfl, by decide, rfl, inB0, rfl, Or.inr ⟨_, nw_90⟩⟩
theorem cl_RX11_190 : CL RX11 190 mX0_insertHoliday := Or.inl bw_793
theorem cm_X0_insertHoliday : CM mX0_insertHoliday 1 := ⟨bw_796, bw_5, ⟨by decide, by decide⟩, by decide +kernel, rfl⟩
theorem ci_X0_insertHoliday : Cond.instanceMethod (mY mX0_insertHoliday) ∈ BIG := bw_794
theorem cv_X0_insertHoliday : CV mX0_insertHoliday := ⟨ci_X0_insertHoliday, bw_795⟩
theorem ta_RX11_196_200 : ∀ w ∈ vx_atS RX11 200 (XN 2) NMS, w ∈ BIG ∨ w ∈ NW := goodA _ [13, 633, 585, 593, 596, 598, 634, 635, 34, 35, 579, 584, 594, 601, 627, 602, 628, 603, 629, 580, 582, 630, 577, 578, 600, 630, 726, 727, 728, 571, 621, 571, 572, 573, 574, 623, 574, 575, 576, 577, 625, 725, 716, 717, 718, 588, 719, 720, 721, 722, 632, 631, 723] (by decide +kernel) (by decide +kernel)
theorem tg_RX11_196_200 : ∀ w ∈ Cond.classLink RX11 196 (XN 2) :: Cond.initialized (XN 2) :: vx_atS RX11 200 (XN 2) NMS, vx_ot w = true := by decide +kernel
theorem tk_RX11_196_200 : Cond.classLink RX11 196 (XN 2) ∈ BIG := bw_715
theorem ti_RX11_196_200 : Cond.initialized (XN 2) ∈ BIG := bw_20
theorem cl_RX11_203 : CL RX11 203 mX11_trySetRule := Or.inl bw_813
theorem cm_X11_trySetRule : CM mX11_trySetRule 3 := ⟨bw_816, bw_1, ⟨by decide, by decide⟩, by decide +kernel, rfl⟩
theorem ci_X11_trySetRule : Cond.instanceMethod (mY mX11_trySetRule) ∈ BIG := bw_815
theorem cv_X11_trySetRule : CV mX11_trySetRule := ⟨ci_X11_trySetRule, bs_24⟩
theorem cl_RX11_221 : CL RX11 221 mX11_trySetServiceDays := Or.inl bw_824
theorem cm_X11_trySetServiceDays : CM mX11_trySetServiceDays 2 := ⟨bw_827, bw_1, ⟨by decide, by decide⟩, by decide +kernel, rfl⟩
theorem ci_X11_trySetServiceDays : Cond.instanceMethod (mY mX11_trySetServiceDays) ∈ BIG := bw_826
theorem cv_X11_trySetServiceDays : CV mX11_trySetServiceDays := ⟨ci_X11_trySetServiceDays, bs_25⟩
theorem cl_RX11_207 : CL RX11 207 mX11_needRule := Or.inl bw_1264
theorem cm_X11_needRule : CM mX11_needRule 1 := ⟨bw_1266, bw_1, ⟨by decide, by decide⟩, by decide +kernel, rfl⟩
theorem cs_X11_needRule : Cond.static (mY mX11_needRule) ∈ BIG := bw_1265
theorem fg_RX11_210 : FG RX11 210 3 2 := ⟨RX3, TX3, 6, rfl, by decide, rfl, inB3, rfl, Or.inr ⟨_, nw_252⟩⟩
theorem fg_RX11_214 : FG RX11 214 7 0 := ⟨RX7, TX7, 3, rfl, by decide, rfl, inB7, rfl, Or.inr ⟨_, nw_106⟩⟩
theorem fg_RX11_217 : FG RX11 217 7 1 := ⟨RX7, TX7, 3, rfl, by decide, rfl, inB7, rfl, Or.inr ⟨_, nw_109⟩⟩
theorem cl_RX11_234 : CL RX11 234 mX10_countBack := Or.inl bw_1272
theorem cm_X10_countBack : CM mX10_countBack 3 := ⟨bw_1275, bw_10, ⟨by decide, by decide⟩, by decide +kernel, rfl⟩
theorem ci_X10_countBack : Cond.instanceMethod (mY mX10_countBack) ∈ BIG := bw_1273
theorem cv_X10_countBack : CV mX10_countBack := ⟨ci_X10_countBack, bw_1274⟩
theorem cl_RX11_237 : CL RX11 237 mX11_needNotBeforeDayZero := Or.inl bw_1280
theorem cm_X11_needNotBeforeDayZero : CM mX11_needNotBeforeDayZero 1 := ⟨bw_1282, bw_1, ⟨by decide, by decide⟩, by decide +kernel, rfl⟩
theorem cs_X11_needNotBeforeDayZero : Cond.static (mY mX11_needNotBeforeDayZero) ∈ BIG := bw_1281
theorem cl_RX11_240 : CL RX11 240 mX4_countBack := Or.inl bw_1288
theorem cm_X4_countBack : CM mX4_countBack 3 := ⟨bw_1291, bw_11, ⟨by decide, by decide⟩, by decide +kernel, rfl⟩
theorem ci_X4_countBack : Cond.instanceMethod (mY mX4_countBack) ∈ BIG := bw_1289
theorem cv_X4_countBack : CV mX4_countBack := ⟨ci_X4_countBack, bw_1290⟩
theorem cl_RX11_241 : CL RX11 241 mX11_isRule := Or.inl bw_817
theorem cm_X11_isRule : CM mX11_isRule 1 := ⟨bw_819, bw_1, ⟨by decide, by decide⟩, by decide +kernel, rfl⟩
theorem cs_X11_isRule : Cond.static (mY mX11_isRule) ∈ BIG := bw_818
theorem cl_RX11_225 : CL RX11 225 mX7_placeOfWay := Or.inl bw_828
theorem cm_X7_placeOfWay : CM mX7_placeOfWay 1 := ⟨bw_830, bw_6, ⟨by decide, by decide⟩, by decide +kernel, rfl⟩
theorem cs_X7_placeOfWay : Cond.static (mY mX7_placeOfWay) ∈ BIG := bw_829
theorem fg_RX11_231 : FG RX11 231 7 2 := ⟨RX7, TX7, 3, rfl, by decide, rfl, inB7, rfl, Or.inr ⟨_, nw_111⟩⟩
theorem ta_RX11_132_136 : ∀ w ∈ vx_atS RX11 136 (XN 3) NMS, w ∈ BIG ∨ w ∈ NW := goodA _ [13, 633, 585, 593, 596, 598, 634, 635, 34, 35, 579, 584, 594, 601, 627, 602, 628, 603, 629, 580, 582, 630, 577, 578, 600, 630, 568, 569, 570, 571, 621, 571, 572, 573, 574, 623, 574, 575, 576, 577, 625, 712, 703, 704, 705, 590, 706, 707, 708, 709, 632, 631, 710] (by decide +kernel) (by decide +kernel)
theorem tg_RX11_132_136 : ∀ w ∈ Cond.classLink RX11 132 (XN 3) :: Cond.initialized (XN 3) :: vx_atS RX11 136 (XN 3) NMS, vx_ot w = true := by decide +kernel
theorem tk_RX11_132_136 : Cond.classLink RX11 132 (XN 3) ∈ BIG := bw_702
theorem ti_RX11_132_136 : Cond.initialized (XN 3) ∈ BIG := bw_16
theorem tk_RX11_117_121 : Cond.classLink RX11 117 (XN 4) ∈ BIG := bw_763
theorem ti_RX11_117_121 : Cond.initialized (XN 4) ∈ BIG := bw_23
theorem t4_RX11_117_121 : ∀ w ∈ vz_atS RX11 121 (XN 4) 13 cNSE NMS, w ∈ BIG ∨ w ∈ NW := goodA _ [13, 633, 585, 593, 596, 598, 634, 635, 34, 35, 579, 584, 594, 601, 627, 602, 628, 603, 629, 580, 582, 630, 577, 578, 600, 630, 774, 775, 776, 571, 621, 571, 572, 573, 574, 623, 574, 575, 576, 577, 625, 773, 764, 765, 766, 592, 767, 768, 769, 770, 632, 631, 771] (by decide +kernel) (by decide +kernel)
theorem t5_RX11_117_121 : ∀ w ∈ Cond.classLink RX11 117 (XN 4) :: Cond.initialized (XN 4) :: vz_atS RX11 121 (XN 4) 13 cNSE NMS, vx_ot w = true := by decide +kernel
theorem cl_RX11_248 : CL RX11 248 mX11_tryServe := Or.inl bw_835
theorem cm_X11_tryServe : CM mX11_tryServe 3 := ⟨bw_838, bw_1, ⟨by decide, by decide⟩, by decide +kernel, rfl⟩
theorem ci_X11_tryServe : Cond.instanceMethod (mY mX11_tryServe) ∈ BIG := bw_837
theorem cv_X11_tryServe : CV mX11_tryServe := ⟨ci_X11_tryServe, bs_26⟩
theorem fg_RX11_252 : FG RX11 252 3 3 := ⟨RX3, TX3, 6, rfl, by decide, rfl, inB3, rfl, Or.inr ⟨_, nw_254⟩⟩
theorem fg_RX11_256 : FG RX11 256 2 11 := ⟨RX2, TX2, 12, rfl, by decide, rfl, inB2, rfl, Or.inr ⟨_, nw_153⟩⟩
theorem cl_RX11_259 : CL RX11 259 mX11_needDeadline := Or.inl bw_1214
theorem cm_X11_needDeadline : CM mX11_needDeadline 1 := ⟨bw_1217, bw_1, ⟨by decide, by decide⟩, by decide +kernel, rfl⟩
theorem ci_X11_needDeadline : Cond.instanceMethod (mY mX11_needDeadline) ∈ BIG := bw_1216
theorem cv_X11_needDeadline : CV mX11_needDeadline := ⟨ci_X11_needDeadline, bs_53⟩
theorem cl_RX11_262 : CL RX11 262 mX10_endOf := Or.inl bw_399
theorem cm_X10_endOf : CM mX10_endOf 2 := ⟨bw_402, bw_10, ⟨by decide, by decide⟩, by decide +kernel, rfl⟩
theorem ci_X10_endOf : Cond.instanceMethod (mY mX10_endOf) ∈ BIG := bw_400
theorem cv_X10_endOf : CV mX10_endOf := ⟨ci_X10_endOf, bw_401⟩
theorem cl_RX11_266 : CL RX11 266 mX11_needSomeDay := Or.inl bw_1219
theorem cm_X11_needSomeDay : CM mX11_needSomeDay 1 := ⟨bw_1221, bw_1, ⟨by decide, by decide⟩, by decide +kernel, rfl⟩
theorem cs_X11_needSomeDay : Cond.static (mY mX11_needSomeDay) ∈ BIG := bw_1220
theorem cl_RX11_269 : CL RX11 269 mX4_endOf := Or.inl bw_469
theorem cm_X4_endOf : CM mX4_endOf 2 := ⟨bw_472, bw_11, ⟨by decide, by decide⟩, by decide +kernel, rfl⟩
theorem ci_X4_endOf : Cond.instanceMethod (mY mX4_endOf) ∈ BIG := bw_470
theorem cv_X4_endOf : CV mX4_endOf := ⟨ci_X4_endOf, bw_471⟩
theorem cl_RX11_270 : CL RX11 270 mX2_sumOfParts := Or.inl bw_1231
theorem cm_X2_sumOfParts : CM mX2_sumOfParts 1 := ⟨bw_1234, bw_7, ⟨by decide, by decide⟩, by decide +kernel, rfl⟩
theorem ci_X2_sumOfParts : Cond.instanceMethod (mY mX2_sumOfParts) ∈ BIG := bw_1232
theorem cv_X2_sumOfParts : CV mX2_sumOfParts := ⟨ci_X2_sumOfParts, bw_1233⟩
theorem cl_RX11_273 : CL RX11 273 mX10_countedUntil := Or.inl bw_505
theorem cm_X10_countedUntil : CM mX10_countedUntil 3 := ⟨bw_508, bw_10, ⟨by decide, by decide⟩, by decide +kernel, rfl⟩
theorem ci_X10_countedUntil : Cond.instanceMethod (mY mX10_countedUntil) ∈ BIG := bw_506
theorem cv_X10_countedUntil : CV mX10_countedUntil := ⟨ci_X10_countedUntil, bw_507⟩
theorem cl_RX11_277 : CL RX11 277 mX4_countedUntil := Or.inl bw_513
theorem cm_X4_countedUntil : CM mX4_countedUntil 3 := ⟨bw_516, bw_11, ⟨by decide, by decide⟩, by decide +kernel, rfl⟩
theorem ci_X4_countedUntil : Cond.instanceMethod (mY mX4_countedUntil) ∈ BIG := bw_514
theorem cv_X4_countedUntil : CV mX4_countedUntil := ⟨ci_X4_countedUntil, bw_515⟩
theorem cl_RX11_278 : CL RX11 278 mX11_tryExtendByConsent := Or.inl bw_856
theorem cm_X11_tryExtendByConsent : CM mX11_tryExtendByConsent 2 := ⟨bw_859, bw_1, ⟨by decide, by decide⟩, by decide +kernel, rfl⟩
theorem ci_X11_tryExtendByConsent : Cond.instanceMethod (mY mX11_tryExtendByConsent) ∈ BIG := bw_858
theorem cv_X11_tryExtendByConsent : CV mX11_tryExtendByConsent := ⟨ci_X11_tryExtendByConsent, bs_27⟩
theorem cl_RX11_281 : CL RX11 281 mX11_tryExtendByOrder := Or.inl bw_876
theorem cm_X11_tryExtendByOrder : CM mX11_tryExtendByOrder 2 := ⟨bw_879, bw_1, ⟨by decide, by decide⟩, by decide +kernel, rfl⟩
theorem ci_X11_tryExtendByOrder : Cond.instanceMethod (mY mX11_tryExtendByOrder) ∈ BIG := bw_878
theorem cv_X11_tryExtendByOrder : CV mX11_tryExtendByOrder := ⟨ci_X11_tryExtendByOrder, bs_28⟩
theorem cl_RX11_287 : CL RX11 287 mX11_tryFile := Or.inl bw_884
theorem cm_X11_tryFile : CM mX11_tryFile 1 := ⟨bw_887, bw_1, ⟨by decide, by decide⟩, by decide +kernel, rfl⟩
theorem ci_X11_tryFile : Cond.instanceMethod (mY mX11_tryFile) ∈ BIG := bw_886
theorem cv_X11_tryFile : CV mX11_tryFile := ⟨ci_X11_tryFile, bs_29⟩
theorem cl_RX11_290 : CL RX11 290 mX11_tryStrike := Or.inl bw_895
theorem cm_X11_tryStrike : CM mX11_tryStrike 1 := ⟨bw_898, bw_1, ⟨by decide, by decide⟩, by decide +kernel, rfl⟩
theorem ci_X11_tryStrike : Cond.instanceMethod (mY mX11_tryStrike) ∈ BIG := bw_897
theorem cv_X11_tryStrike : CV mX11_tryStrike := ⟨ci_X11_tryStrike, bs_30⟩
theorem fg_RX11_293 : FG RX11 293 2 10 := ⟨RX2, TX2, 12, rfl, by decide, rfl, inB2, rfl, Or.inr ⟨_, nw_150⟩⟩
theorem cl_RX11_297 : CL RX11 297 mX11_findOpenDues := Or.inl bw_1305
theorem cm_X11_findOpenDues : CM mX11_findOpenDues 0 := ⟨bw_1308, bw_1, ⟨by decide, by decide⟩, by decide +kernel, rfl⟩
theorem ci_X11_findOpenDues : Cond.instanceMethod (mY mX11_findOpenDues) ∈ BIG := bw_1307
theorem cv_X11_findOpenDues : CV mX11_findOpenDues := ⟨ci_X11_findOpenDues, bs_55⟩
theorem cl_RX11_300 : CL RX11 300 mX2_isOpen := Or.inl bw_864
theorem cl_RX11_303 : CL RX11 303 mX11_countOpenAhead := Or.inl bw_1309
theorem cm_X11_countOpenAhead : CM mX11_countOpenAhead 1 := ⟨bw_1312, bw_1, ⟨by decide, by decide⟩, by decide +kernel, rfl⟩
theorem ci_X11_countOpenAhead : Cond.instanceMethod (mY mX11_countOpenAhead) ∈ BIG := bw_1311
theorem cv_X11_countOpenAhead : CV mX11_countOpenAhead := ⟨ci_X11_countOpenAhead, bs_56⟩
theorem cl_RX11_146 : CL RX11 146 mX5_has := Or.inl bw_839
theorem cm_X5_has : CM mX5_has 1 := ⟨bw_842, bw_4, ⟨by decide, by decide⟩, by decide +kernel, rfl⟩
theorem ci_X5_has : Cond.instanceMethod (mY mX5_has) ∈ BIG := bw_840
theorem cv_X5_has : CV mX5_has := ⟨ci_X5_has, bw_841⟩
theorem cl_RX11_316 : CL RX11 316 mX2_add := Or.inl bw_843
theorem cl_RX11_319 : CL RX11 319 mX2_addPart := Or.inl bw_851
theorem cl_RX11_322 : CL RX11 322 mX2_has := Or.inl bw_860
theorem cm_X2_has : CM mX2_has 1 := ⟨bw_863, bw_7, ⟨by decide, by decide⟩, by decide +kernel, rfl⟩
theorem ci_X2_has : Cond.instanceMethod (mY mX2_has) ∈ BIG := bw_861
theorem cv_X2_has : CV mX2_has := ⟨ci_X2_has, bw_862⟩
theorem fg_RX11_323 : FG RX11 323 2 6 := ⟨RX2, TX2, 12, rfl, by decide, rfl, inB2, rfl, Or.inr ⟨_, nw_142⟩⟩
theorem fg_RX11_326 : FG RX11 326 2 7 := ⟨RX2, TX2, 12, rfl, by decide, rfl, inB2, rfl, Or.inr ⟨_, nw_144⟩⟩
theorem cl_RX11_329 : CL RX11 329 mX2_grant := Or.inl bw_868
theorem cm_X2_grant : CM mX2_grant 2 := ⟨bw_871, bw_7, ⟨by decide, by decide⟩, by decide +kernel, rfl⟩
theorem ci_X2_grant : Cond.instanceMethod (mY mX2_grant) ∈ BIG := bw_869
theorem cv_X2_grant : CV mX2_grant := ⟨ci_X2_grant, bw_870⟩
theorem fg_RX11_332 : FG RX11 332 2 8 := ⟨RX2, TX2, 12, rfl, by decide, rfl, inB2, rfl, Or.inr ⟨_, nw_146⟩⟩
theorem cl_RX11_335 : CL RX11 335 mX2_countOpen := Or.inl bw_899
theorem cm_X2_countOpen : CM mX2_countOpen 0 := ⟨bw_902, bw_7, ⟨by decide, by decide⟩, by decide +kernel, rfl⟩
theorem ci_X2_countOpen : Cond.instanceMethod (mY mX2_countOpen) ∈ BIG := bw_900
theorem cv_X2_countOpen : CV mX2_countOpen := ⟨ci_X2_countOpen, bw_901⟩
theorem cl_RX11_342 : CL RX11 342 mX11_tryStayParty := Or.inl bw_908
theorem cm_X11_tryStayParty : CM mX11_tryStayParty 2 := ⟨bw_911, bw_1, ⟨by decide, by decide⟩, by decide +kernel, rfl⟩
theorem ci_X11_tryStayParty : Cond.instanceMethod (mY mX11_tryStayParty) ∈ BIG := bw_910
theorem cv_X11_tryStayParty : CV mX11_tryStayParty := ⟨ci_X11_tryStayParty, bs_31⟩
theorem cl_RX11_345 : CL RX11 345 mX11_tryStay := Or.inl bw_912
theorem cm_X11_tryStay : CM mX11_tryStay 2 := ⟨bw_915, bw_1, ⟨by decide, by decide⟩, by decide +kernel, rfl⟩
theorem ci_X11_tryStay : Cond.instanceMethod (mY mX11_tryStay) ∈ BIG := bw_914
theorem cv_X11_tryStay : CV mX11_tryStay := ⟨ci_X11_tryStay, bs_32⟩
theorem cl_RX11_348 : CL RX11 348 mX11_tryLift := Or.inl bw_928
theorem cm_X11_tryLift : CM mX11_tryLift 1 := ⟨bw_931, bw_1, ⟨by decide, by decide⟩, by decide +kernel, rfl⟩
theorem ci_X11_tryLift : Cond.instanceMethod (mY mX11_tryLift) ∈ BIG := bw_930
theorem cv_X11_tryLift : CV mX11_tryLift := ⟨ci_X11_tryLift, bs_33⟩
theorem cl_RX11_351 : CL RX11 351 mX8_countInForce := Or.inl bw_1461
theorem cm_X8_countInForce : CM mX8_countInForce 0 := ⟨bw_1464, bw_8, ⟨by decide, by decide⟩, by decide +kernel, rfl⟩
theorem ci_X8_countInForce : Cond.instanceMethod (mY mX8_countInForce) ∈ BIG := bw_1462
theorem cv_X8_countInForce : CV mX8_countInForce := ⟨ci_X8_countInForce, bw_1463⟩
theorem cl_RX11_356 : CL RX11 356 mX10_countStopped := Or.inl bw_517
theorem cm_X10_countStopped : CM mX10_countStopped 4 := ⟨bw_520, bw_10, ⟨by decide, by decide⟩, by decide +kernel, rfl⟩
theorem ci_X10_countStopped : Cond.instanceMethod (mY mX10_countStopped) ∈ BIG := bw_518
theorem cv_X10_countStopped : CV mX10_countStopped := ⟨ci_X10_countStopped, bw_519⟩
theorem cl_RX11_360 : CL RX11 360 mX4_countStopped := Or.inl bw_521
theorem cm_X4_countStopped : CM mX4_countStopped 4 := ⟨bw_524, bw_11, ⟨by decide, by decide⟩, by decide +kernel, rfl⟩
theorem ci_X4_countStopped : Cond.instanceMethod (mY mX4_countStopped) ∈ BIG := bw_522
theorem cv_X4_countStopped : CV mX4_countStopped := ⟨ci_X4_countStopped, bw_523⟩
theorem fg_RX11_361 : FG RX11 361 8 4 := ⟨RX8, TX8, 5, rfl, by decide, rfl, inB8, rfl, Or.inr ⟨_, nw_198⟩⟩
theorem cl_RX11_362 : CL RX11 362 mX8_add := Or.inl bw_916
theorem cm_X8_add : CM mX8_add 3 := ⟨bw_919, bw_8, ⟨by decide, by decide⟩, by decide +kernel, rfl⟩
theorem ci_X8_add : Cond.instanceMethod (mY mX8_add) ∈ BIG := bw_917
theorem cv_X8_add : CV mX8_add := ⟨ci_X8_add, bw_918⟩
theorem cl_RX11_365 : CL RX11 365 mX8_has := Or.inl bw_932
theorem cm_X8_has : CM mX8_has 1 := ⟨bw_935, bw_8, ⟨by decide, by decide⟩, by decide +kernel, rfl⟩
theorem ci_X8_has : Cond.instanceMethod (mY mX8_has) ∈ BIG := bw_933
theorem cv_X8_has : CV mX8_has := ⟨ci_X8_has, bw_934⟩
theorem cl_RX11_366 : CL RX11 366 mX8_isInForce := Or.inl bw_936
theorem fg_RX11_369 : FG RX11 369 8 3 := ⟨RX8, TX8, 5, rfl, by decide, rfl, inB8, rfl, Or.inr ⟨_, nw_194⟩⟩
theorem fg_RX11_372 : FG RX11 372 8 2 := ⟨RX8, TX8, 5, rfl, by decide, rfl, inB8, rfl, Or.inr ⟨_, nw_190⟩⟩
theorem cl_RX11_375 : CL RX11 375 mX11_tryAddOccurrence := Or.inl bw_944
theorem cm_X11_tryAddOccurrence : CM mX11_tryAddOccurrence 2 := ⟨bw_947, bw_1, ⟨by decide, by decide⟩, by decide +kernel, rfl⟩
theorem ci_X11_tryAddOccurrence : Cond.instanceMethod (mY mX11_tryAddOccurrence) ∈ BIG := bw_946
theorem cv_X11_tryAddOccurrence : CV mX11_tryAddOccurrence := ⟨ci_X11_tryAddOccurrence, bs_34⟩
theorem cl_RX11_378 : CL RX11 378 mX11_tryLinkOccurrences := Or.inl bw_957
theorem cm_X11_tryLinkOccurrences : CM mX11_tryLinkOccurrences 2 := ⟨bw_960, bw_1, ⟨by decide, by decide⟩, by decide +kernel, rfl⟩
theorem ci_X11_tryLinkOccurrences : Cond.instanceMethod (mY mX11_tryLinkOccurrences) ∈ BIG := bw_959
theorem cv_X11_tryLinkOccurrences : CV mX11_tryLinkOccurrences := ⟨ci_X11_tryLinkOccurrences, bs_35⟩
theorem cl_RX11_381 : CL RX11 381 mX11_needOccurrence := Or.inl bw_1326
theorem cm_X11_needOccurrence : CM mX11_needOccurrence 1 := ⟨bw_1329, bw_1, ⟨by decide, by decide⟩, by decide +kernel, rfl⟩
theorem ci_X11_needOccurrence : Cond.instanceMethod (mY mX11_needOccurrence) ∈ BIG := bw_1328
theorem cv_X11_needOccurrence : CV mX11_needOccurrence := ⟨ci_X11_needOccurrence, bs_58⟩
theorem fg_RX11_384 : FG RX11 384 3 5 := ⟨RX3, TX3, 6, rfl, by decide, rfl, inB3, rfl, Or.inr ⟨_, nw_258⟩⟩
theorem cl_RX11_388 : CL RX11 388 mX1_inSameGroup := Or.inl bw_529
theorem cm_X1_inSameGroup : CM mX1_inSameGroup 2 := ⟨bw_532, bw_9, ⟨by decide, by decide⟩, by decide +kernel, rfl⟩
theorem ci_X1_inSameGroup : Cond.instanceMethod (mY mX1_inSameGroup) ∈ BIG := bw_530
theorem cv_X1_inSameGroup : CV mX1_inSameGroup := ⟨ci_X1_inSameGroup, bw_531⟩
theorem cl_RX11_394 : CL RX11 394 mX1_isReached := Or.inl bw_533
theorem cm_X1_isReached : CM mX1_isReached 2 := ⟨bw_536, bw_9, ⟨by decide, by decide⟩, by decide +kernel, rfl⟩
theorem ci_X1_isReached : Cond.instanceMethod (mY mX1_isReached) ∈ BIG := bw_534
theorem cv_X1_isReached : CV mX1_isReached := ⟨ci_X1_isReached, bw_535⟩
theorem cl_RX11_400 : CL RX11 400 mX11_tryFileClaim := Or.inl bw_979
theorem cm_X11_tryFileClaim : CM mX11_tryFileClaim 2 := ⟨bw_982, bw_1, ⟨by decide, by decide⟩, by decide +kernel, rfl⟩
theorem ci_X11_tryFileClaim : Cond.instanceMethod (mY mX11_tryFileClaim) ∈ BIG := bw_981
theorem cv_X11_tryFileClaim : CV mX11_tryFileClaim := ⟨ci_X11_tryFileClaim, bs_36⟩
theorem cl_RX11_403 : CL RX11 403 mX11_tryAmendClaim := Or.inl bw_991
theorem cm_X11_tryAmendClaim : CM mX11_tryAmendClaim 2 := ⟨bw_994, bw_1, ⟨by decide, by decide⟩, by decide +kernel, rfl⟩
theorem ci_X11_tryAmendClaim : Cond.instanceMethod (mY mX11_tryAmendClaim) ∈ BIG := bw_993
theorem cv_X11_tryAmendClaim : CV mX11_tryAmendClaim := ⟨ci_X11_tryAmendClaim, bs_37⟩
theorem fg_RX11_397 : FG RX11 397 1 0 := ⟨RX1, TX1, 8, rfl, by decide, rfl, inB1, rfl, Or.inr ⟨_, nw_219⟩⟩
theorem cl_RX11_418 : CL RX11 418 mX1_keepOccurrence := Or.inl bw_948
theorem cm_X1_keepOccurrence : CM mX1_keepOccurrence 3 := ⟨bw_951, bw_9, ⟨by decide, by decide⟩, by decide +kernel, rfl⟩
theorem ci_X1_keepOccurrence : Cond.instanceMethod (mY mX1_keepOccurrence) ∈ BIG := bw_949
theorem cv_X1_keepOccurrence : CV mX1_keepOccurrence := ⟨ci_X1_keepOccurrence, bw_950⟩
theorem cl_RX11_422 : CL RX11 422 mX1_areLinked := Or.inl bw_961
theorem cm_X1_areLinked : CM mX1_areLinked 2 := ⟨bw_964, bw_9, ⟨by decide, by decide⟩, by decide +kernel, rfl⟩
theorem ci_X1_areLinked : Cond.instanceMethod (mY mX1_areLinked) ∈ BIG := bw_962
theorem cv_X1_areLinked : CV mX1_areLinked := ⟨ci_X1_areLinked, bw_963⟩
theorem cl_RX11_425 : CL RX11 425 mX1_link := Or.inl bw_965
theorem cm_X1_link : CM mX1_link 2 := ⟨bw_968, bw_9, ⟨by decide, by decide⟩, by decide +kernel, rfl⟩
theorem ci_X1_link : Cond.instanceMethod (mY mX1_link) ∈ BIG := bw_966
theorem cv_X1_link : CV mX1_link := ⟨ci_X1_link, bw_967⟩
theorem cl_RX11_428 : CL RX11 428 mX1_countGroups := Or.inl bw_971
theorem cm_X1_countGroups : CM mX1_countGroups 0 := ⟨bw_974, bw_9, ⟨by decide, by decide⟩, by decide +kernel, rfl⟩
theorem ci_X1_countGroups : Cond.instanceMethod (mY mX1_countGroups) ∈ BIG := bw_972
theorem cv_X1_countGroups : CV mX1_countGroups := ⟨ci_X1_countGroups, bw_973⟩
theorem fg_RX11_415 : FG RX11 415 1 7 := ⟨RX1, TX1, 8, rfl, by decide, rfl, inB1, rfl, Or.inr ⟨_, nw_229⟩⟩
theorem cl_RX11_431 : CL RX11 431 mX1_addClaim := Or.inl bw_983
theorem cm_X1_addClaim : CM mX1_addClaim 4 := ⟨bw_986, bw_9, ⟨by decide, by decide⟩, by decide +kernel, rfl⟩
theorem ci_X1_addClaim : Cond.instanceMethod (mY mX1_addClaim) ∈ BIG := bw_984
theorem cv_X1_addClaim : CV mX1_addClaim := ⟨ci_X1_addClaim, bw_985⟩
theorem cl_RX11_435 : CL RX11 435 mX1_has := Or.inl bw_995
theorem cm_X1_has : CM mX1_has 1 := ⟨bw_998, bw_9, ⟨by decide, by decide⟩, by decide +kernel, rfl⟩
theorem ci_X1_has : Cond.instanceMethod (mY mX1_has) ∈ BIG := bw_996
theorem cv_X1_has : CV mX1_has := ⟨ci_X1_has, bw_997⟩
theorem fg_RX11_416 : FG RX11 416 1 3 := ⟨RX1, TX1, 8, rfl, by decide, rfl, inB1, rfl, Or.inr ⟨_, nw_223⟩⟩
theorem cl_RX11_453 : CL RX11 453 mX11_deadlineAgrees := Or.inl bw_395
theorem cm_X11_deadlineAgrees : CM mX11_deadlineAgrees 1 := ⟨bw_398, bw_1, ⟨by decide, by decide⟩, by decide +kernel, rfl⟩
theorem ci_X11_deadlineAgrees : Cond.instanceMethod (mY mX11_deadlineAgrees) ∈ BIG := bw_397
theorem cv_X11_deadlineAgrees : CV mX11_deadlineAgrees := ⟨ci_X11_deadlineAgrees, bs_0⟩
theorem cl_RX11_456 : CL RX11 456 mX11_conductAgrees := Or.inl bw_525
theorem cm_X11_conductAgrees : CM mX11_conductAgrees 0 := ⟨bw_528, bw_1, ⟨by decide, by decide⟩, by decide +kernel, rfl⟩
theorem ci_X11_conductAgrees : Cond.instanceMethod (mY mX11_conductAgrees) ∈ BIG := bw_527
theorem cv_X11_conductAgrees : CV mX11_conductAgrees := ⟨ci_X11_conductAgrees, bs_16⟩
theorem cl_RX11_460 : CL RX11 460 mX11_courtDaysAgree := Or.inl bw_540
theorem cm_X11_courtDaysAgree : CM mX11_courtDaysAgree 0 := ⟨bw_543, bw_1, ⟨by decide, by decide⟩, by decide +kernel, rfl⟩
theorem ci_X11_courtDaysAgree : Cond.instanceMethod (mY mX11_courtDaysAgree) ∈ BIG := bw_542
theorem cv_X11_courtDaysAgree : CV mX11_courtDaysAgree := ⟨ci_X11_courtDaysAgree, bs_17⟩
theorem fg_RX11_485 : FG RX11 485 11 6 := ⟨RX11, TX11, 13, rfl, by decide, rfl, inB11, rfl, Or.inl bw_357⟩
theorem fg_RX11_490 : FG RX11 490 11 5 := ⟨RX11, TX11, 13, rfl, by decide, rfl, inB11, rfl, Or.inl bw_356⟩
theorem fp_RX11_490 : FP RX11 490 11 5 .int false := ⟨fg_RX11_490, RX11, TX11, 13, tyX11, rfl, tyX11_ok, nmX11, rfl, by decide +kernel⟩
theorem cl_RX11_473 : CL RX11 473 mX11_takeBack := Or.inl bw_1177
theorem cm_X11_takeBack : CM mX11_takeBack 0 := ⟨bw_1180, bw_1, ⟨by decide, by decide⟩, by decide +kernel, rfl⟩
theorem ci_X11_takeBack : Cond.instanceMethod (mY mX11_takeBack) ∈ BIG := bw_1179
theorem cv_X11_takeBack : CV mX11_takeBack := ⟨ci_X11_takeBack, bs_52⟩
theorem fp_RX11_485 : FP RX11 485 11 6 .int false := ⟨fg_RX11_485, RX11, TX11, 13, tyX11, rfl, tyX11_ok, nmX11, rfl, by decide +kernel⟩
theorem cl_RX11_505 : CL RX11 505 mX3_copy := Or.inl bw_657
theorem cm_X3_copy : CM mX3_copy 1 := ⟨bw_660, bw_3, ⟨by decide, by decide⟩, by decide +kernel, rfl⟩
theorem ci_X3_copy : Cond.instanceMethod (mY mX3_copy) ∈ BIG := bw_658
theorem cv_X3_copy : CV mX3_copy := ⟨ci_X3_copy, bw_659⟩
theorem ta_RX11_476_480 : ∀ w ∈ vx_atS RX11 480 (XN 5) NMS, w ∈ BIG ∨ w ∈ NW := goodA _ [13, 633, 585, 593, 596, 598, 634, 635, 34, 35, 579, 584, 594, 601, 627, 602, 628, 603, 629, 580, 582, 630, 577, 578, 600, 630, 758, 759, 760, 571, 621, 571, 572, 573, 574, 623, 574, 575, 576, 577, 625, 757, 748, 749, 750, 591, 751, 752, 753, 754, 632, 631, 755] (by decide +kernel) (by decide +kernel)
theorem tg_RX11_476_480 : ∀ w ∈ Cond.classLink RX11 476 (XN 5) :: Cond.initialized (XN 5) :: vx_atS RX11 480 (XN 5) NMS, vx_ot w = true := by decide +kernel
theorem tk_RX11_476_480 : Cond.classLink RX11 476 (XN 5) ∈ BIG := bw_747
theorem ti_RX11_476_480 : Cond.initialized (XN 5) ∈ BIG := bw_22
theorem cl_RL_9 : CL RL 9 mL_cell := Or.inl bw_552
theorem cm_L_cell : CM mL_cell 2 := ⟨bw_554, bw_0, ⟨by decide, by decide⟩, by decide +kernel, rfl⟩
theorem cs_L_cell : Cond.static (mY mL_cell) ∈ BIG := bw_553
theorem cl_RL_15 : CL RL 15 mX11_advance := Or.inl bw_649
theorem cm_X11_advance : CM mX11_advance 1 := ⟨bw_652, bw_1, ⟨by decide, by decide⟩, by decide +kernel, rfl⟩
theorem ci_X11_advance : Cond.instanceMethod (mY mX11_advance) ∈ BIG := bw_650
theorem cv_X11_advance : CV mX11_advance := ⟨ci_X11_advance, bw_651⟩
theorem cl_RL_21 : CL RL 21 mX11_addHoliday := Or.inl bw_780
theorem cm_X11_addHoliday : CM mX11_addHoliday 1 := ⟨bw_783, bw_1, ⟨by decide, by decide⟩, by decide +kernel, rfl⟩
theorem ci_X11_addHoliday : Cond.instanceMethod (mY mX11_addHoliday) ∈ BIG := bw_781
theorem cv_X11_addHoliday : CV mX11_addHoliday := ⟨ci_X11_addHoliday, bw_782⟩
theorem cl_RL_27 : CL RL 27 mX11_setRule := Or.inl bw_809
theorem cm_X11_setRule : CM mX11_setRule 3 := ⟨bw_812, bw_1, ⟨by decide, by decide⟩, by decide +kernel, rfl⟩
theorem ci_X11_setRule : Cond.instanceMethod (mY mX11_setRule) ∈ BIG := bw_810
theorem cv_X11_setRule : CV mX11_setRule := ⟨ci_X11_setRule, bw_811⟩
theorem cl_RL_31 : CL RL 31 mX11_setServiceDays := Or.inl bw_820
theorem cm_X11_setServiceDays : CM mX11_setServiceDays 2 := ⟨bw_823, bw_1, ⟨by decide, by decide⟩, by decide +kernel, rfl⟩
theorem ci_X11_setServiceDays : Cond.instanceMethod (mY mX11_setServiceDays) ∈ BIG := bw_821
theorem cv_X11_setServiceDays : CV mX11_setServiceDays := ⟨ci_X11_setServiceDays, bw_822⟩
theorem cl_RL_35 : CL RL 35 mX11_serve := Or.inl bw_831
theorem cm_X11_serve : CM mX11_serve 3 := ⟨bw_834, bw_1, ⟨by decide, by decide⟩, by decide +kernel, rfl⟩
theorem ci_X11_serve : Cond.instanceMethod (mY mX11_serve) ∈ BIG := bw_832
theorem cv_X11_serve : CV mX11_serve := ⟨ci_X11_serve, bw_833⟩
theorem cl_RL_39 : CL RL 39 mX11_extendByConsent := Or.inl bw_852
theorem cm_X11_extendByConsent : CM mX11_extendByConsent 2 := ⟨bw_855, bw_1, ⟨by decide, by decide⟩, by decide +kernel, rfl⟩
theorem ci_X11_extendByConsent : Cond.instanceMethod (mY mX11_extendByConsent) ∈ BIG := bw_853
theorem cv_X11_extendByConsent : CV mX11_extendByConsent := ⟨ci_X11_extendByConsent, bw_854⟩
theorem cl_RL_43 : CL RL 43 mX11_extendByOrder := Or.inl bw_872
theorem cm_X11_extendByOrder : CM mX11_extendByOrder 2 := ⟨bw_875, bw_1, ⟨by decide, by decide⟩, by decide +kernel, rfl⟩
theorem ci_X11_extendByOrder : Cond.instanceMethod (mY mX11_extendByOrder) ∈ BIG := bw_873
theorem cv_X11_extendByOrder : CV mX11_extendByOrder := ⟨ci_X11_extendByOrder, bw_874⟩
theorem cl_RL_46 : CL RL 46 mX11_file := Or.inl bw_880
theorem cm_X11_file : CM mX11_file 1 := ⟨bw_883, bw_1, ⟨by decide, by decide⟩, by decide +kernel, rfl⟩
theorem ci_X11_file : Cond.instanceMethod (mY mX11_file) ∈ BIG := bw_881
theorem cv_X11_file : CV mX11_file := ⟨ci_X11_file, bw_882⟩
theorem cl_RL_50 : CL RL 50 mL_told := Or.inl bw_888
theorem cm_L_told : CM mL_told 1 := ⟨bw_890, bw_0, ⟨by decide, by decide⟩, by decide +kernel, rfl⟩
theorem cs_L_told : Cond.static (mY mL_told) ∈ BIG := bw_889
theorem cl_RL_54 : CL RL 54 mX11_strike := Or.inl bw_891
theorem cm_X11_strike : CM mX11_strike 1 := ⟨bw_894, bw_1, ⟨by decide, by decide⟩, by decide +kernel, rfl⟩
theorem ci_X11_strike : Cond.instanceMethod (mY mX11_strike) ∈ BIG := bw_892
theorem cv_X11_strike : CV mX11_strike := ⟨ci_X11_strike, bw_893⟩
theorem cl_RL_57 : CL RL 57 mX11_stayParty := Or.inl bw_904
theorem cm_X11_stayParty : CM mX11_stayParty 2 := ⟨bw_907, bw_1, ⟨by decide, by decide⟩, by decide +kernel, rfl⟩
theorem ci_X11_stayParty : Cond.instanceMethod (mY mX11_stayParty) ∈ BIG := bw_905
theorem cv_X11_stayParty : CV mX11_stayParty := ⟨ci_X11_stayParty, bw_906⟩
theorem cl_RL_60 : CL RL 60 mX11_stayAll := Or.inl bw_920
theorem cm_X11_stayAll : CM mX11_stayAll 1 := ⟨bw_923, bw_1, ⟨by decide, by decide⟩, by decide +kernel, rfl⟩
theorem ci_X11_stayAll : Cond.instanceMethod (mY mX11_stayAll) ∈ BIG := bw_921
theorem cv_X11_stayAll : CV mX11_stayAll := ⟨ci_X11_stayAll, bw_922⟩
theorem cl_RL_63 : CL RL 63 mX11_lift := Or.inl bw_924
theorem cm_X11_lift : CM mX11_lift 1 := ⟨bw_927, bw_1, ⟨by decide, by decide⟩, by decide +kernel, rfl⟩
theorem ci_X11_lift : Cond.instanceMethod (mY mX11_lift) ∈ BIG := bw_925
theorem cv_X11_lift : CV mX11_lift := ⟨ci_X11_lift, bw_926⟩
theorem cl_RL_66 : CL RL 66 mX11_addOccurrence := Or.inl bw_940
theorem cm_X11_addOccurrence : CM mX11_addOccurrence 2 := ⟨bw_943, bw_1, ⟨by decide, by decide⟩, by decide +kernel, rfl⟩
theorem ci_X11_addOccurrence : Cond.instanceMethod (mY mX11_addOccurrence) ∈ BIG := bw_941
theorem cv_X11_addOccurrence : CV mX11_addOccurrence := ⟨ci_X11_addOccurrence, bw_942⟩
theorem cl_RL_69 : CL RL 69 mX11_linkOccurrences := Or.inl bw_953
theorem cm_X11_linkOccurrences : CM mX11_linkOccurrences 2 := ⟨bw_956, bw_1, ⟨by decide, by decide⟩, by decide +kernel, rfl⟩
theorem ci_X11_linkOccurrences : Cond.instanceMethod (mY mX11_linkOccurrences) ∈ BIG := bw_954
theorem cv_X11_linkOccurrences : CV mX11_linkOccurrences := ⟨ci_X11_linkOccurrences, bw_955⟩
theorem cl_RL_72 : CL RL 72 mX11_fileClaim := Or.inl bw_975
theorem cm_X11_fileClaim : CM mX11_fileClaim 2 := ⟨bw_978, bw_1, ⟨by decide, by decide⟩, by decide +kernel, rfl⟩
theorem ci_X11_fileClaim : Cond.instanceMethod (mY mX11_fileClaim) ∈ BIG := bw_976
theorem cv_X11_fileClaim : CV mX11_fileClaim := ⟨ci_X11_fileClaim, bw_977⟩
theorem cl_RL_75 : CL RL 75 mX11_amendClaim := Or.inl bw_987
theorem cm_X11_amendClaim : CM mX11_amendClaim 2 := ⟨bw_990, bw_1, ⟨by decide, by decide⟩, by decide +kernel, rfl⟩
theorem ci_X11_amendClaim : Cond.instanceMethod (mY mX11_amendClaim) ∈ BIG := bw_988
theorem cv_X11_amendClaim : CV mX11_amendClaim := ⟨ci_X11_amendClaim, bw_989⟩
theorem cl_RL_78 : CL RL 78 mX11_addParty := Or.inl bw_999
theorem cm_X11_addParty : CM mX11_addParty 0 := ⟨bw_1002, bw_1, ⟨by decide, by decide⟩, by decide +kernel, rfl⟩
theorem ci_X11_addParty : Cond.instanceMethod (mY mX11_addParty) ∈ BIG := bw_1000
theorem cv_X11_addParty : CV mX11_addParty := ⟨ci_X11_addParty, bw_1001⟩
theorem cl_RL_85 : CL RL 85 mX11_type := Or.inl bw_1050
theorem cm_X11_type : CM mX11_type 1 := ⟨bw_1053, bw_1, ⟨by decide, by decide⟩, by decide +kernel, rfl⟩
theorem ci_X11_type : Cond.instanceMethod (mY mX11_type) ∈ BIG := bw_1051
theorem cv_X11_type : CV mX11_type := ⟨ci_X11_type, bw_1052⟩
theorem cl_RL_92 : CL RL 92 mX11_undo := Or.inl bw_1182
theorem cm_X11_undo : CM mX11_undo 0 := ⟨bw_1185, bw_1, ⟨by decide, by decide⟩, by decide +kernel, rfl⟩
theorem ci_X11_undo : Cond.instanceMethod (mY mX11_undo) ∈ BIG := bw_1183
theorem cv_X11_undo : CV mX11_undo := ⟨ci_X11_undo, bw_1184⟩
theorem cl_RL_95 : CL RL 95 mL_plain := Or.inl bw_646
theorem cm_L_plain : CM mL_plain 5 := ⟨bw_648, bw_0, ⟨by decide, by decide⟩, by decide +kernel, rfl⟩
theorem cs_L_plain : Cond.static (mY mL_plain) ∈ BIG := bw_647
theorem cl_RL_109 : CL RL 109 mX11_due := Or.inl bw_1210
theorem cm_X11_due : CM mX11_due 1 := ⟨bw_1213, bw_1, ⟨by decide, by decide⟩, by decide +kernel, rfl⟩
theorem ci_X11_due : Cond.instanceMethod (mY mX11_due) ∈ BIG := bw_1211
theorem cv_X11_due : CV mX11_due := ⟨ci_X11_due, bw_1212⟩
theorem cl_RL_112 : CL RL 112 mX11_dueByMarking := Or.inl bw_1223
theorem cm_X11_dueByMarking : CM mX11_dueByMarking 1 := ⟨bw_1226, bw_1, ⟨by decide, by decide⟩, by decide +kernel, rfl⟩
theorem ci_X11_dueByMarking : Cond.instanceMethod (mY mX11_dueByMarking) ∈ BIG := bw_1224
theorem cv_X11_dueByMarking : CV mX11_dueByMarking := ⟨ci_X11_dueByMarking, bw_1225⟩
theorem cl_RL_115 : CL RL 115 mX11_daysLeft := Or.inl bw_1227
theorem cm_X11_daysLeft : CM mX11_daysLeft 1 := ⟨bw_1230, bw_1, ⟨by decide, by decide⟩, by decide +kernel, rfl⟩
theorem ci_X11_daysLeft : Cond.instanceMethod (mY mX11_daysLeft) ∈ BIG := bw_1228
theorem cv_X11_daysLeft : CV mX11_daysLeft := ⟨ci_X11_daysLeft, bw_1229⟩
theorem cl_RL_118 : CL RL 118 mX11_daysLeftByMarking := Or.inl bw_1236
theorem cm_X11_daysLeftByMarking : CM mX11_daysLeftByMarking 1 := ⟨bw_1239, bw_1, ⟨by decide, by decide⟩, by decide +kernel, rfl⟩
theorem ci_X11_daysLeftByMarking : Cond.instanceMethod (mY mX11_daysLeftByMarking) ∈ BIG := bw_1237
theorem cv_X11_daysLeftByMarking : CV mX11_daysLeftByMarking := ⟨ci_X11_daysLeftByMarking, bw_1238⟩
theorem cl_RL_121 : CL RL 121 mX11_stoppedDays := Or.inl bw_1240
theorem cm_X11_stoppedDays : CM mX11_stoppedDays 3 := ⟨bw_1243, bw_1, ⟨by decide, by decide⟩, by decide +kernel, rfl⟩
theorem ci_X11_stoppedDays : Cond.instanceMethod (mY mX11_stoppedDays) ∈ BIG := bw_1241
theorem cv_X11_stoppedDays : CV mX11_stoppedDays := ⟨ci_X11_stoppedDays, bw_1242⟩
theorem cl_RL_125 : CL RL 125 mX11_stoppedDaysByMarking := Or.inl bw_1248
theorem cm_X11_stoppedDaysByMarking : CM mX11_stoppedDaysByMarking 3 := ⟨bw_1251, bw_1, ⟨by decide, by decide⟩, by decide +kernel, rfl⟩
theorem ci_X11_stoppedDaysByMarking : Cond.instanceMethod (mY mX11_stoppedDaysByMarking) ∈ BIG := bw_1249
theorem cv_X11_stoppedDaysByMarking : CV mX11_stoppedDaysByMarking := ⟨ci_X11_stoppedDaysByMarking, bw_1250⟩
theorem cl_RL_128 : CL RL 128 mX11_courtDays := Or.inl bw_1252
theorem cm_X11_courtDays : CM mX11_courtDays 2 := ⟨bw_1255, bw_1, ⟨by decide, by decide⟩, by decide +kernel, rfl⟩
theorem ci_X11_courtDays : Cond.instanceMethod (mY mX11_courtDays) ∈ BIG := bw_1253
theorem cv_X11_courtDays : CV mX11_courtDays := ⟨ci_X11_courtDays, bw_1254⟩
theorem cl_RL_131 : CL RL 131 mX11_courtDaysByMarking := Or.inl bw_1256
theorem cm_X11_courtDaysByMarking : CM mX11_courtDaysByMarking 2 := ⟨bw_1259, bw_1, ⟨by decide, by decide⟩, by decide +kernel, rfl⟩
theorem ci_X11_courtDaysByMarking : Cond.instanceMethod (mY mX11_courtDaysByMarking) ∈ BIG := bw_1257
theorem cv_X11_courtDaysByMarking : CV mX11_courtDaysByMarking := ⟨ci_X11_courtDaysByMarking, bw_1258⟩
theorem cl_RL_134 : CL RL 134 mX11_lastDayBefore := Or.inl bw_1260
theorem cm_X11_lastDayBefore : CM mX11_lastDayBefore 2 := ⟨bw_1263, bw_1, ⟨by decide, by decide⟩, by decide +kernel, rfl⟩
theorem ci_X11_lastDayBefore : Cond.instanceMethod (mY mX11_lastDayBefore) ∈ BIG := bw_1261
theorem cv_X11_lastDayBefore : CV mX11_lastDayBefore := ⟨ci_X11_lastDayBefore, bw_1262⟩
theorem cl_RL_137 : CL RL 137 mX11_lastDayBeforeByMarking := Or.inl bw_1284
theorem cm_X11_lastDayBeforeByMarking : CM mX11_lastDayBeforeByMarking 2 := ⟨bw_1287, bw_1, ⟨by decide, by decide⟩, by decide +kernel, rfl⟩
theorem ci_X11_lastDayBeforeByMarking : Cond.instanceMethod (mY mX11_lastDayBeforeByMarking) ∈ BIG := bw_1285
theorem cv_X11_lastDayBeforeByMarking : CV mX11_lastDayBeforeByMarking := ⟨ci_X11_lastDayBeforeByMarking, bw_1286⟩
theorem cl_RL_140 : CL RL 140 mX11_isStopped := Or.inl bw_1292
theorem cm_X11_isStopped : CM mX11_isStopped 2 := ⟨bw_1295, bw_1, ⟨by decide, by decide⟩, by decide +kernel, rfl⟩
theorem ci_X11_isStopped : Cond.instanceMethod (mY mX11_isStopped) ∈ BIG := bw_1293
theorem cv_X11_isStopped : CV mX11_isStopped := ⟨ci_X11_isStopped, bw_1294⟩
theorem cl_RL_144 : CL RL 144 mX11_isCourtDay := Or.inl bw_1296
theorem cm_X11_isCourtDay : CM mX11_isCourtDay 1 := ⟨bw_1299, bw_1, ⟨by decide, by decide⟩, by decide +kernel, rfl⟩
theorem ci_X11_isCourtDay : Cond.instanceMethod (mY mX11_isCourtDay) ∈ BIG := bw_1297
theorem cv_X11_isCourtDay : CV mX11_isCourtDay := ⟨ci_X11_isCourtDay, bw_1298⟩
theorem cl_RL_147 : CL RL 147 mX11_openAt := Or.inl bw_1301
theorem cm_X11_openAt : CM mX11_openAt 1 := ⟨bw_1304, bw_1, ⟨by decide, by decide⟩, by decide +kernel, rfl⟩
theorem ci_X11_openAt : Cond.instanceMethod (mY mX11_openAt) ∈ BIG := bw_1302
theorem cv_X11_openAt : CV mX11_openAt := ⟨ci_X11_openAt, bw_1303⟩
theorem cl_RL_162 : CL RL 162 mX11_sameConduct := Or.inl bw_1357
theorem cm_X11_sameConduct : CM mX11_sameConduct 2 := ⟨bw_1360, bw_1, ⟨by decide, by decide⟩, by decide +kernel, rfl⟩
theorem ci_X11_sameConduct : Cond.instanceMethod (mY mX11_sameConduct) ∈ BIG := bw_1358
theorem cv_X11_sameConduct : CV mX11_sameConduct := ⟨ci_X11_sameConduct, bw_1359⟩
theorem cl_RL_165 : CL RL 165 mX11_sameConductBySearch := Or.inl bw_1361
theorem cm_X11_sameConductBySearch : CM mX11_sameConductBySearch 2 := ⟨bw_1364, bw_1, ⟨by decide, by decide⟩, by decide +kernel, rfl⟩
theorem ci_X11_sameConductBySearch : Cond.instanceMethod (mY mX11_sameConductBySearch) ∈ BIG := bw_1362
theorem cv_X11_sameConductBySearch : CV mX11_sameConductBySearch := ⟨ci_X11_sameConductBySearch, bw_1363⟩
theorem cl_RL_175 : CL RL 175 mX11_status := Or.inl bw_1380
theorem cm_X11_status : CM mX11_status 1 := ⟨bw_1383, bw_1, ⟨by decide, by decide⟩, by decide +kernel, rfl⟩
theorem ci_X11_status : Cond.instanceMethod (mY mX11_status) ∈ BIG := bw_1381
theorem cv_X11_status : CV mX11_status := ⟨ci_X11_status, bw_1382⟩
theorem cl_RL_211 : CL RL 211 mL_asked := Or.inl bw_1207
theorem cm_L_asked : CM mL_asked 5 := ⟨bw_1209, bw_0, ⟨by decide, by decide⟩, by decide +kernel, rfl⟩
theorem cs_L_asked : Cond.static (mY mL_asked) ∈ BIG := bw_1208
theorem cl_RL_223 : CL RL 223 mL_pick := Or.inl bw_549
theorem cm_L_pick : CM mL_pick 3 := ⟨bw_551, bw_0, ⟨by decide, by decide⟩, by decide +kernel, rfl⟩
theorem cs_L_pick : Cond.static (mY mL_pick) ∈ BIG := bw_550
theorem cl_RL_227 : CL RL 227 mL_way := Or.inl bw_1187
theorem cm_L_way : CM mL_way 1 := ⟨bw_1189, bw_0, ⟨by decide, by decide⟩, by decide +kernel, rfl⟩
theorem cs_L_way : Cond.static (mY mL_way) ∈ BIG := bw_1188
theorem cl_RL_230 : CL RL 230 mX11_deadlines := Or.inl bw_1193
theorem cm_X11_deadlines : CM mX11_deadlines 0 := ⟨bw_1196, bw_1, ⟨by decide, by decide⟩, by decide +kernel, rfl⟩
theorem ci_X11_deadlines : Cond.instanceMethod (mY mX11_deadlines) ∈ BIG := bw_1194
theorem cv_X11_deadlines : CV mX11_deadlines := ⟨ci_X11_deadlines, bw_1195⟩
theorem cl_RL_233 : CL RL 233 mX11_today := Or.inl bw_1197
theorem cm_X11_today : CM mX11_today 0 := ⟨bw_1200, bw_1, ⟨by decide, by decide⟩, by decide +kernel, rfl⟩
theorem ci_X11_today : Cond.instanceMethod (mY mX11_today) ∈ BIG := bw_1198
theorem cv_X11_today : CV mX11_today := ⟨ci_X11_today, bw_1199⟩
theorem cl_RL_239 : CL RL 239 mX11_overdue := Or.inl bw_1444
theorem cm_X11_overdue : CM mX11_overdue 0 := ⟨bw_1447, bw_1, ⟨by decide, by decide⟩, by decide +kernel, rfl⟩
theorem ci_X11_overdue : Cond.instanceMethod (mY mX11_overdue) ∈ BIG := bw_1445
theorem cv_X11_overdue : CV mX11_overdue := ⟨ci_X11_overdue, bw_1446⟩
theorem cl_RL_242 : CL RL 242 mX11_staysInForce := Or.inl bw_1457
theorem cm_X11_staysInForce : CM mX11_staysInForce 0 := ⟨bw_1460, bw_1, ⟨by decide, by decide⟩, by decide +kernel, rfl⟩
theorem ci_X11_staysInForce : Cond.instanceMethod (mY mX11_staysInForce) ∈ BIG := bw_1458
theorem cv_X11_staysInForce : CV mX11_staysInForce := ⟨ci_X11_staysInForce, bw_1459⟩
theorem cl_RL_245 : CL RL 245 mL_print := Or.inl bw_1454
theorem cm_L_print : CM mL_print 1 := ⟨bw_1456, bw_0, ⟨by decide, by decide⟩, by decide +kernel, rfl⟩
theorem cs_L_print : Cond.static (mY mL_print) ∈ BIG := bw_1455
theorem fn_RL_16 : FN RL 16 11 := ⟨RX11, TX11, 13, tyX11, rfl, rfl, inB11, tyX11_ok, by decide +kernel, bw_28, bw_29, bw_1⟩
theorem cl_RL_249 : CL RL 249 mX11_init := Or.inl bw_30
theorem cm_X11_init : CM mX11_init 0 := ⟨bw_32, bw_1, ⟨by decide, by decide⟩, by decide +kernel, rfl⟩
theorem ci_X11_init : Cond.instanceMethod (mY mX11_init) ∈ BIG := bw_31
theorem cl_RL_250 : CL RL 250 mL_lay := Or.inl bw_557
theorem cm_L_lay : CM mL_lay 2 := ⟨bw_559, bw_0, ⟨by decide, by decide⟩, by decide +kernel, rfl⟩
theorem cs_L_lay : Cond.static (mY mL_lay) ∈ BIG := bw_558
theorem cl_RL_254 : CL RL 254 mL_areDeadlines := Or.inl bw_1201
theorem cm_L_areDeadlines : CM mL_areDeadlines 1 := ⟨bw_1203, bw_0, ⟨by decide, by decide⟩, by decide +kernel, rfl⟩
theorem cs_L_areDeadlines : Cond.static (mY mL_areDeadlines) ∈ BIG := bw_1202
theorem cl_RL_258 : CL RL 258 mL_isOrdered := Or.inl bw_1441
theorem cm_L_isOrdered : CM mL_isOrdered 1 := ⟨bw_1443, bw_0, ⟨by decide, by decide⟩, by decide +kernel, rfl⟩
theorem cs_L_isOrdered : Cond.static (mY mL_isOrdered) ∈ BIG := bw_1442
theorem cl_RL_261 : CL RL 261 mX11_isConsistent := Or.inl bw_391
theorem cm_X11_isConsistent : CM mX11_isConsistent 0 := ⟨bw_394, bw_1, ⟨by decide, by decide⟩, by decide +kernel, rfl⟩
theorem ci_X11_isConsistent : Cond.instanceMethod (mY mX11_isConsistent) ∈ BIG := bw_392
theorem cv_X11_isConsistent : CV mX11_isConsistent := ⟨ci_X11_isConsistent, bw_393⟩
theorem cl_RL_265 : CL RL 265 mL_any := Or.inl bw_1190
theorem cm_L_any : CM mL_any 3 := ⟨bw_1192, bw_0, ⟨by decide, by decide⟩, by decide +kernel, rfl⟩
theorem cs_L_any : Cond.static (mY mL_any) ∈ BIG := bw_1191
theorem cl_RL_269 : CL RL 269 mL_areRanges := Or.inl bw_1448
theorem cm_L_areRanges : CM mL_areRanges 3 := ⟨bw_1450, bw_0, ⟨by decide, by decide⟩, by decide +kernel, rfl⟩
theorem cs_L_areRanges : Cond.static (mY mL_areRanges) ∈ BIG := bw_1449
theorem cl_RL_273 : CL RL 273 mL_isStayed := Or.inl bw_1466
theorem cm_L_isStayed : CM mL_isStayed 2 := ⟨bw_1468, bw_0, ⟨by decide, by decide⟩, by decide +kernel, rfl⟩
theorem cs_L_isStayed : Cond.static (mY mL_isStayed) ∈ BIG := bw_1467
theorem cl_RL_277 : CL RL 277 mL_isUndone := Or.inl bw_1469
theorem cm_L_isUndone : CM mL_isUndone 4 := ⟨bw_1471, bw_0, ⟨by decide, by decide⟩, by decide +kernel, rfl⟩
theorem cs_L_isUndone : Cond.static (mY mL_isUndone) ∈ BIG := bw_1470
theorem cl_RL_281 : CL RL 281 mL_isConduct := Or.inl bw_1451
theorem cm_L_isConduct : CM mL_isConduct 1 := ⟨bw_1453, bw_0, ⟨by decide, by decide⟩, by decide +kernel, rfl⟩
theorem cs_L_isConduct : Cond.static (mY mL_isConduct) ∈ BIG := bw_1452
