abbrev ev_Ml : Type := Nat × Nat × Nat × Nat × ev_Me
def ev_TMq (oc : Nat) (q : ev_Ml) : Prop :=
  (q.2.1 = 6 → Cond.methodLink (ev_cn oc) q.1 Lib.Math.max.name ∈ ev_gw ∧ Cond.static Lib.Math.max.name ∈ ev_gw ∧ Cond.initialized "java/lang/Math" ∈ ev_gw ∧ Cond.code Lib.Math.max.name Lib.Math.max.code 2 (some .int) ∈ ev_gw) ∧
  (q.2.1 = 7 → Cond.methodLink (ev_cn oc) q.1 Lib.Math.min.name ∈ ev_gw ∧ Cond.static Lib.Math.min.name ∈ ev_gw ∧ Cond.initialized "java/lang/Math" ∈ ev_gw ∧ Cond.code Lib.Math.min.name Lib.Math.min.code 2 (some .int) ∈ ev_gw) ∧
  (q.2.1 = 8 → Cond.methodLink (ev_cn oc) q.1 objectInit ∈ ev_gw ∧ Cond.instanceMethod objectInit ∈ ev_gw ∧ Cond.code objectInit ⟨#[0xb1]⟩ 1 none ∈ ev_gw) ∧
  (q.2.1 = 9 → Cond.methodLink (ev_cn oc) q.1 arraycopyName ∈ ev_gw ∧ Cond.native arraycopyName ∈ ev_gw ∧ Cond.static arraycopyName ∈ ev_gw ∧ Cond.initialized "java/lang/System" ∈ ev_gw) ∧
  (q.2.1 = 0 → ev_MOk q.2.2.2.2 ∧ ((q.2.2.2.1 < 11 ∧ q.2.2.2.2.1.cls = (ev_cl q.2.2.2.1).1) ∨ (q.2.2.2.1 = 20 ∧ q.2.2.2.2.1.cls = "java/lang/String")) ∧ Cond.methodLink (ev_cn oc) q.1 q.2.2.2.2.1 ∈ ev_gw ∧ Cond.instanceMethod q.2.2.2.2.1 ∈ ev_gw ∧ Cond.selects q.2.2.2.2.1.cls q.2.2.2.2.1 q.2.2.2.2.1 ∈ ev_gw ∧ Cond.initialized q.2.2.2.2.1.cls ∈ ev_gw ∧ 1 ≤ q.2.2.1 ∧ ev_np q.2.2.2.2 = some (q.2.2.1 - 1)) ∧
  (q.2.1 = 1 → ev_MOk q.2.2.2.2 ∧ Cond.methodLink (ev_cn oc) q.1 q.2.2.2.2.1 ∈ ev_gw ∧ Cond.instanceMethod q.2.2.2.2.1 ∈ ev_gw ∧ Cond.initialized q.2.2.2.2.1.cls ∈ ev_gw ∧ q.2.2.2.2.1.name = "<init>" ∧ q.2.2.2.2.2.2.2.1 = none ∧ 1 ≤ q.2.2.1 ∧ ev_np q.2.2.2.2 = some (q.2.2.1 - 1)) ∧
  (q.2.1 = 2 → ev_MOk q.2.2.2.2 ∧ Cond.methodLink (ev_cn oc) q.1 q.2.2.2.2.1 ∈ ev_gw ∧ Cond.static q.2.2.2.2.1 ∈ ev_gw ∧ Cond.initialized q.2.2.2.2.1.cls ∈ ev_gw ∧ ev_np q.2.2.2.2 = some q.2.2.1) ∧
  (q.2.1 = 3 → ev_MOk q.2.2.2.2 ∧ (∃ host, Cond.methodLinkNest (ev_cn oc) q.1 q.2.2.2.2.1 host ∈ ev_nest) ∧ Cond.instanceMethod q.2.2.2.2.1 ∈ ev_gw ∧ Cond.initialized q.2.2.2.2.1.cls ∈ ev_gw ∧ q.2.2.2.2.1.name = "<init>" ∧ q.2.2.2.2.2.2.2.1 = none ∧ 1 ≤ q.2.2.1 ∧ ev_np q.2.2.2.2 = some (q.2.2.1 - 1)) ∧
  (q.2.1 = 4 → ev_MOk q.2.2.2.2 ∧ (∃ host, Cond.methodLinkNest (ev_cn oc) q.1 q.2.2.2.2.1 host ∈ ev_nest) ∧ Cond.static q.2.2.2.2.1 ∈ ev_gw ∧ Cond.initialized q.2.2.2.2.1.cls ∈ ev_gw ∧ ev_np q.2.2.2.2 = some q.2.2.1)
theorem ev_tm8 {oc idx n ci : Nat} {Mc : ev_Me} (a b c : Nat) (h : (ev_hw a (.methodLink (ev_cn oc) idx objectInit) && ev_hw b (.instanceMethod objectInit) && ev_hw c (.code objectInit ⟨#[0xb1]⟩ 1 none)) = true) : ev_TMq oc (idx, 8, n, ci, Mc) := by
  simp only [Bool.and_eq_true] at h
  exact ⟨(fun e => nomatch e), (fun e => nomatch e), fun _ => ⟨ev_hw_ok h.1.1, ev_hw_ok h.1.2, ev_hw_ok h.2⟩, (fun e => nomatch e), (fun e => nomatch e), (fun e => nomatch e), (fun e => nomatch e), (fun e => nomatch e), (fun e => nomatch e)⟩
theorem ev_tm6 {oc idx n ci : Nat} {Mc : ev_Me} (a b c d : Nat) (h : (ev_hw a (.methodLink (ev_cn oc) idx Lib.Math.max.name) && ev_hw b (.static Lib.Math.max.name) && ev_hw c (.initialized "java/lang/Math") && ev_hw d (.code Lib.Math.max.name Lib.Math.max.code 2 (some .int))) = true) : ev_TMq oc (idx, 6, n, ci, Mc) := by
  simp only [Bool.and_eq_true] at h
  refine ⟨fun _ => ⟨ev_hw_ok h.1.1.1, ev_hw_ok h.1.1.2, ev_hw_ok h.1.2, ev_hw_ok h.2⟩, (fun e => nomatch e), (fun e => nomatch e), (fun e => nomatch e), (fun e => nomatch e), (fun e => nomatch e), (fun e => nomatch e), (fun e => nomatch e), (fun e => nomatch e)⟩
theorem ev_tm7 {oc idx n ci : Nat} {Mc : ev_Me} (a b c d : Nat) (h : (ev_hw a (.methodLink (ev_cn oc) idx Lib.Math.min.name) && ev_hw b (.static Lib.Math.min.name) && ev_hw c (.initialized "java/lang/Math") && ev_hw d (.code Lib.Math.min.name Lib.Math.min.code 2 (some .int))) = true) : ev_TMq oc (idx, 7, n, ci, Mc) := by
  simp only [Bool.and_eq_true] at h
  refine ⟨(fun e => nomatch e), fun _ => ⟨ev_hw_ok h.1.1.1, ev_hw_ok h.1.1.2, ev_hw_ok h.1.2, ev_hw_ok h.2⟩, (fun e => nomatch e), (fun e => nomatch e), (fun e => nomatch e), (fun e => nomatch e), (fun e => nomatch e), (fun e => nomatch e), (fun e => nomatch e)⟩
theorem ev_tm9 {oc idx n ci : Nat} {Mc : ev_Me} (a b c d : Nat) (h : (ev_hw a (.methodLink (ev_cn oc) idx arraycopyName) && ev_hw b (.native arraycopyName) && ev_hw c (.static arraycopyName) && ev_hw d (.initialized "java/lang/System")) = true) : ev_TMq oc (idx, 9, n, ci, Mc) := by
  simp only [Bool.and_eq_true] at h
  exact ⟨(fun e => nomatch e), (fun e => nomatch e), (fun e => nomatch e), fun _ => ⟨ev_hw_ok h.1.1.1, ev_hw_ok h.1.1.2, ev_hw_ok h.1.2, ev_hw_ok h.2⟩, (fun e => nomatch e), (fun e => nomatch e), (fun e => nomatch e), (fun e => nomatch e), (fun e => nomatch e)⟩
theorem ev_tm0 {oc idx n ci : Nat} {Mc : ev_Me} (ok : ev_MOk Mc) (a b c d : Nat) (h : (ev_hw a (.methodLink (ev_cn oc) idx Mc.1) && ev_hw b (.instanceMethod Mc.1) && ev_hw c (.selects Mc.1.cls Mc.1 Mc.1) && ev_hw d (.initialized Mc.1.cls) && decide ((ci < 11 ∧ Mc.1.cls = (ev_cl ci).1) ∨ (ci = 20 ∧ Mc.1.cls = "java/lang/String")) && Nat.ble 1 n && decide (ev_np Mc = some (n - 1))) = true) : ev_TMq oc (idx, 0, n, ci, Mc) := by
  simp only [Bool.and_eq_true] at h
  obtain ⟨⟨⟨⟨⟨⟨h1, h2⟩, h3⟩, h4⟩, h5⟩, h6⟩, h7⟩ := h
  exact ⟨(fun e => nomatch e), (fun e => nomatch e), (fun e => nomatch e), (fun e => nomatch e), fun _ => ⟨ok, of_decide_eq_true h5, ev_hw_ok h1, ev_hw_ok h2, ev_hw_ok h3, ev_hw_ok h4, Nat.le_of_ble_eq_true h6, of_decide_eq_true h7⟩, (fun e => nomatch e), (fun e => nomatch e), (fun e => nomatch e), (fun e => nomatch e)⟩
theorem ev_tm1 {oc idx n ci : Nat} {Mc : ev_Me} (ok : ev_MOk Mc) (a b d : Nat) (h : (ev_hw a (.methodLink (ev_cn oc) idx Mc.1) && ev_hw b (.instanceMethod Mc.1) && ev_hw d (.initialized Mc.1.cls) && decide (Mc.1.name = "<init>") && decide (Mc.2.2.2.1 = none) && Nat.ble 1 n && decide (ev_np Mc = some (n - 1))) = true) : ev_TMq oc (idx, 1, n, ci, Mc) := by
  simp only [Bool.and_eq_true] at h
  obtain ⟨⟨⟨⟨⟨⟨h1, h2⟩, h3⟩, h4⟩, h5⟩, h6⟩, h7⟩ := h
  exact ⟨(fun e => nomatch e), (fun e => nomatch e), (fun e => nomatch e), (fun e => nomatch e), (fun e => nomatch e), fun _ => ⟨ok, ev_hw_ok h1, ev_hw_ok h2, ev_hw_ok h3, of_decide_eq_true h4, of_decide_eq_true h5, Nat.le_of_ble_eq_true h6, of_decide_eq_true h7⟩, (fun e => nomatch e), (fun e => nomatch e), (fun e => nomatch e)⟩
theorem ev_tm2 {oc idx n ci : Nat} {Mc : ev_Me} (ok : ev_MOk Mc) (a b d : Nat) (h : (ev_hw a (.methodLink (ev_cn oc) idx Mc.1) && ev_hw b (.static Mc.1) && ev_hw d (.initialized Mc.1.cls) && decide (ev_np Mc = some n)) = true) : ev_TMq oc (idx, 2, n, ci, Mc) := by
  simp only [Bool.and_eq_true] at h
  obtain ⟨⟨⟨h1, h2⟩, h3⟩, h4⟩ := h
  exact ⟨(fun e => nomatch e), (fun e => nomatch e), (fun e => nomatch e), (fun e => nomatch e), (fun e => nomatch e), (fun e => nomatch e), fun _ => ⟨ok, ev_hw_ok h1, ev_hw_ok h2, ev_hw_ok h3, of_decide_eq_true h4⟩, (fun e => nomatch e), (fun e => nomatch e)⟩
theorem ev_tm3 {oc idx n ci : Nat} {Mc : ev_Me} (ok : ev_MOk Mc) (a b d : Nat) (h : (ev_hn a (.methodLinkNest (ev_cn oc) idx Mc.1 "SilentLetters") && ev_hw b (.instanceMethod Mc.1) && ev_hw d (.initialized Mc.1.cls) && decide (Mc.1.name = "<init>") && decide (Mc.2.2.2.1 = none) && Nat.ble 1 n && decide (ev_np Mc = some (n - 1))) = true) : ev_TMq oc (idx, 3, n, ci, Mc) := by
  simp only [Bool.and_eq_true] at h
  obtain ⟨⟨⟨⟨⟨⟨h1, h2⟩, h3⟩, h4⟩, h5⟩, h6⟩, h7⟩ := h
  exact ⟨(fun e => nomatch e), (fun e => nomatch e), (fun e => nomatch e), (fun e => nomatch e), (fun e => nomatch e), (fun e => nomatch e), (fun e => nomatch e), fun _ => ⟨ok, ⟨_, List.mem_filter.mpr ⟨ev_hn_ok h1, rfl⟩⟩, ev_hw_ok h2, ev_hw_ok h3, of_decide_eq_true h4, of_decide_eq_true h5, Nat.le_of_ble_eq_true h6, of_decide_eq_true h7⟩, (fun e => nomatch e)⟩
theorem ev_tm4 {oc idx n ci : Nat} {Mc : ev_Me} (ok : ev_MOk Mc) (a b d : Nat) (h : (ev_hn a (.methodLinkNest (ev_cn oc) idx Mc.1 "SilentLetters") && ev_hw b (.static Mc.1) && ev_hw d (.initialized Mc.1.cls) && decide (ev_np Mc = some n)) = true) : ev_TMq oc (idx, 4, n, ci, Mc) := by
  simp only [Bool.and_eq_true] at h
  obtain ⟨⟨⟨h1, h2⟩, h3⟩, h4⟩ := h
  exact ⟨(fun e => nomatch e), (fun e => nomatch e), (fun e => nomatch e), (fun e => nomatch e), (fun e => nomatch e), (fun e => nomatch e), (fun e => nomatch e), (fun e => nomatch e), fun _ => ⟨ok, ⟨_, List.mem_filter.mpr ⟨ev_hn_ok h1, rfl⟩⟩, ev_hw_ok h2, ev_hw_ok h3, of_decide_eq_true h4⟩⟩
theorem tm_0_17 : ev_TMq 0 (17, 7, 2, 99, M_Mat_min) := ev_tm7 3228 2160 1016 2161 (by decide +kernel)
theorem tm_0_23 : ev_TMq 0 (23, 0, 2, 7, M_Text_signAt) := ev_tm0 ok_M_Text_signAt 3229 3038 3039 1002 (by decide +kernel)
theorem tm_0_27 : ev_TMq 0 (27, 2, 3, 99, M_Acts_canStand) := ev_tm2 ok_M_Acts_canStand 3230 3231 1025 (by decide +kernel)
theorem tm_0_31 : ev_TMq 0 (31, 2, 1, 99, M_Acts_lengthOf) := ev_tm2 ok_M_Acts_lengthOf 3233 3234 1025 (by decide +kernel)
theorem tm_0 : ∀ q ∈ ev_ml 0, ev_TMq 0 q := List.forall_mem_cons.mpr ⟨tm_0_17, List.forall_mem_cons.mpr ⟨tm_0_23, List.forall_mem_cons.mpr ⟨tm_0_27, List.forall_mem_cons.mpr ⟨tm_0_31, fun _ h => absurd h List.not_mem_nil⟩⟩⟩⟩
theorem tm_1_3 : ev_TMq 1 (3, 8, 1, 99, M_Mat_max) := ev_tm8 1073 1032 1033 (by decide +kernel)
theorem tm_1_34 : ev_TMq 1 (34, 7, 2, 99, M_Mat_min) := ev_tm7 3036 2160 1016 2161 (by decide +kernel)
theorem tm_1_40 : ev_TMq 1 (40, 0, 2, 7, M_Text_signAt) := ev_tm0 ok_M_Text_signAt 3037 3038 3039 1002 (by decide +kernel)
theorem tm_1_44 : ev_TMq 1 (44, 2, 1, 0, M_Book_letterOf) := ev_tm2 ok_M_Book_letterOf 3041 3042 1004 (by decide +kernel)
theorem tm_1_48 : ev_TMq 1 (48, 2, 1, 0, M_Book_isSaid) := ev_tm2 ok_M_Book_isSaid 3044 3045 1004 (by decide +kernel)
theorem tm_1_52 : ev_TMq 1 (52, 0, 1, 0, M_Book_closeLine) := ev_tm0 ok_M_Book_closeLine 3051 3053 10 1004 (by decide +kernel)
theorem tm_1_60 : ev_TMq 1 (60, 0, 3, 0, M_Book_bare) := ev_tm0 ok_M_Book_bare 3055 3056 3057 1004 (by decide +kernel)
theorem tm_1_83 : ev_TMq 1 (83, 0, 4, 0, M_Book_spell) := ev_tm0 ok_M_Book_spell 3150 3151 3152 1004 (by decide +kernel)
theorem tm_1_79 : ev_TMq 1 (79, 0, 4, 0, M_Book_gone) := ev_tm0 ok_M_Book_gone 3154 3155 3156 1004 (by decide +kernel)
theorem tm_1_76 : ev_TMq 1 (76, 0, 3, 0, M_Book_placesOf) := ev_tm0 ok_M_Book_placesOf 3158 3159 3160 1004 (by decide +kernel)
theorem tm_1_63 : ev_TMq 1 (63, 0, 3, 0, M_Book_hasSign) := ev_tm0 ok_M_Book_hasSign 3212 3213 3214 1004 (by decide +kernel)
theorem tm_1_27 : ev_TMq 1 (27, 0, 2, 0, M_Book_has) := ev_tm0 ok_M_Book_has 3216 3217 3218 1004 (by decide +kernel)
theorem tm_1_67 : ev_TMq 1 (67, 2, 1, 99, M_Int_bitCount) := ev_tm2 ok_M_Int_bitCount 3220 3134 1019 (by decide +kernel)
theorem tm_1_73 : ev_TMq 1 (73, 0, 3, 0, M_Book_lettersAt) := ev_tm0 ok_M_Book_lettersAt 4134 4135 4136 1004 (by decide +kernel)
theorem tm_1 : ∀ q ∈ ev_ml 1, ev_TMq 1 q := List.forall_mem_cons.mpr ⟨tm_1_3, List.forall_mem_cons.mpr ⟨tm_1_34, List.forall_mem_cons.mpr ⟨tm_1_40, List.forall_mem_cons.mpr ⟨tm_1_44, List.forall_mem_cons.mpr ⟨tm_1_48, List.forall_mem_cons.mpr ⟨tm_1_52, List.forall_mem_cons.mpr ⟨tm_1_60, List.forall_mem_cons.mpr ⟨tm_1_83, List.forall_mem_cons.mpr ⟨tm_1_79, List.forall_mem_cons.mpr ⟨tm_1_76, List.forall_mem_cons.mpr ⟨tm_1_63, List.forall_mem_cons.mpr ⟨tm_1_27, List.forall_mem_cons.mpr ⟨tm_1_67, List.forall_mem_cons.mpr ⟨tm_1_73, fun _ h => absurd h List.not_mem_nil⟩⟩⟩⟩⟩⟩⟩⟩⟩⟩⟩⟩⟩⟩
theorem tm_2_3 : ev_TMq 2 (3, 8, 1, 99, M_Mat_max) := ev_tm8 1236 1032 1033 (by decide +kernel)
theorem tm_2_57 : ev_TMq 2 (57, 0, 5, 1, M_Measure_layBoth) := ev_tm0 ok_M_Measure_layBoth 4042 4044 15 1010 (by decide +kernel)
theorem tm_2_46 : ev_TMq 2 (46, 0, 5, 1, M_Measure_lay) := ev_tm0 ok_M_Measure_lay 4046 4048 16 1010 (by decide +kernel)
theorem tm_2_34 : ev_TMq 2 (34, 0, 4, 0, M_Book_gone) := ev_tm0 ok_M_Book_gone 4050 3155 3156 1004 (by decide +kernel)
theorem tm_2_61 : ev_TMq 2 (61, 0, 3, 1, M_Measure_editsAt) := ev_tm0 ok_M_Measure_editsAt 4051 4053 17 1010 (by decide +kernel)
theorem tm_2_65 : ev_TMq 2 (65, 7, 2, 99, M_Mat_min) := ev_tm7 4055 2160 1016 2161 (by decide +kernel)
theorem tm_2_76 : ev_TMq 2 (76, 0, 3, 1, M_Measure_markNear) := ev_tm0 ok_M_Measure_markNear 4064 4066 18 1010 (by decide +kernel)
theorem tm_2_97 : ev_TMq 2 (97, 0, 5, 1, M_Measure_edits) := ev_tm0 ok_M_Measure_edits 4068 4039 4040 1010 (by decide +kernel)
theorem tm_2_80 : ev_TMq 2 (80, 2, 2, 99, M_Arr_fill) := ev_tm2 ok_M_Arr_fill 4069 1106 1006 (by decide +kernel)
theorem tm_2_89 : ev_TMq 2 (89, 0, 3, 1, M_Measure_stepFrom) := ev_tm0 ok_M_Measure_stepFrom 4070 4071 4072 1010 (by decide +kernel)
theorem tm_2_101 : ev_TMq 2 (101, 0, 2, 0, M_Book_has) := ev_tm0 ok_M_Book_has 4074 3217 3218 1004 (by decide +kernel)
theorem tm_2_70 : ev_TMq 2 (70, 0, 3, 1, M_Measure_inCommonAt) := ev_tm0 ok_M_Measure_inCommonAt 4102 4104 20 1010 (by decide +kernel)
theorem tm_2_73 : ev_TMq 2 (73, 6, 2, 99, M_Mat_max) := ev_tm6 4106 2157 1016 2158 (by decide +kernel)
theorem tm_2 : ∀ q ∈ ev_ml 2, ev_TMq 2 q := List.forall_mem_cons.mpr ⟨tm_2_3, List.forall_mem_cons.mpr ⟨tm_2_57, List.forall_mem_cons.mpr ⟨tm_2_46, List.forall_mem_cons.mpr ⟨tm_2_34, List.forall_mem_cons.mpr ⟨tm_2_61, List.forall_mem_cons.mpr ⟨tm_2_65, List.forall_mem_cons.mpr ⟨tm_2_76, List.forall_mem_cons.mpr ⟨tm_2_97, List.forall_mem_cons.mpr ⟨tm_2_80, List.forall_mem_cons.mpr ⟨tm_2_89, List.forall_mem_cons.mpr ⟨tm_2_101, List.forall_mem_cons.mpr ⟨tm_2_70, List.forall_mem_cons.mpr ⟨tm_2_73, fun _ h => absurd h List.not_mem_nil⟩⟩⟩⟩⟩⟩⟩⟩⟩⟩⟩⟩⟩
theorem tm_3_1 : ev_TMq 3 (1, 8, 1, 99, M_Mat_max) := ev_tm8 2029 1032 1033 (by decide +kernel)
theorem tm_3 : ∀ q ∈ ev_ml 3, ev_TMq 3 q := List.forall_mem_cons.mpr ⟨tm_3_1, fun _ h => absurd h List.not_mem_nil⟩
theorem tm_4_1 : ev_TMq 4 (1, 8, 1, 99, M_Mat_max) := ev_tm8 1146 1032 1033 (by decide +kernel)
theorem tm_4_22 : ev_TMq 4 (22, 1, 1, 6, M_State_init) := ev_tm1 ok_M_State_init 1149 1102 1005 (by decide +kernel)
theorem tm_4_27 : ev_TMq 4 (27, 0, 2, 6, M_State_copy) := ev_tm0 ok_M_State_copy 3106 3107 3108 1005 (by decide +kernel)
theorem tm_4_34 : ev_TMq 4 (34, 7, 2, 99, M_Mat_min) := ev_tm7 3111 2160 1016 2161 (by decide +kernel)
theorem tm_4 : ∀ q ∈ ev_ml 4, ev_TMq 4 q := List.forall_mem_cons.mpr ⟨tm_4_1, List.forall_mem_cons.mpr ⟨tm_4_22, List.forall_mem_cons.mpr ⟨tm_4_27, List.forall_mem_cons.mpr ⟨tm_4_34, fun _ h => absurd h List.not_mem_nil⟩⟩⟩⟩
theorem tm_5_3 : ev_TMq 5 (3, 8, 1, 99, M_Mat_max) := ev_tm8 1057 1032 1033 (by decide +kernel)
theorem tm_5_19 : ev_TMq 5 (19, 0, 2, 4, M_Row_tell) := ev_tm0 ok_M_Row_tell 3176 3177 3178 1003 (by decide +kernel)
theorem tm_5_23 : ev_TMq 5 (23, 0, 3, 4, M_Row_tellTwo) := ev_tm0 ok_M_Row_tellTwo 4238 3173 3174 1003 (by decide +kernel)
theorem tm_5 : ∀ q ∈ ev_ml 5, ev_TMq 5 q := List.forall_mem_cons.mpr ⟨tm_5_3, List.forall_mem_cons.mpr ⟨tm_5_19, List.forall_mem_cons.mpr ⟨tm_5_23, fun _ h => absurd h List.not_mem_nil⟩⟩⟩
theorem tm_6_3 : ev_TMq 6 (3, 8, 1, 99, M_Mat_max) := ev_tm8 1173 1032 1033 (by decide +kernel)
theorem tm_6_22 : ev_TMq 6 (22, 0, 1, 5, M_Rule_begin) := ev_tm0 ok_M_Rule_begin 2048 2050 0 1008 (by decide +kernel)
theorem tm_6_27 : ev_TMq 6 (27, 0, 1, 20, M_Str_length) := ev_tm0 ok_M_Str_length 2053 2054 2055 1012 (by decide +kernel)
theorem tm_6_33 : ev_TMq 6 (33, 0, 2, 20, M_Str_charAt) := ev_tm0 ok_M_Str_charAt 2063 2064 2065 1012 (by decide +kernel)
theorem tm_6_37 : ev_TMq 6 (37, 0, 2, 5, M_Rule_accepts) := ev_tm0 ok_M_Rule_accepts 2101 2103 1 1008 (by decide +kernel)
theorem tm_6_83 : ev_TMq 6 (83, 0, 2, 5, M_Rule_acceptsDigit) := ev_tm0 ok_M_Rule_acceptsDigit 2105 2107 2 1008 (by decide +kernel)
theorem tm_6_106 : ev_TMq 6 (106, 0, 2, 5, M_Rule_emit) := ev_tm0 ok_M_Rule_emit 2109 2111 3 1008 (by decide +kernel)
theorem tm_6_87 : ev_TMq 6 (87, 0, 1, 5, M_Rule_closes) := ev_tm0 ok_M_Rule_closes 2113 2115 4 1008 (by decide +kernel)
theorem tm_6_41 : ev_TMq 6 (41, 0, 2, 5, M_Rule_moveDownTo) := ev_tm0 ok_M_Rule_moveDownTo 2117 2119 5 1008 (by decide +kernel)
theorem tm_6_112 : ev_TMq 6 (112, 2, 1, 5, M_Rule_rankOf) := ev_tm2 ok_M_Rule_rankOf 2121 2122 1008 (by decide +kernel)
theorem tm_6_109 : ev_TMq 6 (109, 0, 1, 5, M_Rule_pop) := ev_tm0 ok_M_Rule_pop 2124 2126 6 1008 (by decide +kernel)
theorem tm_6_91 : ev_TMq 6 (91, 0, 2, 5, M_Rule_acceptsBetween) := ev_tm0 ok_M_Rule_acceptsBetween 2128 2130 7 1008 (by decide +kernel)
theorem tm_6_94 : ev_TMq 6 (94, 0, 2, 5, M_Rule_push) := ev_tm0 ok_M_Rule_push 2132 2134 8 1008 (by decide +kernel)
theorem tm_6_97 : ev_TMq 6 (97, 0, 1, 5, M_Rule_opens) := ev_tm0 ok_M_Rule_opens 2136 2138 9 1008 (by decide +kernel)
theorem tm_6_102 : ev_TMq 6 (102, 0, 2, 20, M_Str_indexOf) := ev_tm0 ok_M_Str_indexOf 2141 2142 2143 1012 (by decide +kernel)
theorem tm_6_58 : ev_TMq 6 (58, 0, 1, 5, M_Rule_bePlain) := ev_tm0 ok_M_Rule_bePlain 3071 2045 2046 1008 (by decide +kernel)
theorem tm_6_61 : ev_TMq 6 (61, 7, 2, 99, M_Mat_min) := ev_tm7 3072 2160 1016 2161 (by decide +kernel)
theorem tm_6_67 : ev_TMq 6 (67, 0, 2, 7, M_Text_signAt) := ev_tm0 ok_M_Text_signAt 3073 3038 3039 1002 (by decide +kernel)
theorem tm_6_45 : ev_TMq 6 (45, 9, 5, 99, M_Mat_max) := ev_tm9 3078 3080 3079 1020 (by decide +kernel)
theorem tm_6_115 : ev_TMq 6 (115, 2, 3, 5, M_Rule_between) := ev_tm2 ok_M_Rule_between 3143 3144 1008 (by decide +kernel)
theorem tm_6 : ∀ q ∈ ev_ml 6, ev_TMq 6 q := List.forall_mem_cons.mpr ⟨tm_6_3, List.forall_mem_cons.mpr ⟨tm_6_22, List.forall_mem_cons.mpr ⟨tm_6_27, List.forall_mem_cons.mpr ⟨tm_6_33, List.forall_mem_cons.mpr ⟨tm_6_37, List.forall_mem_cons.mpr ⟨tm_6_83, List.forall_mem_cons.mpr ⟨tm_6_106, List.forall_mem_cons.mpr ⟨tm_6_87, List.forall_mem_cons.mpr ⟨tm_6_41, List.forall_mem_cons.mpr ⟨tm_6_112, List.forall_mem_cons.mpr ⟨tm_6_109, List.forall_mem_cons.mpr ⟨tm_6_91, List.forall_mem_cons.mpr ⟨tm_6_94, List.forall_mem_cons.mpr ⟨tm_6_97, List.forall_mem_cons.mpr ⟨tm_6_102, List.forall_mem_cons.mpr ⟨tm_6_58, List.forall_mem_cons.mpr ⟨tm_6_61, List.forall_mem_cons.mpr ⟨tm_6_67, List.forall_mem_cons.mpr ⟨tm_6_45, List.forall_mem_cons.mpr ⟨tm_6_115, fun _ h => absurd h List.not_mem_nil⟩⟩⟩⟩⟩⟩⟩⟩⟩⟩⟩⟩⟩⟩⟩⟩⟩⟩⟩⟩
theorem tm_7_3 : ev_TMq 7 (3, 8, 1, 99, M_Mat_max) := ev_tm8 1104 1032 1033 (by decide +kernel)
theorem tm_7_21 : ev_TMq 7 (21, 2, 2, 99, M_Arr_fill) := ev_tm2 ok_M_Arr_fill 1105 1106 1006 (by decide +kernel)
theorem tm_7_43 : ev_TMq 7 (43, 4, 1, 9, M_SL_sum) := ev_tm4 ok_M_SL_sum 3095 3096 1001 (by decide +kernel)
theorem tm_7_27 : ev_TMq 7 (27, 9, 5, 99, M_Mat_max) := ev_tm9 3110 3080 3079 1020 (by decide +kernel)
theorem tm_7_47 : ev_TMq 7 (47, 4, 1, 9, M_SL_isLetter) := ev_tm4 ok_M_SL_isLetter 3189 3190 1001 (by decide +kernel)
theorem tm_7 : ∀ q ∈ ev_ml 7, ev_TMq 7 q := List.forall_mem_cons.mpr ⟨tm_7_3, List.forall_mem_cons.mpr ⟨tm_7_21, List.forall_mem_cons.mpr ⟨tm_7_43, List.forall_mem_cons.mpr ⟨tm_7_27, List.forall_mem_cons.mpr ⟨tm_7_47, fun _ h => absurd h List.not_mem_nil⟩⟩⟩⟩⟩
theorem tm_8_1 : ev_TMq 8 (1, 8, 1, 99, M_Mat_max) := ev_tm8 1039 1032 1033 (by decide +kernel)
theorem tm_8 : ∀ q ∈ ev_ml 8, ev_TMq 8 q := List.forall_mem_cons.mpr ⟨tm_8_1, fun _ h => absurd h List.not_mem_nil⟩
theorem tm_9_3 : ev_TMq 9 (3, 8, 1, 99, M_Mat_max) := ev_tm8 1204 1032 1033 (by decide +kernel)
theorem tm_9_88 : ev_TMq 9 (88, 0, 3, 8, M_Union_passDay) := ev_tm0 ok_M_Union_passDay 3116 3117 3118 1009 (by decide +kernel)
theorem tm_9_92 : ev_TMq 9 (92, 0, 3, 8, M_Union_strikers) := ev_tm0 ok_M_Union_strikers 3120 3121 3122 1009 (by decide +kernel)
theorem tm_9_78 : ev_TMq 9 (78, 0, 2, 8, M_Union_tally) := ev_tm0 ok_M_Union_tally 3124 3125 3126 1009 (by decide +kernel)
theorem tm_9_28 : ev_TMq 9 (28, 2, 2, 99, M_Arr_fill) := ev_tm2 ok_M_Arr_fill 3128 1106 1006 (by decide +kernel)
theorem tm_9_74 : ev_TMq 9 (74, 0, 5, 8, M_Union_grudge) := ev_tm0 ok_M_Union_grudge 3129 3130 3131 1009 (by decide +kernel)
theorem tm_9_56 : ev_TMq 9 (56, 2, 1, 99, M_Int_bitCount) := ev_tm2 ok_M_Int_bitCount 3133 3134 1019 (by decide +kernel)
theorem tm_9_65 : ev_TMq 9 (65, 0, 2, 5, M_Rule_workOut) := ev_tm0 ok_M_Rule_workOut 3139 3140 3141 1008 (by decide +kernel)
theorem tm_9_95 : ev_TMq 9 (95, 0, 4, 0, M_Book_spellAll) := ev_tm0 ok_M_Book_spellAll 3146 3147 3148 1004 (by decide +kernel)
theorem tm_9_99 : ev_TMq 9 (99, 0, 1, 8, M_Union_pairsThatFall) := ev_tm0 ok_M_Union_pairsThatFall 3162 3164 11 1009 (by decide +kernel)
theorem tm_9_115 : ev_TMq 9 (115, 0, 3, 0, M_Book_areTwins) := ev_tm0 ok_M_Book_areTwins 3166 3167 3168 1004 (by decide +kernel)
theorem tm_9_106 : ev_TMq 9 (106, 7, 2, 99, M_Mat_min) := ev_tm7 3170 2160 1016 2161 (by decide +kernel)
theorem tm_9_112 : ev_TMq 9 (112, 6, 2, 99, M_Mat_max) := ev_tm6 3171 2157 1016 2158 (by decide +kernel)
theorem tm_9 : ∀ q ∈ ev_ml 9, ev_TMq 9 q := List.forall_mem_cons.mpr ⟨tm_9_3, List.forall_mem_cons.mpr ⟨tm_9_88, List.forall_mem_cons.mpr ⟨tm_9_92, List.forall_mem_cons.mpr ⟨tm_9_78, List.forall_mem_cons.mpr ⟨tm_9_28, List.forall_mem_cons.mpr ⟨tm_9_74, List.forall_mem_cons.mpr ⟨tm_9_56, List.forall_mem_cons.mpr ⟨tm_9_65, List.forall_mem_cons.mpr ⟨tm_9_95, List.forall_mem_cons.mpr ⟨tm_9_99, List.forall_mem_cons.mpr ⟨tm_9_115, List.forall_mem_cons.mpr ⟨tm_9_106, List.forall_mem_cons.mpr ⟨tm_9_112, fun _ h => absurd h List.not_mem_nil⟩⟩⟩⟩⟩⟩⟩⟩⟩⟩⟩⟩⟩
theorem tm_10_1 : ev_TMq 10 (1, 8, 1, 99, M_Mat_max) := ev_tm8 1031 1032 1033 (by decide +kernel)
theorem tm_10_9 : ev_TMq 10 (9, 3, 1, 7, M_Text_init) := ev_tm3 ok_M_Text_init 1036 1037 1002 (by decide +kernel)
theorem tm_10_18 : ev_TMq 10 (18, 3, 1, 4, M_Row_init) := ev_tm3 ok_M_Row_init 1054 1055 1003 (by decide +kernel)
theorem tm_10_25 : ev_TMq 10 (25, 3, 1, 0, M_Book_init) := ev_tm3 ok_M_Book_init 1070 1071 1004 (by decide +kernel)
theorem tm_10_32 : ev_TMq 10 (32, 1, 1, 6, M_State_init) := ev_tm1 ok_M_State_init 1101 1102 1005 (by decide +kernel)
theorem tm_10_42 : ev_TMq 10 (42, 1, 1, 3, M_Past_init) := ev_tm1 ok_M_Past_init 1143 1144 1007 (by decide +kernel)
theorem tm_10_49 : ev_TMq 10 (49, 3, 1, 5, M_Rule_init) := ev_tm3 ok_M_Rule_init 1170 1171 1008 (by decide +kernel)
theorem tm_10_59 : ev_TMq 10 (59, 1, 2, 8, M_Union_init) := ev_tm1 ok_M_Union_init 1201 1202 1009 (by decide +kernel)
theorem tm_10_68 : ev_TMq 10 (68, 1, 2, 1, M_Measure_init) := ev_tm1 ok_M_Measure_init 1233 1234 1010 (by decide +kernel)
theorem tm_10_75 : ev_TMq 10 (75, 3, 1, 2, M_Notices_init) := ev_tm3 ok_M_Notices_init 2026 2027 1011 (by decide +kernel)
theorem tm_10_99 : ev_TMq 10 (99, 0, 1, 5, M_Rule_bePlain) := ev_tm0 ok_M_Rule_bePlain 2044 2045 2046 1008 (by decide +kernel)
theorem tm_10_102 : ev_TMq 10 (102, 0, 2, 7, M_Text_takeFour) := ev_tm0 ok_M_Text_takeFour 3020 3021 3022 1002 (by decide +kernel)
theorem tm_10_110 : ev_TMq 10 (110, 0, 2, 0, M_Book_faultIn) := ev_tm0 ok_M_Book_faultIn 3032 3033 3034 1004 (by decide +kernel)
theorem tm_10_114 : ev_TMq 10 (114, 0, 3, 0, M_Book_takeLines) := ev_tm0 ok_M_Book_takeLines 3047 3048 3049 1004 (by decide +kernel)
theorem tm_10_118 : ev_TMq 10 (118, 0, 1, 3, M_Past_forgetAll) := ev_tm0 ok_M_Past_forgetAll 3059 3060 3061 1007 (by decide +kernel)
theorem tm_10_121 : ev_TMq 10 (121, 0, 2, 5, M_Rule_read) := ev_tm0 ok_M_Rule_read 3067 3068 3069 1008 (by decide +kernel)
theorem tm_10_124 : ev_TMq 10 (124, 0, 2, 5, M_Rule_copy) := ev_tm0 ok_M_Rule_copy 3074 3075 3076 1008 (by decide +kernel)
theorem tm_10_197 : ev_TMq 10 (197, 2, 2, 99, M_Arr_fill) := ev_tm2 ok_M_Arr_fill 3085 1106 1006 (by decide +kernel)
theorem tm_10_203 : ev_TMq 10 (203, 2, 2, 9, M_SL_cutTo) := ev_tm2 ok_M_SL_cutTo 3086 3087 1001 (by decide +kernel)
theorem tm_10_206 : ev_TMq 10 (206, 7, 2, 99, M_Mat_min) := ev_tm7 3089 2160 1016 2161 (by decide +kernel)
theorem tm_10_211 : ev_TMq 10 (211, 6, 2, 99, M_Mat_max) := ev_tm6 3090 2157 1016 2158 (by decide +kernel)
theorem tm_10_214 : ev_TMq 10 (214, 0, 1, 6, M_State_moodsTogether) := ev_tm0 ok_M_State_moodsTogether 3091 3092 3093 1005 (by decide +kernel)
theorem tm_10_218 : ev_TMq 10 (218, 0, 2, 3, M_Past_remember) := ev_tm0 ok_M_Past_remember 3102 3103 3104 1007 (by decide +kernel)
theorem tm_10_221 : ev_TMq 10 (221, 0, 4, 8, M_Union_passDays) := ev_tm0 ok_M_Union_passDays 3112 3113 3114 1009 (by decide +kernel)
theorem tm_10_231 : ev_TMq 10 (231, 0, 3, 4, M_Row_tellTwo) := ev_tm0 ok_M_Row_tellTwo 3172 3173 3174 1003 (by decide +kernel)
theorem tm_10_235 : ev_TMq 10 (235, 0, 2, 6, M_State_copy) := ev_tm0 ok_M_State_copy 3184 3107 3108 1005 (by decide +kernel)
theorem tm_10_237 : ev_TMq 10 (237, 0, 3, 6, M_State_putOffer) := ev_tm0 ok_M_State_putOffer 3185 3186 3187 1005 (by decide +kernel)
theorem tm_10_240 : ev_TMq 10 (240, 0, 2, 9, M_SL_rememberIfDone) := ev_tm0 ok_M_SL_rememberIfDone 3192 3194 12 1001 (by decide +kernel)
theorem tm_10_243 : ev_TMq 10 (243, 0, 3, 6, M_State_stir) := ev_tm0 ok_M_State_stir 3200 3201 3202 1005 (by decide +kernel)
theorem tm_10_246 : ev_TMq 10 (246, 0, 4, 0, M_Book_mute) := ev_tm0 ok_M_Book_mute 3208 3209 3210 1004 (by decide +kernel)
theorem tm_10_249 : ev_TMq 10 (249, 2, 1, 99, M_Acts_faultIn) := ev_tm2 ok_M_Acts_faultIn 3225 3226 1025 (by decide +kernel)
theorem tm_10_252 : ev_TMq 10 (252, 0, 2, 9, M_SL_doAct) := ev_tm0 ok_M_SL_doAct 3236 3238 13 1001 (by decide +kernel)
theorem tm_10_255 : ev_TMq 10 (255, 0, 2, 7, M_Text_signAt) := ev_tm0 ok_M_Text_signAt 4000 3038 3039 1002 (by decide +kernel)
theorem tm_10_303 : ev_TMq 10 (303, 0, 3, 8, M_Union_passDay) := ev_tm0 ok_M_Union_passDay 4001 3117 3118 1009 (by decide +kernel)
theorem tm_10_259 : ev_TMq 10 (259, 2, 1, 99, M_Acts_lengthOf) := ev_tm2 ok_M_Acts_lengthOf 4002 3234 1025 (by decide +kernel)
theorem tm_10_262 : ev_TMq 10 (262, 0, 2, 3, M_Past_bringBack) := ev_tm0 ok_M_Past_bringBack 4007 4008 4009 1007 (by decide +kernel)
theorem tm_10_128 : ev_TMq 10 (128, 0, 2, 0, M_Book_has) := ev_tm0 ok_M_Book_has 4015 3217 3218 1004 (by decide +kernel)
theorem tm_10_267 : ev_TMq 10 (267, 2, 1, 9, M_SL_isSet) := ev_tm2 ok_M_SL_isSet 4016 4017 1001 (by decide +kernel)
theorem tm_10_144 : ev_TMq 10 (144, 0, 4, 0, M_Book_gone) := ev_tm0 ok_M_Book_gone 4019 3155 3156 1004 (by decide +kernel)
theorem tm_10_271 : ev_TMq 10 (271, 0, 2, 4, M_Row_tell) := ev_tm0 ok_M_Row_tell 4020 3177 3178 1003 (by decide +kernel)
theorem tm_10_275 : ev_TMq 10 (275, 0, 4, 0, M_Book_spellAll) := ev_tm0 ok_M_Book_spellAll 4025 3147 3148 1004 (by decide +kernel)
theorem tm_10_280 : ev_TMq 10 (280, 0, 2, 9, M_SL_firstLike) := ev_tm0 ok_M_SL_firstLike 4026 4028 14 1001 (by decide +kernel)
theorem tm_10_283 : ev_TMq 10 (283, 0, 3, 0, M_Book_hasBoth) := ev_tm0 ok_M_Book_hasBoth 4034 4035 4036 1004 (by decide +kernel)
theorem tm_10_286 : ev_TMq 10 (286, 0, 5, 1, M_Measure_edits) := ev_tm0 ok_M_Measure_edits 4038 4039 4040 1010 (by decide +kernel)
theorem tm_10_290 : ev_TMq 10 (290, 0, 4, 1, M_Measure_stepsTo) := ev_tm0 ok_M_Measure_stepsTo 4060 4061 4062 1010 (by decide +kernel)
theorem tm_10_297 : ev_TMq 10 (297, 0, 3, 1, M_Measure_stepFrom) := ev_tm0 ok_M_Measure_stepFrom 4075 4071 4072 1010 (by decide +kernel)
theorem tm_10_307 : ev_TMq 10 (307, 0, 1, 9, M_SL_tellFirstFallen) := ev_tm0 ok_M_SL_tellFirstFallen 4084 4086 19 1001 (by decide +kernel)
theorem tm_10_431 : ev_TMq 10 (431, 0, 3, 0, M_Book_areTwins) := ev_tm0 ok_M_Book_areTwins 4088 3167 3168 1004 (by decide +kernel)
theorem tm_10_174 : ev_TMq 10 (174, 2, 1, 9, M_SL_isLetter) := ev_tm2 ok_M_SL_isLetter 4093 3190 1001 (by decide +kernel)
theorem tm_10_310 : ev_TMq 10 (310, 0, 5, 1, M_Measure_inCommon) := ev_tm0 ok_M_Measure_inCommon 4098 4099 4100 1010 (by decide +kernel)
theorem tm_10_179 : ev_TMq 10 (179, 0, 2, 8, M_Union_tally) := ev_tm0 ok_M_Union_tally 4111 3125 3126 1009 (by decide +kernel)
theorem tm_10_193 : ev_TMq 10 (193, 0, 5, 8, M_Union_grudge) := ev_tm0 ok_M_Union_grudge 4112 3130 3131 1009 (by decide +kernel)
theorem tm_10_148 : ev_TMq 10 (148, 2, 1, 99, M_Int_bitCount) := ev_tm2 ok_M_Int_bitCount 4117 3134 1019 (by decide +kernel)
theorem tm_10_313 : ev_TMq 10 (313, 0, 3, 9, M_SL_tellsApart) := ev_tm0 ok_M_SL_tellsApart 4118 4120 21 1001 (by decide +kernel)
theorem tm_10_316 : ev_TMq 10 (316, 0, 2, 9, M_SL_tellSet) := ev_tm0 ok_M_SL_tellSet 4122 4124 22 1001 (by decide +kernel)
theorem tm_10_319 : ev_TMq 10 (319, 0, 2, 0, M_Book_unsaidLetters) := ev_tm0 ok_M_Book_unsaidLetters 4130 4131 4132 1004 (by decide +kernel)
theorem tm_10_323 : ev_TMq 10 (323, 0, 5, 0, M_Book_areOne) := ev_tm0 ok_M_Book_areOne 4142 4143 4144 1004 (by decide +kernel)
theorem tm_10_327 : ev_TMq 10 (327, 0, 2, 9, M_SL_countPairsThatAreOne) := ev_tm0 ok_M_SL_countPairsThatAreOne 4150 4152 23 1001 (by decide +kernel)
theorem tm_10_331 : ev_TMq 10 (331, 0, 2, 9, M_SL_neverMeet) := ev_tm0 ok_M_SL_neverMeet 4154 4156 24 1001 (by decide +kernel)
theorem tm_10_334 : ev_TMq 10 (334, 0, 3, 0, M_Book_placesOf) := ev_tm0 ok_M_Book_placesOf 4162 3159 3160 1004 (by decide +kernel)
theorem tm_10_337 : ev_TMq 10 (337, 0, 3, 0, M_Book_bare) := ev_tm0 ok_M_Book_bare 4163 3056 3057 1004 (by decide +kernel)
theorem tm_10_340 : ev_TMq 10 (340, 0, 4, 0, M_Book_spell) := ev_tm0 ok_M_Book_spell 4164 3151 3152 1004 (by decide +kernel)
theorem tm_10_343 : ev_TMq 10 (343, 0, 2, 9, M_SL_neverTaken) := ev_tm0 ok_M_SL_neverTaken 4165 4167 25 1001 (by decide +kernel)
theorem tm_10_346 : ev_TMq 10 (346, 0, 1, 2, M_Notices_hasRoom) := ev_tm0 ok_M_Notices_hasRoom 4173 4174 4175 1011 (by decide +kernel)
theorem tm_10_350 : ev_TMq 10 (350, 0, 4, 2, M_Notices_take) := ev_tm0 ok_M_Notices_take 4177 4178 4179 1011 (by decide +kernel)
theorem tm_10_355 : ev_TMq 10 (355, 0, 2, 9, M_SL_agrees) := ev_tm0 ok_M_SL_agrees 4189 4191 26 1001 (by decide +kernel)
theorem tm_10_434 : ev_TMq 10 (434, 0, 2, 2, M_Notices_agreeWith) := ev_tm0 ok_M_Notices_agreeWith 4193 4194 4195 1011 (by decide +kernel)
theorem tm_10_358 : ev_TMq 10 (358, 0, 2, 9, M_SL_tellBestLook) := ev_tm0 ok_M_SL_tellBestLook 4201 4203 27 1001 (by decide +kernel)
theorem tm_10_361 : ev_TMq 10 (361, 0, 4, 8, M_Union_priceOf) := ev_tm0 ok_M_Union_priceOf 4209 4210 4211 1009 (by decide +kernel)
theorem tm_10_365 : ev_TMq 10 (365, 0, 1, 9, M_SL_priceStrikers) := ev_tm0 ok_M_SL_priceStrikers 4217 4219 28 1001 (by decide +kernel)
theorem tm_10_368 : ev_TMq 10 (368, 0, 2, 9, M_SL_sumOver) := ev_tm0 ok_M_SL_sumOver 4221 4223 29 1001 (by decide +kernel)
theorem tm_10_371 : ev_TMq 10 (371, 9, 5, 99, M_Mat_max) := ev_tm9 4229 3080 3079 1020 (by decide +kernel)
theorem tm_10_377 : ev_TMq 10 (377, 0, 2, 9, M_SL_setsTurnedBy) := ev_tm0 ok_M_SL_setsTurnedBy 4230 4232 30 1001 (by decide +kernel)
theorem tm_10_380 : ev_TMq 10 (380, 0, 3, 4, M_Row_tellFraction) := ev_tm0 ok_M_Row_tellFraction 4234 4235 4236 1003 (by decide +kernel)
theorem tm_10_383 : ev_TMq 10 (383, 2, 2, 9, M_SL_chanceOf) := ev_tm2 ok_M_SL_chanceOf 5003 5004 1001 (by decide +kernel)
theorem tm_10_389 : ev_TMq 10 (389, 2, 2, 9, M_SL_raised) := ev_tm2 ok_M_SL_raised 5006 5007 1001 (by decide +kernel)
theorem tm_10_393 : ev_TMq 10 (393, 2, 3, 9, M_SL_winningTake) := ev_tm2 ok_M_SL_winningTake 5014 5015 1001 (by decide +kernel)
theorem tm_10_397 : ev_TMq 10 (397, 0, 3, 8, M_Union_strikers) := ev_tm0 ok_M_Union_strikers 5021 3121 3122 1009 (by decide +kernel)
theorem tm_10_400 : ev_TMq 10 (400, 2, 3, 9, M_SL_isBest) := ev_tm2 ok_M_SL_isBest 5026 5027 1001 (by decide +kernel)
theorem tm_10_438 : ev_TMq 10 (438, 2, 3, 9, M_SL_gainOf) := ev_tm2 ok_M_SL_gainOf 5029 5030 1001 (by decide +kernel)
theorem tm_10_407 : ev_TMq 10 (407, 0, 2, 9, M_SL_draw) := ev_tm0 ok_M_SL_draw 5036 5038 31 1001 (by decide +kernel)
theorem tm_10_410 : ev_TMq 10 (410, 0, 3, 3, M_Past_keepUnder) := ev_tm0 ok_M_Past_keepUnder 5045 5046 5047 1007 (by decide +kernel)
theorem tm_10_414 : ev_TMq 10 (414, 0, 3, 3, M_Past_takeUp) := ev_tm0 ok_M_Past_takeUp 5053 5054 5055 1007 (by decide +kernel)
theorem tm_10_420 : ev_TMq 10 (420, 2, 1, 9, M_SL_sum) := ev_tm2 ok_M_SL_sum 5061 3096 1001 (by decide +kernel)
theorem tm_10_154 : ev_TMq 10 (154, 0, 3, 0, M_Book_lettersAt) := ev_tm0 ok_M_Book_lettersAt 5135 4135 4136 1004 (by decide +kernel)
theorem tm_10_161 : ev_TMq 10 (161, 0, 2, 9, M_SL_oneWith) := ev_tm0 ok_M_SL_oneWith 5136 5138 33 1001 (by decide +kernel)
theorem tm_10_164 : ev_TMq 10 (164, 0, 3, 0, M_Book_hasSign) := ev_tm0 ok_M_Book_hasSign 5147 3213 3214 1004 (by decide +kernel)
theorem tm_10 : ∀ q ∈ ev_ml 10, ev_TMq 10 q := List.forall_mem_cons.mpr ⟨tm_10_1, List.forall_mem_cons.mpr ⟨tm_10_9, List.forall_mem_cons.mpr ⟨tm_10_18, List.forall_mem_cons.mpr ⟨tm_10_25, List.forall_mem_cons.mpr ⟨tm_10_32, List.forall_mem_cons.mpr ⟨tm_10_42, List.forall_mem_cons.mpr ⟨tm_10_49, List.forall_mem_cons.mpr ⟨tm_10_59, List.forall_mem_cons.mpr ⟨tm_10_68, List.forall_mem_cons.mpr ⟨tm_10_75, List.forall_mem_cons.mpr ⟨tm_10_99, List.forall_mem_cons.mpr ⟨tm_10_102, List.forall_mem_cons.mpr ⟨tm_10_110, List.forall_mem_cons.mpr ⟨tm_10_114, List.forall_mem_cons.mpr ⟨tm_10_118, List.forall_mem_cons.mpr ⟨tm_10_121, List.forall_mem_cons.mpr ⟨tm_10_124, List.forall_mem_cons.mpr ⟨tm_10_197, List.forall_mem_cons.mpr ⟨tm_10_203, List.forall_mem_cons.mpr ⟨tm_10_206, List.forall_mem_cons.mpr ⟨tm_10_211, List.forall_mem_cons.mpr ⟨tm_10_214, List.forall_mem_cons.mpr ⟨tm_10_218, List.forall_mem_cons.mpr ⟨tm_10_221, List.forall_mem_cons.mpr ⟨tm_10_231, List.forall_mem_cons.mpr ⟨tm_10_235, List.forall_mem_cons.mpr ⟨tm_10_237, List.forall_mem_cons.mpr ⟨tm_10_240, List.forall_mem_cons.mpr ⟨tm_10_243, List.forall_mem_cons.mpr ⟨tm_10_246, List.forall_mem_cons.mpr ⟨tm_10_249, List.forall_mem_cons.mpr ⟨tm_10_252, List.forall_mem_cons.mpr ⟨tm_10_255, List.forall_mem_cons.mpr ⟨tm_10_303, List.forall_mem_cons.mpr ⟨tm_10_259, List.forall_mem_cons.mpr ⟨tm_10_262, List.forall_mem_cons.mpr ⟨tm_10_128, List.forall_mem_cons.mpr ⟨tm_10_267, List.forall_mem_cons.mpr ⟨tm_10_144, List.forall_mem_cons.mpr ⟨tm_10_271, List.forall_mem_cons.mpr ⟨tm_10_275, List.forall_mem_cons.mpr ⟨tm_10_280, List.forall_mem_cons.mpr ⟨tm_10_283, List.forall_mem_cons.mpr ⟨tm_10_286, List.forall_mem_cons.mpr ⟨tm_10_290, List.forall_mem_cons.mpr ⟨tm_10_297, List.forall_mem_cons.mpr ⟨tm_10_307, List.forall_mem_cons.mpr ⟨tm_10_431, List.forall_mem_cons.mpr ⟨tm_10_174, List.forall_mem_cons.mpr ⟨tm_10_310, List.forall_mem_cons.mpr ⟨tm_10_179, List.forall_mem_cons.mpr ⟨tm_10_193, List.forall_mem_cons.mpr ⟨tm_10_148, List.forall_mem_cons.mpr ⟨tm_10_313, List.forall_mem_cons.mpr ⟨tm_10_316, List.forall_mem_cons.mpr ⟨tm_10_319, List.forall_mem_cons.mpr ⟨tm_10_323, List.forall_mem_cons.mpr ⟨tm_10_327, List.forall_mem_cons.mpr ⟨tm_10_331, List.forall_mem_cons.mpr ⟨tm_10_334, List.forall_mem_cons.mpr ⟨tm_10_337, List.forall_mem_cons.mpr ⟨tm_10_340, List.forall_mem_cons.mpr ⟨tm_10_343, List.forall_mem_cons.mpr ⟨tm_10_346, List.forall_mem_cons.mpr ⟨tm_10_350, List.forall_mem_cons.mpr ⟨tm_10_355, List.forall_mem_cons.mpr ⟨tm_10_434, List.forall_mem_cons.mpr ⟨tm_10_358, List.forall_mem_cons.mpr ⟨tm_10_361, List.forall_mem_cons.mpr ⟨tm_10_365, List.forall_mem_cons.mpr ⟨tm_10_368, List.forall_mem_cons.mpr ⟨tm_10_371, List.forall_mem_cons.mpr ⟨tm_10_377, List.forall_mem_cons.mpr ⟨tm_10_380, List.forall_mem_cons.mpr ⟨tm_10_383, List.forall_mem_cons.mpr ⟨tm_10_389, List.forall_mem_cons.mpr ⟨tm_10_393, List.forall_mem_cons.mpr ⟨tm_10_397, List.forall_mem_cons.mpr ⟨tm_10_400, List.forall_mem_cons.mpr ⟨tm_10_438, List.forall_mem_cons.mpr ⟨tm_10_407, List.forall_mem_cons.mpr ⟨tm_10_410, List.forall_mem_cons.mpr ⟨tm_10_414, List.forall_mem_cons.mpr ⟨tm_10_420, List.forall_mem_cons.mpr ⟨tm_10_154, List.forall_mem_cons.mpr ⟨tm_10_161, List.forall_mem_cons.mpr ⟨tm_10_164, fun _ h => absurd h List.not_mem_nil⟩⟩⟩⟩⟩⟩⟩⟩⟩⟩⟩⟩⟩⟩⟩⟩⟩⟩⟩⟩⟩⟩⟩⟩⟩⟩⟩⟩⟩⟩⟩⟩⟩⟩⟩⟩⟩⟩⟩⟩⟩⟩⟩⟩⟩⟩⟩⟩⟩⟩⟩⟩⟩⟩⟩⟩⟩⟩⟩⟩⟩⟩⟩⟩⟩⟩⟩⟩⟩⟩⟩⟩⟩⟩⟩⟩⟩⟩⟩⟩⟩⟩⟩⟩⟩⟩⟩
theorem tm_11_22 : ev_TMq 11 (22, 8, 1, 99, M_Mat_max) := ev_tm8 5174 1032 1033 (by decide +kernel)
theorem tm_11_132 : ev_TMq 11 (132, 2, 3, 10, M_Mo_in) := ev_tm2 ok_M_Mo_in 6091 6092 1018 (by decide +kernel)
theorem tm_11_205 : ev_TMq 11 (205, 0, 2, 10, M_Mo_begins) := ev_tm0 ok_M_Mo_begins 6098 6100 34 1018 (by decide +kernel)
theorem tm_11_163 : ev_TMq 11 (163, 7, 2, 99, M_Mat_min) := ev_tm7 6102 2160 1016 2161 (by decide +kernel)
theorem tm_11_208 : ev_TMq 11 (208, 0, 1, 10, M_Mo_readsWord) := ev_tm0 ok_M_Mo_readsWord 6103 6105 35 1018 (by decide +kernel)
theorem tm_11_195 : ev_TMq 11 (195, 0, 2, 10, M_Mo_takesOf) := ev_tm0 ok_M_Mo_takesOf 6108 6110 36 1018 (by decide +kernel)
theorem tm_11_176 : ev_TMq 11 (176, 0, 1, 20, M_Str_length) := ev_tm0 ok_M_Str_length 6112 2054 2055 1012 (by decide +kernel)
theorem tm_11_182 : ev_TMq 11 (182, 0, 2, 20, M_Str_charAt) := ev_tm0 ok_M_Str_charAt 6113 2064 2065 1012 (by decide +kernel)
theorem tm_11_199 : ev_TMq 11 (199, 2, 1, 99, M_Int_bitCount) := ev_tm2 ok_M_Int_bitCount 6114 3134 1019 (by decide +kernel)
theorem tm_11_211 : ev_TMq 11 (211, 0, 2, 10, M_Mo_takes) := ev_tm0 ok_M_Mo_takes 6115 6117 37 1018 (by decide +kernel)
theorem tm_11_146 : ev_TMq 11 (146, 2, 1, 10, M_Mo_flag) := ev_tm2 ok_M_Mo_flag 6119 6120 1018 (by decide +kernel)
theorem tm_11_214 : ev_TMq 11 (214, 0, 4, 10, M_Mo_faultOf) := ev_tm0 ok_M_Mo_faultOf 6122 6124 38 1018 (by decide +kernel)
theorem tm_11_251 : ev_TMq 11 (251, 0, 1, 10, M_Mo_readsRule) := ev_tm0 ok_M_Mo_readsRule 6130 6132 39 1018 (by decide +kernel)
theorem tm_11_239 : ev_TMq 11 (239, 0, 2, 10, M_Mo_readsRank) := ev_tm0 ok_M_Mo_readsRank 6134 6136 40 1018 (by decide +kernel)
theorem tm_11_227 : ev_TMq 11 (227, 0, 1, 10, M_Mo_readsThing) := ev_tm0 ok_M_Mo_readsThing 6138 6140 41 1018 (by decide +kernel)
theorem tm_11_230 : ev_TMq 11 (230, 0, 2, 10, M_Mo_codes) := ev_tm0 ok_M_Mo_codes 6142 6144 42 1018 (by decide +kernel)
theorem tm_11_186 : ev_TMq 11 (186, 0, 1, 10, M_Mo_isDigit) := ev_tm0 ok_M_Mo_isDigit 6146 6148 43 1018 (by decide +kernel)
theorem tm_11_234 : ev_TMq 11 (234, 0, 2, 10, M_Mo_number) := ev_tm0 ok_M_Mo_number 6152 6154 44 1018 (by decide +kernel)
theorem tm_11_254 : ev_TMq 11 (254, 0, 3, 10, M_Mo_laysCode) := ev_tm0 ok_M_Mo_laysCode 6160 6162 45 1018 (by decide +kernel)
theorem tm_11_136 : ev_TMq 11 (136, 0, 2, 10, M_Mo_isWord) := ev_tm0 ok_M_Mo_isWord 6168 6170 46 1018 (by decide +kernel)
theorem tm_11_279 : ev_TMq 11 (279, 0, 1, 10, M_Mo_refuse) := ev_tm0 ok_M_Mo_refuse 6173 6175 47 1018 (by decide +kernel)
theorem tm_11_142 : ev_TMq 11 (142, 2, 2, 10, M_Mo_has) := ev_tm2 ok_M_Mo_has 6177 6178 1018 (by decide +kernel)
theorem tm_11_273 : ev_TMq 11 (273, 0, 5, 10, M_Mo_isOneBy) := ev_tm0 ok_M_Mo_isOneBy 6180 6182 48 1018 (by decide +kernel)
theorem tm_11_269 : ev_TMq 11 (269, 0, 5, 10, M_Mo_lays) := ev_tm0 ok_M_Mo_lays 6184 6186 49 1018 (by decide +kernel)
theorem tm_11_282 : ev_TMq 11 (282, 2, 1, 10, M_Mo_isLetter) := ev_tm2 ok_M_Mo_isLetter 6196 6197 1018 (by decide +kernel)
theorem tm_11_150 : ev_TMq 11 (150, 0, 4, 10, M_Mo_signsOf) := ev_tm0 ok_M_Mo_signsOf 6201 6203 50 1018 (by decide +kernel)
theorem tm_11_287 : ev_TMq 11 (287, 0, 3, 10, M_Mo_grudge) := ev_tm0 ok_M_Mo_grudge 6205 6207 51 1018 (by decide +kernel)
theorem tm_11_265 : ev_TMq 11 (265, 0, 4, 10, M_Mo_grudgeAt) := ev_tm0 ok_M_Mo_grudgeAt 6209 6211 52 1018 (by decide +kernel)
theorem tm_11_262 : ev_TMq 11 (262, 0, 1, 10, M_Mo_ruled) := ev_tm0 ok_M_Mo_ruled 6213 6215 53 1018 (by decide +kernel)
theorem tm_11_258 : ev_TMq 11 (258, 2, 3, 10, M_Mo_worked) := ev_tm2 ok_M_Mo_worked 6217 6218 1018 (by decide +kernel)
theorem tm_11_293 : ev_TMq 11 (293, 6, 2, 99, M_Mat_max) := ev_tm6 6225 2157 1016 2158 (by decide +kernel)
theorem tm_11_296 : ev_TMq 11 (296, 2, 2, 10, M_Mo_sumOf) := ev_tm2 ok_M_Mo_sumOf 6226 6227 1018 (by decide +kernel)
theorem tm_11_318 : ev_TMq 11 (318, 0, 1, 10, M_Mo_putsBy) := ev_tm0 ok_M_Mo_putsBy 6238 7000 54 1018 (by decide +kernel)
theorem tm_11_321 : ev_TMq 11 (321, 0, 2, 10, M_Mo_dayGoes) := ev_tm0 ok_M_Mo_dayGoes 7002 7004 55 1018 (by decide +kernel)
theorem tm_11_302 : ev_TMq 11 (302, 0, 2, 10, M_Mo_unsaid) := ev_tm0 ok_M_Mo_unsaid 7006 7008 56 1018 (by decide +kernel)
theorem tm_11_306 : ev_TMq 11 (306, 0, 2, 10, M_Mo_strikeNext) := ev_tm0 ok_M_Mo_strikeNext 7010 7012 57 1018 (by decide +kernel)
theorem tm_11_309 : ev_TMq 11 (309, 0, 3, 10, M_Mo_fallen) := ev_tm0 ok_M_Mo_fallen 7014 7016 58 1018 (by decide +kernel)
theorem tm_11_18 : ev_TMq 11 (18, 0, 2, 10, M_Mo_enters) := ev_tm0 ok_M_Mo_enters 7018 7020 59 1018 (by decide +kernel)
theorem tm_11_299 : ev_TMq 11 (299, 0, 2, 10, M_Mo_adds) := ev_tm0 ok_M_Mo_adds 7022 7024 60 1018 (by decide +kernel)
theorem tm_11_324 : ev_TMq 11 (324, 0, 4, 10, M_Mo_offers) := ev_tm0 ok_M_Mo_offers 7030 7032 61 1018 (by decide +kernel)
theorem tm_11_327 : ev_TMq 11 (327, 0, 2, 10, M_Mo_counted) := ev_tm0 ok_M_Mo_counted 7035 7037 62 1018 (by decide +kernel)
theorem tm_11_330 : ev_TMq 11 (330, 0, 3, 10, M_Mo_stirsOne) := ev_tm0 ok_M_Mo_stirsOne 7043 7045 63 1018 (by decide +kernel)
theorem tm_11_333 : ev_TMq 11 (333, 0, 4, 10, M_Mo_mutesOne) := ev_tm0 ok_M_Mo_mutesOne 7052 7054 64 1018 (by decide +kernel)
theorem tm_11_346 : ev_TMq 11 (346, 0, 1, 10, M_Mo_readsAct) := ev_tm0 ok_M_Mo_readsAct 7060 7062 65 1018 (by decide +kernel)
theorem tm_11_343 : ev_TMq 11 (343, 0, 3, 10, M_Mo_digitIn) := ev_tm0 ok_M_Mo_digitIn 7066 7068 66 1018 (by decide +kernel)
theorem tm_11_349 : ev_TMq 11 (349, 0, 2, 10, M_Mo_does) := ev_tm0 ok_M_Mo_does 7070 7072 67 1018 (by decide +kernel)
theorem tm_11_357 : ev_TMq 11 (357, 0, 3, 10, M_Mo_arePair) := ev_tm0 ok_M_Mo_arePair 7087 7089 68 1018 (by decide +kernel)
theorem tm_11_360 : ev_TMq 11 (360, 0, 4, 10, M_Mo_apartBy) := ev_tm0 ok_M_Mo_apartBy 7091 7093 69 1018 (by decide +kernel)
theorem tm_11_354 : ev_TMq 11 (354, 2, 2, 10, M_Mo_square) := ev_tm2 ok_M_Mo_square 7095 7096 1018 (by decide +kernel)
theorem tm_11_363 : ev_TMq 11 (363, 0, 4, 10, M_Mo_sharedBy) := ev_tm0 ok_M_Mo_sharedBy 7102 7104 70 1018 (by decide +kernel)
theorem tm_11_371 : ev_TMq 11 (371, 0, 1, 10, M_Mo_copies) := ev_tm0 ok_M_Mo_copies 7117 7119 71 1018 (by decide +kernel)
theorem tm_11_374 : ev_TMq 11 (374, 2, 2, 99, M_Int_compare) := ev_tm2 ok_M_Int_compare 7133 7134 1019 (by decide +kernel)
theorem tm_11_377 : ev_TMq 11 (377, 2, 2, 10, M_Mo_isFewer) := ev_tm2 ok_M_Mo_isFewer 7140 7141 1018 (by decide +kernel)
theorem tm_11_380 : ev_TMq 11 (380, 0, 3, 10, M_Mo_areApart) := ev_tm0 ok_M_Mo_areApart 7143 7145 72 1018 (by decide +kernel)
theorem tm_11_383 : ev_TMq 11 (383, 0, 2, 10, M_Mo_tellsSet) := ev_tm0 ok_M_Mo_tellsSet 7147 7149 73 1018 (by decide +kernel)
theorem tm_11_386 : ev_TMq 11 (386, 0, 4, 10, M_Mo_canBeOne) := ev_tm0 ok_M_Mo_canBeOne 7163 7165 74 1018 (by decide +kernel)
theorem tm_11_393 : ev_TMq 11 (393, 0, 2, 10, M_Mo_isAsNoticed) := ev_tm0 ok_M_Mo_isAsNoticed 7183 7185 75 1018 (by decide +kernel)
theorem tm_11_396 : ev_TMq 11 (396, 0, 2, 10, M_Mo_cost) := ev_tm0 ok_M_Mo_cost 7195 7197 76 1018 (by decide +kernel)
theorem tm_11_399 : ev_TMq 11 (399, 0, 2, 10, M_Mo_tips) := ev_tm0 ok_M_Mo_tips 7207 7209 77 1018 (by decide +kernel)
theorem tm_11_402 : ev_TMq 11 (402, 0, 3, 10, M_Mo_tellsFraction) := ev_tm0 ok_M_Mo_tellsFraction 7211 7213 78 1018 (by decide +kernel)
theorem tm_11_7 : ev_TMq 11 (7, 2, 2, 10, M_Mo_common) := ev_tm2 ok_M_Mo_common 7215 7216 1018 (by decide +kernel)
theorem tm_11_417 : ev_TMq 11 (417, 2, 3, 10, M_Mo_isRest) := ev_tm2 ok_M_Mo_isRest 7238 7239 1018 (by decide +kernel)
theorem tm_11_412 : ev_TMq 11 (412, 2, 3, 10, M_Mo_gets) := ev_tm2 ok_M_Mo_gets 8001 8002 1018 (by decide +kernel)
theorem tm_11_425 : ev_TMq 11 (425, 0, 2, 10, M_Mo_draws) := ev_tm0 ok_M_Mo_draws 8008 8010 79 1018 (by decide +kernel)
theorem tm_11_428 : ev_TMq 11 (428, 0, 2, 10, M_Mo_allSigns) := ev_tm0 ok_M_Mo_allSigns 8025 8027 80 1018 (by decide +kernel)
theorem tm_11 : ∀ q ∈ ev_ml 11, ev_TMq 11 q := List.forall_mem_cons.mpr ⟨tm_11_22, List.forall_mem_cons.mpr ⟨tm_11_132, List.forall_mem_cons.mpr ⟨tm_11_205, List.forall_mem_cons.mpr ⟨tm_11_163, List.forall_mem_cons.mpr ⟨tm_11_208, List.forall_mem_cons.mpr ⟨tm_11_195, List.forall_mem_cons.mpr ⟨tm_11_176, List.forall_mem_cons.mpr ⟨tm_11_182, List.forall_mem_cons.mpr ⟨tm_11_199, List.forall_mem_cons.mpr ⟨tm_11_211, List.forall_mem_cons.mpr ⟨tm_11_146, List.forall_mem_cons.mpr ⟨tm_11_214, List.forall_mem_cons.mpr ⟨tm_11_251, List.forall_mem_cons.mpr ⟨tm_11_239, List.forall_mem_cons.mpr ⟨tm_11_227, List.forall_mem_cons.mpr ⟨tm_11_230, List.forall_mem_cons.mpr ⟨tm_11_186, List.forall_mem_cons.mpr ⟨tm_11_234, List.forall_mem_cons.mpr ⟨tm_11_254, List.forall_mem_cons.mpr ⟨tm_11_136, List.forall_mem_cons.mpr ⟨tm_11_279, List.forall_mem_cons.mpr ⟨tm_11_142, List.forall_mem_cons.mpr ⟨tm_11_273, List.forall_mem_cons.mpr ⟨tm_11_269, List.forall_mem_cons.mpr ⟨tm_11_282, List.forall_mem_cons.mpr ⟨tm_11_150, List.forall_mem_cons.mpr ⟨tm_11_287, List.forall_mem_cons.mpr ⟨tm_11_265, List.forall_mem_cons.mpr ⟨tm_11_262, List.forall_mem_cons.mpr ⟨tm_11_258, List.forall_mem_cons.mpr ⟨tm_11_293, List.forall_mem_cons.mpr ⟨tm_11_296, List.forall_mem_cons.mpr ⟨tm_11_318, List.forall_mem_cons.mpr ⟨tm_11_321, List.forall_mem_cons.mpr ⟨tm_11_302, List.forall_mem_cons.mpr ⟨tm_11_306, List.forall_mem_cons.mpr ⟨tm_11_309, List.forall_mem_cons.mpr ⟨tm_11_18, List.forall_mem_cons.mpr ⟨tm_11_299, List.forall_mem_cons.mpr ⟨tm_11_324, List.forall_mem_cons.mpr ⟨tm_11_327, List.forall_mem_cons.mpr ⟨tm_11_330, List.forall_mem_cons.mpr ⟨tm_11_333, List.forall_mem_cons.mpr ⟨tm_11_346, List.forall_mem_cons.mpr ⟨tm_11_343, List.forall_mem_cons.mpr ⟨tm_11_349, List.forall_mem_cons.mpr ⟨tm_11_357, List.forall_mem_cons.mpr ⟨tm_11_360, List.forall_mem_cons.mpr ⟨tm_11_354, List.forall_mem_cons.mpr ⟨tm_11_363, List.forall_mem_cons.mpr ⟨tm_11_371, List.forall_mem_cons.mpr ⟨tm_11_374, List.forall_mem_cons.mpr ⟨tm_11_377, List.forall_mem_cons.mpr ⟨tm_11_380, List.forall_mem_cons.mpr ⟨tm_11_383, List.forall_mem_cons.mpr ⟨tm_11_386, List.forall_mem_cons.mpr ⟨tm_11_393, List.forall_mem_cons.mpr ⟨tm_11_396, List.forall_mem_cons.mpr ⟨tm_11_399, List.forall_mem_cons.mpr ⟨tm_11_402, List.forall_mem_cons.mpr ⟨tm_11_7, List.forall_mem_cons.mpr ⟨tm_11_417, List.forall_mem_cons.mpr ⟨tm_11_412, List.forall_mem_cons.mpr ⟨tm_11_425, List.forall_mem_cons.mpr ⟨tm_11_428, fun _ h => absurd h List.not_mem_nil⟩⟩⟩⟩⟩⟩⟩⟩⟩⟩⟩⟩⟩⟩⟩⟩⟩⟩⟩⟩⟩⟩⟩⟩⟩⟩⟩⟩⟩⟩⟩⟩⟩⟩⟩⟩⟩⟩⟩⟩⟩⟩⟩⟩⟩⟩⟩⟩⟩⟩⟩⟩⟩⟩⟩⟩⟩⟩⟩⟩⟩⟩⟩⟩⟩
theorem tm_12_25 : ev_TMq 12 (25, 1, 1, 9, M_SL_init) := ev_tm1 ok_M_SL_init 1028 1029 1001 (by decide +kernel)
theorem tm_12_29 : ev_TMq 12 (29, 0, 2, 9, M_SL_sign) := ev_tm0 ok_M_SL_sign 3016 3017 3018 1001 (by decide +kernel)
theorem tm_12_34 : ev_TMq 12 (34, 0, 2, 9, M_SL_end) := ev_tm0 ok_M_SL_end 3024 3025 3026 1001 (by decide +kernel)
theorem tm_12_39 : ev_TMq 12 (39, 0, 1, 9, M_SL_words) := ev_tm0 ok_M_SL_words 3028 3029 3030 1001 (by decide +kernel)
theorem tm_12_44 : ev_TMq 12 (44, 0, 1, 9, M_SL_rule) := ev_tm0 ok_M_SL_rule 3063 3064 3065 1001 (by decide +kernel)
theorem tm_12_63 : ev_TMq 12 (63, 0, 5, 9, M_SL_sheet) := ev_tm0 ok_M_SL_sheet 3081 3082 3083 1001 (by decide +kernel)
theorem tm_12_68 : ev_TMq 12 (68, 0, 2, 9, M_SL_days) := ev_tm0 ok_M_SL_days 3098 3099 3100 1001 (by decide +kernel)
theorem tm_12_72 : ev_TMq 12 (72, 0, 3, 9, M_SL_offer) := ev_tm0 ok_M_SL_offer 3180 3181 3182 1001 (by decide +kernel)
theorem tm_12_76 : ev_TMq 12 (76, 0, 3, 9, M_SL_stirs) := ev_tm0 ok_M_SL_stirs 3196 3197 3198 1001 (by decide +kernel)
theorem tm_12_80 : ev_TMq 12 (80, 0, 3, 9, M_SL_mutes) := ev_tm0 ok_M_SL_mutes 3204 3205 3206 1001 (by decide +kernel)
theorem tm_12_84 : ev_TMq 12 (84, 0, 1, 9, M_SL_year) := ev_tm0 ok_M_SL_year 3221 3222 3223 1001 (by decide +kernel)
theorem tm_12_88 : ev_TMq 12 (88, 0, 1, 9, M_SL_undo) := ev_tm0 ok_M_SL_undo 4003 4004 4005 1001 (by decide +kernel)
theorem tm_12_92 : ev_TMq 12 (92, 0, 3, 9, M_SL_looks) := ev_tm0 ok_M_SL_looks 4011 4012 4013 1001 (by decide +kernel)
theorem tm_12_96 : ev_TMq 12 (96, 0, 2, 9, M_SL_kinds) := ev_tm0 ok_M_SL_kinds 4021 4022 4023 1001 (by decide +kernel)
theorem tm_12_100 : ev_TMq 12 (100, 0, 3, 9, M_SL_apart) := ev_tm0 ok_M_SL_apart 4030 4031 4032 1001 (by decide +kernel)
theorem tm_12_104 : ev_TMq 12 (104, 0, 4, 9, M_SL_chain) := ev_tm0 ok_M_SL_chain 4056 4057 4058 1001 (by decide +kernel)
theorem tm_12_109 : ev_TMq 12 (109, 0, 2, 9, M_SL_ahead) := ev_tm0 ok_M_SL_ahead 4076 4077 4078 1001 (by decide +kernel)
theorem tm_12_113 : ev_TMq 12 (113, 0, 1, 9, M_SL_falls) := ev_tm0 ok_M_SL_falls 4080 4081 4082 1001 (by decide +kernel)
theorem tm_12_117 : ev_TMq 12 (117, 0, 2, 9, M_SL_when) := ev_tm0 ok_M_SL_when 4089 4090 4091 1001 (by decide +kernel)
theorem tm_12_121 : ev_TMq 12 (121, 0, 3, 9, M_SL_shared) := ev_tm0 ok_M_SL_shared 4094 4095 4096 1001 (by decide +kernel)
theorem tm_12_125 : ev_TMq 12 (125, 0, 1, 9, M_SL_crossest) := ev_tm0 ok_M_SL_crossest 4107 4108 4109 1001 (by decide +kernel)
theorem tm_12_129 : ev_TMq 12 (129, 0, 2, 9, M_SL_must) := ev_tm0 ok_M_SL_must 4113 4114 4115 1001 (by decide +kernel)
theorem tm_12_133 : ev_TMq 12 (133, 0, 1, 9, M_SL_most) := ev_tm0 ok_M_SL_most 4126 4127 4128 1001 (by decide +kernel)
theorem tm_12_137 : ev_TMq 12 (137, 0, 3, 9, M_SL_joins) := ev_tm0 ok_M_SL_joins 4138 4139 4140 1001 (by decide +kernel)
theorem tm_12_141 : ev_TMq 12 (141, 0, 1, 9, M_SL_safe) := ev_tm0 ok_M_SL_safe 4146 4147 4148 1001 (by decide +kernel)
theorem tm_12_145 : ev_TMq 12 (145, 0, 3, 9, M_SL_parts) := ev_tm0 ok_M_SL_parts 4158 4159 4160 1001 (by decide +kernel)
theorem tm_12_149 : ev_TMq 12 (149, 0, 4, 9, M_SL_noticed) := ev_tm0 ok_M_SL_noticed 4169 4170 4171 1001 (by decide +kernel)
theorem tm_12_153 : ev_TMq 12 (153, 0, 1, 9, M_SL_forget) := ev_tm0 ok_M_SL_forget 4181 4182 4183 1001 (by decide +kernel)
theorem tm_12_157 : ev_TMq 12 (157, 0, 1, 9, M_SL_fits) := ev_tm0 ok_M_SL_fits 4185 4186 4187 1001 (by decide +kernel)
theorem tm_12_161 : ev_TMq 12 (161, 0, 1, 9, M_SL_next) := ev_tm0 ok_M_SL_next 4197 4198 4199 1001 (by decide +kernel)
theorem tm_12_165 : ev_TMq 12 (165, 0, 1, 9, M_SL_calms) := ev_tm0 ok_M_SL_calms 4205 4206 4207 1001 (by decide +kernel)
theorem tm_12_169 : ev_TMq 12 (169, 0, 2, 9, M_SL_buys) := ev_tm0 ok_M_SL_buys 4213 4214 4215 1001 (by decide +kernel)
theorem tm_12_173 : ev_TMq 12 (173, 0, 2, 9, M_SL_power) := ev_tm0 ok_M_SL_power 4225 4226 4227 1001 (by decide +kernel)
theorem tm_12_177 : ev_TMq 12 (177, 0, 4, 9, M_SL_misread) := ev_tm0 ok_M_SL_misread 4239 5000 5001 1001 (by decide +kernel)
theorem tm_12_181 : ev_TMq 12 (181, 0, 4, 9, M_SL_game) := ev_tm0 ok_M_SL_game 5010 5011 5012 1001 (by decide +kernel)
theorem tm_12_185 : ev_TMq 12 (185, 0, 1, 9, M_SL_law) := ev_tm0 ok_M_SL_law 5017 5018 5019 1001 (by decide +kernel)
theorem tm_12_189 : ev_TMq 12 (189, 0, 2, 9, M_SL_rests) := ev_tm0 ok_M_SL_rests 5022 5023 5024 1001 (by decide +kernel)
theorem tm_12_193 : ev_TMq 12 (193, 0, 3, 9, M_SL_years) := ev_tm0 ok_M_SL_years 5032 5033 5034 1001 (by decide +kernel)
theorem tm_12_197 : ev_TMq 12 (197, 0, 2, 9, M_SL_keep) := ev_tm0 ok_M_SL_keep 5041 5042 5043 1001 (by decide +kernel)
theorem tm_12_201 : ev_TMq 12 (201, 0, 2, 9, M_SL_again) := ev_tm0 ok_M_SL_again 5049 5050 5051 1001 (by decide +kernel)
theorem tm_12_205 : ev_TMq 12 (205, 0, 2, 9, M_SL_count) := ev_tm0 ok_M_SL_count 5057 5058 5059 1001 (by decide +kernel)
theorem tm_12_7 : ev_TMq 12 (7, 0, 3, 9, M_SL_word) := ev_tm0 ok_M_SL_word 5066 5067 5068 1001 (by decide +kernel)
theorem tm_12_15 : ev_TMq 12 (15, 0, 3, 9, M_SL_at) := ev_tm0 ok_M_SL_at 5143 5144 5145 1001 (by decide +kernel)
theorem tm_12_18 : ev_TMq 12 (18, 0, 3, 9, M_SL_letter) := ev_tm0 ok_M_SL_letter 5152 5153 5154 1001 (by decide +kernel)
theorem tm_12_21 : ev_TMq 12 (21, 0, 2, 9, M_SL_row) := ev_tm0 ok_M_SL_row 5160 5161 5162 1001 (by decide +kernel)
theorem tm_12_54 : ev_TMq 12 (54, 0, 1, 10, M_Mo_thrown) := ev_tm0 ok_M_Mo_thrown 5165 5166 5167 1018 (by decide +kernel)
theorem tm_12_28 : ev_TMq 12 (28, 1, 1, 10, M_Mo_init) := ev_tm1 ok_M_Mo_init 5171 5172 1018 (by decide +kernel)
theorem tm_12_33 : ev_TMq 12 (33, 0, 2, 10, M_Mo_sign) := ev_tm0 ok_M_Mo_sign 6083 6084 6085 1018 (by decide +kernel)
theorem tm_12_38 : ev_TMq 12 (38, 0, 2, 10, M_Mo_end) := ev_tm0 ok_M_Mo_end 6087 6088 6089 1018 (by decide +kernel)
theorem tm_12_43 : ev_TMq 12 (43, 0, 1, 10, M_Mo_words) := ev_tm0 ok_M_Mo_words 6094 6095 6096 1018 (by decide +kernel)
theorem tm_12_47 : ev_TMq 12 (47, 0, 1, 10, M_Mo_rule) := ev_tm0 ok_M_Mo_rule 6126 6127 6128 1018 (by decide +kernel)
theorem tm_12_53 : ev_TMq 12 (53, 0, 3, 10, M_Mo_word) := ev_tm0 ok_M_Mo_word 6164 6165 6166 1018 (by decide +kernel)
theorem tm_12_59 : ev_TMq 12 (59, 0, 3, 10, M_Mo_at) := ev_tm0 ok_M_Mo_at 6188 6189 6190 1018 (by decide +kernel)
theorem tm_12_62 : ev_TMq 12 (62, 0, 3, 10, M_Mo_letter) := ev_tm0 ok_M_Mo_letter 6192 6193 6194 1018 (by decide +kernel)
theorem tm_12_67 : ev_TMq 12 (67, 0, 5, 10, M_Mo_sheet) := ev_tm0 ok_M_Mo_sheet 6220 6221 6222 1018 (by decide +kernel)
theorem tm_12_91 : ev_TMq 12 (91, 0, 1, 10, M_Mo_undo) := ev_tm0 ok_M_Mo_undo 6229 6230 6231 1018 (by decide +kernel)
theorem tm_12_71 : ev_TMq 12 (71, 0, 2, 10, M_Mo_days) := ev_tm0 ok_M_Mo_days 6233 6234 6235 1018 (by decide +kernel)
theorem tm_12_75 : ev_TMq 12 (75, 0, 3, 10, M_Mo_offer) := ev_tm0 ok_M_Mo_offer 7026 7027 7028 1018 (by decide +kernel)
theorem tm_12_79 : ev_TMq 12 (79, 0, 3, 10, M_Mo_stirs) := ev_tm0 ok_M_Mo_stirs 7039 7040 7041 1018 (by decide +kernel)
theorem tm_12_83 : ev_TMq 12 (83, 0, 3, 10, M_Mo_mutes) := ev_tm0 ok_M_Mo_mutes 7048 7049 7050 1018 (by decide +kernel)
theorem tm_12_87 : ev_TMq 12 (87, 0, 1, 10, M_Mo_year) := ev_tm0 ok_M_Mo_year 7056 7057 7058 1018 (by decide +kernel)
theorem tm_12_95 : ev_TMq 12 (95, 0, 3, 10, M_Mo_looks) := ev_tm0 ok_M_Mo_looks 7074 7075 7076 1018 (by decide +kernel)
theorem tm_12_99 : ev_TMq 12 (99, 0, 2, 10, M_Mo_kinds) := ev_tm0 ok_M_Mo_kinds 7079 7080 7081 1018 (by decide +kernel)
theorem tm_12_103 : ev_TMq 12 (103, 0, 3, 10, M_Mo_apart) := ev_tm0 ok_M_Mo_apart 7083 7084 7085 1018 (by decide +kernel)
theorem tm_12_124 : ev_TMq 12 (124, 0, 3, 10, M_Mo_shared) := ev_tm0 ok_M_Mo_shared 7098 7099 7100 1018 (by decide +kernel)
theorem tm_12_108 : ev_TMq 12 (108, 0, 4, 10, M_Mo_chain) := ev_tm0 ok_M_Mo_chain 7106 7107 7108 1018 (by decide +kernel)
theorem tm_12_112 : ev_TMq 12 (112, 0, 2, 10, M_Mo_ahead) := ev_tm0 ok_M_Mo_ahead 7112 7113 7114 1018 (by decide +kernel)
theorem tm_12_116 : ev_TMq 12 (116, 0, 1, 10, M_Mo_falls) := ev_tm0 ok_M_Mo_falls 7121 7122 7123 1018 (by decide +kernel)
theorem tm_12_120 : ev_TMq 12 (120, 0, 2, 10, M_Mo_when) := ev_tm0 ok_M_Mo_when 7125 7126 7127 1018 (by decide +kernel)
theorem tm_12_128 : ev_TMq 12 (128, 0, 1, 10, M_Mo_crossest) := ev_tm0 ok_M_Mo_crossest 7129 7130 7131 1018 (by decide +kernel)
theorem tm_12_132 : ev_TMq 12 (132, 0, 2, 10, M_Mo_must) := ev_tm0 ok_M_Mo_must 7136 7137 7138 1018 (by decide +kernel)
theorem tm_12_136 : ev_TMq 12 (136, 0, 1, 10, M_Mo_most) := ev_tm0 ok_M_Mo_most 7151 7152 7153 1018 (by decide +kernel)
theorem tm_12_140 : ev_TMq 12 (140, 0, 3, 10, M_Mo_joins) := ev_tm0 ok_M_Mo_joins 7155 7156 7157 1018 (by decide +kernel)
theorem tm_12_144 : ev_TMq 12 (144, 0, 1, 10, M_Mo_safe) := ev_tm0 ok_M_Mo_safe 7159 7160 7161 1018 (by decide +kernel)
theorem tm_12_148 : ev_TMq 12 (148, 0, 3, 10, M_Mo_parts) := ev_tm0 ok_M_Mo_parts 7167 7168 7169 1018 (by decide +kernel)
theorem tm_12_152 : ev_TMq 12 (152, 0, 4, 10, M_Mo_noticed) := ev_tm0 ok_M_Mo_noticed 7171 7172 7173 1018 (by decide +kernel)
theorem tm_12_156 : ev_TMq 12 (156, 0, 1, 10, M_Mo_forget) := ev_tm0 ok_M_Mo_forget 7175 7176 7177 1018 (by decide +kernel)
theorem tm_12_160 : ev_TMq 12 (160, 0, 1, 10, M_Mo_fits) := ev_tm0 ok_M_Mo_fits 7179 7180 7181 1018 (by decide +kernel)
theorem tm_12_164 : ev_TMq 12 (164, 0, 1, 10, M_Mo_next) := ev_tm0 ok_M_Mo_next 7187 7188 7189 1018 (by decide +kernel)
theorem tm_12_168 : ev_TMq 12 (168, 0, 1, 10, M_Mo_calms) := ev_tm0 ok_M_Mo_calms 7191 7192 7193 1018 (by decide +kernel)
theorem tm_12_172 : ev_TMq 12 (172, 0, 2, 10, M_Mo_buys) := ev_tm0 ok_M_Mo_buys 7199 7200 7201 1018 (by decide +kernel)
theorem tm_12_176 : ev_TMq 12 (176, 0, 2, 10, M_Mo_power) := ev_tm0 ok_M_Mo_power 7203 7204 7205 1018 (by decide +kernel)
theorem tm_12_180 : ev_TMq 12 (180, 0, 4, 10, M_Mo_misread) := ev_tm0 ok_M_Mo_misread 7218 7219 7220 1018 (by decide +kernel)
theorem tm_12_184 : ev_TMq 12 (184, 0, 4, 10, M_Mo_game) := ev_tm0 ok_M_Mo_game 7224 7225 7226 1018 (by decide +kernel)
theorem tm_12_188 : ev_TMq 12 (188, 0, 1, 10, M_Mo_law) := ev_tm0 ok_M_Mo_law 7229 7230 7231 1018 (by decide +kernel)
theorem tm_12_192 : ev_TMq 12 (192, 0, 2, 10, M_Mo_rests) := ev_tm0 ok_M_Mo_rests 7233 7234 7235 1018 (by decide +kernel)
theorem tm_12_196 : ev_TMq 12 (196, 0, 3, 10, M_Mo_years) := ev_tm0 ok_M_Mo_years 8004 8005 8006 1018 (by decide +kernel)
theorem tm_12_200 : ev_TMq 12 (200, 0, 2, 10, M_Mo_keep) := ev_tm0 ok_M_Mo_keep 8013 8014 8015 1018 (by decide +kernel)
theorem tm_12_204 : ev_TMq 12 (204, 0, 2, 10, M_Mo_again) := ev_tm0 ok_M_Mo_again 8017 8018 8019 1018 (by decide +kernel)
theorem tm_12_208 : ev_TMq 12 (208, 0, 2, 10, M_Mo_count) := ev_tm0 ok_M_Mo_count 8021 8022 8023 1018 (by decide +kernel)
theorem tm_12_212 : ev_TMq 12 (212, 0, 2, 10, M_Mo_row) := ev_tm0 ok_M_Mo_row 8029 8030 8031 1018 (by decide +kernel)
theorem tm_12 : ∀ q ∈ ev_ml 12, ev_TMq 12 q := List.forall_mem_cons.mpr ⟨tm_12_25, List.forall_mem_cons.mpr ⟨tm_12_29, List.forall_mem_cons.mpr ⟨tm_12_34, List.forall_mem_cons.mpr ⟨tm_12_39, List.forall_mem_cons.mpr ⟨tm_12_44, List.forall_mem_cons.mpr ⟨tm_12_63, List.forall_mem_cons.mpr ⟨tm_12_68, List.forall_mem_cons.mpr ⟨tm_12_72, List.forall_mem_cons.mpr ⟨tm_12_76, List.forall_mem_cons.mpr ⟨tm_12_80, List.forall_mem_cons.mpr ⟨tm_12_84, List.forall_mem_cons.mpr ⟨tm_12_88, List.forall_mem_cons.mpr ⟨tm_12_92, List.forall_mem_cons.mpr ⟨tm_12_96, List.forall_mem_cons.mpr ⟨tm_12_100, List.forall_mem_cons.mpr ⟨tm_12_104, List.forall_mem_cons.mpr ⟨tm_12_109, List.forall_mem_cons.mpr ⟨tm_12_113, List.forall_mem_cons.mpr ⟨tm_12_117, List.forall_mem_cons.mpr ⟨tm_12_121, List.forall_mem_cons.mpr ⟨tm_12_125, List.forall_mem_cons.mpr ⟨tm_12_129, List.forall_mem_cons.mpr ⟨tm_12_133, List.forall_mem_cons.mpr ⟨tm_12_137, List.forall_mem_cons.mpr ⟨tm_12_141, List.forall_mem_cons.mpr ⟨tm_12_145, List.forall_mem_cons.mpr ⟨tm_12_149, List.forall_mem_cons.mpr ⟨tm_12_153, List.forall_mem_cons.mpr ⟨tm_12_157, List.forall_mem_cons.mpr ⟨tm_12_161, List.forall_mem_cons.mpr ⟨tm_12_165, List.forall_mem_cons.mpr ⟨tm_12_169, List.forall_mem_cons.mpr ⟨tm_12_173, List.forall_mem_cons.mpr ⟨tm_12_177, List.forall_mem_cons.mpr ⟨tm_12_181, List.forall_mem_cons.mpr ⟨tm_12_185, List.forall_mem_cons.mpr ⟨tm_12_189, List.forall_mem_cons.mpr ⟨tm_12_193, List.forall_mem_cons.mpr ⟨tm_12_197, List.forall_mem_cons.mpr ⟨tm_12_201, List.forall_mem_cons.mpr ⟨tm_12_205, List.forall_mem_cons.mpr ⟨tm_12_7, List.forall_mem_cons.mpr ⟨tm_12_15, List.forall_mem_cons.mpr ⟨tm_12_18, List.forall_mem_cons.mpr ⟨tm_12_21, List.forall_mem_cons.mpr ⟨tm_12_54, List.forall_mem_cons.mpr ⟨tm_12_28, List.forall_mem_cons.mpr ⟨tm_12_33, List.forall_mem_cons.mpr ⟨tm_12_38, List.forall_mem_cons.mpr ⟨tm_12_43, List.forall_mem_cons.mpr ⟨tm_12_47, List.forall_mem_cons.mpr ⟨tm_12_53, List.forall_mem_cons.mpr ⟨tm_12_59, List.forall_mem_cons.mpr ⟨tm_12_62, List.forall_mem_cons.mpr ⟨tm_12_67, List.forall_mem_cons.mpr ⟨tm_12_91, List.forall_mem_cons.mpr ⟨tm_12_71, List.forall_mem_cons.mpr ⟨tm_12_75, List.forall_mem_cons.mpr ⟨tm_12_79, List.forall_mem_cons.mpr ⟨tm_12_83, List.forall_mem_cons.mpr ⟨tm_12_87, List.forall_mem_cons.mpr ⟨tm_12_95, List.forall_mem_cons.mpr ⟨tm_12_99, List.forall_mem_cons.mpr ⟨tm_12_103, List.forall_mem_cons.mpr ⟨tm_12_124, List.forall_mem_cons.mpr ⟨tm_12_108, List.forall_mem_cons.mpr ⟨tm_12_112, List.forall_mem_cons.mpr ⟨tm_12_116, List.forall_mem_cons.mpr ⟨tm_12_120, List.forall_mem_cons.mpr ⟨tm_12_128, List.forall_mem_cons.mpr ⟨tm_12_132, List.forall_mem_cons.mpr ⟨tm_12_136, List.forall_mem_cons.mpr ⟨tm_12_140, List.forall_mem_cons.mpr ⟨tm_12_144, List.forall_mem_cons.mpr ⟨tm_12_148, List.forall_mem_cons.mpr ⟨tm_12_152, List.forall_mem_cons.mpr ⟨tm_12_156, List.forall_mem_cons.mpr ⟨tm_12_160, List.forall_mem_cons.mpr ⟨tm_12_164, List.forall_mem_cons.mpr ⟨tm_12_168, List.forall_mem_cons.mpr ⟨tm_12_172, List.forall_mem_cons.mpr ⟨tm_12_176, List.forall_mem_cons.mpr ⟨tm_12_180, List.forall_mem_cons.mpr ⟨tm_12_184, List.forall_mem_cons.mpr ⟨tm_12_188, List.forall_mem_cons.mpr ⟨tm_12_192, List.forall_mem_cons.mpr ⟨tm_12_196, List.forall_mem_cons.mpr ⟨tm_12_200, List.forall_mem_cons.mpr ⟨tm_12_204, List.forall_mem_cons.mpr ⟨tm_12_208, List.forall_mem_cons.mpr ⟨tm_12_212, fun _ h => absurd h List.not_mem_nil⟩⟩⟩⟩⟩⟩⟩⟩⟩⟩⟩⟩⟩⟩⟩⟩⟩⟩⟩⟩⟩⟩⟩⟩⟩⟩⟩⟩⟩⟩⟩⟩⟩⟩⟩⟩⟩⟩⟩⟩⟩⟩⟩⟩⟩⟩⟩⟩⟩⟩⟩⟩⟩⟩⟩⟩⟩⟩⟩⟩⟩⟩⟩⟩⟩⟩⟩⟩⟩⟩⟩⟩⟩⟩⟩⟩⟩⟩⟩⟩⟩⟩⟩⟩⟩⟩⟩⟩⟩⟩⟩
theorem tm_13_335 : ev_TMq 13 (335, 0, 1, 20, M_Str_coder) := ev_tm0 ok_M_Str_coder 2057 2058 2059 1012 (by decide +kernel)
theorem tm_13_492 : ev_TMq 13 (492, 0, 1, 20, M_Str_isLatin1) := ev_tm0 ok_M_Str_isLatin1 2067 2068 2069 1012 (by decide +kernel)
theorem tm_13_495 : ev_TMq 13 (495, 2, 2, 99, M_Lat_charAt) := ev_tm2 ok_M_Lat_charAt 2071 2072 1013 (by decide +kernel)
theorem tm_13_1059 : ev_TMq 13 (1059, 2, 3, 99, M_Pre_checkIndex) := ev_tm2 ok_M_Pre_checkIndex 2079 2080 1014 (by decide +kernel)
theorem tm_13_633 : ev_TMq 13 (633, 0, 3, 20, M_Str_indexOf2) := ev_tm0 ok_M_Str_indexOf2 2145 2146 2147 1012 (by decide +kernel)
theorem tm_13_505 : ev_TMq 13 (505, 0, 1, 20, M_Str_length) := ev_tm0 ok_M_Str_length 2149 2054 2055 1012 (by decide +kernel)
theorem tm_13_637 : ev_TMq 13 (637, 2, 4, 99, M_Lat_indexOf) := ev_tm2 ok_M_Lat_indexOf 2150 2151 1013 (by decide +kernel)
theorem tm_13_1062 : ev_TMq 13 (1062, 2, 4, 99, M_Pre_checkFromToIndex) := ev_tm2 ok_M_Pre_checkFromToIndex 2180 2181 1014 (by decide +kernel)
theorem tm_13 : ∀ q ∈ ev_ml 13, ev_TMq 13 q := List.forall_mem_cons.mpr ⟨tm_13_335, List.forall_mem_cons.mpr ⟨tm_13_492, List.forall_mem_cons.mpr ⟨tm_13_495, List.forall_mem_cons.mpr ⟨tm_13_1059, List.forall_mem_cons.mpr ⟨tm_13_633, List.forall_mem_cons.mpr ⟨tm_13_505, List.forall_mem_cons.mpr ⟨tm_13_637, List.forall_mem_cons.mpr ⟨tm_13_1062, fun _ h => absurd h List.not_mem_nil⟩⟩⟩⟩⟩⟩⟩⟩
theorem tm_14_9 : ev_TMq 14 (9, 2, 2, 20, M_Str_checkIndex) := ev_tm2 ok_M_Str_checkIndex 2074 2075 1012 (by decide +kernel)
theorem tm_14_88 : ev_TMq 14 (88, 2, 1, 99, M_Lat_canEncode) := ev_tm2 ok_M_Lat_canEncode 2153 2154 1013 (by decide +kernel)
theorem tm_14_92 : ev_TMq 14 (92, 6, 2, 99, M_Mat_max) := ev_tm6 2156 2157 1016 2158 (by decide +kernel)
theorem tm_14_38 : ev_TMq 14 (38, 7, 2, 99, M_Mat_min) := ev_tm7 2159 2160 1016 2161 (by decide +kernel)
theorem tm_14_95 : ev_TMq 14 (95, 2, 4, 99, M_Lat_indexOfChar) := ev_tm2 ok_M_Lat_indexOfChar 2162 2163 1013 (by decide +kernel)
theorem tm_14 : ∀ q ∈ ev_ml 14, ev_TMq 14 q := List.forall_mem_cons.mpr ⟨tm_14_9, List.forall_mem_cons.mpr ⟨tm_14_88, List.forall_mem_cons.mpr ⟨tm_14_92, List.forall_mem_cons.mpr ⟨tm_14_38, List.forall_mem_cons.mpr ⟨tm_14_95, fun _ h => absurd h List.not_mem_nil⟩⟩⟩⟩⟩
theorem ev_TM_all : ∀ oc, ∀ q ∈ ev_ml oc, ev_TMq oc q
  | 0 => tm_0
  | 1 => tm_1
  | 2 => tm_2
  | 3 => tm_3
  | 4 => tm_4
  | 5 => tm_5
  | 6 => tm_6
  | 7 => tm_7
  | 8 => tm_8
  | 9 => tm_9
  | 10 => tm_10
  | 11 => tm_11
  | 12 => tm_12
  | 13 => tm_13
  | 14 => tm_14
  | 15 => fun _ h => absurd h List.not_mem_nil
  | 16 => fun _ h => absurd h List.not_mem_nil
  | 17 => fun _ h => absurd h List.not_mem_nil
  | 18 => fun _ h => absurd h List.not_mem_nil
  | _ + 19 => fun _ h => absurd h List.not_mem_nil
theorem ev_TM_ok : ev_TM := fun oc idx kind n ci Mc h => ev_TM_all oc (idx, kind, n, ci, Mc) (ev_lk_mem h)
def ev_TFq (oc : Nat) (q : Nat × Nat × Nat × Nat × Nat) : Prop :=
  (q.2.1 < 11 ∧ q.2.2.1 < (ev_cl q.2.1).2.2 ∧ Cond.fieldLink (ev_cn oc) q.1 (ev_cl q.2.1).1 ((ev_cl q.2.1).2.1 q.2.2.1).2.1 ((ev_cl q.2.1).2.1 q.2.2.1).2.2.1 ∈ ev_gw ∧ ((ev_cl q.2.1).2.1 q.2.2.1).1 = (ev_cl q.2.1).1 ∧ Nat.beq q.2.2.2.1 2 = ev_isr q.2.1 q.2.2.1 ∧ (q.2.2.2.1 = 0 → ev_ft q.2.1 q.2.2.1 = .int) ∧ (q.2.2.2.1 = 1 → ev_ft q.2.1 q.2.2.1 = .boolean) ∧ ((ev_cl q.2.1).2.1 q.2.2.1).2.2.2 = Nat.beq q.2.2.2.2 1)
  ∨ (q.2.1 = 20 ∧ ((q.2.2.1 = 0 ∧ q.2.2.2.1 = 2 ∧ Cond.fieldLink (ev_cn oc) q.1 "java/lang/String" "value" "[B" ∈ ev_gw) ∨ (q.2.2.1 = 1 ∧ Cond.fieldLink (ev_cn oc) q.1 "java/lang/String" "coder" "B" ∈ ev_gw)))
def ev_tfB (oc h : Nat) (q : Nat × Nat × Nat × Nat × Nat) : Bool :=
  (decide (q.2.1 < 11) && decide (q.2.2.1 < (ev_cl q.2.1).2.2) && ev_hw h (.fieldLink (ev_cn oc) q.1 (ev_cl q.2.1).1 ((ev_cl q.2.1).2.1 q.2.2.1).2.1 ((ev_cl q.2.1).2.1 q.2.2.1).2.2.1) && decide (((ev_cl q.2.1).2.1 q.2.2.1).1 = (ev_cl q.2.1).1) && decide (Nat.beq q.2.2.2.1 2 = ev_isr q.2.1 q.2.2.1) && decide (q.2.2.2.1 = 0 → ev_ft q.2.1 q.2.2.1 = .int) && decide (q.2.2.2.1 = 1 → ev_ft q.2.1 q.2.2.1 = .boolean) && decide (((ev_cl q.2.1).2.1 q.2.2.1).2.2.2 = Nat.beq q.2.2.2.2 1))
  || (decide (q.2.1 = 20) && ((decide (q.2.2.1 = 0) && decide (q.2.2.2.1 = 2) && ev_hw h (.fieldLink (ev_cn oc) q.1 "java/lang/String" "value" "[B")) || (decide (q.2.2.1 = 1) && ev_hw h (.fieldLink (ev_cn oc) q.1 "java/lang/String" "coder" "B"))))
theorem ev_tfB_ok {oc h : Nat} {q : Nat × Nat × Nat × Nat × Nat} (hh : ev_tfB oc h q = true) : ev_TFq oc q := by
  unfold ev_tfB at hh
  simp only [Bool.or_eq_true, Bool.and_eq_true, decide_eq_true_eq] at hh
  rcases hh with ⟨⟨⟨⟨⟨⟨⟨h1, h2⟩, h3⟩, h4⟩, h5⟩, h6⟩, h7⟩, h8⟩ | ⟨h1, ⟨⟨h2, h3⟩, h4⟩ | ⟨h2, h4⟩⟩
  · exact Or.inl ⟨h1, h2, ev_hw_ok h3, h4, h5, h6, h7, h8⟩
  · exact Or.inr ⟨h1, Or.inl ⟨h2, h3, ev_hw_ok h4⟩⟩
  · exact Or.inr ⟨h1, Or.inr ⟨h2, ev_hw_ok h4⟩⟩
/-- a row of checks -/
def ev_two {α : Type} (f : Nat → α → Bool) : List Nat → List α → Bool
  | h :: H, q :: L => f h q && ev_two f H L
  | _, [] => true
  | _, _ => false
theorem ev_two_ok {α : Type} {f : Nat → α → Bool} {P : α → Prop} (hf : ∀ h q, f h q = true → P q) : ∀ (H : List Nat) (L : List α), ev_two f H L = true → ∀ q ∈ L, P q
  | _, [], _, _, h => absurd h List.not_mem_nil
  | [], _ :: _, h, _, _ => by simp [ev_two] at h
  | a :: H, b :: L, h, q, hq => by
    simp only [ev_two, Bool.and_eq_true] at h
    rcases List.mem_cons.mp hq with e | e
    · rw [e]; exact hf _ _ h.1
    · exact ev_two_ok hf H L h.2 q e
theorem ev_TF_all : ∀ oc, ∀ q ∈ ev_fl oc, ev_TFq oc q
  | 0 => ev_two_ok (f := ev_tfB 0) (fun _ _ h => ev_tfB_ok h) [1043] _ (by decide +kernel)
  | 1 => ev_two_ok (f := ev_tfB 1) (fun _ _ h => ev_tfB_ok h) [1045, 1076, 1080, 1084, 1085, 1110] _ (by decide +kernel)
  | 2 => ev_two_ok (f := ev_tfB 2) (fun _ _ h => ev_tfB_ok h) [1078, 1081, 1087, 1121, 1238, 1239, 2000, 2001, 2002, 2003, 2004, 2005] _ (by decide +kernel)
  | 3 => ev_two_ok (f := ev_tfB 3) (fun _ _ h => ev_tfB_ok h) [2030, 2031, 2032, 2033] _ (by decide +kernel)
  | 4 => ev_two_ok (f := ev_tfB 4) (fun _ _ h => ev_tfB_ok h) [1150, 1151, 1152, 1153, 1154] _ (by decide +kernel)
  | 5 => ev_two_ok (f := ev_tfB 5) (fun _ _ h => ev_tfB_ok h) [1058, 1060] _ (by decide +kernel)
  | 6 => ev_two_ok (f := ev_tfB 6) (fun _ _ h => ev_tfB_ok h) [1044, 1174, 1175, 1176, 1177, 1178, 1179, 1180, 1181] _ (by decide +kernel)
  | 7 => ev_two_ok (f := ev_tfB 7) (fun _ _ h => ev_tfB_ok h) [1108, 1112, 1115, 1118, 1122, 1125] _ (by decide +kernel)
  | 8 => ev_two_ok (f := ev_tfB 8) (fun _ _ h => ev_tfB_ok h) [1040, 1041] _ (by decide +kernel)
  | 9 => ev_two_ok (f := ev_tfB 9) (fun _ _ h => ev_tfB_ok h) [1077, 1082, 1086, 1109, 1113, 1116, 1119, 1123, 1126, 1205, 1206, 1207, 1208, 1210, 1212, 1214] _ (by decide +kernel)
  | 10 => ev_two_ok (f := ev_tfB 10) (fun _ _ h => ev_tfB_ok h) [1042, 1059, 1061, 1079, 1083, 1088, 1111, 1114, 1117, 1120, 1124, 1127, 1155, 1209, 1211, 1213, 1215, 2006, 2034, 2200, 2201, 2202, 2203, 2204, 2205, 2206, 2207, 2208, 2209, 2210, 2211, 2212, 2213, 2214, 2215, 2216, 2217] _ (by decide +kernel)
  | 11 => ev_two_ok (f := ev_tfB 11) (fun _ _ h => ev_tfB_ok h) [5175, 5176, 5177, 5178, 5179, 5180, 5181, 5182, 5183, 5184, 5185, 5186, 5187, 5188, 5189, 5190, 5191, 5192, 5193, 5194, 5195, 5196, 5197, 5198, 5199, 5200, 5201, 5202, 5203, 5204, 5205, 5206, 5207, 5208, 5209, 5210, 5211, 5212, 5213, 5214, 5215, 5216, 5217, 5218, 5219, 5220, 5221, 5222, 5223] _ (by decide +kernel)
  | 12 => fun _ h => absurd h List.not_mem_nil
  | 13 => ev_two_ok (f := ev_tfB 13) (fun _ _ h => ev_tfB_ok h) [8048, 8049] _ (by decide +kernel)
  | 14 => fun _ h => absurd h List.not_mem_nil
  | 15 => fun _ h => absurd h List.not_mem_nil
  | 16 => fun _ h => absurd h List.not_mem_nil
  | 17 => fun _ h => absurd h List.not_mem_nil
  | 18 => fun _ h => absurd h List.not_mem_nil
  | _ + 19 => fun _ h => absurd h List.not_mem_nil
theorem ev_TF_ok : ev_TF := fun oc idx ci j kd fin h => ev_TF_all oc (idx, ci, j, kd, fin) (ev_lk_mem h)
def ev_kiB (oc h : Nat) (q : Nat × Int32) : Bool := ev_hw h (.constant (ev_cn oc) q.1 q.2)
def ev_kiP (oc : Nat) (q : Nat × Int32) : Prop := Cond.constant (ev_cn oc) q.1 q.2 ∈ ev_gw
theorem ev_kiB_ok {oc h : Nat} {q : Nat × Int32} (hh : ev_kiB oc h q = true) : ev_kiP oc q := ev_hw_ok hh
def ev_klB (oc h : Nat) (q : Nat × Int64) : Bool := ev_hw h (.constantLong (ev_cn oc) q.1 q.2)
def ev_klP (oc : Nat) (q : Nat × Int64) : Prop := Cond.constantLong (ev_cn oc) q.1 q.2 ∈ ev_gw
theorem ev_klB_ok {oc h : Nat} {q : Nat × Int64} (hh : ev_klB oc h q = true) : ev_klP oc q := ev_hw_ok hh
theorem ev_ki_all : ∀ oc, ∀ q ∈ ev_ki oc, ev_kiP oc q
  | 0 => fun _ h => absurd h List.not_mem_nil
  | 1 => fun _ h => absurd h List.not_mem_nil
  | 2 => fun _ h => absurd h List.not_mem_nil
  | 3 => fun _ h => absurd h List.not_mem_nil
  | 4 => fun _ h => absurd h List.not_mem_nil
  | 5 => fun _ h => absurd h List.not_mem_nil
  | 6 => fun _ h => absurd h List.not_mem_nil
  | 7 => fun _ h => absurd h List.not_mem_nil
  | 8 => fun _ h => absurd h List.not_mem_nil
  | 9 => fun _ h => absurd h List.not_mem_nil
  | 10 => ev_two_ok (f := ev_kiB 10) (fun _ _ h => ev_kiB_ok h) [5040] _ (by decide +kernel)
  | 11 => ev_two_ok (f := ev_kiB 11) (fun _ _ h => ev_kiB_ok h) [7111, 8012] _ (by decide +kernel)
  | 12 => fun _ h => absurd h List.not_mem_nil
  | 13 => fun _ h => absurd h List.not_mem_nil
  | 14 => fun _ h => absurd h List.not_mem_nil
  | 15 => fun _ h => absurd h List.not_mem_nil
  | 16 => ev_two_ok (f := ev_kiB 16) (fun _ _ h => ev_kiB_ok h) [3136, 3137, 3138] _ (by decide +kernel)
  | 17 => fun _ h => absurd h List.not_mem_nil
  | 18 => fun _ h => absurd h List.not_mem_nil
  | _ + 19 => fun _ h => absurd h List.not_mem_nil
theorem ev_kl_all : ∀ oc, ∀ q ∈ ev_kl oc, ev_klP oc q
  | 0 => fun _ h => absurd h List.not_mem_nil
  | 1 => fun _ h => absurd h List.not_mem_nil
  | 2 => fun _ h => absurd h List.not_mem_nil
  | 3 => fun _ h => absurd h List.not_mem_nil
  | 4 => fun _ h => absurd h List.not_mem_nil
  | 5 => fun _ h => absurd h List.not_mem_nil
  | 6 => fun _ h => absurd h List.not_mem_nil
  | 7 => fun _ h => absurd h List.not_mem_nil
  | 8 => fun _ h => absurd h List.not_mem_nil
  | 9 => fun _ h => absurd h List.not_mem_nil
  | 10 => ev_two_ok (f := ev_klB 10) (fun _ _ h => ev_klB_ok h) [5009] _ (by decide +kernel)
  | 11 => ev_two_ok (f := ev_klB 11) (fun _ _ h => ev_klB_ok h) [6150, 6151, 6172, 6199, 6200, 6224, 6237, 7034, 7047, 7078, 7110, 7116, 7222, 7223, 7228, 7237] _ (by decide +kernel)
  | 12 => fun _ h => absurd h List.not_mem_nil
  | 13 => fun _ h => absurd h List.not_mem_nil
  | 14 => fun _ h => absurd h List.not_mem_nil
  | 15 => fun _ h => absurd h List.not_mem_nil
  | 16 => fun _ h => absurd h List.not_mem_nil
  | 17 => fun _ h => absurd h List.not_mem_nil
  | 18 => fun _ h => absurd h List.not_mem_nil
  | _ + 19 => fun _ h => absurd h List.not_mem_nil
theorem ev_TK_ok : ev_TK := ⟨fun oc idx v h => ev_ki_all oc (idx, v) (ev_lk_mem h), fun oc idx v h => ev_kl_all oc (idx, v) (ev_lk_mem h), ev_hw_ok (h := 2061) (by decide +kernel), ev_hw_ok (h := 2077) (by decide +kernel)⟩
def ev_tnB (oc : Nat) (a b c : Nat) (q : Nat × Nat) : Bool := (bif Nat.blt q.2 11 then ev_hw a (.classLink (ev_cn oc) q.1 (ev_cl q.2).1) && ev_hw b (.instantiable (ev_cl q.2).1 (ev_cl q.2).2.2) && ev_hw c (.initialized (ev_cl q.2).1) else bif Nat.beq q.2 50 then ev_hw a (.classLink (ev_cn oc) q.1 "java/util/NoSuchElementException") else ev_hw a (.classLink (ev_cn oc) q.1 ("[" ++ (FieldType.array .int).toString)))
def ev_TNq (oc : Nat) (q : Nat × Nat) : Prop := (q.2 < 11 → Cond.classLink (ev_cn oc) q.1 (ev_cl q.2).1 ∈ ev_gw ∧ Cond.instantiable (ev_cl q.2).1 (ev_cl q.2).2.2 ∈ ev_gw ∧ Cond.initialized (ev_cl q.2).1 ∈ ev_gw) ∧ (q.2 = 50 → Cond.classLink (ev_cn oc) q.1 "java/util/NoSuchElementException" ∈ ev_gw) ∧ (q.2 = 60 → Cond.classLink (ev_cn oc) q.1 ("[" ++ (FieldType.array .int).toString) ∈ ev_gw)
theorem ev_tnB_ok {oc a b c : Nat} {q : Nat × Nat} (h : ev_tnB oc a b c q = true) : ev_TNq oc q := by
  unfold ev_tnB at h
  cases h1 : Nat.blt q.2 11 with
  | true =>
    rw [h1] at h
    simp only [cond_true, Bool.and_eq_true] at h
    have := ev_blt h1
    exact ⟨fun _ => ⟨ev_hw_ok h.1.1, ev_hw_ok h.1.2, ev_hw_ok h.2⟩, fun e => by omega, fun e => by omega⟩
  | false =>
    rw [h1] at h
    have n1 : ¬ q.2 < 11 := fun e => by
      have : Nat.blt q.2 11 = true := Nat.ble_eq.mpr e
      rw [h1] at this; cases this
    cases h2 : Nat.beq q.2 50 with
    | true =>
      rw [h2] at h
      have := Nat.eq_of_beq_eq_true h2
      exact ⟨fun e => absurd e n1, fun _ => ev_hw_ok h, fun e => by omega⟩
    | false =>
      rw [h2] at h
      have n2 : ¬ q.2 = 50 := fun e => by rw [e] at h2; cases h2
      exact ⟨fun e => absurd e n1, fun e => absurd e n2, fun _ => ev_hw_ok h⟩
theorem ev_TN_all : ∀ oc, ∀ q ∈ ev_nl oc, ev_TNq oc q
  | 0 => fun _ h => absurd h List.not_mem_nil
  | 1 => List.forall_mem_cons.mpr ⟨ev_tnB_ok (a := 1074) (b := 0) (c := 0) (by decide +kernel), fun _ h => absurd h List.not_mem_nil⟩
  | 2 => List.forall_mem_cons.mpr ⟨ev_tnB_ok (a := 1237) (b := 0) (c := 0) (by decide +kernel), fun _ h => absurd h List.not_mem_nil⟩
  | 3 => fun _ h => absurd h List.not_mem_nil
  | 4 => List.forall_mem_cons.mpr ⟨ev_tnB_ok (a := 1147) (b := 1100) (c := 1005) (by decide +kernel), fun _ h => absurd h List.not_mem_nil⟩
  | 5 => fun _ h => absurd h List.not_mem_nil
  | 6 => fun _ h => absurd h List.not_mem_nil
  | 7 => fun _ h => absurd h List.not_mem_nil
  | 8 => fun _ h => absurd h List.not_mem_nil
  | 9 => fun _ h => absurd h List.not_mem_nil
  | 10 => List.forall_mem_cons.mpr ⟨ev_tnB_ok (a := 1034) (b := 1035) (c := 1002) (by decide +kernel), List.forall_mem_cons.mpr ⟨ev_tnB_ok (a := 1052) (b := 1053) (c := 1003) (by decide +kernel), List.forall_mem_cons.mpr ⟨ev_tnB_ok (a := 1068) (b := 1069) (c := 1004) (by decide +kernel), List.forall_mem_cons.mpr ⟨ev_tnB_ok (a := 1099) (b := 1100) (c := 1005) (by decide +kernel), List.forall_mem_cons.mpr ⟨ev_tnB_ok (a := 1141) (b := 1142) (c := 1007) (by decide +kernel), List.forall_mem_cons.mpr ⟨ev_tnB_ok (a := 1168) (b := 1169) (c := 1008) (by decide +kernel), List.forall_mem_cons.mpr ⟨ev_tnB_ok (a := 1199) (b := 1200) (c := 1009) (by decide +kernel), List.forall_mem_cons.mpr ⟨ev_tnB_ok (a := 1231) (b := 1232) (c := 1010) (by decide +kernel), List.forall_mem_cons.mpr ⟨ev_tnB_ok (a := 2024) (b := 2025) (c := 1011) (by decide +kernel), List.forall_mem_cons.mpr ⟨ev_tnB_ok (a := 5070) (b := 0) (c := 0) (by decide +kernel), fun _ h => absurd h List.not_mem_nil⟩⟩⟩⟩⟩⟩⟩⟩⟩⟩
  | 11 => fun _ h => absurd h List.not_mem_nil
  | 12 => List.forall_mem_cons.mpr ⟨ev_tnB_ok (a := 1026) (b := 1027) (c := 1001) (by decide +kernel), List.forall_mem_cons.mpr ⟨ev_tnB_ok (a := 5065) (b := 0) (c := 0) (by decide +kernel), List.forall_mem_cons.mpr ⟨ev_tnB_ok (a := 5169) (b := 5170) (c := 1018) (by decide +kernel), fun _ h => absurd h List.not_mem_nil⟩⟩⟩
  | 13 => fun _ h => absurd h List.not_mem_nil
  | 14 => fun _ h => absurd h List.not_mem_nil
  | 15 => fun _ h => absurd h List.not_mem_nil
  | 16 => fun _ h => absurd h List.not_mem_nil
  | 17 => fun _ h => absurd h List.not_mem_nil
  | 18 => fun _ h => absurd h List.not_mem_nil
  | _ + 19 => fun _ h => absurd h List.not_mem_nil
theorem ev_TN_ok : ev_TN := fun oc idx v h => ev_TN_all oc (idx, v) (ev_lk_mem h)
theorem ev_TA_ok : ev_TA := ⟨ev_hw_ok (h := 1098) (by decide +kernel), ev_hw_ok (h := 1067) (by decide +kernel), ev_hw_ok (h := 1051) (by decide +kernel), ev_hw_ok (h := 1167) (by decide +kernel)⟩
theorem ev_TX_ok : ev_TX := by
  have h1 : (ev_atX (ev_cn ev_thrC.1) ev_thrC.2 "java/util/NoSuchElementException" 13 prog_30_method_4_code ev_thrN).all (fun w => (decide (w ∈ ev_gw) || (decide (w ∈ ev_nest) && w.onTables)) && vx_ot w) = true := by decide +kernel
  refine ⟨fun w hw => ?_, ev_hw_ok (h := 1024) (by decide +kernel)⟩
  have := List.all_eq_true.mp h1 w hw
  simp only [Bool.and_eq_true, Bool.or_eq_true, decide_eq_true_eq] at this
  exact this
def ev_TCq (ci : Nat) : Prop := vwCl[ci]? = some (ev_cl ci) ∧ (∀ w ∈ u_ws (ev_cl ci).1 (ev_cl ci).2.1 (ev_cl ci).2.2, w ∈ ev_gw) ∧ (∀ k, k < (ev_cl ci).2.2 → parseFieldDescriptor ((ev_cl ci).2.1 k).2.2.1 = some (ev_ft ci k)) ∧ (∀ a, a < (ev_cl ci).2.2 → ∀ b, b < (ev_cl ci).2.2 → a ≠ b → ((ev_cl ci).2.1 a).2.1 ≠ ((ev_cl ci).2.1 b).2.1) ∧ ev_cn (ci + 1) = (ev_cl ci).1 ∧ (∀ k, k < (ev_cl ci).2.2 → defaultValue (ev_ft ci k) = bif ev_isr ci k then .null else .int 0) ∧ (∀ k, k < (ev_cl ci).2.2 → ev_isr ci k = true → (∃ n, ev_ft ci k = .object n) ∨ ∃ t, ev_ft ci k = .array t)
def ev_isoa : FieldType → Bool
  | .object _ => true
  | .array _ => true
  | _ => false
def ev_tcB (ci : Nat) (H : List Nat) : Bool := decide ((vwCl[ci]?).isSome = true) && ev_two ev_hw H (u_ws (ev_cl ci).1 (ev_cl ci).2.1 (ev_cl ci).2.2) && decide (∀ k, k < (ev_cl ci).2.2 → parseFieldDescriptor ((ev_cl ci).2.1 k).2.2.1 = some (ev_ft ci k)) && decide (∀ a, a < (ev_cl ci).2.2 → ∀ b, b < (ev_cl ci).2.2 → a ≠ b → ((ev_cl ci).2.1 a).2.1 ≠ ((ev_cl ci).2.1 b).2.1) && decide (ev_cn (ci + 1) = (ev_cl ci).1) && decide (∀ k, k < (ev_cl ci).2.2 → defaultValue (ev_ft ci k) = bif ev_isr ci k then .null else .int 0) && decide (∀ k, k < (ev_cl ci).2.2 → ev_isr ci k = true → ev_isoa (ev_ft ci k) = true)
theorem ev_tcB_ok {ci : Nat} {H : List Nat} (hv : vwCl[ci]? = some (ev_cl ci)) (h : ev_tcB ci H = true) : ev_TCq ci := by
  unfold ev_tcB at h
  simp only [Bool.and_eq_true, decide_eq_true_eq] at h
  obtain ⟨⟨⟨⟨⟨⟨h1, h2⟩, h3⟩, h4⟩, h5⟩, h6⟩, h7⟩ := h
  refine ⟨hv, ev_two_ok (fun _ _ h => ev_hw_ok h) H _ h2, h3, h4, h5, h6, fun k hk hr => ?_⟩
  have := h7 k hk hr
  revert this
  cases ev_ft ci k with
  | object n => exact fun _ => Or.inl ⟨n, rfl⟩
  | array t => exact fun _ => Or.inr ⟨t, rfl⟩
  | _ => exact fun h => by cases h
theorem ev_tc_0 : ev_TCq 0 := ev_tcB_ok (H := [1089, 1091, 1093, 1095]) rfl (by decide +kernel)
theorem ev_tc_1 : ev_TCq 1 := ev_tcB_ok (H := [2007, 2009, 2011, 2013, 2015, 2017, 2019, 2021]) rfl (by decide +kernel)
theorem ev_tc_2 : ev_TCq 2 := ev_tcB_ok (H := [2035, 2037, 2039, 2041]) rfl (by decide +kernel)
theorem ev_tc_3 : ev_TCq 3 := ev_tcB_ok (H := [1156, 1158, 1160, 1162, 1164]) rfl (by decide +kernel)
theorem ev_tc_4 : ev_TCq 4 := ev_tcB_ok (H := [1062, 1064]) rfl (by decide +kernel)
theorem ev_tc_5 : ev_TCq 5 := ev_tcB_ok (H := [1182, 1184, 1186, 1188, 1190, 1192, 1194, 1196]) rfl (by decide +kernel)
theorem ev_tc_6 : ev_TCq 6 := ev_tcB_ok (H := [1128, 1130, 1132, 1134, 1136, 1138]) rfl (by decide +kernel)
theorem ev_tc_7 : ev_TCq 7 := ev_tcB_ok (H := [1046, 1048]) rfl (by decide +kernel)
theorem ev_tc_8 : ev_TCq 8 := ev_tcB_ok (H := [1216, 1218, 1220, 1222, 1224, 1226, 1228]) rfl (by decide +kernel)
theorem ev_tc_9 : ev_TCq 9 := ev_tcB_ok (H := [2218, 2220, 2222, 2224, 2226, 2228, 2230, 2232, 2234, 2236, 2238, 3000, 3002, 3004, 3006, 3008, 3010, 3012]) rfl (by decide +kernel)
theorem ev_tc_10 : ev_TCq 10 := ev_tcB_ok (H := [5224, 5226, 5228, 5230, 5232, 5234, 5236, 5238, 6000, 6002, 6004, 6006, 6008, 6010, 6012, 6014, 6016, 6018, 6020, 6022, 6024, 6026, 6028, 6030, 6032, 6034, 6036, 6038, 6040, 6042, 6044, 6046, 6048, 6050, 6052, 6054, 6056, 6058, 6060, 6062, 6064, 6066, 6068, 6070, 6072, 6074, 6076, 6078, 6080]) rfl (by decide +kernel)
theorem ev_TC_ok : ev_TC
  | 0, _ => ev_tc_0
  | 1, _ => ev_tc_1
  | 2, _ => ev_tc_2
  | 3, _ => ev_tc_3
  | 4, _ => ev_tc_4
  | 5, _ => ev_tc_5
  | 6, _ => ev_tc_6
  | 7, _ => ev_tc_7
  | 8, _ => ev_tc_8
  | 9, _ => ev_tc_9
  | 10, _ => ev_tc_10
  | n + 11, h => absurd h (by omega)
theorem ev_T_ok : ev_T := ⟨ev_TF_ok, ev_TC_ok, ev_TK_ok, ev_TN_ok, ev_TX_ok, ev_TA_ok, ev_TM_ok⟩
