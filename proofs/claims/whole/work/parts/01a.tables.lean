/-! Names and tables of part 02's machine, written by wip/whole/gen/gen01.py out of what TURN laid. -/
def pz_look {α : Type} (L : List (Nat × α)) (k : Nat) : Option α := match L with
  | [] => none
  | q :: r => bif Nat.beq q.1 k then some q.2 else pz_look r k
def pz_RL : List String := ["RelationStream", "RelationStream$Terms", "RelationStream$Goals", "RelationStream$Bindings", "RelationStream$Matcher", "RelationStream$State", "RelationStream$Node", "RelationStream$Tree", "RelationStream$Answers", "RelationStream$Question", "RelationStreamModel", "RelationStreamLaw", "java/util/Arrays", "java/lang/Long"]
def pz_R (c : Nat) : String := (pz_RL[c]?).getD ""
def pz_FL : List (List (String × String × Nat × Bool)) := [[("terms", "LRelationStream$Terms;", 3, true), ("goals", "LRelationStream$Goals;", 3, true), ("question", "LRelationStream$Question;", 3, true)],
  [("kind", "[I", 3, true), ("first", "[I", 3, true), ("second", "[I", 3, true), ("made", "I", 0, false)],
  [("kind", "[I", 3, true), ("one", "[I", 3, true), ("two", "[I", 3, true), ("three", "[I", 3, true), ("relation", "[I", 3, true), ("ofRelation", "[I", 3, true), ("made", "I", 0, false)],
  [("terms", "LRelationStream$Terms;", 3, true), ("variable", "[I", 3, true), ("value", "[I", 3, true), ("before", "[I", 3, true), ("spread", "[I", 3, true), ("made", "I", 0, false), ("latest", "I", 0, false)],
  [("terms", "LRelationStream$Terms;", 3, true), ("bindings", "LRelationStream$Bindings;", 3, true), ("ones", "[I", 3, true), ("others", "[I", 3, true), ("insides", "[I", 3, true), ("looks", "I", 0, false)],
  [("latest", "I", 0, false), ("early", "J", 2, false), ("late", "J", 2, false)],
  [("kind", "I", 0, false), ("first", "LRelationStream$Node;", 3, false), ("second", "LRelationStream$Node;", 3, false), ("goal", "I", 0, false), ("frame", "I", 0, false), ("state", "LRelationStream$State;", 3, true)],
  [("nodes", "[LRelationStream$Node;", 3, true), ("howMany", "[I", 3, true), ("root", "LRelationStream$Node;", 3, false), ("spare", "LRelationStream$Node;", 3, false)],
  [("terms", "LRelationStream$Terms;", 3, true), ("bindings", "LRelationStream$Bindings;", 3, true), ("numbers", "[I", 3, true), ("lengths", "[I", 3, true), ("conditionsOf", "[I", 3, true), ("marks", "[I", 3, true), ("untold", "[I", 3, true), ("nextMark", "I", 0, false), ("made", "I", 0, false)],
  [("goals", "LRelationStream$Goals;", 3, true), ("bindings", "LRelationStream$Bindings;", 3, true), ("matcher", "LRelationStream$Matcher;", 3, true), ("answers", "LRelationStream$Answers;", 3, true), ("tree", "LRelationStream$Tree;", 3, true), ("path", "[LRelationStream$Node;", 3, true), ("conditionOnes", "[I", 3, true), ("conditionOthers", "[I", 3, true), ("counts", "[I", 3, true), ("answer", "LRelationStream$State;", 3, true), ("turn", "LRelationStream$Node;", 3, false), ("conditionsMade", "I", 0, false), ("frames", "I", 0, false), ("stage", "I", 0, false), ("answered", "Z", 1, false)],
  [("code", "I", 0, false), ("terms", "I", 0, false), ("termKind", "[I", 3, true), ("termA", "[I", 3, true), ("termB", "[I", 3, true), ("goals", "I", 0, false), ("goalKind", "[I", 3, true), ("goalA", "[I", 3, true), ("goalB", "[I", 3, true), ("goalC", "[I", 3, true), ("goalD", "[I", 3, true), ("relation", "[I", 3, true), ("spare", "I", 0, false), ("root", "I", 0, false), ("status", "I", 0, false), ("kind", "[I", 3, true), ("left", "[I", 3, true), ("right", "[I", 3, true), ("goal", "[I", 3, true), ("frame", "[I", 3, true), ("low", "[J", 3, true), ("high", "[J", 3, true), ("bound", "[I", 3, true), ("way", "[I", 3, true), ("conditions", "I", 0, false), ("conditionOne", "[I", 3, true), ("conditionOther", "[I", 3, true), ("looks", "I", 0, false), ("frames", "I", 0, false), ("bindings", "I", 0, false), ("steps", "I", 0, false), ("over", "Z", 1, false), ("answer", "I", 0, false), ("noted", "I", 0, false), ("note", "[I", 3, true), ("waiting", "I", 0, false), ("waitOne", "[I", 3, true), ("waitOther", "[I", 3, true), ("counted", "[I", 3, true), ("now", "[I", 3, true), ("texts", "[I", 3, true), ("lengths", "[I", 3, true), ("told", "[I", 3, true), ("name", "[I", 3, true), ("named", "I", 0, false)]]
def pz_f1 (c k : Nat) : String × String × Nat × Bool := (((pz_FL[c]?).getD [])[k]?).getD ("", "", 0, false)
def pz_F (c : Nat) : u_T := fun k => (pz_R c, (pz_f1 c k).1, (pz_f1 c k).2.1, (pz_f1 c k).2.2.2)
def pz_ty (c k : Nat) : Nat := (pz_f1 c k).2.2.1
def pz_fin (c k : Nat) : Bool := (pz_f1 c k).2.2.2
def pz_nf (c : Nat) : Nat := ((pz_FL[c]?).getD []).length
def pz_fty (c k : Nat) : FieldType := (parseFieldDescriptor (pz_f1 c k).2.1).getD .int
def pz_NC : Nat := 11
def pz_nodeC : Nat := 6
def pz_cls : List vw_C := (List.range pz_NC).map (fun c => (pz_R c, pz_F c, pz_nf c))
-- the words that are good for every method's list, by the number of their sublist and their place in it
def pz_T : List Cond := lw_tbl.filter goodWord
def pz_tb : List (List Cond) := [k2_sels lw_privs, tables_1_1, tables_1_2, tables_1_3, tables_1_4, tables_1_5, tables_1_6]
def pz_ck (i : Nat) (w : Cond) : Bool := decide (((pz_tb[i / 1000]?).getD [])[i % 1000]? = some w) && goodWord w
theorem pz_tb_in : ∀ L ∈ pz_tb, ∀ w ∈ L, w ∈ lw_tbl := by
  intro L hL w hw
  simp only [pz_tb, List.mem_cons, List.not_mem_nil, or_false] at hL
  simp only [lw_tbl, tables_1, List.mem_append]
  rcases hL with rfl | rfl | rfl | rfl | rfl | rfl | rfl <;> simp only [hw, true_or, or_true]
theorem pz_ck_in {i : Nat} {w : Cond} (h : pz_ck i w = true) : w ∈ pz_T := by
  unfold pz_ck at h
  rw [Bool.and_eq_true] at h
  have h1 := of_decide_eq_true h.1
  cases hL : pz_tb[i / 1000]? with
  | none => rw [hL] at h1; simp at h1
  | some L =>
    rw [hL] at h1
    exact List.mem_filter.mpr ⟨pz_tb_in L (List.mem_of_getElem? hL) w (List.mem_of_getElem? h1), h.2⟩
theorem pz_T_in {w : Cond} (h : w ∈ pz_T) : w ∈ lw_tbl ∧ goodWord w = true := List.mem_filter.mp h
theorem pz_look_in {α : Type} {L : List (Nat × α)} {k : Nat} {v : α} (e : pz_look L k = some v) : (k, v) ∈ L := by
  induction L with
  | nil => cases e
  | cons q r ih =>
    unfold pz_look at e
    cases hq : Nat.beq q.1 k with
    | true =>
      rw [hq] at e
      have h1 : q.1 = k := Nat.eq_of_beq_eq_true hq
      have h2 : q.2 = v := Option.some.inj e
      rw [← h1, ← h2]
      exact List.mem_cons_self
    | false =>
      rw [hq] at e
      exact List.mem_cons_of_mem _ (ih e)
def pz_tyb (t : Nat) (ty : FieldType) : Bool := match ty with
  | .int => t == 0
  | .boolean => t == 1
  | .long => t == 2
  | .object _ => t == 3
  | .array _ => t == 3
  | _ => false
def pz_tyok (t : Nat) (ty : FieldType) : Prop := (t = 0 ∧ ty = .int) ∨ (t = 1 ∧ ty = .boolean) ∨ (t = 2 ∧ ty = .long) ∨ (t = 3 ∧ ((∃ n, ty = .object n) ∨ ∃ u, ty = .array u))
theorem pz_tyb_ok {t : Nat} {ty : FieldType} (h : pz_tyb t ty = true) : pz_tyok t ty := by
  cases ty <;> simp [pz_tyb] at h <;> simp [pz_tyok, h]
-- the places of the words that say how a class lies, that it can be made, that it is initialized
def pz_cp0 : List (List Nat) := [[2098, 2100, 2102], [1058, 1060, 1062, 1064], [1092, 1094, 1096, 1098, 1100, 1102, 1104], [1208, 1210, 1212, 1214, 1216, 1218, 1220], [1236, 1238, 2000, 2002, 2004, 2006], [1136, 1138, 1140], [1160, 1162, 1164, 1166, 1168, 1170], [1179, 1181, 1183, 1185], [2026, 2028, 2030, 2032, 2034, 2036, 2038, 2040, 2042], [2064, 2066, 2068, 2070, 2072, 2074, 2076, 2078, 2080, 2082, 2084, 2086, 2088, 2090, 2092], [5163, 5165, 5167, 5169, 5171, 5173, 5175, 5177, 5179, 5181, 5183, 5185, 5187, 5189, 5191, 5193, 5195, 5197, 5199, 5201, 5203, 5205, 5207, 5209, 5211, 5213, 5215, 5217, 5219, 5221, 5223, 5225, 5227, 5229, 5231, 5233, 5235, 5237, 5239, 6001, 6003, 6005, 6007, 6009, 6011]]
def pz_cp1 : List (Nat × Nat) := [(1032, 1001), (1040, 1002), (1069, 1003), (1192, 1009), (1224, 1010), (1127, 1008), (1121, 1007), (1114, 1006), (2010, 1011), (1108, 1005), (5114, 1012)]
def pz_cB (c : Nat) : Bool := ((List.range (pz_nf c)).all (fun k => pz_ck ((((pz_cp0[c]?).getD [])[k]?).getD 0) (u_lay (pz_R c) (pz_F c) k) && (decide (parseFieldDescriptor (pz_F c k).2.2.1 = some (pz_fty c k)) && (pz_tyb (pz_ty c k) (pz_fty c k) && (List.range (pz_nf c)).all (fun j => decide (j = k) || decide ((pz_F c k).2.1 ≠ (pz_F c j).2.1)))))) &&
  (pz_ck ((pz_cp1[c]?).getD (0, 0)).1 (.instantiable (pz_R c) (pz_nf c)) && pz_ck ((pz_cp1[c]?).getD (0, 0)).2 (.initialized (pz_R c)))
theorem pz_cB_0 : pz_cB 0 = true := by decide +kernel
theorem pz_cB_1 : pz_cB 1 = true := by decide +kernel
theorem pz_cB_2 : pz_cB 2 = true := by decide +kernel
theorem pz_cB_3 : pz_cB 3 = true := by decide +kernel
theorem pz_cB_4 : pz_cB 4 = true := by decide +kernel
theorem pz_cB_5 : pz_cB 5 = true := by decide +kernel
theorem pz_cB_6 : pz_cB 6 = true := by decide +kernel
theorem pz_cB_7 : pz_cB 7 = true := by decide +kernel
theorem pz_cB_8 : pz_cB 8 = true := by decide +kernel
theorem pz_cB_9 : pz_cB 9 = true := by decide +kernel
theorem pz_cB_10 : pz_cB 10 = true := by decide +kernel
theorem pz_cB_all : ∀ c, c < pz_NC → pz_cB c = true := by
  intro c hc
  have hc : c < 11 := hc
  match c, hc with
  | 0, _ => exact pz_cB_0
  | 1, _ => exact pz_cB_1
  | 2, _ => exact pz_cB_2
  | 3, _ => exact pz_cB_3
  | 4, _ => exact pz_cB_4
  | 5, _ => exact pz_cB_5
  | 6, _ => exact pz_cB_6
  | 7, _ => exact pz_cB_7
  | 8, _ => exact pz_cB_8
  | 9, _ => exact pz_cB_9
  | 10, _ => exact pz_cB_10
def pz_CO (c : Nat) : Prop := pz_cls[c]? = some (pz_R c, pz_F c, pz_nf c) ∧ c < 100 ∧ (∀ w ∈ u_ws (pz_R c) (pz_F c) (pz_nf c), w ∈ pz_T) ∧ (∀ k, k < pz_nf c → parseFieldDescriptor (pz_F c k).2.2.1 = some (pz_fty c k)) ∧ (∀ a, a < pz_nf c → ∀ b, b < pz_nf c → a ≠ b → (pz_F c a).2.1 ≠ (pz_F c b).2.1) ∧
  (∀ k, k < pz_nf c → (pz_F c k).1 = pz_R c) ∧ (∀ k, k < pz_nf c → pz_fin c k = (pz_F c k).2.2.2 ∧ pz_tyok (pz_ty c k) (pz_fty c k)) ∧ Cond.instantiable (pz_R c) (pz_nf c) ∈ pz_T ∧ Cond.initialized (pz_R c) ∈ pz_T
theorem pz_co (c : Nat) (hc : c < pz_NC) : pz_CO c := by
  have h := pz_cB_all c hc
  unfold pz_cB at h
  rw [Bool.and_eq_true, Bool.and_eq_true] at h
  obtain ⟨h1, h2, h3⟩ := h
  have h4 : ∀ k, k < pz_nf c → _ := fun k hk => List.all_eq_true.mp h1 k (List.mem_range.mpr hk)
  have hc2 : c < 11 := hc
  refine ⟨by simp [pz_cls, hc], by omega, fun w hw => ?_, fun k hk => ?_, fun a ha b hb hab => ?_, fun k hk => rfl, fun k hk => ⟨rfl, ?_⟩, pz_ck_in h2, pz_ck_in h3⟩
  · obtain ⟨k, hk, rfl⟩ := List.mem_map.mp hw
    have h5 := h4 k (List.mem_range.mp hk)
    rw [Bool.and_eq_true] at h5
    exact pz_ck_in h5.1
  · have h5 := h4 k hk
    simp only [Bool.and_eq_true] at h5
    exact of_decide_eq_true h5.2.1
  · have h5 := h4 a ha
    simp only [Bool.and_eq_true] at h5
    have h6 := List.all_eq_true.mp h5.2.2.2 b (List.mem_range.mpr hb)
    rw [Bool.or_eq_true] at h6
    rcases h6 with h6 | h6
    · exact absurd (of_decide_eq_true h6).symm hab
    · exact of_decide_eq_true h6
  · have h5 := h4 k hk
    simp only [Bool.and_eq_true] at h5
    exact pz_tyb_ok h5.2.2.1
def pz_fdL : List (List (Nat × (Nat × Nat × Nat))) := [[(12, 0, 0, 2095), (19, 0, 1, 2096), (28, 0, 2, 2097), (44, 2, 6, 1091), (62, 2, 5, 1088), (70, 9, 13, 2061), (77, 9, 14, 2063), (84, 9, 8, 2055), (87, 9, 3, 2049), (97, 8, 4, 2020), (100, 1, 3, 1057)],
  [(9, 1, 0, 1045), (15, 1, 1, 1049), (18, 1, 2, 1053), (21, 1, 3, 1056)],
  [(9, 2, 0, 1077), (15, 2, 1, 1079), (18, 2, 2, 1081), (21, 2, 3, 1083), (24, 2, 4, 1085), (27, 2, 5, 1087), (30, 2, 6, 1090)],
  [(9, 3, 1, 1198), (15, 3, 2, 1199), (18, 3, 3, 1200), (21, 3, 4, 1201), (24, 3, 5, 1202), (28, 3, 6, 1205), (31, 3, 0, 1197), (41, 1, 0, 1048), (46, 1, 1, 1052)],
  [(9, 4, 2, 1231), (15, 4, 3, 1232), (18, 4, 4, 1233), (21, 4, 5, 1234), (25, 4, 0, 1229), (29, 4, 1, 1230), (43, 1, 0, 1046), (66, 1, 1, 1050), (69, 1, 2, 1054), (76, 3, 6, 1206), (79, 3, 5, 1204)],
  [(9, 5, 0, 1132), (15, 5, 1, 1134), (19, 5, 2, 1135)],
  [(9, 6, 0, 1143), (15, 6, 1, 1146), (19, 6, 2, 1149), (22, 6, 3, 1151), (25, 6, 4, 1154), (31, 6, 5, 1157)],
  [(11, 7, 0, 1173), (17, 7, 1, 1174), (21, 7, 2, 1176), (25, 7, 3, 1178), (35, 6, 0, 1144), (39, 6, 2, 1150), (46, 6, 1, 1147), (57, 6, 5, 1158), (71, 6, 3, 1153), (74, 6, 4, 1156)],
  [(9, 8, 2, 2017), (15, 8, 3, 2018), (18, 8, 4, 2019), (21, 8, 5, 2021), (24, 8, 6, 2022), (27, 8, 7, 2023), (31, 8, 8, 2024), (34, 8, 0, 2015), (38, 8, 1, 2016), (60, 1, 0, 1047), (65, 1, 2, 1055), (72, 1, 1, 1051)],
  [(12, 9, 4, 2050), (20, 9, 5, 2051), (24, 9, 6, 2052), (28, 9, 7, 2053), (31, 9, 8, 2054), (37, 9, 9, 2056), (41, 9, 10, 2057), (45, 9, 11, 2058), (49, 9, 12, 2059), (52, 9, 13, 2060), (55, 9, 14, 2062), (59, 9, 0, 2045), (68, 9, 1, 2046), (77, 9, 2, 2047), (84, 9, 3, 2048), (93, 8, 8, 2025), (100, 7, 2, 1177), (106, 4, 5, 1235), (133, 7, 1, 1175), (136, 3, 5, 1203), (137, 6, 0, 1145), (140, 6, 1, 1148), (154, 2, 0, 1078), (158, 6, 3, 1152), (184, 2, 1, 1080), (187, 6, 4, 1155), (190, 6, 5, 1159), (193, 2, 2, 1082), (207, 2, 5, 1089), (210, 2, 4, 1086), (213, 5, 0, 1133), (216, 3, 6, 1207), (224, 2, 3, 1084)],
  [(7, 10, 2, 5121), (13, 10, 3, 5122), (16, 10, 4, 5123), (19, 10, 6, 5125), (22, 10, 7, 5126), (25, 10, 8, 5127), (28, 10, 9, 5128), (31, 10, 10, 5129), (34, 10, 11, 5130), (37, 10, 15, 5134), (40, 10, 16, 5135), (43, 10, 17, 5136), (46, 10, 18, 5137), (49, 10, 19, 5138), (52, 10, 20, 5139), (56, 10, 21, 5140), (59, 10, 22, 5141), (62, 10, 23, 5142), (65, 10, 25, 5144), (68, 10, 26, 5145), (71, 10, 34, 5152), (74, 10, 36, 5154), (77, 10, 37, 5155), (80, 10, 38, 5156), (83, 10, 39, 5157), (86, 10, 40, 5158), (89, 10, 41, 5159), (92, 10, 42, 5160), (95, 10, 43, 5161), (98, 10, 0, 5119), (102, 10, 1, 5120), (105, 10, 5, 5124), (130, 10, 27, 5146), (133, 10, 31, 5149), (137, 10, 35, 5153), (153, 10, 29, 5148), (156, 10, 33, 5151), (182, 10, 24, 5143), (197, 10, 12, 5131), (209, 10, 32, 5150), (221, 10, 28, 5147), (224, 10, 13, 5132), (237, 10, 14, 5133), (250, 10, 44, 5162)],
  [],
  [],
  []]
def pz_clL : List (List (Nat × (Nat × Nat))) := [[(9, 1, 1039), (16, 2, 1068), (23, 9, 1107)],
  [],
  [],
  [],
  [],
  [],
  [(28, 5, 1126)],
  [(9, 6, 1119)],
  [],
  [(9, 7, 1113), (18, 6, 1188), (34, 5, 1189), (63, 3, 1191), (72, 4, 1223), (81, 8, 2009)],
  [],
  [(8, 0, 1031), (60, 10, 5113)],
  [],
  []]
def pz_k2L : List (List (Nat × (Int64 × Nat))) := [[],
  [],
  [],
  [],
  [],
  [(22, (-1 : Int64), 3196)],
  [],
  [],
  [],
  [],
  [(173, (-1 : Int64), 6145)],
  [],
  [],
  [(314, (6148914691236517205 : Int64), 4004), (316, (3689348814741910323 : Int64), 4005), (318, (1085102592571150095 : Int64), 4006)]]
def pz_mtL : List (List (Nat × (Nat × Nat))) := [[(3, 0, 1036), (11, 91, 1041), (18, 92, 1070), (25, 97, 1109), (32, 1, 2118), (36, 4, 2186), (40, 9, 2226), (48, 2, 2190), (51, 12, 2237), (54, 15, 3008), (55, 18, 3019), (58, 19, 3022), (66, 36, 3042), (73, 79, 3090), (81, 82, 5073), (91, 85, 5098), (94, 86, 5102), (101, 3, 2208)],
  [(3, 0, 1044)],
  [(3, 0, 1073), (34, 25, 1074), (40, 12, 3026), (44, 15, 3027)],
  [(3, 0, 1196), (35, 25, 3140)],
  [(3, 0, 1228), (33, 48, 3145), (39, 49, 3149), (48, 50, 3153), (52, 52, 3158), (56, 51, 3162), (59, 53, 3166), (62, 45, 3170), (72, 44, 3157), (82, 54, 3187), (85, 58, 3188)],
  [(3, 0, 1131), (24, 71, 4001)],
  [(3, 0, 1125), (30, 28, 1128)],
  [(3, 0, 1118), (28, 29, 1122), (29, 25, 3054), (42, 30, 3067), (49, 31, 3063), (53, 32, 3071), (61, 33, 3075), (67, 43, 3213), (77, 34, 3218), (81, 66, 3219), (85, 40, 3223)],
  [(3, 0, 2014), (42, 74, 4011), (48, 25, 5053), (51, 49, 5058), (57, 76, 5059), (68, 44, 5064), (75, 51, 5063)],
  [(3, 0, 1112), (11, 93, 1115), (36, 28, 1190), (65, 94, 1193), (74, 95, 1225), (83, 96, 2011), (88, 24, 3046), (91, 26, 3050), (92, 27, 3055), (96, 34, 3059), (103, 35, 3079), (109, 39, 3094), (113, 64, 3098), (117, 68, 3205), (121, 70, 3225), (125, 78, 3233), (128, 56, 3175), (129, 69, 3229), (143, 65, 3209), (147, 67, 3214), (151, 66, 3224), (161, 41, 3102), (164, 42, 3110), (167, 46, 3116), (170, 55, 3131), (174, 61, 3171), (177, 63, 3197), (180, 43, 3120), (196, 40, 3106), (200, 30, 3114), (203, 32, 3115), (217, 44, 3124), (221, 45, 3127), (227, 33, 3135), (231, 47, 3136), (235, 54, 3141), (239, 59, 3183), (242, 62, 3201), (245, 57, 3179), (249, 60, 3192), (252, 72, 3237), (255, 75, 4007), (258, 77, 5054)],
  [(1, 0, 5118), (108, 100, 6023), (112, 104, 6035), (116, 106, 6043), (119, 108, 6051), (122, 117, 6118), (126, 114, 6087), (140, 115, 6098), (143, 116, 6102), (146, 118, 6114), (149, 119, 6121), (159, 120, 6110), (163, 121, 6125), (167, 122, 6106), (170, 123, 6094), (175, 124, 6090), (178, 126, 6137), (185, 125, 6129), (189, 127, 6133), (193, 128, 6141), (200, 112, 6067), (203, 129, 6083), (206, 130, 6146), (212, 131, 6150), (215, 132, 6154), (218, 133, 6158), (227, 134, 6079), (230, 135, 6162), (233, 136, 6166), (240, 137, 6075), (244, 140, 6170), (247, 144, 6190), (253, 138, 6178), (256, 139, 6174)],
  [(7, 5, 2114), (17, 7, 2215), (20, 10, 2222), (24, 13, 2233), (28, 16, 3004), (31, 20, 3015), (35, 22, 3031), (39, 37, 3038), (43, 80, 3086), (47, 83, 5069), (52, 87, 5094), (56, 89, 5109), (59, 98, 1033), (62, 99, 5115), (63, 6, 2109), (68, 101, 6019), (69, 102, 6015), (73, 8, 2212), (75, 103, 6027), (76, 11, 2219), (79, 105, 6031), (80, 14, 2230), (83, 107, 6039), (84, 17, 3001), (86, 109, 6047), (87, 21, 3012), (90, 110, 6055), (91, 23, 3028), (94, 111, 6059), (95, 38, 3035), (98, 113, 6063), (99, 81, 3083), (102, 141, 6071), (103, 142, 2105), (106, 143, 6182), (107, 84, 5065), (109, 145, 6186), (110, 88, 5091), (113, 146, 6194), (114, 90, 5106), (116, 147, 6198)],
  [(13, 73, 4014)],
  []]
def pz_fd (own x : Nat) : Option (Nat × Nat × Nat) := pz_look ((pz_fdL[own]?).getD []) x
def pz_cl (own x : Nat) : Option (Nat × Nat) := pz_look ((pz_clL[own]?).getD []) x
def pz_k2 (own x : Nat) : Option (Int64 × Nat) := pz_look ((pz_k2L[own]?).getD []) x
def pz_mt (own x : Nat) : Option (Nat × Nat) := pz_look ((pz_mtL[own]?).getD []) x
def pz_fdB (own : Nat) (e : Nat × Nat × Nat × Nat) : Bool := pz_ck e.2.2.2 (.fieldLink (pz_R own) e.1 (pz_R e.2.1) (pz_F e.2.1 e.2.2.1).2.1 (pz_F e.2.1 e.2.2.1).2.2.1) && (decide (e.2.2.1 < pz_nf e.2.1) && decide (e.2.1 < pz_NC))
def pz_clB (own : Nat) (e : Nat × Nat × Nat) : Bool := pz_ck e.2.2 (.classLink (pz_R own) e.1 (pz_R e.2.1)) && decide (e.2.1 < pz_NC)
def pz_k2B (own : Nat) (e : Nat × Int64 × Nat) : Bool := pz_ck e.2.2 (.constantLong (pz_R own) e.1 e.2.1)
theorem pz_fdC_0 : ((pz_fdL[0]?).getD []).all (pz_fdB 0) = true := by decide +kernel
theorem pz_fdC_1 : ((pz_fdL[1]?).getD []).all (pz_fdB 1) = true := by decide +kernel
theorem pz_fdC_2 : ((pz_fdL[2]?).getD []).all (pz_fdB 2) = true := by decide +kernel
theorem pz_fdC_3 : ((pz_fdL[3]?).getD []).all (pz_fdB 3) = true := by decide +kernel
theorem pz_fdC_4 : ((pz_fdL[4]?).getD []).all (pz_fdB 4) = true := by decide +kernel
theorem pz_fdC_5 : ((pz_fdL[5]?).getD []).all (pz_fdB 5) = true := by decide +kernel
theorem pz_fdC_6 : ((pz_fdL[6]?).getD []).all (pz_fdB 6) = true := by decide +kernel
theorem pz_fdC_7 : ((pz_fdL[7]?).getD []).all (pz_fdB 7) = true := by decide +kernel
theorem pz_fdC_8 : ((pz_fdL[8]?).getD []).all (pz_fdB 8) = true := by decide +kernel
theorem pz_fdC_9 : ((pz_fdL[9]?).getD []).all (pz_fdB 9) = true := by decide +kernel
theorem pz_fdC_10 : ((pz_fdL[10]?).getD []).all (pz_fdB 10) = true := by decide +kernel
theorem pz_fdC_11 : ((pz_fdL[11]?).getD []).all (pz_fdB 11) = true := by decide +kernel
theorem pz_fdC_12 : ((pz_fdL[12]?).getD []).all (pz_fdB 12) = true := by decide +kernel
theorem pz_fdC_13 : ((pz_fdL[13]?).getD []).all (pz_fdB 13) = true := by decide +kernel
theorem pz_clC : (List.range 14).all (fun own => ((pz_clL[own]?).getD []).all (pz_clB own)) = true := by decide +kernel
theorem pz_k2C : (List.range 14).all (fun own => ((pz_k2L[own]?).getD []).all (pz_k2B own)) = true := by decide +kernel
theorem pz_fdC : ∀ own, ((pz_fdL[own]?).getD []).all (pz_fdB own) = true := by
  intro own
  match own with
  | 0 => exact pz_fdC_0
  | 1 => exact pz_fdC_1
  | 2 => exact pz_fdC_2
  | 3 => exact pz_fdC_3
  | 4 => exact pz_fdC_4
  | 5 => exact pz_fdC_5
  | 6 => exact pz_fdC_6
  | 7 => exact pz_fdC_7
  | 8 => exact pz_fdC_8
  | 9 => exact pz_fdC_9
  | 10 => exact pz_fdC_10
  | 11 => exact pz_fdC_11
  | 12 => exact pz_fdC_12
  | 13 => exact pz_fdC_13
  | n + 14 => rfl
theorem pz_fd_ok {own x : Nat} {ck : Nat × Nat × Nat} (h : pz_fd own x = some ck) : Cond.fieldLink (pz_R own) x (pz_R ck.1) (pz_F ck.1 ck.2.1).2.1 (pz_F ck.1 ck.2.1).2.2.1 ∈ pz_T ∧ ck.2.1 < pz_nf ck.1 ∧ ck.1 < pz_NC := by
  have h1 := List.all_eq_true.mp (pz_fdC own) _ (pz_look_in h)
  unfold pz_fdB at h1
  simp only [Bool.and_eq_true] at h1
  exact ⟨pz_ck_in h1.1, of_decide_eq_true h1.2.1, of_decide_eq_true h1.2.2⟩
theorem pz_cl_ok {own x : Nat} {q : Nat × Nat} (h : pz_cl own x = some q) : Cond.classLink (pz_R own) x (pz_R q.1) ∈ pz_T ∧ q.1 < pz_NC := by
  have ho : own < 14 := by
    apply Decidable.byContradiction
    intro hn
    have : pz_clL[own]? = none := List.getElem?_eq_none (by show 14 ≤ own; omega)
    unfold pz_cl at h
    rw [this] at h
    cases h
  have h1 := List.all_eq_true.mp (List.all_eq_true.mp pz_clC own (List.mem_range.mpr ho)) _ (pz_look_in h)
  unfold pz_clB at h1
  simp only [Bool.and_eq_true] at h1
  exact ⟨pz_ck_in h1.1, of_decide_eq_true h1.2⟩
theorem pz_k2_ok {own x : Nat} {q : Int64 × Nat} (h : pz_k2 own x = some q) : Cond.constantLong (pz_R own) x q.1 ∈ pz_T := by
  have ho : own < 14 := by
    apply Decidable.byContradiction
    intro hn
    have : pz_k2L[own]? = none := List.getElem?_eq_none (by show 14 ≤ own; omega)
    unfold pz_k2 at h
    rw [this] at h
    cases h
  have h1 := List.all_eq_true.mp (List.all_eq_true.mp pz_k2C own (List.mem_range.mpr ho)) _ (pz_look_in h)
  exact pz_ck_in h1
theorem pz_T_aI : Cond.arrayClass (newarray.typeOf .int) ∈ pz_T := pz_ck_in (i := 1067) (by decide +kernel)
theorem pz_T_aL : Cond.arrayClass (newarray.typeOf .long) ∈ pz_T := pz_ck_in (i := 6014) (by decide +kernel)
