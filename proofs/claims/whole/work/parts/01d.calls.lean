/-! Calls: what the tables say of the methods and of the links to them. -/
def pz_rokb (t : Nat) (r : Option FieldType) : Bool := match r with
  | none => t == 4
  | some ty => pz_tyb t ty
def pz_rok (t : Nat) (r : Option FieldType) : Prop := (t = 4 ∧ r = none) ∨ ∃ ty, r = some ty ∧ pz_tyok t ty
theorem pz_rokb_ok {t : Nat} {r : Option FieldType} (h : pz_rokb t r = true) : pz_rok t r := by
  cases r with
  | none => exact Or.inl ⟨by simpa [pz_rokb] using h, rfl⟩
  | some ty => exact Or.inr ⟨ty, rfl, pz_tyb_ok h⟩
-- a method by its code word; the law's small ones, which catch, and its entry have none of this form
def pz_plain (m : Nat) : Bool := decide (0 < m) && (decide (m < 148) && decide (pz_a m 10 = 0))
def pz_mB (m : Nat) : Bool := !pz_plain m || (pz_ck (pz_a m 6) (.code (pz_y m) (pz_b m) (pz_mL m) (pz_rT m)) && (pz_ck (pz_a m 7) (.initialized (pz_y m).cls) && (decide ((pz_y m).cls = pz_R (pz_mow m)) && (plainName (pz_y m).cls && (decide ((pz_y m).cls ≠ "java/lang/invoke/MethodHandle") && (decide ((pz_y m).cls ≠ "java/lang/invoke/VarHandle") && (decide (pz_mL m ≤ 70) &&
  (pz_rokb (pz_mrt m) (pz_rT m) && (decide ((parseMethodDescriptor (pz_y m).desc).map (fun d => d.parameters.length) = some (if pz_mkd m = 2 then pz_mna m else pz_mna m - 1)) && (decide (pz_min m = true → (pz_y m).name = "<init>") &&
  (if pz_mkd m = 2 then pz_ck (pz_a m 8) (.static (pz_y m)) else if pz_mkd m = 1 then pz_ck (pz_a m 8) (.instanceMethod (pz_y m)) && (decide ((pz_y m).name = "<init>") && (decide (pz_rT m = none) && decide (0 < pz_mna m))) else pz_ck (pz_a m 8) (.instanceMethod (pz_y m)) && (pz_ck (pz_a m 9) (.selects (pz_R (pz_mow m)) (pz_y m) (pz_y m)) && (decide (0 < pz_mna m) && decide (pz_mow m < pz_NC))))))))))))))
theorem pz_mG_0 : (List.range' 0 6).all pz_mB = true := by decide +kernel
theorem pz_mG_1 : (List.range' 6 6).all pz_mB = true := by decide +kernel
theorem pz_mG_2 : (List.range' 12 6).all pz_mB = true := by decide +kernel
theorem pz_mG_3 : (List.range' 18 6).all pz_mB = true := by decide +kernel
theorem pz_mG_4 : (List.range' 24 6).all pz_mB = true := by decide +kernel
theorem pz_mG_5 : (List.range' 30 6).all pz_mB = true := by decide +kernel
theorem pz_mG_6 : (List.range' 36 6).all pz_mB = true := by decide +kernel
theorem pz_mG_7 : (List.range' 42 6).all pz_mB = true := by decide +kernel
theorem pz_mG_8 : (List.range' 48 6).all pz_mB = true := by decide +kernel
theorem pz_mG_9 : (List.range' 54 6).all pz_mB = true := by decide +kernel
theorem pz_mG_10 : (List.range' 60 6).all pz_mB = true := by decide +kernel
theorem pz_mG_11 : (List.range' 66 6).all pz_mB = true := by decide +kernel
theorem pz_mG_12 : (List.range' 72 6).all pz_mB = true := by decide +kernel
theorem pz_mG_13 : (List.range' 78 6).all pz_mB = true := by decide +kernel
theorem pz_mG_14 : (List.range' 84 6).all pz_mB = true := by decide +kernel
theorem pz_mG_15 : (List.range' 90 6).all pz_mB = true := by decide +kernel
theorem pz_mG_16 : (List.range' 96 6).all pz_mB = true := by decide +kernel
theorem pz_mG_17 : (List.range' 102 6).all pz_mB = true := by decide +kernel
theorem pz_mG_18 : (List.range' 108 6).all pz_mB = true := by decide +kernel
theorem pz_mG_19 : (List.range' 114 6).all pz_mB = true := by decide +kernel
theorem pz_mG_20 : (List.range' 120 6).all pz_mB = true := by decide +kernel
theorem pz_mG_21 : (List.range' 126 6).all pz_mB = true := by decide +kernel
theorem pz_mG_22 : (List.range' 132 6).all pz_mB = true := by decide +kernel
theorem pz_mG_23 : (List.range' 138 6).all pz_mB = true := by decide +kernel
theorem pz_mG_24 : (List.range' 144 6).all pz_mB = true := by decide +kernel
set_option maxRecDepth 100000 in
theorem pz_mB_all (m : Nat) (h : m < 149) : pz_mB m = true := by
  have hm : m ∈ List.range' (6 * (m / 6)) 6 := by
    rw [List.mem_range'_1]
    omega
  have hk : m / 6 < 25 := by omega
  generalize m / 6 = k at hm hk
  match k, hk with
  | 0, _ => exact List.all_eq_true.mp pz_mG_0 m hm
  | 1, _ => exact List.all_eq_true.mp pz_mG_1 m hm
  | 2, _ => exact List.all_eq_true.mp pz_mG_2 m hm
  | 3, _ => exact List.all_eq_true.mp pz_mG_3 m hm
  | 4, _ => exact List.all_eq_true.mp pz_mG_4 m hm
  | 5, _ => exact List.all_eq_true.mp pz_mG_5 m hm
  | 6, _ => exact List.all_eq_true.mp pz_mG_6 m hm
  | 7, _ => exact List.all_eq_true.mp pz_mG_7 m hm
  | 8, _ => exact List.all_eq_true.mp pz_mG_8 m hm
  | 9, _ => exact List.all_eq_true.mp pz_mG_9 m hm
  | 10, _ => exact List.all_eq_true.mp pz_mG_10 m hm
  | 11, _ => exact List.all_eq_true.mp pz_mG_11 m hm
  | 12, _ => exact List.all_eq_true.mp pz_mG_12 m hm
  | 13, _ => exact List.all_eq_true.mp pz_mG_13 m hm
  | 14, _ => exact List.all_eq_true.mp pz_mG_14 m hm
  | 15, _ => exact List.all_eq_true.mp pz_mG_15 m hm
  | 16, _ => exact List.all_eq_true.mp pz_mG_16 m hm
  | 17, _ => exact List.all_eq_true.mp pz_mG_17 m hm
  | 18, _ => exact List.all_eq_true.mp pz_mG_18 m hm
  | 19, _ => exact List.all_eq_true.mp pz_mG_19 m hm
  | 20, _ => exact List.all_eq_true.mp pz_mG_20 m hm
  | 21, _ => exact List.all_eq_true.mp pz_mG_21 m hm
  | 22, _ => exact List.all_eq_true.mp pz_mG_22 m hm
  | 23, _ => exact List.all_eq_true.mp pz_mG_23 m hm
  | 24, _ => exact List.all_eq_true.mp pz_mG_24 m hm
  | n + 25, h9 => exact absurd h9 (by omega)
def pz_MO (m : Nat) : Prop := Cond.code (pz_y m) (pz_b m) (pz_mL m) (pz_rT m) ∈ pz_T ∧ Cond.initialized (pz_y m).cls ∈ pz_T ∧ (pz_y m).cls = pz_R (pz_mow m) ∧ plainName (pz_y m).cls = true ∧ ((pz_y m).cls ≠ "java/lang/invoke/MethodHandle" ∧ (pz_y m).cls ≠ "java/lang/invoke/VarHandle") ∧ pz_mL m ≤ 70 ∧ pz_rok (pz_mrt m) (pz_rT m) ∧
  (parseMethodDescriptor (pz_y m).desc).map (fun d => d.parameters.length) = some (if pz_mkd m = 2 then pz_mna m else pz_mna m - 1) ∧ (pz_min m = true → (pz_y m).name = "<init>") ∧
  (pz_mkd m = 2 → Cond.static (pz_y m) ∈ pz_T) ∧ (pz_mkd m = 1 → Cond.instanceMethod (pz_y m) ∈ pz_T ∧ (pz_y m).name = "<init>" ∧ pz_rT m = none ∧ 0 < pz_mna m) ∧ (pz_mkd m = 0 → Cond.instanceMethod (pz_y m) ∈ pz_T ∧ Cond.selects (pz_R (pz_mow m)) (pz_y m) (pz_y m) ∈ pz_T ∧ 0 < pz_mna m ∧ pz_mow m < pz_NC)
theorem pz_mo {m : Nat} (h : pz_plain m = true) : pz_MO m := by
  have h0 := h
  unfold pz_plain at h0
  simp only [Bool.and_eq_true, decide_eq_true_eq] at h0
  have h1 := pz_mB_all m (by omega)
  unfold pz_mB at h1
  rw [h, Bool.not_true, Bool.false_or] at h1
  simp only [Bool.and_eq_true, decide_eq_true_eq] at h1
  obtain ⟨a1, a2, a3, a4, a5, a6, a7, a8, a9, a10, a11⟩ := h1
  refine ⟨pz_ck_in a1, pz_ck_in a2, a3, a4, ⟨a5, a6⟩, a7, pz_rokb_ok a8, a9, a10, fun q => ?_, fun q => ?_, fun q => ?_⟩
  · rw [if_pos q] at a11
    exact pz_ck_in a11
  · rw [if_neg (by omega), if_pos q] at a11
    simp only [Bool.and_eq_true, decide_eq_true_eq] at a11
    exact ⟨pz_ck_in a11.1, a11.2.1, a11.2.2.1, a11.2.2.2⟩
  · rw [if_neg (by omega), if_neg (by omega)] at a11
    simp only [Bool.and_eq_true, decide_eq_true_eq] at a11
    exact ⟨pz_ck_in a11.1, pz_ck_in a11.2.1, a11.2.2.1, a11.2.2.2⟩
-- links between nest mates: class, index, method, host
def pz_NL : List (String × Nat × MethodName × String) := [("RelationStream$Tree", 28, ⟨"RelationStream$Node", "<init>", "()V"⟩, "RelationStream"), ("RelationStream$Node", 30, ⟨"RelationStream$State", "<init>", "()V"⟩, "RelationStream"), ("RelationStream$Question", 36, ⟨"RelationStream$State", "<init>", "()V"⟩, "RelationStream"), ("RelationStream$Question", 217, ⟨"RelationStream", "spot", "(II)I"⟩, "RelationStream"), ("RelationStream$Matcher", 72, ⟨"RelationStream", "spot", "(II)I"⟩, "RelationStream"), ("RelationStream$Answers", 68, ⟨"RelationStream", "spot", "(II)I"⟩, "RelationStream")]
def pz_NP : List Nat := [1122, 1128, 1190, 3124, 3157, 5064]
theorem pz_NL_in : ∀ q ∈ pz_NL, Cond.methodLinkNest q.1 q.2.1 q.2.2.1 q.2.2.2 ∈ lw_tbl := by
  intro q hq
  have h1 : (pz_NL.zip pz_NP).all (fun z => decide (((pz_tb[z.2 / 1000]?).getD [])[z.2 % 1000]? = some (Cond.methodLinkNest z.1.1 z.1.2.1 z.1.2.2.1 z.1.2.2.2))) = true := by decide +kernel
  obtain ⟨k, hk⟩ := List.getElem?_of_mem hq
  have hl : k < pz_NP.length := by
    have := (List.getElem?_eq_some_iff.mp hk).1
    exact this
  have h2 : (q, pz_NP[k]) ∈ pz_NL.zip pz_NP := by
    apply List.mem_of_getElem? (i := k)
    rw [List.getElem?_zip_eq_some]
    exact ⟨hk, List.getElem?_eq_getElem hl⟩
  have h3 := of_decide_eq_true (List.all_eq_true.mp h1 _ h2)
  cases hL : pz_tb[pz_NP[k] / 1000]? with
  | none => rw [hL] at h3; simp at h3
  | some L =>
    rw [hL] at h3
    exact pz_tb_in L (List.mem_of_getElem? hL) _ (List.mem_of_getElem? h3)
def pz_mtB (own : Nat) (e : Nat × Nat × Nat) : Bool := if e.2.1 = 0 then pz_ck e.2.2 (.methodLink (pz_R own) e.1 Lib.objectInit) else pz_ck e.2.2 (.methodLink (pz_R own) e.1 (pz_y e.2.1)) || (pz_NL.any (fun q => decide (q.1 = pz_R own) && (decide (q.2.1 = e.1) && decide (q.2.2.1 = pz_y e.2.1))) && (decide (pz_mkd e.2.1 = 1) || decide (pz_mkd e.2.1 = 2)))
theorem pz_mtC_0 : ((pz_mtL[0]?).getD []).all (pz_mtB 0) = true := by decide +kernel
theorem pz_mtC_1 : ((pz_mtL[1]?).getD []).all (pz_mtB 1) = true := by decide +kernel
theorem pz_mtC_2 : ((pz_mtL[2]?).getD []).all (pz_mtB 2) = true := by decide +kernel
theorem pz_mtC_3 : ((pz_mtL[3]?).getD []).all (pz_mtB 3) = true := by decide +kernel
theorem pz_mtC_4 : ((pz_mtL[4]?).getD []).all (pz_mtB 4) = true := by decide +kernel
theorem pz_mtC_5 : ((pz_mtL[5]?).getD []).all (pz_mtB 5) = true := by decide +kernel
theorem pz_mtC_6 : ((pz_mtL[6]?).getD []).all (pz_mtB 6) = true := by decide +kernel
theorem pz_mtC_7 : ((pz_mtL[7]?).getD []).all (pz_mtB 7) = true := by decide +kernel
theorem pz_mtC_8 : ((pz_mtL[8]?).getD []).all (pz_mtB 8) = true := by decide +kernel
theorem pz_mtC_9 : ((pz_mtL[9]?).getD []).all (pz_mtB 9) = true := by decide +kernel
theorem pz_mtC_10 : ((pz_mtL[10]?).getD []).all (pz_mtB 10) = true := by decide +kernel
theorem pz_mtC_11 : ((pz_mtL[11]?).getD []).all (pz_mtB 11) = true := by decide +kernel
theorem pz_mtC_12 : ((pz_mtL[12]?).getD []).all (pz_mtB 12) = true := by decide +kernel
theorem pz_mtC_13 : ((pz_mtL[13]?).getD []).all (pz_mtB 13) = true := by decide +kernel
theorem pz_mtC : ∀ own, ((pz_mtL[own]?).getD []).all (pz_mtB own) = true := by
  intro own
  match own with
  | 0 => exact pz_mtC_0
  | 1 => exact pz_mtC_1
  | 2 => exact pz_mtC_2
  | 3 => exact pz_mtC_3
  | 4 => exact pz_mtC_4
  | 5 => exact pz_mtC_5
  | 6 => exact pz_mtC_6
  | 7 => exact pz_mtC_7
  | 8 => exact pz_mtC_8
  | 9 => exact pz_mtC_9
  | 10 => exact pz_mtC_10
  | 11 => exact pz_mtC_11
  | 12 => exact pz_mtC_12
  | 13 => exact pz_mtC_13
  | n + 14 => rfl
theorem pz_mt_obj {own x : Nat} {q : Nat × Nat} (h : pz_mt own x = some q) (h0 : q.1 = 0) : Cond.methodLink (pz_R own) x Lib.objectInit ∈ pz_T := by
  have h1 := List.all_eq_true.mp (pz_mtC own) _ (pz_look_in h)
  unfold pz_mtB at h1
  rw [if_pos h0] at h1
  exact pz_ck_in h1
theorem pz_mt_ok {own x : Nat} {q : Nat × Nat} (h : pz_mt own x = some q) (h0 : q.1 ≠ 0) : Cond.methodLink (pz_R own) x (pz_y q.1) ∈ pz_T ∨ ((pz_mkd q.1 = 1 ∨ pz_mkd q.1 = 2) ∧ ∃ host, (pz_R own, x, pz_y q.1, host) ∈ pz_NL) := by
  have h1 := List.all_eq_true.mp (pz_mtC own) _ (pz_look_in h)
  unfold pz_mtB at h1
  rw [if_neg h0, Bool.or_eq_true] at h1
  rcases h1 with h1 | h1
  · exact Or.inl (pz_ck_in h1)
  · rw [Bool.and_eq_true] at h1
    obtain ⟨z, hz, h2⟩ := List.any_eq_true.mp h1.1
    simp only [Bool.and_eq_true, decide_eq_true_eq] at h2
    obtain ⟨e1, e2, e3⟩ := h2
    refine Or.inr ⟨by simpa using h1.2, z.2.2.2, ?_⟩
    rw [← e1, ← e2, ← e3]
    exact hz
theorem pz_T_obi : Cond.instanceMethod Lib.objectInit ∈ pz_T := pz_ck_in (i := 1037) (by decide +kernel)
theorem pz_T_obc : Cond.code Lib.objectInit ⟨#[0xb1]⟩ 1 none ∈ pz_T := pz_ck_in (i := 1038) (by decide +kernel)
