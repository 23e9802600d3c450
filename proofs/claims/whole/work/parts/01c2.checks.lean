/-! The law's entry. -/
theorem pz_dL_0 : (((pz_m 148).2.2.2.2.drop 0).take 20).all (fun e => decide (decode (pz_m 148).2.1 e.1 = .ok e.2) && pz_lenb e.2.1 e.2.2) = true := by decide +kernel
theorem pz_dL_1 : (((pz_m 148).2.2.2.2.drop 20).take 20).all (fun e => decide (decode (pz_m 148).2.1 e.1 = .ok e.2) && pz_lenb e.2.1 e.2.2) = true := by decide +kernel
theorem pz_dL_2 : (((pz_m 148).2.2.2.2.drop 40).take 20).all (fun e => decide (decode (pz_m 148).2.1 e.1 = .ok e.2) && pz_lenb e.2.1 e.2.2) = true := by decide +kernel
theorem pz_dL_3 : (((pz_m 148).2.2.2.2.drop 60).take 20).all (fun e => decide (decode (pz_m 148).2.1 e.1 = .ok e.2) && pz_lenb e.2.1 e.2.2) = true := by decide +kernel
theorem pz_dL_4 : (((pz_m 148).2.2.2.2.drop 80).take 20).all (fun e => decide (decode (pz_m 148).2.1 e.1 = .ok e.2) && pz_lenb e.2.1 e.2.2) = true := by decide +kernel
theorem pz_dL_5 : (((pz_m 148).2.2.2.2.drop 100).take 20).all (fun e => decide (decode (pz_m 148).2.1 e.1 = .ok e.2) && pz_lenb e.2.1 e.2.2) = true := by decide +kernel
theorem pz_dL_6 : (((pz_m 148).2.2.2.2.drop 120).take 20).all (fun e => decide (decode (pz_m 148).2.1 e.1 = .ok e.2) && pz_lenb e.2.1 e.2.2) = true := by decide +kernel
theorem pz_dL_7 : (((pz_m 148).2.2.2.2.drop 140).take 20).all (fun e => decide (decode (pz_m 148).2.1 e.1 = .ok e.2) && pz_lenb e.2.1 e.2.2) = true := by decide +kernel
theorem pz_dL_8 : (((pz_m 148).2.2.2.2.drop 160).take 20).all (fun e => decide (decode (pz_m 148).2.1 e.1 = .ok e.2) && pz_lenb e.2.1 e.2.2) = true := by decide +kernel
theorem pz_dL_9 : (((pz_m 148).2.2.2.2.drop 180).take 20).all (fun e => decide (decode (pz_m 148).2.1 e.1 = .ok e.2) && pz_lenb e.2.1 e.2.2) = true := by decide +kernel
theorem pz_dL_10 : (((pz_m 148).2.2.2.2.drop 200).take 20).all (fun e => decide (decode (pz_m 148).2.1 e.1 = .ok e.2) && pz_lenb e.2.1 e.2.2) = true := by decide +kernel
theorem pz_dL_11 : (((pz_m 148).2.2.2.2.drop 220).take 20).all (fun e => decide (decode (pz_m 148).2.1 e.1 = .ok e.2) && pz_lenb e.2.1 e.2.2) = true := by decide +kernel
theorem pz_dL_12 : (((pz_m 148).2.2.2.2.drop 240).take 20).all (fun e => decide (decode (pz_m 148).2.1 e.1 = .ok e.2) && pz_lenb e.2.1 e.2.2) = true := by decide +kernel
theorem pz_dL_13 : (((pz_m 148).2.2.2.2.drop 260).take 20).all (fun e => decide (decode (pz_m 148).2.1 e.1 = .ok e.2) && pz_lenb e.2.1 e.2.2) = true := by decide +kernel
theorem pz_dL_14 : (((pz_m 148).2.2.2.2.drop 280).take 20).all (fun e => decide (decode (pz_m 148).2.1 e.1 = .ok e.2) && pz_lenb e.2.1 e.2.2) = true := by decide +kernel
theorem pz_dL_15 : (((pz_m 148).2.2.2.2.drop 300).take 20).all (fun e => decide (decode (pz_m 148).2.1 e.1 = .ok e.2) && pz_lenb e.2.1 e.2.2) = true := by decide +kernel
theorem pz_dL_16 : (((pz_m 148).2.2.2.2.drop 320).take 20).all (fun e => decide (decode (pz_m 148).2.1 e.1 = .ok e.2) && pz_lenb e.2.1 e.2.2) = true := by decide +kernel
theorem pz_dL_17 : (((pz_m 148).2.2.2.2.drop 340).take 20).all (fun e => decide (decode (pz_m 148).2.1 e.1 = .ok e.2) && pz_lenb e.2.1 e.2.2) = true := by decide +kernel
theorem pz_dL_18 : (((pz_m 148).2.2.2.2.drop 360).take 20).all (fun e => decide (decode (pz_m 148).2.1 e.1 = .ok e.2) && pz_lenb e.2.1 e.2.2) = true := by decide +kernel
theorem pz_dL_19 : (((pz_m 148).2.2.2.2.drop 380).take 20).all (fun e => decide (decode (pz_m 148).2.1 e.1 = .ok e.2) && pz_lenb e.2.1 e.2.2) = true := by decide +kernel
theorem pz_dL_20 : (((pz_m 148).2.2.2.2.drop 400).take 20).all (fun e => decide (decode (pz_m 148).2.1 e.1 = .ok e.2) && pz_lenb e.2.1 e.2.2) = true := by decide +kernel
theorem pz_dL_21 : (((pz_m 148).2.2.2.2.drop 420).take 20).all (fun e => decide (decode (pz_m 148).2.1 e.1 = .ok e.2) && pz_lenb e.2.1 e.2.2) = true := by decide +kernel
theorem pz_dL_22 : (((pz_m 148).2.2.2.2.drop 440).take 20).all (fun e => decide (decode (pz_m 148).2.1 e.1 = .ok e.2) && pz_lenb e.2.1 e.2.2) = true := by decide +kernel
theorem pz_dL_23 : (((pz_m 148).2.2.2.2.drop 460).take 20).all (fun e => decide (decode (pz_m 148).2.1 e.1 = .ok e.2) && pz_lenb e.2.1 e.2.2) = true := by decide +kernel
theorem pz_dL_24 : (((pz_m 148).2.2.2.2.drop 480).take 20).all (fun e => decide (decode (pz_m 148).2.1 e.1 = .ok e.2) && pz_lenb e.2.1 e.2.2) = true := by decide +kernel
theorem pz_dL_25 : (((pz_m 148).2.2.2.2.drop 500).take 20).all (fun e => decide (decode (pz_m 148).2.1 e.1 = .ok e.2) && pz_lenb e.2.1 e.2.2) = true := by decide +kernel
theorem pz_dL_26 : (((pz_m 148).2.2.2.2.drop 520).take 20).all (fun e => decide (decode (pz_m 148).2.1 e.1 = .ok e.2) && pz_lenb e.2.1 e.2.2) = true := by decide +kernel
theorem pz_dL_27 : (((pz_m 148).2.2.2.2.drop 540).take 20).all (fun e => decide (decode (pz_m 148).2.1 e.1 = .ok e.2) && pz_lenb e.2.1 e.2.2) = true := by decide +kernel
theorem pz_dL_28 : (((pz_m 148).2.2.2.2.drop 560).take 20).all (fun e => decide (decode (pz_m 148).2.1 e.1 = .ok e.2) && pz_lenb e.2.1 e.2.2) = true := by decide +kernel
theorem pz_chunks {α : Type} {L : List α} {f : α → Bool} {c : Nat} (hc : 0 < c) (h : ∀ k, ((L.drop (c * k)).take c).all f = true) : L.all f = true := by
  rw [List.all_eq_true]
  intro e he
  obtain ⟨i, hi⟩ := List.getElem?_of_mem he
  have h1 := List.all_eq_true.mp (h (i / c)) e
  apply h1
  apply List.mem_of_getElem? (i := i % c)
  rw [List.getElem?_take_of_lt (Nat.mod_lt _ hc), List.getElem?_drop, Nat.div_add_mod]
  exact hi
theorem pz_dL_all : pz_dB 148 = true := by
  unfold pz_dB
  refine pz_chunks (c := 20) (by decide) (fun k => ?_)
  match k with
  | 0 => exact pz_dL_0
  | 1 => exact pz_dL_1
  | 2 => exact pz_dL_2
  | 3 => exact pz_dL_3
  | 4 => exact pz_dL_4
  | 5 => exact pz_dL_5
  | 6 => exact pz_dL_6
  | 7 => exact pz_dL_7
  | 8 => exact pz_dL_8
  | 9 => exact pz_dL_9
  | 10 => exact pz_dL_10
  | 11 => exact pz_dL_11
  | 12 => exact pz_dL_12
  | 13 => exact pz_dL_13
  | 14 => exact pz_dL_14
  | 15 => exact pz_dL_15
  | 16 => exact pz_dL_16
  | 17 => exact pz_dL_17
  | 18 => exact pz_dL_18
  | 19 => exact pz_dL_19
  | 20 => exact pz_dL_20
  | 21 => exact pz_dL_21
  | 22 => exact pz_dL_22
  | 23 => exact pz_dL_23
  | 24 => exact pz_dL_24
  | 25 => exact pz_dL_25
  | 26 => exact pz_dL_26
  | 27 => exact pz_dL_27
  | 28 => exact pz_dL_28
  | n + 29 =>
    have hl : (pz_m 148).2.2.2.2.length = 574 := by decide +kernel
    rw [List.drop_eq_nil_of_le (by rw [hl]; omega)]
    rfl
set_option maxRecDepth 100000 in
theorem pz_dB_all (m : Nat) : pz_dB m = true := by
  by_cases h : m < 148
  · have hm : m ∈ List.range' (6 * (m / 6)) (min 6 (148 - 6 * (m / 6))) := by
      rw [List.mem_range'_1]
      omega
    have hk : m / 6 < 25 := by omega
    generalize m / 6 = k at hm hk
    match k, hk with
    | 0, _ => exact List.all_eq_true.mp pz_dG_0 m hm
    | 1, _ => exact List.all_eq_true.mp pz_dG_1 m hm
    | 2, _ => exact List.all_eq_true.mp pz_dG_2 m hm
    | 3, _ => exact List.all_eq_true.mp pz_dG_3 m hm
    | 4, _ => exact List.all_eq_true.mp pz_dG_4 m hm
    | 5, _ => exact List.all_eq_true.mp pz_dG_5 m hm
    | 6, _ => exact List.all_eq_true.mp pz_dG_6 m hm
    | 7, _ => exact List.all_eq_true.mp pz_dG_7 m hm
    | 8, _ => exact List.all_eq_true.mp pz_dG_8 m hm
    | 9, _ => exact List.all_eq_true.mp pz_dG_9 m hm
    | 10, _ => exact List.all_eq_true.mp pz_dG_10 m hm
    | 11, _ => exact List.all_eq_true.mp pz_dG_11 m hm
    | 12, _ => exact List.all_eq_true.mp pz_dG_12 m hm
    | 13, _ => exact List.all_eq_true.mp pz_dG_13 m hm
    | 14, _ => exact List.all_eq_true.mp pz_dG_14 m hm
    | 15, _ => exact List.all_eq_true.mp pz_dG_15 m hm
    | 16, _ => exact List.all_eq_true.mp pz_dG_16 m hm
    | 17, _ => exact List.all_eq_true.mp pz_dG_17 m hm
    | 18, _ => exact List.all_eq_true.mp pz_dG_18 m hm
    | 19, _ => exact List.all_eq_true.mp pz_dG_19 m hm
    | 20, _ => exact List.all_eq_true.mp pz_dG_20 m hm
    | 21, _ => exact List.all_eq_true.mp pz_dG_21 m hm
    | 22, _ => exact List.all_eq_true.mp pz_dG_22 m hm
    | 23, _ => exact List.all_eq_true.mp pz_dG_23 m hm
    | 24, _ => exact List.all_eq_true.mp pz_dG_24 m hm
    | n + 25, h9 => exact absurd h9 (by omega)
  · by_cases h2 : m = 148
    · rw [h2]
      exact pz_dL_all
    · have h1 : pz_MS[m]? = none := List.getElem?_eq_none (by show 149 ≤ m; omega)
      unfold pz_dB pz_m
      rw [h1]
      rfl
theorem pz_dec {m pc : Nat} {q : Instr × Nat} (h : pz_cd m pc = some q) : decode (pz_b m) pc = .ok q ∧ pz_lenb q.1 q.2 = true := by
  have h1 := List.all_eq_true.mp (pz_dB_all m) _ (pz_look_in h)
  simp only [Bool.and_eq_true] at h1
  exact ⟨of_decide_eq_true h1.1, h1.2⟩
