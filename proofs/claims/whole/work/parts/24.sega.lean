/-! Segments of methods, by wip/whole/gen/seg.py: from an entry, a loop's head or behind a call to the next stop. -/
section pzga
variable {d n0 : Nat} {mi : Nat → Nat → Int} {ml : Nat → Nat → Int64} {mr : Nat → Nat → Option Nat} {c s : Nat} {Q : pz_O → pz_H → Prop}
-- 3 RelationStream$Terms.add(III)I
theorem pz_g3_0 {a1 : Int} {a2 : Int} {a3 : Int}  (K : ∀ x1 : Int, x1 = mi 2 3 → ((40 ≤ x1 → Q (.inl (some (.inl x1))) (pz_hp n0 mi ml mr c s)) ∧ (x1 < 40 → (0 ≤ x1 ∧ x1 < 41) ∧ (0 ≤ x1 ∧ x1 < 41) ∧ (0 ≤ x1 ∧ x1 < 41) ∧ (-2147483648 ≤ (mi 2 3) + 1 ∧ (mi 2 3) + 1 ≤ 2147483647) ∧ Q (.inl (some (.inl x1))) (pz_hp n0 (pz_up (pz_up (pz_up (pz_up mi 3 ((x1).toNat) a1) 4 ((x1).toNat) a2) 5 ((x1).toNat) a3) 2 3 ((mi 2 3) + 1)) ml mr c s)))) : pz_Rn d 3 (0, [], [(0, .inr (.inr (some 2))), (1, .inl a1), (2, .inl a2), (3, .inl a3)], pz_hp n0 mi ml mr c s, true) Q := by
  refine pz_j1 [.inr (.inr (some 2))] 1 rfl rfl rfl rfl rfl ?_
  refine pz_j1 [.inl (mi 2 3)] 4 rfl rfl rfl rfl (pz_a2 rfl pz_S2) ?_
  obtain ⟨x1, hx1⟩ : ∃ x : Int, x = mi 2 3 := ⟨_, rfl⟩
  rewrite [← hx1]
  replace K := K x1 hx1
  refine pz_j2 [] [(4, .inl x1), (0, .inr (.inr (some 2))), (1, .inl a1), (2, .inl a2), (3, .inl a3)] 6 rfl rfl rfl rfl rfl ?_
  refine pz_j1 [.inl x1] 8 rfl rfl rfl rfl rfl ?_
  refine pz_j1 [.inl 40, .inl x1] 10 rfl rfl rfl rfl rfl ?_
  refine pz_j1 [] (bif pz_cp .ge x1 40 then 47 else 13) rfl rfl rfl rfl rfl ?_
  refine pz_Rn_if pz_c1_ge pz_c0_ge ⟨fun b2 => ?_, fun b2 => ?_⟩
  · replace K := K.1 b2
    refine pz_j1 [.inl x1] 49 rfl rfl rfl rfl rfl ?_
    exact pz_Rn_ret rfl rfl rfl rfl K
  · replace K := K.2 b2
    refine pz_j1 [.inr (.inr (some 2))] 14 rfl rfl rfl rfl rfl ?_
    refine pz_j1 [.inr (.inr (some 3))] 17 rfl rfl rfl rfl (pz_a2 rfl pz_S2) ?_
    refine pz_j1 [.inl x1, .inr (.inr (some 3))] 19 rfl rfl rfl rfl rfl ?_
    refine pz_j1 [.inl a1, .inl x1, .inr (.inr (some 3))] 20 rfl rfl rfl rfl rfl ?_
    obtain ⟨k3, K⟩ := K
    refine pz_j3 [] [(4, .inl x1), (0, .inr (.inr (some 2))), (1, .inl a1), (2, .inl a2), (3, .inl a3)] (pz_hp n0 (pz_up mi 3 ((x1).toNat) a1) ml mr c s) 21 rfl rfl rfl rfl (pz_a2 rfl (pz_ok_ix pz_S3 k3)) ?_
    refine pz_j1 [.inr (.inr (some 2))] 22 rfl rfl rfl rfl rfl ?_
    refine pz_j1 [.inr (.inr (some 4))] 25 rfl rfl rfl rfl (pz_a2 rfl pz_S2) ?_
    refine pz_j1 [.inl x1, .inr (.inr (some 4))] 27 rfl rfl rfl rfl rfl ?_
    refine pz_j1 [.inl a2, .inl x1, .inr (.inr (some 4))] 28 rfl rfl rfl rfl rfl ?_
    obtain ⟨k4, K⟩ := K
    refine pz_j3 [] [(4, .inl x1), (0, .inr (.inr (some 2))), (1, .inl a1), (2, .inl a2), (3, .inl a3)] (pz_hp n0 (pz_up (pz_up mi 3 ((x1).toNat) a1) 4 ((x1).toNat) a2) ml mr c s) 29 rfl rfl rfl rfl (pz_a2 rfl (pz_ok_ix pz_S4 k4)) ?_
    refine pz_j1 [.inr (.inr (some 2))] 30 rfl rfl rfl rfl rfl ?_
    refine pz_j1 [.inr (.inr (some 5))] 33 rfl rfl rfl rfl (pz_a2 rfl pz_S2) ?_
    refine pz_j1 [.inl x1, .inr (.inr (some 5))] 35 rfl rfl rfl rfl rfl ?_
    refine pz_j1 [.inl a3, .inl x1, .inr (.inr (some 5))] 36 rfl rfl rfl rfl rfl ?_
    obtain ⟨k5, K⟩ := K
    refine pz_j3 [] [(4, .inl x1), (0, .inr (.inr (some 2))), (1, .inl a1), (2, .inl a2), (3, .inl a3)] (pz_hp n0 (pz_up (pz_up (pz_up mi 3 ((x1).toNat) a1) 4 ((x1).toNat) a2) 5 ((x1).toNat) a3) ml mr c s) 37 rfl rfl rfl rfl (pz_a2 rfl (pz_ok_ix pz_S5 k5)) ?_
    refine pz_j1 [.inr (.inr (some 2))] 38 rfl rfl rfl rfl rfl ?_
    refine pz_j1 [.inr (.inr (some 2)), .inr (.inr (some 2))] 39 rfl rfl rfl rfl rfl ?_
    refine pz_j1 [.inl (mi 2 3), .inr (.inr (some 2))] 42 rfl rfl rfl rfl (pz_a2 rfl pz_S2) ?_
    refine pz_j1 [.inl 1, .inl (mi 2 3), .inr (.inr (some 2))] 43 rfl rfl rfl rfl rfl ?_
    obtain ⟨k6, K⟩ := K
    refine pz_j1 [.inl ((mi 2 3) + 1), .inr (.inr (some 2))] 44 rfl rfl rfl rfl (pz_ok_in k6) ?_
    refine pz_j3 [] [(4, .inl x1), (0, .inr (.inr (some 2))), (1, .inl a1), (2, .inl a2), (3, .inl a3)] (pz_hp n0 (pz_up (pz_up (pz_up (pz_up mi 3 ((x1).toNat) a1) 4 ((x1).toNat) a2) 5 ((x1).toNat) a3) 2 3 ((mi 2 3) + 1)) ml mr c s) 47 rfl rfl rfl rfl (pz_a2 rfl (pz_a2 pz_S2 (pz_a2 rfl rfl))) ?_
    refine pz_j1 [.inl x1] 49 rfl rfl rfl rfl rfl ?_
    exact pz_Rn_ret rfl rfl rfl rfl K
-- 4 RelationStream.newTerm(III)I
theorem pz_g4_0 {a1 : Int} {a2 : Int} {a3 : Int}  (K : ((mi 2 3 < 40 → pz_Rn d 3 (0, [], [(0, .inr (.inr (some 2))), (1, .inl a1), (2, .inl a2), (3, .inl a3)], pz_hp n0 mi ml mr c s, true) (pz_K (d + 1) 4 27 [] [] Q true)) ∧ (40 ≤ mi 2 3 → Q (.inr 2) (pz_hp n0 mi ml mr (c + 1) (s + 6))))) : pz_Rn (d + 1) 4 (0, [], [(0, .inr (.inr (some 1))), (1, .inl a1), (2, .inl a2), (3, .inl a3)], pz_hp n0 mi ml mr c s, true) Q := by
  refine pz_j1 [.inr (.inr (some 1))] 1 rfl rfl rfl rfl rfl ?_
  refine pz_j1 [.inr (.inr (some 2))] 4 rfl rfl rfl rfl (pz_a2 rfl pz_S1) ?_
  refine pz_j1 [.inl (mi 2 3)] 7 rfl rfl rfl rfl (pz_a2 rfl pz_S2) ?_
  refine pz_j1 [.inl 40, .inl (mi 2 3)] 9 rfl rfl rfl rfl rfl ?_
  refine pz_j1 [] (bif pz_cp .lt (mi 2 3) 40 then 16 else 12) rfl rfl rfl rfl rfl ?_
  refine pz_Rn_if pz_c1_lt pz_c0_lt ⟨fun b1 => ?_, fun b1 => ?_⟩
  · replace K := K.1 b1
    refine pz_j1 [.inl 0] 17 rfl rfl rfl rfl rfl ?_
    refine pz_i_thr (y := 1) rfl rfl rfl rfl rfl rfl rfl rfl rfl rfl (fun _ => ?_) (fun z => ?_)
    · skip
      refine pz_j1 [.inr (.inr (some 1))] 21 rfl rfl rfl rfl rfl ?_
      refine pz_j1 [.inr (.inr (some 2))] 24 rfl rfl rfl rfl (pz_a2 rfl pz_S1) ?_
      refine pz_j1 [.inl a1, .inr (.inr (some 2))] 25 rfl rfl rfl rfl rfl ?_
      refine pz_j1 [.inl a2, .inl a1, .inr (.inr (some 2))] 26 rfl rfl rfl rfl rfl ?_
      refine pz_j1 [.inl a3, .inl a2, .inl a1, .inr (.inr (some 2))] 27 rfl rfl rfl rfl rfl ?_
      refine pz_Rn_sub (L := []) [] rfl rfl ?_
      exact pz_Rn_k (y := 2) rfl rfl rfl rfl rfl rfl rfl rfl (pz_cok_v rfl rfl pz_S2) K
    · cases z
  · replace K := K.2 b1
    refine pz_j1 [.inl 1] 13 rfl rfl rfl rfl rfl ?_
    refine pz_j1 [.inl 1] 17 rfl rfl rfl rfl rfl ?_
    refine pz_i_thr (y := 1) rfl rfl rfl rfl rfl rfl rfl rfl rfl rfl (fun z => ?_) (fun _ => ?_)
    · cases z
    · exact K
theorem pz_g4_30 {t0 : Int}  (K : Q (.inl (some (.inl t0))) (pz_hp n0 mi ml mr c s)) : pz_Rn (d + 1) 4 (30, [.inl t0], [], pz_hp n0 mi ml mr c s, true) Q := by
  exact pz_Rn_ret rfl rfl rfl rfl K
-- 5 RelationStream.atom(I)I
theorem pz_g5_0 {a1 : Int}  (K : ((a1 < 0 → Q (.inr 1) (pz_hp n0 mi ml mr (c + 1) (s + 6))) ∧ (0 ≤ a1 → ((10 ≤ a1 → Q (.inr 1) (pz_hp n0 mi ml mr (c + 1) (s + 6))) ∧ (a1 < 10 → pz_Rn d 4 (0, [], [(0, .inr (.inr (some 1))), (1, .inl 0), (2, .inl a1), (3, .inl (-1))], pz_hp n0 mi ml mr c s, true) (pz_K (d + 1) 5 22 [] [] Q true)))))) : pz_Rn (d + 1) 5 (0, [], [(0, .inr (.inr (some 1))), (1, .inl a1)], pz_hp n0 mi ml mr c s, true) Q := by
  refine pz_j1 [.inl a1] 1 rfl rfl rfl rfl rfl ?_
  refine pz_j1 [] (bif pz_cp .lt a1 0 then 14 else 4) rfl rfl rfl rfl rfl ?_
  refine pz_Rn_if pz_c1_lt pz_c0_lt ⟨fun b1 => ?_, fun b1 => ?_⟩
  · replace K := K.1 b1
    refine pz_j1 [.inl 0] 15 rfl rfl rfl rfl rfl ?_
    refine pz_i_thr (y := 0) rfl rfl rfl rfl rfl rfl rfl rfl rfl rfl (fun z => ?_) (fun _ => ?_)
    · cases z
    · exact K
  · replace K := K.2 b1
    refine pz_j1 [.inl a1] 5 rfl rfl rfl rfl rfl ?_
    refine pz_j1 [.inl 10, .inl a1] 7 rfl rfl rfl rfl rfl ?_
    refine pz_j1 [] (bif pz_cp .ge a1 10 then 14 else 10) rfl rfl rfl rfl rfl ?_
    refine pz_Rn_if pz_c1_ge pz_c0_ge ⟨fun b2 => ?_, fun b2 => ?_⟩
    · replace K := K.1 b2
      refine pz_j1 [.inl 0] 15 rfl rfl rfl rfl rfl ?_
      refine pz_i_thr (y := 0) rfl rfl rfl rfl rfl rfl rfl rfl rfl rfl (fun z => ?_) (fun _ => ?_)
      · cases z
      · exact K
    · replace K := K.2 b2
      refine pz_j1 [.inl 1] 11 rfl rfl rfl rfl rfl ?_
      refine pz_j1 [.inl 1] 15 rfl rfl rfl rfl rfl ?_
      refine pz_i_thr (y := 0) rfl rfl rfl rfl rfl rfl rfl rfl rfl rfl (fun _ => ?_) (fun z => ?_)
      · skip
        refine pz_j1 [.inr (.inr (some 1))] 19 rfl rfl rfl rfl rfl ?_
        refine pz_j1 [.inl 0, .inr (.inr (some 1))] 20 rfl rfl rfl rfl rfl ?_
        refine pz_j1 [.inl a1, .inl 0, .inr (.inr (some 1))] 21 rfl rfl rfl rfl rfl ?_
        refine pz_j1 [.inl (-1), .inl a1, .inl 0, .inr (.inr (some 1))] 22 rfl rfl rfl rfl rfl ?_
        refine pz_Rn_sub (L := []) [] rfl rfl ?_
        exact pz_Rn_k (y := 3) rfl rfl rfl rfl rfl rfl rfl rfl (pz_cok_v rfl rfl pz_S1) K
      · cases z
theorem pz_g5_25 {t0 : Int}  (K : Q (.inl (some (.inl t0))) (pz_hp n0 mi ml mr c s)) : pz_Rn (d + 1) 5 (25, [.inl t0], [], pz_hp n0 mi ml mr c s, true) Q := by
  exact pz_Rn_ret rfl rfl rfl rfl K
-- 7 RelationStream.place(I)I
theorem pz_g7_0 {a1 : Int}  (K : ((a1 < 0 → Q (.inr 1) (pz_hp n0 mi ml mr (c + 1) (s + 6))) ∧ (0 ≤ a1 → ((6 ≤ a1 → Q (.inr 1) (pz_hp n0 mi ml mr (c + 1) (s + 6))) ∧ (a1 < 6 → pz_Rn d 4 (0, [], [(0, .inr (.inr (some 1))), (1, .inl 1), (2, .inl a1), (3, .inl (-1))], pz_hp n0 mi ml mr c s, true) (pz_K (d + 1) 7 22 [] [] Q true)))))) : pz_Rn (d + 1) 7 (0, [], [(0, .inr (.inr (some 1))), (1, .inl a1)], pz_hp n0 mi ml mr c s, true) Q := by
  refine pz_j1 [.inl a1] 1 rfl rfl rfl rfl rfl ?_
  refine pz_j1 [] (bif pz_cp .lt a1 0 then 14 else 4) rfl rfl rfl rfl rfl ?_
  refine pz_Rn_if pz_c1_lt pz_c0_lt ⟨fun b1 => ?_, fun b1 => ?_⟩
  · replace K := K.1 b1
    refine pz_j1 [.inl 0] 15 rfl rfl rfl rfl rfl ?_
    refine pz_i_thr (y := 0) rfl rfl rfl rfl rfl rfl rfl rfl rfl rfl (fun z => ?_) (fun _ => ?_)
    · cases z
    · exact K
  · replace K := K.2 b1
    refine pz_j1 [.inl a1] 5 rfl rfl rfl rfl rfl ?_
    refine pz_j1 [.inl 6, .inl a1] 7 rfl rfl rfl rfl rfl ?_
    refine pz_j1 [] (bif pz_cp .ge a1 6 then 14 else 10) rfl rfl rfl rfl rfl ?_
    refine pz_Rn_if pz_c1_ge pz_c0_ge ⟨fun b2 => ?_, fun b2 => ?_⟩
    · replace K := K.1 b2
      refine pz_j1 [.inl 0] 15 rfl rfl rfl rfl rfl ?_
      refine pz_i_thr (y := 0) rfl rfl rfl rfl rfl rfl rfl rfl rfl rfl (fun z => ?_) (fun _ => ?_)
      · cases z
      · exact K
    · replace K := K.2 b2
      refine pz_j1 [.inl 1] 11 rfl rfl rfl rfl rfl ?_
      refine pz_j1 [.inl 1] 15 rfl rfl rfl rfl rfl ?_
      refine pz_i_thr (y := 0) rfl rfl rfl rfl rfl rfl rfl rfl rfl rfl (fun _ => ?_) (fun z => ?_)
      · skip
        refine pz_j1 [.inr (.inr (some 1))] 19 rfl rfl rfl rfl rfl ?_
        refine pz_j1 [.inl 1, .inr (.inr (some 1))] 20 rfl rfl rfl rfl rfl ?_
        refine pz_j1 [.inl a1, .inl 1, .inr (.inr (some 1))] 21 rfl rfl rfl rfl rfl ?_
        refine pz_j1 [.inl (-1), .inl a1, .inl 1, .inr (.inr (some 1))] 22 rfl rfl rfl rfl rfl ?_
        refine pz_Rn_sub (L := []) [] rfl rfl ?_
        exact pz_Rn_k (y := 3) rfl rfl rfl rfl rfl rfl rfl rfl (pz_cok_v rfl rfl pz_S1) K
      · cases z
theorem pz_g7_25 {t0 : Int}  (K : Q (.inl (some (.inl t0))) (pz_hp n0 mi ml mr c s)) : pz_Rn (d + 1) 7 (25, [.inl t0], [], pz_hp n0 mi ml mr c s, true) Q := by
  exact pz_Rn_ret rfl rfl rfl rfl K
-- 9 RelationStream$Terms.has(I)Z
theorem pz_g9_0 {a1 : Int}  (K : ((a1 < 0 → Q (.inl (some (.inl 0))) (pz_hp n0 mi ml mr c s)) ∧ (0 ≤ a1 → ((mi 2 3 ≤ a1 → Q (.inl (some (.inl 0))) (pz_hp n0 mi ml mr c s)) ∧ (a1 < mi 2 3 → Q (.inl (some (.inl 1))) (pz_hp n0 mi ml mr c s)))))) : pz_Rn d 9 (0, [], [(0, .inr (.inr (some 2))), (1, .inl a1)], pz_hp n0 mi ml mr c s, true) Q := by
  refine pz_j1 [.inl a1] 1 rfl rfl rfl rfl rfl ?_
  refine pz_j1 [] (bif pz_cp .lt a1 0 then 16 else 4) rfl rfl rfl rfl rfl ?_
  refine pz_Rn_if pz_c1_lt pz_c0_lt ⟨fun b1 => ?_, fun b1 => ?_⟩
  · replace K := K.1 b1
    refine pz_j1 [.inl 0] 17 rfl rfl rfl rfl rfl ?_
    exact pz_Rn_ret rfl rfl rfl rfl K
  · replace K := K.2 b1
    refine pz_j1 [.inl a1] 5 rfl rfl rfl rfl rfl ?_
    refine pz_j1 [.inr (.inr (some 2)), .inl a1] 6 rfl rfl rfl rfl rfl ?_
    refine pz_j1 [.inl (mi 2 3), .inl a1] 9 rfl rfl rfl rfl (pz_a2 rfl pz_S2) ?_
    refine pz_j1 [] (bif pz_cp .ge a1 (mi 2 3) then 16 else 12) rfl rfl rfl rfl rfl ?_
    refine pz_Rn_if pz_c1_ge pz_c0_ge ⟨fun b2 => ?_, fun b2 => ?_⟩
    · replace K := K.1 b2
      refine pz_j1 [.inl 0] 17 rfl rfl rfl rfl rfl ?_
      exact pz_Rn_ret rfl rfl rfl rfl K
    · replace K := K.2 b2
      refine pz_j1 [.inl 1] 13 rfl rfl rfl rfl rfl ?_
      refine pz_j1 [.inl 1] 17 rfl rfl rfl rfl rfl ?_
      exact pz_Rn_ret rfl rfl rfl rfl K
-- 10 RelationStream.pair(II)I
theorem pz_g10_0 {a1 : Int} {a2 : Int}  (K : pz_Rn d 9 (0, [], [(0, .inr (.inr (some 2))), (1, .inl a1)], pz_hp n0 mi ml mr c s, true) (pz_K (d + 1) 10 5 [] [(0, .inr (.inr (some 1))), (1, .inl a1), (2, .inl a2)] Q true)) : pz_Rn (d + 1) 10 (0, [], [(0, .inr (.inr (some 1))), (1, .inl a1), (2, .inl a2)], pz_hp n0 mi ml mr c s, true) Q := by
  refine pz_j1 [.inr (.inr (some 1))] 1 rfl rfl rfl rfl rfl ?_
  refine pz_j1 [.inr (.inr (some 2))] 4 rfl rfl rfl rfl (pz_a2 rfl pz_S1) ?_
  refine pz_j1 [.inl a1, .inr (.inr (some 2))] 5 rfl rfl rfl rfl rfl ?_
  exact pz_Rn_k (y := 8) rfl rfl rfl rfl rfl rfl rfl rfl (pz_cok_v rfl rfl pz_S2) K
theorem pz_g10_8 {a1 : Int} {a2 : Int} {t0 : Int}  (K : ((t0 = 0 → Q (.inr 1) (pz_hp n0 mi ml mr (c + 1) (s + 6))) ∧ (t0 ≠ 0 → pz_Rn d 9 (0, [], [(0, .inr (.inr (some 2))), (1, .inl a2)], pz_hp n0 mi ml mr c s, true) (pz_K (d + 1) 10 16 [] [(0, .inr (.inr (some 1))), (1, .inl a1), (2, .inl a2)] Q true)))) : pz_Rn (d + 1) 10 (8, [.inl t0], [(0, .inr (.inr (some 1))), (1, .inl a1), (2, .inl a2)], pz_hp n0 mi ml mr c s, true) Q := by
  refine pz_j1 [] (bif pz_cp .eq t0 0 then 26 else 11) rfl rfl rfl rfl rfl ?_
  refine pz_Rn_if pz_c1_eq pz_c0_eq ⟨fun b1 => ?_, fun b1 => ?_⟩
  · replace K := K.1 b1
    refine pz_j1 [.inl 0] 27 rfl rfl rfl rfl rfl ?_
    refine pz_i_thr (y := 0) rfl rfl rfl rfl rfl rfl rfl rfl rfl rfl (fun z => ?_) (fun _ => ?_)
    · cases z
    · exact K
  · replace K := K.2 b1
    refine pz_j1 [.inr (.inr (some 1))] 12 rfl rfl rfl rfl rfl ?_
    refine pz_j1 [.inr (.inr (some 2))] 15 rfl rfl rfl rfl (pz_a2 rfl pz_S1) ?_
    refine pz_j1 [.inl a2, .inr (.inr (some 2))] 16 rfl rfl rfl rfl rfl ?_
    exact pz_Rn_k (y := 8) rfl rfl rfl rfl rfl rfl rfl rfl (pz_cok_v rfl rfl pz_S2) K
theorem pz_g10_19 {a1 : Int} {a2 : Int} {t0 : Int}  (K : ((t0 = 0 → Q (.inr 1) (pz_hp n0 mi ml mr (c + 1) (s + 6))) ∧ (t0 ≠ 0 → pz_Rn d 4 (0, [], [(0, .inr (.inr (some 1))), (1, .inl 2), (2, .inl a1), (3, .inl a2)], pz_hp n0 mi ml mr c s, true) (pz_K (d + 1) 10 34 [] [] Q true)))) : pz_Rn (d + 1) 10 (19, [.inl t0], [(0, .inr (.inr (some 1))), (1, .inl a1), (2, .inl a2)], pz_hp n0 mi ml mr c s, true) Q := by
  refine pz_j1 [] (bif pz_cp .eq t0 0 then 26 else 22) rfl rfl rfl rfl rfl ?_
  refine pz_Rn_if pz_c1_eq pz_c0_eq ⟨fun b1 => ?_, fun b1 => ?_⟩
  · replace K := K.1 b1
    refine pz_j1 [.inl 0] 27 rfl rfl rfl rfl rfl ?_
    refine pz_i_thr (y := 0) rfl rfl rfl rfl rfl rfl rfl rfl rfl rfl (fun z => ?_) (fun _ => ?_)
    · cases z
    · exact K
  · replace K := K.2 b1
    refine pz_j1 [.inl 1] 23 rfl rfl rfl rfl rfl ?_
    refine pz_j1 [.inl 1] 27 rfl rfl rfl rfl rfl ?_
    refine pz_i_thr (y := 0) rfl rfl rfl rfl rfl rfl rfl rfl rfl rfl (fun _ => ?_) (fun z => ?_)
    · skip
      refine pz_j1 [.inr (.inr (some 1))] 31 rfl rfl rfl rfl rfl ?_
      refine pz_j1 [.inl 2, .inr (.inr (some 1))] 32 rfl rfl rfl rfl rfl ?_
      refine pz_j1 [.inl a1, .inl 2, .inr (.inr (some 1))] 33 rfl rfl rfl rfl rfl ?_
      refine pz_j1 [.inl a2, .inl a1, .inl 2, .inr (.inr (some 1))] 34 rfl rfl rfl rfl rfl ?_
      refine pz_Rn_sub (L := []) [] rfl rfl ?_
      exact pz_Rn_k (y := 3) rfl rfl rfl rfl rfl rfl rfl rfl (pz_cok_v rfl rfl pz_S1) K
    · cases z
theorem pz_g10_37 {t0 : Int}  (K : Q (.inl (some (.inl t0))) (pz_hp n0 mi ml mr c s)) : pz_Rn (d + 1) 10 (37, [.inl t0], [], pz_hp n0 mi ml mr c s, true) Q := by
  exact pz_Rn_ret rfl rfl rfl rfl K
-- 12 RelationStream$Goals.add(III)I
theorem pz_g12_0 {a1 : Int} {a2 : Int} {a3 : Int}  (K : ∀ x1 : Int, x1 = mi 6 6 → ((40 ≤ x1 → Q (.inl (some (.inl x1))) (pz_hp n0 mi ml mr c s)) ∧ (x1 < 40 → (0 ≤ x1 ∧ x1 < 40) ∧ (0 ≤ x1 ∧ x1 < 40) ∧ (0 ≤ x1 ∧ x1 < 40) ∧ (-2147483648 ≤ (mi 6 6) + 1 ∧ (mi 6 6) + 1 ≤ 2147483647) ∧ Q (.inl (some (.inl x1))) (pz_hp n0 (pz_up (pz_up (pz_up (pz_up mi 7 ((x1).toNat) a1) 8 ((x1).toNat) a2) 9 ((x1).toNat) a3) 6 6 ((mi 6 6) + 1)) ml mr c s)))) : pz_Rn d 12 (0, [], [(0, .inr (.inr (some 6))), (1, .inl a1), (2, .inl a2), (3, .inl a3)], pz_hp n0 mi ml mr c s, true) Q := by
  refine pz_j1 [.inr (.inr (some 6))] 1 rfl rfl rfl rfl rfl ?_
  refine pz_j1 [.inl (mi 6 6)] 4 rfl rfl rfl rfl (pz_a2 rfl pz_S6) ?_
  obtain ⟨x1, hx1⟩ : ∃ x : Int, x = mi 6 6 := ⟨_, rfl⟩
  rewrite [← hx1]
  replace K := K x1 hx1
  refine pz_j2 [] [(4, .inl x1), (0, .inr (.inr (some 6))), (1, .inl a1), (2, .inl a2), (3, .inl a3)] 6 rfl rfl rfl rfl rfl ?_
  refine pz_j1 [.inl x1] 8 rfl rfl rfl rfl rfl ?_
  refine pz_j1 [.inl 40, .inl x1] 10 rfl rfl rfl rfl rfl ?_
  refine pz_j1 [] (bif pz_cp .ge x1 40 then 47 else 13) rfl rfl rfl rfl rfl ?_
  refine pz_Rn_if pz_c1_ge pz_c0_ge ⟨fun b2 => ?_, fun b2 => ?_⟩
  · replace K := K.1 b2
    refine pz_j1 [.inl x1] 49 rfl rfl rfl rfl rfl ?_
    exact pz_Rn_ret rfl rfl rfl rfl K
  · replace K := K.2 b2
    refine pz_j1 [.inr (.inr (some 6))] 14 rfl rfl rfl rfl rfl ?_
    refine pz_j1 [.inr (.inr (some 7))] 17 rfl rfl rfl rfl (pz_a2 rfl pz_S6) ?_
    refine pz_j1 [.inl x1, .inr (.inr (some 7))] 19 rfl rfl rfl rfl rfl ?_
    refine pz_j1 [.inl a1, .inl x1, .inr (.inr (some 7))] 20 rfl rfl rfl rfl rfl ?_
    obtain ⟨k3, K⟩ := K
    refine pz_j3 [] [(4, .inl x1), (0, .inr (.inr (some 6))), (1, .inl a1), (2, .inl a2), (3, .inl a3)] (pz_hp n0 (pz_up mi 7 ((x1).toNat) a1) ml mr c s) 21 rfl rfl rfl rfl (pz_a2 rfl (pz_ok_ix pz_S7 k3)) ?_
    refine pz_j1 [.inr (.inr (some 6))] 22 rfl rfl rfl rfl rfl ?_
    refine pz_j1 [.inr (.inr (some 8))] 25 rfl rfl rfl rfl (pz_a2 rfl pz_S6) ?_
    refine pz_j1 [.inl x1, .inr (.inr (some 8))] 27 rfl rfl rfl rfl rfl ?_
    refine pz_j1 [.inl a2, .inl x1, .inr (.inr (some 8))] 28 rfl rfl rfl rfl rfl ?_
    obtain ⟨k4, K⟩ := K
    refine pz_j3 [] [(4, .inl x1), (0, .inr (.inr (some 6))), (1, .inl a1), (2, .inl a2), (3, .inl a3)] (pz_hp n0 (pz_up (pz_up mi 7 ((x1).toNat) a1) 8 ((x1).toNat) a2) ml mr c s) 29 rfl rfl rfl rfl (pz_a2 rfl (pz_ok_ix pz_S8 k4)) ?_
    refine pz_j1 [.inr (.inr (some 6))] 30 rfl rfl rfl rfl rfl ?_
    refine pz_j1 [.inr (.inr (some 9))] 33 rfl rfl rfl rfl (pz_a2 rfl pz_S6) ?_
    refine pz_j1 [.inl x1, .inr (.inr (some 9))] 35 rfl rfl rfl rfl rfl ?_
    refine pz_j1 [.inl a3, .inl x1, .inr (.inr (some 9))] 36 rfl rfl rfl rfl rfl ?_
    obtain ⟨k5, K⟩ := K
    refine pz_j3 [] [(4, .inl x1), (0, .inr (.inr (some 6))), (1, .inl a1), (2, .inl a2), (3, .inl a3)] (pz_hp n0 (pz_up (pz_up (pz_up mi 7 ((x1).toNat) a1) 8 ((x1).toNat) a2) 9 ((x1).toNat) a3) ml mr c s) 37 rfl rfl rfl rfl (pz_a2 rfl (pz_ok_ix pz_S9 k5)) ?_
    refine pz_j1 [.inr (.inr (some 6))] 38 rfl rfl rfl rfl rfl ?_
    refine pz_j1 [.inr (.inr (some 6)), .inr (.inr (some 6))] 39 rfl rfl rfl rfl rfl ?_
    refine pz_j1 [.inl (mi 6 6), .inr (.inr (some 6))] 42 rfl rfl rfl rfl (pz_a2 rfl pz_S6) ?_
    refine pz_j1 [.inl 1, .inl (mi 6 6), .inr (.inr (some 6))] 43 rfl rfl rfl rfl rfl ?_
    obtain ⟨k6, K⟩ := K
    refine pz_j1 [.inl ((mi 6 6) + 1), .inr (.inr (some 6))] 44 rfl rfl rfl rfl (pz_ok_in k6) ?_
    refine pz_j3 [] [(4, .inl x1), (0, .inr (.inr (some 6))), (1, .inl a1), (2, .inl a2), (3, .inl a3)] (pz_hp n0 (pz_up (pz_up (pz_up (pz_up mi 7 ((x1).toNat) a1) 8 ((x1).toNat) a2) 9 ((x1).toNat) a3) 6 6 ((mi 6 6) + 1)) ml mr c s) 47 rfl rfl rfl rfl (pz_a2 rfl (pz_a2 pz_S6 (pz_a2 rfl rfl))) ?_
    refine pz_j1 [.inl x1] 49 rfl rfl rfl rfl rfl ?_
    exact pz_Rn_ret rfl rfl rfl rfl K
-- 13 RelationStream.relate(ZII)I
theorem pz_g13_0 {a1 : Int} {a2 : Int} {a3 : Int}  (K : pz_Rn d 9 (0, [], [(0, .inr (.inr (some 2))), (1, .inl a2)], pz_hp n0 mi ml mr c s, true) (pz_K (d + 1) 13 5 [] [(0, .inr (.inr (some 1))), (1, .inl a1), (2, .inl a2), (3, .inl a3)] Q true)) : pz_Rn (d + 1) 13 (0, [], [(0, .inr (.inr (some 1))), (1, .inl a1), (2, .inl a2), (3, .inl a3)], pz_hp n0 mi ml mr c s, true) Q := by
  refine pz_j1 [.inr (.inr (some 1))] 1 rfl rfl rfl rfl rfl ?_
  refine pz_j1 [.inr (.inr (some 2))] 4 rfl rfl rfl rfl (pz_a2 rfl pz_S1) ?_
  refine pz_j1 [.inl a2, .inr (.inr (some 2))] 5 rfl rfl rfl rfl rfl ?_
  exact pz_Rn_k (y := 8) rfl rfl rfl rfl rfl rfl rfl rfl (pz_cok_v rfl rfl pz_S2) K
theorem pz_g13_8 {a1 : Int} {a2 : Int} {a3 : Int} {t0 : Int}  (K : ((t0 = 0 → Q (.inr 1) (pz_hp n0 mi ml mr (c + 1) (s + 6))) ∧ (t0 ≠ 0 → pz_Rn d 9 (0, [], [(0, .inr (.inr (some 2))), (1, .inl a3)], pz_hp n0 mi ml mr c s, true) (pz_K (d + 1) 13 16 [] [(0, .inr (.inr (some 1))), (1, .inl a1), (2, .inl a2), (3, .inl a3)] Q true)))) : pz_Rn (d + 1) 13 (8, [.inl t0], [(0, .inr (.inr (some 1))), (1, .inl a1), (2, .inl a2), (3, .inl a3)], pz_hp n0 mi ml mr c s, true) Q := by
  refine pz_j1 [] (bif pz_cp .eq t0 0 then 26 else 11) rfl rfl rfl rfl rfl ?_
  refine pz_Rn_if pz_c1_eq pz_c0_eq ⟨fun b1 => ?_, fun b1 => ?_⟩
  · replace K := K.1 b1
    refine pz_j1 [.inl 0] 27 rfl rfl rfl rfl rfl ?_
    refine pz_i_thr (y := 0) rfl rfl rfl rfl rfl rfl rfl rfl rfl rfl (fun z => ?_) (fun _ => ?_)
    · cases z
    · exact K
  · replace K := K.2 b1
    refine pz_j1 [.inr (.inr (some 1))] 12 rfl rfl rfl rfl rfl ?_
    refine pz_j1 [.inr (.inr (some 2))] 15 rfl rfl rfl rfl (pz_a2 rfl pz_S1) ?_
    refine pz_j1 [.inl a3, .inr (.inr (some 2))] 16 rfl rfl rfl rfl rfl ?_
    exact pz_Rn_k (y := 8) rfl rfl rfl rfl rfl rfl rfl rfl (pz_cok_v rfl rfl pz_S2) K
theorem pz_g13_19 {a1 : Int} {a2 : Int} {a3 : Int} {t0 : Int}  (K : ((t0 = 0 → Q (.inr 1) (pz_hp n0 mi ml mr (c + 1) (s + 6))) ∧ (t0 ≠ 0 → ((mi 6 6 < 40 → ((a1 = 0 → pz_Rn d 12 (0, [], [(0, .inr (.inr (some 6))), (1, .inl 1), (2, .inl a2), (3, .inl a3)], pz_hp n0 mi ml mr c s, true) (pz_K (d + 1) 13 65 [] [] Q true)) ∧ (a1 ≠ 0 → pz_Rn d 12 (0, [], [(0, .inr (.inr (some 6))), (1, .inl 0), (2, .inl a2), (3, .inl a3)], pz_hp n0 mi ml mr c s, true) (pz_K (d + 1) 13 65 [] [] Q true)))) ∧ (40 ≤ mi 6 6 → Q (.inr 2) (pz_hp n0 mi ml mr (c + 1) (s + 6))))))) : pz_Rn (d + 1) 13 (19, [.inl t0], [(0, .inr (.inr (some 1))), (1, .inl a1), (2, .inl a2), (3, .inl a3)], pz_hp n0 mi ml mr c s, true) Q := by
  refine pz_j1 [] (bif pz_cp .eq t0 0 then 26 else 22) rfl rfl rfl rfl rfl ?_
  refine pz_Rn_if pz_c1_eq pz_c0_eq ⟨fun b1 => ?_, fun b1 => ?_⟩
  · replace K := K.1 b1
    refine pz_j1 [.inl 0] 27 rfl rfl rfl rfl rfl ?_
    refine pz_i_thr (y := 0) rfl rfl rfl rfl rfl rfl rfl rfl rfl rfl (fun z => ?_) (fun _ => ?_)
    · cases z
    · exact K
  · replace K := K.2 b1
    refine pz_j1 [.inl 1] 23 rfl rfl rfl rfl rfl ?_
    refine pz_j1 [.inl 1] 27 rfl rfl rfl rfl rfl ?_
    refine pz_i_thr (y := 0) rfl rfl rfl rfl rfl rfl rfl rfl rfl rfl (fun _ => ?_) (fun z => ?_)
    · skip
      refine pz_j1 [.inr (.inr (some 1))] 31 rfl rfl rfl rfl rfl ?_
      refine pz_j1 [.inr (.inr (some 6))] 34 rfl rfl rfl rfl (pz_a2 rfl pz_S1) ?_
      refine pz_j1 [.inl (mi 6 6)] 37 rfl rfl rfl rfl (pz_a2 rfl pz_S6) ?_
      refine pz_j1 [.inl 40, .inl (mi 6 6)] 39 rfl rfl rfl rfl rfl ?_
      refine pz_j1 [] (bif pz_cp .lt (mi 6 6) 40 then 46 else 42) rfl rfl rfl rfl rfl ?_
      refine pz_Rn_if pz_c1_lt pz_c0_lt ⟨fun b2 => ?_, fun b2 => ?_⟩
      · replace K := K.1 b2
        refine pz_j1 [.inl 0] 47 rfl rfl rfl rfl rfl ?_
        refine pz_i_thr (y := 1) rfl rfl rfl rfl rfl rfl rfl rfl rfl rfl (fun _ => ?_) (fun z => ?_)
        · skip
          refine pz_j1 [.inr (.inr (some 1))] 51 rfl rfl rfl rfl rfl ?_
          refine pz_j1 [.inr (.inr (some 6))] 54 rfl rfl rfl rfl (pz_a2 rfl pz_S1) ?_
          refine pz_j1 [.inl a1, .inr (.inr (some 6))] 55 rfl rfl rfl rfl rfl ?_
          refine pz_j1 [.inr (.inr (some 6))] (bif pz_cp .eq a1 0 then 62 else 58) rfl rfl rfl rfl rfl ?_
          refine pz_Rn_if pz_c1_eq pz_c0_eq ⟨fun b3 => ?_, fun b3 => ?_⟩
          · replace K := K.1 b3
            refine pz_j1 [.inl 1, .inr (.inr (some 6))] 63 rfl rfl rfl rfl rfl ?_
            refine pz_j1 [.inl a2, .inl 1, .inr (.inr (some 6))] 64 rfl rfl rfl rfl rfl ?_
            refine pz_j1 [.inl a3, .inl a2, .inl 1, .inr (.inr (some 6))] 65 rfl rfl rfl rfl rfl ?_
            refine pz_Rn_sub (L := []) [] rfl rfl ?_
            exact pz_Rn_k (y := 11) rfl rfl rfl rfl rfl rfl rfl rfl (pz_cok_v rfl rfl pz_S6) K
          · replace K := K.2 b3
            refine pz_j1 [.inl 0, .inr (.inr (some 6))] 59 rfl rfl rfl rfl rfl ?_
            refine pz_j1 [.inl 0, .inr (.inr (some 6))] 63 rfl rfl rfl rfl rfl ?_
            refine pz_j1 [.inl a2, .inl 0, .inr (.inr (some 6))] 64 rfl rfl rfl rfl rfl ?_
            refine pz_j1 [.inl a3, .inl a2, .inl 0, .inr (.inr (some 6))] 65 rfl rfl rfl rfl rfl ?_
            refine pz_Rn_sub (L := []) [] rfl rfl ?_
            exact pz_Rn_k (y := 11) rfl rfl rfl rfl rfl rfl rfl rfl (pz_cok_v rfl rfl pz_S6) K
        · cases z
      · replace K := K.2 b2
        refine pz_j1 [.inl 1] 43 rfl rfl rfl rfl rfl ?_
        refine pz_j1 [.inl 1] 47 rfl rfl rfl rfl rfl ?_
        refine pz_i_thr (y := 1) rfl rfl rfl rfl rfl rfl rfl rfl rfl rfl (fun z => ?_) (fun _ => ?_)
        · cases z
        · exact K
    · cases z
theorem pz_g13_68 {t0 : Int}  (K : Q (.inl (some (.inl t0))) (pz_hp n0 mi ml mr c s)) : pz_Rn (d + 1) 13 (68, [.inl t0], [], pz_hp n0 mi ml mr c s, true) Q := by
  exact pz_Rn_ret rfl rfl rfl rfl K
-- 15 RelationStream$Goals.has(I)Z
theorem pz_g15_0 {a1 : Int}  (K : ((a1 < 0 → Q (.inl (some (.inl 0))) (pz_hp n0 mi ml mr c s)) ∧ (0 ≤ a1 → ((mi 6 6 ≤ a1 → Q (.inl (some (.inl 0))) (pz_hp n0 mi ml mr c s)) ∧ (a1 < mi 6 6 → Q (.inl (some (.inl 1))) (pz_hp n0 mi ml mr c s)))))) : pz_Rn d 15 (0, [], [(0, .inr (.inr (some 6))), (1, .inl a1)], pz_hp n0 mi ml mr c s, true) Q := by
  refine pz_j1 [.inl a1] 1 rfl rfl rfl rfl rfl ?_
  refine pz_j1 [] (bif pz_cp .lt a1 0 then 16 else 4) rfl rfl rfl rfl rfl ?_
  refine pz_Rn_if pz_c1_lt pz_c0_lt ⟨fun b1 => ?_, fun b1 => ?_⟩
  · replace K := K.1 b1
    refine pz_j1 [.inl 0] 17 rfl rfl rfl rfl rfl ?_
    exact pz_Rn_ret rfl rfl rfl rfl K
  · replace K := K.2 b1
    refine pz_j1 [.inl a1] 5 rfl rfl rfl rfl rfl ?_
    refine pz_j1 [.inr (.inr (some 6)), .inl a1] 6 rfl rfl rfl rfl rfl ?_
    refine pz_j1 [.inl (mi 6 6), .inl a1] 9 rfl rfl rfl rfl (pz_a2 rfl pz_S6) ?_
    refine pz_j1 [] (bif pz_cp .ge a1 (mi 6 6) then 16 else 12) rfl rfl rfl rfl rfl ?_
    refine pz_Rn_if pz_c1_ge pz_c0_ge ⟨fun b2 => ?_, fun b2 => ?_⟩
    · replace K := K.1 b2
      refine pz_j1 [.inl 0] 17 rfl rfl rfl rfl rfl ?_
      exact pz_Rn_ret rfl rfl rfl rfl K
    · replace K := K.2 b2
      refine pz_j1 [.inl 1] 13 rfl rfl rfl rfl rfl ?_
      refine pz_j1 [.inl 1] 17 rfl rfl rfl rfl rfl ?_
      exact pz_Rn_ret rfl rfl rfl rfl K
-- 16 RelationStream.combine(ZII)I
theorem pz_g16_0 {a1 : Int} {a2 : Int} {a3 : Int}  (K : pz_Rn d 15 (0, [], [(0, .inr (.inr (some 6))), (1, .inl a2)], pz_hp n0 mi ml mr c s, true) (pz_K (d + 1) 16 5 [] [(0, .inr (.inr (some 1))), (1, .inl a1), (2, .inl a2), (3, .inl a3)] Q true)) : pz_Rn (d + 1) 16 (0, [], [(0, .inr (.inr (some 1))), (1, .inl a1), (2, .inl a2), (3, .inl a3)], pz_hp n0 mi ml mr c s, true) Q := by
  refine pz_j1 [.inr (.inr (some 1))] 1 rfl rfl rfl rfl rfl ?_
  refine pz_j1 [.inr (.inr (some 6))] 4 rfl rfl rfl rfl (pz_a2 rfl pz_S1) ?_
  refine pz_j1 [.inl a2, .inr (.inr (some 6))] 5 rfl rfl rfl rfl rfl ?_
  exact pz_Rn_k (y := 14) rfl rfl rfl rfl rfl rfl rfl rfl (pz_cok_v rfl rfl pz_S6) K
theorem pz_g16_8 {a1 : Int} {a2 : Int} {a3 : Int} {t0 : Int}  (K : ((t0 = 0 → Q (.inr 1) (pz_hp n0 mi ml mr (c + 1) (s + 6))) ∧ (t0 ≠ 0 → pz_Rn d 15 (0, [], [(0, .inr (.inr (some 6))), (1, .inl a3)], pz_hp n0 mi ml mr c s, true) (pz_K (d + 1) 16 16 [] [(0, .inr (.inr (some 1))), (1, .inl a1), (2, .inl a2), (3, .inl a3)] Q true)))) : pz_Rn (d + 1) 16 (8, [.inl t0], [(0, .inr (.inr (some 1))), (1, .inl a1), (2, .inl a2), (3, .inl a3)], pz_hp n0 mi ml mr c s, true) Q := by
  refine pz_j1 [] (bif pz_cp .eq t0 0 then 26 else 11) rfl rfl rfl rfl rfl ?_
  refine pz_Rn_if pz_c1_eq pz_c0_eq ⟨fun b1 => ?_, fun b1 => ?_⟩
  · replace K := K.1 b1
    refine pz_j1 [.inl 0] 27 rfl rfl rfl rfl rfl ?_
    refine pz_i_thr (y := 0) rfl rfl rfl rfl rfl rfl rfl rfl rfl rfl (fun z => ?_) (fun _ => ?_)
    · cases z
    · exact K
  · replace K := K.2 b1
    refine pz_j1 [.inr (.inr (some 1))] 12 rfl rfl rfl rfl rfl ?_
    refine pz_j1 [.inr (.inr (some 6))] 15 rfl rfl rfl rfl (pz_a2 rfl pz_S1) ?_
    refine pz_j1 [.inl a3, .inr (.inr (some 6))] 16 rfl rfl rfl rfl rfl ?_
    exact pz_Rn_k (y := 14) rfl rfl rfl rfl rfl rfl rfl rfl (pz_cok_v rfl rfl pz_S6) K
theorem pz_g16_19 {a1 : Int} {a2 : Int} {a3 : Int} {t0 : Int}  (K : ((t0 = 0 → Q (.inr 1) (pz_hp n0 mi ml mr (c + 1) (s + 6))) ∧ (t0 ≠ 0 → ((mi 6 6 < 40 → ((a1 = 0 → pz_Rn d 12 (0, [], [(0, .inr (.inr (some 6))), (1, .inl 3), (2, .inl a2), (3, .inl a3)], pz_hp n0 mi ml mr c s, true) (pz_K (d + 1) 16 65 [] [] Q true)) ∧ (a1 ≠ 0 → pz_Rn d 12 (0, [], [(0, .inr (.inr (some 6))), (1, .inl 2), (2, .inl a2), (3, .inl a3)], pz_hp n0 mi ml mr c s, true) (pz_K (d + 1) 16 65 [] [] Q true)))) ∧ (40 ≤ mi 6 6 → Q (.inr 2) (pz_hp n0 mi ml mr (c + 1) (s + 6))))))) : pz_Rn (d + 1) 16 (19, [.inl t0], [(0, .inr (.inr (some 1))), (1, .inl a1), (2, .inl a2), (3, .inl a3)], pz_hp n0 mi ml mr c s, true) Q := by
  refine pz_j1 [] (bif pz_cp .eq t0 0 then 26 else 22) rfl rfl rfl rfl rfl ?_
  refine pz_Rn_if pz_c1_eq pz_c0_eq ⟨fun b1 => ?_, fun b1 => ?_⟩
  · replace K := K.1 b1
    refine pz_j1 [.inl 0] 27 rfl rfl rfl rfl rfl ?_
    refine pz_i_thr (y := 0) rfl rfl rfl rfl rfl rfl rfl rfl rfl rfl (fun z => ?_) (fun _ => ?_)
    · cases z
    · exact K
  · replace K := K.2 b1
    refine pz_j1 [.inl 1] 23 rfl rfl rfl rfl rfl ?_
    refine pz_j1 [.inl 1] 27 rfl rfl rfl rfl rfl ?_
    refine pz_i_thr (y := 0) rfl rfl rfl rfl rfl rfl rfl rfl rfl rfl (fun _ => ?_) (fun z => ?_)
    · skip
      refine pz_j1 [.inr (.inr (some 1))] 31 rfl rfl rfl rfl rfl ?_
      refine pz_j1 [.inr (.inr (some 6))] 34 rfl rfl rfl rfl (pz_a2 rfl pz_S1) ?_
      refine pz_j1 [.inl (mi 6 6)] 37 rfl rfl rfl rfl (pz_a2 rfl pz_S6) ?_
      refine pz_j1 [.inl 40, .inl (mi 6 6)] 39 rfl rfl rfl rfl rfl ?_
      refine pz_j1 [] (bif pz_cp .lt (mi 6 6) 40 then 46 else 42) rfl rfl rfl rfl rfl ?_
      refine pz_Rn_if pz_c1_lt pz_c0_lt ⟨fun b2 => ?_, fun b2 => ?_⟩
      · replace K := K.1 b2
        refine pz_j1 [.inl 0] 47 rfl rfl rfl rfl rfl ?_
        refine pz_i_thr (y := 1) rfl rfl rfl rfl rfl rfl rfl rfl rfl rfl (fun _ => ?_) (fun z => ?_)
        · skip
          refine pz_j1 [.inr (.inr (some 1))] 51 rfl rfl rfl rfl rfl ?_
          refine pz_j1 [.inr (.inr (some 6))] 54 rfl rfl rfl rfl (pz_a2 rfl pz_S1) ?_
          refine pz_j1 [.inl a1, .inr (.inr (some 6))] 55 rfl rfl rfl rfl rfl ?_
          refine pz_j1 [.inr (.inr (some 6))] (bif pz_cp .eq a1 0 then 62 else 58) rfl rfl rfl rfl rfl ?_
          refine pz_Rn_if pz_c1_eq pz_c0_eq ⟨fun b3 => ?_, fun b3 => ?_⟩
          · replace K := K.1 b3
            refine pz_j1 [.inl 3, .inr (.inr (some 6))] 63 rfl rfl rfl rfl rfl ?_
            refine pz_j1 [.inl a2, .inl 3, .inr (.inr (some 6))] 64 rfl rfl rfl rfl rfl ?_
            refine pz_j1 [.inl a3, .inl a2, .inl 3, .inr (.inr (some 6))] 65 rfl rfl rfl rfl rfl ?_
            refine pz_Rn_sub (L := []) [] rfl rfl ?_
            exact pz_Rn_k (y := 11) rfl rfl rfl rfl rfl rfl rfl rfl (pz_cok_v rfl rfl pz_S6) K
          · replace K := K.2 b3
            refine pz_j1 [.inl 2, .inr (.inr (some 6))] 59 rfl rfl rfl rfl rfl ?_
            refine pz_j1 [.inl 2, .inr (.inr (some 6))] 63 rfl rfl rfl rfl rfl ?_
            refine pz_j1 [.inl a2, .inl 2, .inr (.inr (some 6))] 64 rfl rfl rfl rfl rfl ?_
            refine pz_j1 [.inl a3, .inl a2, .inl 2, .inr (.inr (some 6))] 65 rfl rfl rfl rfl rfl ?_
            refine pz_Rn_sub (L := []) [] rfl rfl ?_
            exact pz_Rn_k (y := 11) rfl rfl rfl rfl rfl rfl rfl rfl (pz_cok_v rfl rfl pz_S6) K
        · cases z
      · replace K := K.2 b2
        refine pz_j1 [.inl 1] 43 rfl rfl rfl rfl rfl ?_
        refine pz_j1 [.inl 1] 47 rfl rfl rfl rfl rfl ?_
        refine pz_i_thr (y := 1) rfl rfl rfl rfl rfl rfl rfl rfl rfl rfl (fun z => ?_) (fun _ => ?_)
        · cases z
        · exact K
    · cases z
theorem pz_g16_68 {t0 : Int}  (K : Q (.inl (some (.inl t0))) (pz_hp n0 mi ml mr c s)) : pz_Rn (d + 1) 16 (68, [.inl t0], [], pz_hp n0 mi ml mr c s, true) Q := by
  exact pz_Rn_ret rfl rfl rfl rfl K
-- 18 RelationStream.isRelation(I)Z
theorem pz_g18_0 {a0 : Int}  (K : ((a0 < 0 → Q (.inl (some (.inl 0))) (pz_hp n0 mi ml mr c s)) ∧ (0 ≤ a0 → ((4 ≤ a0 → Q (.inl (some (.inl 0))) (pz_hp n0 mi ml mr c s)) ∧ (a0 < 4 → Q (.inl (some (.inl 1))) (pz_hp n0 mi ml mr c s)))))) : pz_Rn d 18 (0, [], [(0, .inl a0)], pz_hp n0 mi ml mr c s, true) Q := by
  refine pz_j1 [.inl a0] 1 rfl rfl rfl rfl rfl ?_
  refine pz_j1 [] (bif pz_cp .lt a0 0 then 13 else 4) rfl rfl rfl rfl rfl ?_
  refine pz_Rn_if pz_c1_lt pz_c0_lt ⟨fun b1 => ?_, fun b1 => ?_⟩
  · replace K := K.1 b1
    refine pz_j1 [.inl 0] 14 rfl rfl rfl rfl rfl ?_
    exact pz_Rn_ret rfl rfl rfl rfl K
  · replace K := K.2 b1
    refine pz_j1 [.inl a0] 5 rfl rfl rfl rfl rfl ?_
    refine pz_j1 [.inl 4, .inl a0] 6 rfl rfl rfl rfl rfl ?_
    refine pz_j1 [] (bif pz_cp .ge a0 4 then 13 else 9) rfl rfl rfl rfl rfl ?_
    refine pz_Rn_if pz_c1_ge pz_c0_ge ⟨fun b2 => ?_, fun b2 => ?_⟩
    · replace K := K.1 b2
      refine pz_j1 [.inl 0] 14 rfl rfl rfl rfl rfl ?_
      exact pz_Rn_ret rfl rfl rfl rfl K
    · replace K := K.2 b2
      refine pz_j1 [.inl 1] 10 rfl rfl rfl rfl rfl ?_
      refine pz_j1 [.inl 1] 14 rfl rfl rfl rfl rfl ?_
      exact pz_Rn_ret rfl rfl rfl rfl K
-- 19 RelationStream$Goals.addCall(IIII)I
theorem pz_g19_0 {a1 : Int} {a2 : Int} {a3 : Int} {a4 : Int}  (K : pz_Rn d 12 (0, [], [(0, .inr (.inr (some 6))), (1, .inl 4), (2, .inl a2), (3, .inl a3)], pz_hp n0 mi ml mr c s, true) (pz_K (d + 1) 19 4 [] [(0, .inr (.inr (some 6))), (1, .inl a1), (4, .inl a4)] Q true)) : pz_Rn (d + 1) 19 (0, [], [(0, .inr (.inr (some 6))), (1, .inl a1), (2, .inl a2), (3, .inl a3), (4, .inl a4)], pz_hp n0 mi ml mr c s, true) Q := by
  refine pz_j1 [.inr (.inr (some 6))] 1 rfl rfl rfl rfl rfl ?_
  refine pz_j1 [.inl 4, .inr (.inr (some 6))] 2 rfl rfl rfl rfl rfl ?_
  refine pz_j1 [.inl a2, .inl 4, .inr (.inr (some 6))] 3 rfl rfl rfl rfl rfl ?_
  refine pz_j1 [.inl a3, .inl a2, .inl 4, .inr (.inr (some 6))] 4 rfl rfl rfl rfl rfl ?_
  refine pz_Rn_sub (L := [(0, .inr (.inr (some 6))), (1, .inl a1), (4, .inl a4)]) [0, 1, 4] rfl rfl ?_
  exact pz_Rn_k (y := 11) rfl rfl rfl rfl rfl rfl rfl rfl (pz_cok_v rfl rfl pz_S6) K
theorem pz_g19_7 {a1 : Int} {a4 : Int} {t0 : Int}  (K : pz_Rn d 15 (0, [], [(0, .inr (.inr (some 6))), (1, .inl t0)], pz_hp n0 mi ml mr c s, true) (pz_K (d + 1) 19 12 [] [(0, .inr (.inr (some 6))), (1, .inl a1), (4, .inl a4), (5, .inl t0)] Q true)) : pz_Rn (d + 1) 19 (7, [.inl t0], [(0, .inr (.inr (some 6))), (1, .inl a1), (4, .inl a4)], pz_hp n0 mi ml mr c s, true) Q := by
  refine pz_j2 [] [(5, .inl t0), (0, .inr (.inr (some 6))), (1, .inl a1), (4, .inl a4)] 9 rfl rfl rfl rfl rfl ?_
  refine pz_j1 [.inr (.inr (some 6))] 10 rfl rfl rfl rfl rfl ?_
  refine pz_j1 [.inl t0, .inr (.inr (some 6))] 12 rfl rfl rfl rfl rfl ?_
  refine pz_Rn_sub (L := [(0, .inr (.inr (some 6))), (1, .inl a1), (4, .inl a4), (5, .inl t0)]) [1, 2, 3, 0] rfl rfl ?_
  exact pz_Rn_k (y := 14) rfl rfl rfl rfl rfl rfl rfl rfl (pz_cok_v rfl rfl pz_S6) K
theorem pz_g19_15 {a1 : Int} {a4 : Int} {a5 : Int} {t0 : Int}  (K : ((t0 = 0 → Q (.inl (some (.inl a5))) (pz_hp n0 mi ml mr c s)) ∧ (t0 ≠ 0 → (0 ≤ a5 ∧ a5 < 40) ∧ (0 ≤ a5 ∧ a5 < 40) ∧ Q (.inl (some (.inl a5))) (pz_hp n0 (pz_up (pz_up mi 10 ((a5).toNat) a4) 11 ((a5).toNat) a1) ml mr c s)))) : pz_Rn (d + 1) 19 (15, [.inl t0], [(0, .inr (.inr (some 6))), (1, .inl a1), (4, .inl a4), (5, .inl a5)], pz_hp n0 mi ml mr c s, true) Q := by
  refine pz_j1 [] (bif pz_cp .eq t0 0 then 35 else 18) rfl rfl rfl rfl rfl ?_
  refine pz_Rn_if pz_c1_eq pz_c0_eq ⟨fun b1 => ?_, fun b1 => ?_⟩
  · replace K := K.1 b1
    refine pz_j1 [.inl a5] 37 rfl rfl rfl rfl rfl ?_
    exact pz_Rn_ret rfl rfl rfl rfl K
  · replace K := K.2 b1
    refine pz_j1 [.inr (.inr (some 6))] 19 rfl rfl rfl rfl rfl ?_
    refine pz_j1 [.inr (.inr (some 10))] 22 rfl rfl rfl rfl (pz_a2 rfl pz_S6) ?_
    refine pz_j1 [.inl a5, .inr (.inr (some 10))] 24 rfl rfl rfl rfl rfl ?_
    refine pz_j1 [.inl a4, .inl a5, .inr (.inr (some 10))] 26 rfl rfl rfl rfl rfl ?_
    obtain ⟨k2, K⟩ := K
    refine pz_j3 [] [(0, .inr (.inr (some 6))), (1, .inl a1), (4, .inl a4), (5, .inl a5)] (pz_hp n0 (pz_up mi 10 ((a5).toNat) a4) ml mr c s) 27 rfl rfl rfl rfl (pz_a2 rfl (pz_ok_ix pz_S10 k2)) ?_
    refine pz_j1 [.inr (.inr (some 6))] 28 rfl rfl rfl rfl rfl ?_
    refine pz_j1 [.inr (.inr (some 11))] 31 rfl rfl rfl rfl (pz_a2 rfl pz_S6) ?_
    refine pz_j1 [.inl a5, .inr (.inr (some 11))] 33 rfl rfl rfl rfl rfl ?_
    refine pz_j1 [.inl a1, .inl a5, .inr (.inr (some 11))] 34 rfl rfl rfl rfl rfl ?_
    obtain ⟨k3, K⟩ := K
    refine pz_j3 [] [(0, .inr (.inr (some 6))), (1, .inl a1), (4, .inl a4), (5, .inl a5)] (pz_hp n0 (pz_up (pz_up mi 10 ((a5).toNat) a4) 11 ((a5).toNat) a1) ml mr c s) 35 rfl rfl rfl rfl (pz_a2 rfl (pz_ok_ix pz_S11 k3)) ?_
    refine pz_j1 [.inl a5] 37 rfl rfl rfl rfl rfl ?_
    exact pz_Rn_ret rfl rfl rfl rfl K
-- 20 RelationStream.call(IIII)I
theorem pz_g20_0 {a1 : Int} {a2 : Int} {a3 : Int} {a4 : Int}  (K : pz_Rn d 18 (0, [], [(0, .inl a1)], pz_hp n0 mi ml mr c s, true) (pz_K (d + 1) 20 1 [] [(0, .inr (.inr (some 1))), (1, .inl a1), (2, .inl a2), (3, .inl a3), (4, .inl a4)] Q true)) : pz_Rn (d + 1) 20 (0, [], [(0, .inr (.inr (some 1))), (1, .inl a1), (2, .inl a2), (3, .inl a3), (4, .inl a4)], pz_hp n0 mi ml mr c s, true) Q := by
  refine pz_j1 [.inl a1] 1 rfl rfl rfl rfl rfl ?_
  exact pz_Rn_k (y := 17) rfl rfl rfl rfl rfl rfl rfl rfl rfl K
theorem pz_g20_4 {a1 : Int} {a2 : Int} {a3 : Int} {a4 : Int} {t0 : Int}  (K : ((t0 = 0 → Q (.inr 1) (pz_hp n0 mi ml mr (c + 1) (s + 6))) ∧ (t0 ≠ 0 → pz_Rn d 9 (0, [], [(0, .inr (.inr (some 2))), (1, .inl a2)], pz_hp n0 mi ml mr c s, true) (pz_K (d + 1) 20 12 [] [(0, .inr (.inr (some 1))), (1, .inl a1), (2, .inl a2), (3, .inl a3), (4, .inl a4)] Q true)))) : pz_Rn (d + 1) 20 (4, [.inl t0], [(0, .inr (.inr (some 1))), (1, .inl a1), (2, .inl a2), (3, .inl a3), (4, .inl a4)], pz_hp n0 mi ml mr c s, true) Q := by
  refine pz_j1 [] (bif pz_cp .eq t0 0 then 45 else 7) rfl rfl rfl rfl rfl ?_
  refine pz_Rn_if pz_c1_eq pz_c0_eq ⟨fun b1 => ?_, fun b1 => ?_⟩
  · replace K := K.1 b1
    refine pz_j1 [.inl 0] 46 rfl rfl rfl rfl rfl ?_
    refine pz_i_thr (y := 0) rfl rfl rfl rfl rfl rfl rfl rfl rfl rfl (fun z => ?_) (fun _ => ?_)
    · cases z
    · exact K
  · replace K := K.2 b1
    refine pz_j1 [.inr (.inr (some 1))] 8 rfl rfl rfl rfl rfl ?_
    refine pz_j1 [.inr (.inr (some 2))] 11 rfl rfl rfl rfl (pz_a2 rfl pz_S1) ?_
    refine pz_j1 [.inl a2, .inr (.inr (some 2))] 12 rfl rfl rfl rfl rfl ?_
    exact pz_Rn_k (y := 8) rfl rfl rfl rfl rfl rfl rfl rfl (pz_cok_v rfl rfl pz_S2) K
theorem pz_g20_15 {a1 : Int} {a2 : Int} {a3 : Int} {a4 : Int} {t0 : Int}  (K : ((t0 = 0 → Q (.inr 1) (pz_hp n0 mi ml mr (c + 1) (s + 6))) ∧ (t0 ≠ 0 → pz_Rn d 9 (0, [], [(0, .inr (.inr (some 2))), (1, .inl a3)], pz_hp n0 mi ml mr c s, true) (pz_K (d + 1) 20 23 [] [(0, .inr (.inr (some 1))), (1, .inl a1), (2, .inl a2), (3, .inl a3), (4, .inl a4)] Q true)))) : pz_Rn (d + 1) 20 (15, [.inl t0], [(0, .inr (.inr (some 1))), (1, .inl a1), (2, .inl a2), (3, .inl a3), (4, .inl a4)], pz_hp n0 mi ml mr c s, true) Q := by
  refine pz_j1 [] (bif pz_cp .eq t0 0 then 45 else 18) rfl rfl rfl rfl rfl ?_
  refine pz_Rn_if pz_c1_eq pz_c0_eq ⟨fun b1 => ?_, fun b1 => ?_⟩
  · replace K := K.1 b1
    refine pz_j1 [.inl 0] 46 rfl rfl rfl rfl rfl ?_
    refine pz_i_thr (y := 0) rfl rfl rfl rfl rfl rfl rfl rfl rfl rfl (fun z => ?_) (fun _ => ?_)
    · cases z
    · exact K
  · replace K := K.2 b1
    refine pz_j1 [.inr (.inr (some 1))] 19 rfl rfl rfl rfl rfl ?_
    refine pz_j1 [.inr (.inr (some 2))] 22 rfl rfl rfl rfl (pz_a2 rfl pz_S1) ?_
    refine pz_j1 [.inl a3, .inr (.inr (some 2))] 23 rfl rfl rfl rfl rfl ?_
    exact pz_Rn_k (y := 8) rfl rfl rfl rfl rfl rfl rfl rfl (pz_cok_v rfl rfl pz_S2) K
theorem pz_g20_26 {a1 : Int} {a2 : Int} {a3 : Int} {a4 : Int} {t0 : Int}  (K : ((t0 = 0 → Q (.inr 1) (pz_hp n0 mi ml mr (c + 1) (s + 6))) ∧ (t0 ≠ 0 → pz_Rn d 9 (0, [], [(0, .inr (.inr (some 2))), (1, .inl a4)], pz_hp n0 mi ml mr c s, true) (pz_K (d + 1) 20 35 [] [(0, .inr (.inr (some 1))), (1, .inl a1), (2, .inl a2), (3, .inl a3), (4, .inl a4)] Q true)))) : pz_Rn (d + 1) 20 (26, [.inl t0], [(0, .inr (.inr (some 1))), (1, .inl a1), (2, .inl a2), (3, .inl a3), (4, .inl a4)], pz_hp n0 mi ml mr c s, true) Q := by
  refine pz_j1 [] (bif pz_cp .eq t0 0 then 45 else 29) rfl rfl rfl rfl rfl ?_
  refine pz_Rn_if pz_c1_eq pz_c0_eq ⟨fun b1 => ?_, fun b1 => ?_⟩
  · replace K := K.1 b1
    refine pz_j1 [.inl 0] 46 rfl rfl rfl rfl rfl ?_
    refine pz_i_thr (y := 0) rfl rfl rfl rfl rfl rfl rfl rfl rfl rfl (fun z => ?_) (fun _ => ?_)
    · cases z
    · exact K
  · replace K := K.2 b1
    refine pz_j1 [.inr (.inr (some 1))] 30 rfl rfl rfl rfl rfl ?_
    refine pz_j1 [.inr (.inr (some 2))] 33 rfl rfl rfl rfl (pz_a2 rfl pz_S1) ?_
    refine pz_j1 [.inl a4, .inr (.inr (some 2))] 35 rfl rfl rfl rfl rfl ?_
    exact pz_Rn_k (y := 8) rfl rfl rfl rfl rfl rfl rfl rfl (pz_cok_v rfl rfl pz_S2) K
theorem pz_g20_38 {a1 : Int} {a2 : Int} {a3 : Int} {a4 : Int} {t0 : Int}  (K : ((t0 = 0 → Q (.inr 1) (pz_hp n0 mi ml mr (c + 1) (s + 6))) ∧ (t0 ≠ 0 → ((mi 6 6 < 40 → pz_Rn d 19 (0, [], [(0, .inr (.inr (some 6))), (1, .inl a1), (2, .inl a2), (3, .inl a3), (4, .inl a4)], pz_hp n0 mi ml mr c s, true) (pz_K (d + 1) 20 78 [] [] Q true)) ∧ (40 ≤ mi 6 6 → Q (.inr 2) (pz_hp n0 mi ml mr (c + 1) (s + 6))))))) : pz_Rn (d + 1) 20 (38, [.inl t0], [(0, .inr (.inr (some 1))), (1, .inl a1), (2, .inl a2), (3, .inl a3), (4, .inl a4)], pz_hp n0 mi ml mr c s, true) Q := by
  refine pz_j1 [] (bif pz_cp .eq t0 0 then 45 else 41) rfl rfl rfl rfl rfl ?_
  refine pz_Rn_if pz_c1_eq pz_c0_eq ⟨fun b1 => ?_, fun b1 => ?_⟩
  · replace K := K.1 b1
    refine pz_j1 [.inl 0] 46 rfl rfl rfl rfl rfl ?_
    refine pz_i_thr (y := 0) rfl rfl rfl rfl rfl rfl rfl rfl rfl rfl (fun z => ?_) (fun _ => ?_)
    · cases z
    · exact K
  · replace K := K.2 b1
    refine pz_j1 [.inl 1] 42 rfl rfl rfl rfl rfl ?_
    refine pz_j1 [.inl 1] 46 rfl rfl rfl rfl rfl ?_
    refine pz_i_thr (y := 0) rfl rfl rfl rfl rfl rfl rfl rfl rfl rfl (fun _ => ?_) (fun z => ?_)
    · skip
      refine pz_j1 [.inr (.inr (some 1))] 50 rfl rfl rfl rfl rfl ?_
      refine pz_j1 [.inr (.inr (some 6))] 53 rfl rfl rfl rfl (pz_a2 rfl pz_S1) ?_
      refine pz_j1 [.inl (mi 6 6)] 56 rfl rfl rfl rfl (pz_a2 rfl pz_S6) ?_
      refine pz_j1 [.inl 40, .inl (mi 6 6)] 58 rfl rfl rfl rfl rfl ?_
      refine pz_j1 [] (bif pz_cp .lt (mi 6 6) 40 then 65 else 61) rfl rfl rfl rfl rfl ?_
      refine pz_Rn_if pz_c1_lt pz_c0_lt ⟨fun b2 => ?_, fun b2 => ?_⟩
      · replace K := K.1 b2
        refine pz_j1 [.inl 0] 66 rfl rfl rfl rfl rfl ?_
        refine pz_i_thr (y := 1) rfl rfl rfl rfl rfl rfl rfl rfl rfl rfl (fun _ => ?_) (fun z => ?_)
        · skip
          refine pz_j1 [.inr (.inr (some 1))] 70 rfl rfl rfl rfl rfl ?_
          refine pz_j1 [.inr (.inr (some 6))] 73 rfl rfl rfl rfl (pz_a2 rfl pz_S1) ?_
          refine pz_j1 [.inl a1, .inr (.inr (some 6))] 74 rfl rfl rfl rfl rfl ?_
          refine pz_j1 [.inl a2, .inl a1, .inr (.inr (some 6))] 75 rfl rfl rfl rfl rfl ?_
          refine pz_j1 [.inl a3, .inl a2, .inl a1, .inr (.inr (some 6))] 76 rfl rfl rfl rfl rfl ?_
          refine pz_j1 [.inl a4, .inl a3, .inl a2, .inl a1, .inr (.inr (some 6))] 78 rfl rfl rfl rfl rfl ?_
          refine pz_Rn_sub (L := []) [] rfl rfl ?_
          exact pz_Rn_k (y := 18) rfl rfl rfl rfl rfl rfl rfl rfl (pz_cok_v rfl rfl pz_S6) K
        · cases z
      · replace K := K.2 b2
        refine pz_j1 [.inl 1] 62 rfl rfl rfl rfl rfl ?_
        refine pz_j1 [.inl 1] 66 rfl rfl rfl rfl rfl ?_
        refine pz_i_thr (y := 1) rfl rfl rfl rfl rfl rfl rfl rfl rfl rfl (fun z => ?_) (fun _ => ?_)
        · cases z
        · exact K
    · cases z
theorem pz_g20_81 {t0 : Int}  (K : Q (.inl (some (.inl t0))) (pz_hp n0 mi ml mr c s)) : pz_Rn (d + 1) 20 (81, [.inl t0], [], pz_hp n0 mi ml mr c s, true) Q := by
  exact pz_Rn_ret rfl rfl rfl rfl K
-- 22 RelationStream.define(II)V
theorem pz_g22_0 {a1 : Int} {a2 : Int}  (K : pz_Rn d 18 (0, [], [(0, .inl a1)], pz_hp n0 mi ml mr c s, true) (pz_K (d + 1) 22 1 [] [(0, .inr (.inr (some 1))), (1, .inl a1), (2, .inl a2)] Q true)) : pz_Rn (d + 1) 22 (0, [], [(0, .inr (.inr (some 1))), (1, .inl a1), (2, .inl a2)], pz_hp n0 mi ml mr c s, true) Q := by
  refine pz_j1 [.inl a1] 1 rfl rfl rfl rfl rfl ?_
  exact pz_Rn_k (y := 17) rfl rfl rfl rfl rfl rfl rfl rfl rfl K
theorem pz_g22_4 {a1 : Int} {a2 : Int} {t0 : Int}  (K : ((t0 = 0 → Q (.inr 1) (pz_hp n0 mi ml mr (c + 1) (s + 6))) ∧ (t0 ≠ 0 → ((a2 = (-1) → (0 ≤ a1 ∧ a1 < 4) ∧ Q (.inl none) (pz_hp n0 (pz_up mi 12 ((a1).toNat) a2) ml mr c s)) ∧ (a2 ≠ (-1) → pz_Rn d 15 (0, [], [(0, .inr (.inr (some 6))), (1, .inl a2)], pz_hp n0 mi ml mr c s, true) (pz_K (d + 1) 22 17 [] [(0, .inr (.inr (some 1))), (1, .inl a1), (2, .inl a2)] Q true)))))) : pz_Rn (d + 1) 22 (4, [.inl t0], [(0, .inr (.inr (some 1))), (1, .inl a1), (2, .inl a2)], pz_hp n0 mi ml mr c s, true) Q := by
  refine pz_j1 [] (bif pz_cp .eq t0 0 then 27 else 7) rfl rfl rfl rfl rfl ?_
  refine pz_Rn_if pz_c1_eq pz_c0_eq ⟨fun b1 => ?_, fun b1 => ?_⟩
  · replace K := K.1 b1
    refine pz_j1 [.inl 0] 28 rfl rfl rfl rfl rfl ?_
    refine pz_i_thr (y := 0) rfl rfl rfl rfl rfl rfl rfl rfl rfl rfl (fun z => ?_) (fun _ => ?_)
    · cases z
    · exact K
  · replace K := K.2 b1
    refine pz_j1 [.inl a2] 8 rfl rfl rfl rfl rfl ?_
    refine pz_j1 [.inl (-1), .inl a2] 9 rfl rfl rfl rfl rfl ?_
    refine pz_j1 [] (bif pz_cp .eq a2 (-1) then 23 else 12) rfl rfl rfl rfl rfl ?_
    refine pz_Rn_if pz_c1_eq pz_c0_eq ⟨fun b2 => ?_, fun b2 => ?_⟩
    · replace K := K.1 b2
      refine pz_j1 [.inl 1] 24 rfl rfl rfl rfl rfl ?_
      refine pz_j1 [.inl 1] 28 rfl rfl rfl rfl rfl ?_
      refine pz_i_thr (y := 0) rfl rfl rfl rfl rfl rfl rfl rfl rfl rfl (fun _ => ?_) (fun z => ?_)
      · skip
        refine pz_j1 [.inr (.inr (some 1))] 32 rfl rfl rfl rfl rfl ?_
        refine pz_j1 [.inr (.inr (some 6))] 35 rfl rfl rfl rfl (pz_a2 rfl pz_S1) ?_
        refine pz_j1 [.inr (.inr (some 12))] 38 rfl rfl rfl rfl (pz_a2 rfl pz_S6) ?_
        refine pz_j1 [.inl a1, .inr (.inr (some 12))] 39 rfl rfl rfl rfl rfl ?_
        refine pz_j1 [.inl a2, .inl a1, .inr (.inr (some 12))] 40 rfl rfl rfl rfl rfl ?_
        obtain ⟨k3, K⟩ := K
        refine pz_j3 [] [(0, .inr (.inr (some 1))), (1, .inl a1), (2, .inl a2)] (pz_hp n0 (pz_up mi 12 ((a1).toNat) a2) ml mr c s) 41 rfl rfl rfl rfl (pz_a2 rfl (pz_ok_ix pz_S12 k3)) ?_
        exact pz_Rn_ret rfl rfl rfl rfl K
      · cases z
    · replace K := K.2 b2
      refine pz_j1 [.inr (.inr (some 1))] 13 rfl rfl rfl rfl rfl ?_
      refine pz_j1 [.inr (.inr (some 6))] 16 rfl rfl rfl rfl (pz_a2 rfl pz_S1) ?_
      refine pz_j1 [.inl a2, .inr (.inr (some 6))] 17 rfl rfl rfl rfl rfl ?_
      exact pz_Rn_k (y := 14) rfl rfl rfl rfl rfl rfl rfl rfl (pz_cok_v rfl rfl pz_S6) K
theorem pz_g22_20 {a1 : Int} {a2 : Int} {t0 : Int}  (K : ((t0 = 0 → Q (.inr 1) (pz_hp n0 mi ml mr (c + 1) (s + 6))) ∧ (t0 ≠ 0 → (0 ≤ a1 ∧ a1 < 4) ∧ Q (.inl none) (pz_hp n0 (pz_up mi 12 ((a1).toNat) a2) ml mr c s)))) : pz_Rn (d + 1) 22 (20, [.inl t0], [(0, .inr (.inr (some 1))), (1, .inl a1), (2, .inl a2)], pz_hp n0 mi ml mr c s, true) Q := by
  refine pz_j1 [] (bif pz_cp .eq t0 0 then 27 else 23) rfl rfl rfl rfl rfl ?_
  refine pz_Rn_if pz_c1_eq pz_c0_eq ⟨fun b1 => ?_, fun b1 => ?_⟩
  · replace K := K.1 b1
    refine pz_j1 [.inl 0] 28 rfl rfl rfl rfl rfl ?_
    refine pz_i_thr (y := 0) rfl rfl rfl rfl rfl rfl rfl rfl rfl rfl (fun z => ?_) (fun _ => ?_)
    · cases z
    · exact K
  · replace K := K.2 b1
    refine pz_j1 [.inl 1] 24 rfl rfl rfl rfl rfl ?_
    refine pz_j1 [.inl 1] 28 rfl rfl rfl rfl rfl ?_
    refine pz_i_thr (y := 0) rfl rfl rfl rfl rfl rfl rfl rfl rfl rfl (fun _ => ?_) (fun z => ?_)
    · skip
      refine pz_j1 [.inr (.inr (some 1))] 32 rfl rfl rfl rfl rfl ?_
      refine pz_j1 [.inr (.inr (some 6))] 35 rfl rfl rfl rfl (pz_a2 rfl pz_S1) ?_
      refine pz_j1 [.inr (.inr (some 12))] 38 rfl rfl rfl rfl (pz_a2 rfl pz_S6) ?_
      refine pz_j1 [.inl a1, .inr (.inr (some 12))] 39 rfl rfl rfl rfl rfl ?_
      refine pz_j1 [.inl a2, .inl a1, .inr (.inr (some 12))] 40 rfl rfl rfl rfl rfl ?_
      obtain ⟨k2, K⟩ := K
      refine pz_j3 [] [(0, .inr (.inr (some 1))), (1, .inl a1), (2, .inl a2)] (pz_hp n0 (pz_up mi 12 ((a1).toNat) a2) ml mr c s) 41 rfl rfl rfl rfl (pz_a2 rfl (pz_ok_ix pz_S12 k2)) ?_
      exact pz_Rn_ret rfl rfl rfl rfl K
    · cases z
-- 24 RelationStream$Bindings.clear()V
theorem pz_g24_0   (K : Q (.inl none) (pz_hp n0 (pz_up (pz_up mi 150 5 0) 150 6 (-1)) ml mr c s)) : pz_Rn d 24 (0, [], [(0, .inr (.inr (some 150)))], pz_hp n0 mi ml mr c s, true) Q := by
  refine pz_j1 [.inr (.inr (some 150))] 1 rfl rfl rfl rfl rfl ?_
  refine pz_j1 [.inl 0, .inr (.inr (some 150))] 2 rfl rfl rfl rfl rfl ?_
  refine pz_j3 [] [(0, .inr (.inr (some 150)))] (pz_hp n0 (pz_up mi 150 5 0) ml mr c s) 5 rfl rfl rfl rfl (pz_a2 rfl (pz_a2 pz_S150 (pz_a2 rfl rfl))) ?_
  refine pz_j1 [.inr (.inr (some 150))] 6 rfl rfl rfl rfl rfl ?_
  refine pz_j1 [.inl (-1), .inr (.inr (some 150))] 7 rfl rfl rfl rfl rfl ?_
  refine pz_j3 [] [(0, .inr (.inr (some 150)))] (pz_hp n0 (pz_up (pz_up mi 150 5 0) 150 6 (-1)) ml mr c s) 10 rfl rfl rfl rfl (pz_a2 rfl (pz_a2 pz_S150 (pz_a2 rfl rfl))) ?_
  exact pz_Rn_ret rfl rfl rfl rfl K
-- 25 java/util/Arrays.fill([II)V
theorem pz_g25x16_0 {a1 : Int}  (K : pz_Rn d 25 (5, [], [(0, .inr (.inr (some 16))), (1, .inl a1), (2, .inl 0), (3, .inl 4)], pz_hp n0 mi ml mr c s, true) Q) : pz_Rn d 25 (0, [], [(0, .inr (.inr (some 16))), (1, .inl a1)], pz_hp n0 mi ml mr c s, true) Q := by
  refine pz_j1 [.inl 0] 1 rfl rfl rfl rfl rfl ?_
  refine pz_j2 [] [(2, .inl 0), (0, .inr (.inr (some 16))), (1, .inl a1)] 2 rfl rfl rfl rfl rfl ?_
  refine pz_j1 [.inr (.inr (some 16))] 3 rfl rfl rfl rfl rfl ?_
  refine pz_j1 [.inl 4] 4 rfl rfl rfl rfl rfl ?_
  refine pz_j2 [] [(3, .inl 4), (2, .inl 0), (0, .inr (.inr (some 16))), (1, .inl a1)] 5 rfl rfl rfl rfl rfl ?_
  refine pz_Rn_sub (L := [(0, .inr (.inr (some 16))), (1, .inl a1), (2, .inl 0), (3, .inl 4)]) [2, 3, 1, 0] rfl rfl ?_
  exact K
theorem pz_g25x16_5 {a1 : Int} {a2 : Int} {a3 : Int}  (K : ((a3 ≤ a2 → Q (.inl none) (pz_hp n0 mi ml mr c s)) ∧ (a2 < a3 → (0 ≤ a2 ∧ a2 < 4) ∧ (-2147483648 ≤ a2 + 1 ∧ a2 + 1 ≤ 2147483647) ∧ pz_Rn d 25 (5, [], [(0, .inr (.inr (some 16))), (1, .inl a1), (2, .inl (a2 + 1)), (3, .inl a3)], pz_hp n0 (pz_up mi 16 ((a2).toNat) a1) ml mr c s, true) Q))) : pz_Rn d 25 (5, [], [(0, .inr (.inr (some 16))), (1, .inl a1), (2, .inl a2), (3, .inl a3)], pz_hp n0 mi ml mr c s, true) Q := by
  refine pz_j1 [.inl a2] 6 rfl rfl rfl rfl rfl ?_
  refine pz_j1 [.inl a3, .inl a2] 7 rfl rfl rfl rfl rfl ?_
  refine pz_j1 [] (bif pz_cp .ge a2 a3 then 20 else 10) rfl rfl rfl rfl rfl ?_
  refine pz_Rn_if pz_c1_ge pz_c0_ge ⟨fun b1 => ?_, fun b1 => ?_⟩
  · replace K := K.1 b1
    exact pz_Rn_ret rfl rfl rfl rfl K
  · replace K := K.2 b1
    refine pz_j1 [.inr (.inr (some 16))] 11 rfl rfl rfl rfl rfl ?_
    refine pz_j1 [.inl a2, .inr (.inr (some 16))] 12 rfl rfl rfl rfl rfl ?_
    refine pz_j1 [.inl a1, .inl a2, .inr (.inr (some 16))] 13 rfl rfl rfl rfl rfl ?_
    obtain ⟨k2, K⟩ := K
    refine pz_j3 [] [(0, .inr (.inr (some 16))), (1, .inl a1), (2, .inl a2), (3, .inl a3)] (pz_hp n0 (pz_up mi 16 ((a2).toNat) a1) ml mr c s) 14 rfl rfl rfl rfl (pz_a2 rfl (pz_ok_ix pz_S16 k2)) ?_
    obtain ⟨k3, K⟩ := K
    refine pz_j2 [] [(2, .inl (a2 + 1)), (0, .inr (.inr (some 16))), (1, .inl a1), (3, .inl a3)] 17 rfl rfl rfl rfl (pz_a2 (pz_ok_in k3) rfl) ?_
    refine pz_j1 [] 5 rfl rfl rfl rfl rfl ?_
    refine pz_Rn_sub (L := [(0, .inr (.inr (some 16))), (1, .inl a1), (2, .inl (a2 + 1)), (3, .inl a3)]) [1, 2, 0, 3] rfl rfl ?_
    exact K
-- 25 java/util/Arrays.fill([II)V
theorem pz_g25x154_0 {a1 : Int}  (K : pz_Rn d 25 (5, [], [(0, .inr (.inr (some 154))), (1, .inl a1), (2, .inl 0), (3, .inl 246)], pz_hp n0 mi ml mr c s, true) Q) : pz_Rn d 25 (0, [], [(0, .inr (.inr (some 154))), (1, .inl a1)], pz_hp n0 mi ml mr c s, true) Q := by
  refine pz_j1 [.inl 0] 1 rfl rfl rfl rfl rfl ?_
  refine pz_j2 [] [(2, .inl 0), (0, .inr (.inr (some 154))), (1, .inl a1)] 2 rfl rfl rfl rfl rfl ?_
  refine pz_j1 [.inr (.inr (some 154))] 3 rfl rfl rfl rfl rfl ?_
  refine pz_j1 [.inl 246] 4 rfl rfl rfl rfl rfl ?_
  refine pz_j2 [] [(3, .inl 246), (2, .inl 0), (0, .inr (.inr (some 154))), (1, .inl a1)] 5 rfl rfl rfl rfl rfl ?_
  refine pz_Rn_sub (L := [(0, .inr (.inr (some 154))), (1, .inl a1), (2, .inl 0), (3, .inl 246)]) [2, 3, 1, 0] rfl rfl ?_
  exact K
theorem pz_g25x154_5 {a1 : Int} {a2 : Int} {a3 : Int}  (K : ((a3 ≤ a2 → Q (.inl none) (pz_hp n0 mi ml mr c s)) ∧ (a2 < a3 → (0 ≤ a2 ∧ a2 < 246) ∧ (-2147483648 ≤ a2 + 1 ∧ a2 + 1 ≤ 2147483647) ∧ pz_Rn d 25 (5, [], [(0, .inr (.inr (some 154))), (1, .inl a1), (2, .inl (a2 + 1)), (3, .inl a3)], pz_hp n0 (pz_up mi 154 ((a2).toNat) a1) ml mr c s, true) Q))) : pz_Rn d 25 (5, [], [(0, .inr (.inr (some 154))), (1, .inl a1), (2, .inl a2), (3, .inl a3)], pz_hp n0 mi ml mr c s, true) Q := by
  refine pz_j1 [.inl a2] 6 rfl rfl rfl rfl rfl ?_
  refine pz_j1 [.inl a3, .inl a2] 7 rfl rfl rfl rfl rfl ?_
  refine pz_j1 [] (bif pz_cp .ge a2 a3 then 20 else 10) rfl rfl rfl rfl rfl ?_
  refine pz_Rn_if pz_c1_ge pz_c0_ge ⟨fun b1 => ?_, fun b1 => ?_⟩
  · replace K := K.1 b1
    exact pz_Rn_ret rfl rfl rfl rfl K
  · replace K := K.2 b1
    refine pz_j1 [.inr (.inr (some 154))] 11 rfl rfl rfl rfl rfl ?_
    refine pz_j1 [.inl a2, .inr (.inr (some 154))] 12 rfl rfl rfl rfl rfl ?_
    refine pz_j1 [.inl a1, .inl a2, .inr (.inr (some 154))] 13 rfl rfl rfl rfl rfl ?_
    obtain ⟨k2, K⟩ := K
    refine pz_j3 [] [(0, .inr (.inr (some 154))), (1, .inl a1), (2, .inl a2), (3, .inl a3)] (pz_hp n0 (pz_up mi 154 ((a2).toNat) a1) ml mr c s) 14 rfl rfl rfl rfl (pz_a2 rfl (pz_ok_ix pz_S154 k2)) ?_
    obtain ⟨k3, K⟩ := K
    refine pz_j2 [] [(2, .inl (a2 + 1)), (0, .inr (.inr (some 154))), (1, .inl a1), (3, .inl a3)] 17 rfl rfl rfl rfl (pz_a2 (pz_ok_in k3) rfl) ?_
    refine pz_j1 [] 5 rfl rfl rfl rfl rfl ?_
    refine pz_Rn_sub (L := [(0, .inr (.inr (some 154))), (1, .inl a1), (2, .inl (a2 + 1)), (3, .inl a3)]) [1, 2, 0, 3] rfl rfl ?_
    exact K
-- 25 java/util/Arrays.fill([II)V
theorem pz_g25x163_0 {a1 : Int}  (K : pz_Rn d 25 (5, [], [(0, .inr (.inr (some 163))), (1, .inl a1), (2, .inl 0), (3, .inl 246)], pz_hp n0 mi ml mr c s, true) Q) : pz_Rn d 25 (0, [], [(0, .inr (.inr (some 163))), (1, .inl a1)], pz_hp n0 mi ml mr c s, true) Q := by
  refine pz_j1 [.inl 0] 1 rfl rfl rfl rfl rfl ?_
  refine pz_j2 [] [(2, .inl 0), (0, .inr (.inr (some 163))), (1, .inl a1)] 2 rfl rfl rfl rfl rfl ?_
  refine pz_j1 [.inr (.inr (some 163))] 3 rfl rfl rfl rfl rfl ?_
  refine pz_j1 [.inl 246] 4 rfl rfl rfl rfl rfl ?_
  refine pz_j2 [] [(3, .inl 246), (2, .inl 0), (0, .inr (.inr (some 163))), (1, .inl a1)] 5 rfl rfl rfl rfl rfl ?_
  refine pz_Rn_sub (L := [(0, .inr (.inr (some 163))), (1, .inl a1), (2, .inl 0), (3, .inl 246)]) [2, 3, 1, 0] rfl rfl ?_
  exact K
theorem pz_g25x163_5 {a1 : Int} {a2 : Int} {a3 : Int}  (K : ((a3 ≤ a2 → Q (.inl none) (pz_hp n0 mi ml mr c s)) ∧ (a2 < a3 → (0 ≤ a2 ∧ a2 < 246) ∧ (-2147483648 ≤ a2 + 1 ∧ a2 + 1 ≤ 2147483647) ∧ pz_Rn d 25 (5, [], [(0, .inr (.inr (some 163))), (1, .inl a1), (2, .inl (a2 + 1)), (3, .inl a3)], pz_hp n0 (pz_up mi 163 ((a2).toNat) a1) ml mr c s, true) Q))) : pz_Rn d 25 (5, [], [(0, .inr (.inr (some 163))), (1, .inl a1), (2, .inl a2), (3, .inl a3)], pz_hp n0 mi ml mr c s, true) Q := by
  refine pz_j1 [.inl a2] 6 rfl rfl rfl rfl rfl ?_
  refine pz_j1 [.inl a3, .inl a2] 7 rfl rfl rfl rfl rfl ?_
  refine pz_j1 [] (bif pz_cp .ge a2 a3 then 20 else 10) rfl rfl rfl rfl rfl ?_
  refine pz_Rn_if pz_c1_ge pz_c0_ge ⟨fun b1 => ?_, fun b1 => ?_⟩
  · replace K := K.1 b1
    exact pz_Rn_ret rfl rfl rfl rfl K
  · replace K := K.2 b1
    refine pz_j1 [.inr (.inr (some 163))] 11 rfl rfl rfl rfl rfl ?_
    refine pz_j1 [.inl a2, .inr (.inr (some 163))] 12 rfl rfl rfl rfl rfl ?_
    refine pz_j1 [.inl a1, .inl a2, .inr (.inr (some 163))] 13 rfl rfl rfl rfl rfl ?_
    obtain ⟨k2, K⟩ := K
    refine pz_j3 [] [(0, .inr (.inr (some 163))), (1, .inl a1), (2, .inl a2), (3, .inl a3)] (pz_hp n0 (pz_up mi 163 ((a2).toNat) a1) ml mr c s) 14 rfl rfl rfl rfl (pz_a2 rfl (pz_ok_ix pz_S163 k2)) ?_
    obtain ⟨k3, K⟩ := K
    refine pz_j2 [] [(2, .inl (a2 + 1)), (0, .inr (.inr (some 163))), (1, .inl a1), (3, .inl a3)] 17 rfl rfl rfl rfl (pz_a2 (pz_ok_in k3) rfl) ?_
    refine pz_j1 [] 5 rfl rfl rfl rfl rfl ?_
    refine pz_Rn_sub (L := [(0, .inr (.inr (some 163))), (1, .inl a1), (2, .inl (a2 + 1)), (3, .inl a3)]) [1, 2, 0, 3] rfl rfl ?_
    exact K
-- 26 RelationStream$Tree.clear()V
theorem pz_g26_0   (K : pz_Rn d 25 (0, [], [(0, .inr (.inr (some 16))), (1, .inl 0)], pz_hp n0 mi ml (pz_up (pz_up mr 14 2 none) 14 3 none) c s, true) (pz_K (d + 1) 26 15 [] [(0, .inr (.inr (some 14)))] Q true)) : pz_Rn (d + 1) 26 (0, [], [(0, .inr (.inr (some 14)))], pz_hp n0 mi ml mr c s, true) Q := by
  refine pz_j1 [.inr (.inr (some 14))] 1 rfl rfl rfl rfl rfl ?_
  refine pz_j1 [.inr (.inr none), .inr (.inr (some 14))] 2 rfl rfl rfl rfl rfl ?_
  refine pz_j3 [] [(0, .inr (.inr (some 14)))] (pz_SH n0, mi, ml, pz_up (pz_ov mr) 14 2 none, c, s) 5 rfl rfl rfl rfl (pz_a2 rfl (pz_a2 pz_S14 (pz_a2 rfl rfl))) ?_
  rewrite [pz_hp_up rfl]
  refine pz_j1 [.inr (.inr (some 14))] 6 rfl rfl rfl rfl rfl ?_
  refine pz_j1 [.inr (.inr none), .inr (.inr (some 14))] 7 rfl rfl rfl rfl rfl ?_
  refine pz_j3 [] [(0, .inr (.inr (some 14)))] (pz_SH n0, mi, ml, pz_up (pz_ov (pz_up mr 14 2 none)) 14 3 none, c, s) 10 rfl rfl rfl rfl (pz_a2 rfl (pz_a2 pz_S14 (pz_a2 rfl rfl))) ?_
  rewrite [pz_hp_up rfl]
  refine pz_j1 [.inr (.inr (some 14))] 11 rfl rfl rfl rfl rfl ?_
  refine pz_j1 [.inr (.inr (some 16))] 14 rfl rfl rfl rfl (pz_a2 rfl pz_S14) ?_
  refine pz_j1 [.inl 0, .inr (.inr (some 16))] 15 rfl rfl rfl rfl rfl ?_
  exact pz_Rn_k (y := 24) rfl rfl rfl rfl rfl rfl rfl rfl rfl K
theorem pz_g26_18   (K : pz_Rn (d + 1) 26 (20, [], [(0, .inr (.inr (some 14))), (1, .inl 0)], pz_hp n0 mi ml mr c s, true) Q) : pz_Rn (d + 1) 26 (18, [], [(0, .inr (.inr (some 14)))], pz_hp n0 mi ml mr c s, true) Q := by
  refine pz_j1 [.inl 0] 19 rfl rfl rfl rfl rfl ?_
  refine pz_j2 [] [(1, .inl 0), (0, .inr (.inr (some 14)))] 20 rfl rfl rfl rfl rfl ?_
  refine pz_Rn_sub (L := [(0, .inr (.inr (some 14))), (1, .inl 0)]) [1, 0] rfl rfl ?_
  exact K
theorem pz_g26_20 {a1 : Int}  (K : ((64 ≤ a1 → Q (.inl none) (pz_hp n0 (pz_up mi 16 0 64) ml mr c s)) ∧ (a1 < 64 → (0 ≤ a1 ∧ a1 < 64) ∧ (0 ≤ a1 ∧ a1 < 64) ∧ (0 ≤ a1 ∧ a1 < 64) ∧ (-2147483648 ≤ a1 + 1 ∧ a1 + 1 ≤ 2147483647) ∧ pz_Rn (d + 1) 26 (20, [], [(0, .inr (.inr (some 14))), (1, .inl (a1 + 1))], pz_hp n0 (pz_up mi (17 + 2 * (a1).toNat) 0 0) ml (pz_up (pz_up mr (17 + 2 * (a1).toNat) 2 (mr 14 3)) 14 3 (some (17 + 2 * (a1).toNat))) c s, true) Q))) : pz_Rn (d + 1) 26 (20, [], [(0, .inr (.inr (some 14))), (1, .inl a1)], pz_hp n0 mi ml mr c s, true) Q := by
  refine pz_j1 [.inl a1] 21 rfl rfl rfl rfl rfl ?_
  refine pz_j1 [.inl 64, .inl a1] 23 rfl rfl rfl rfl rfl ?_
  refine pz_j1 [] (bif pz_cp .ge a1 64 then 65 else 26) rfl rfl rfl rfl rfl ?_
  refine pz_Rn_if pz_c1_ge pz_c0_ge ⟨fun b1 => ?_, fun b1 => ?_⟩
  · replace K := K.1 b1
    refine pz_j1 [.inr (.inr (some 14))] 66 rfl rfl rfl rfl rfl ?_
    refine pz_j1 [.inr (.inr (some 16))] 69 rfl rfl rfl rfl (pz_a2 rfl pz_S14) ?_
    refine pz_j1 [.inl 0, .inr (.inr (some 16))] 70 rfl rfl rfl rfl rfl ?_
    refine pz_j1 [.inl 64, .inl 0, .inr (.inr (some 16))] 72 rfl rfl rfl rfl rfl ?_
    refine pz_j3 [] [(0, .inr (.inr (some 14))), (1, .inl a1)] (pz_hp n0 (pz_up mi 16 0 64) ml mr c s) 73 rfl rfl rfl rfl (pz_a2 rfl (pz_ok_ix pz_S16 ⟨by decide, by decide⟩)) ?_
    exact pz_Rn_ret rfl rfl rfl rfl K
  · replace K := K.2 b1
    refine pz_j1 [.inr (.inr (some 14))] 27 rfl rfl rfl rfl rfl ?_
    refine pz_j1 [.inr (.inr (some 15))] 30 rfl rfl rfl rfl (pz_a2 rfl pz_S14) ?_
    refine pz_j1 [.inl a1, .inr (.inr (some 15))] 31 rfl rfl rfl rfl rfl ?_
    obtain ⟨k2, K⟩ := K
    refine pz_j1 [.inr (.inr (pz_ov mr 15 ((a1).toNat)))] 32 rfl rfl rfl rfl (pz_a2 rfl (pz_ok_ix pz_S15 k2)) ?_
    rewrite [pz_ov_15 (show (a1).toNat < 64 by omega)]
    have nn3 : pz_nd (17 + 2 * (a1).toNat) := ⟨by omega, by omega, by omega⟩
    refine pz_j1 [.inl 0, .inr (.inr (some (17 + 2 * (a1).toNat)))] 33 rfl rfl rfl rfl rfl ?_
    refine pz_j3 [] [(0, .inr (.inr (some 14))), (1, .inl a1)] (pz_hp n0 (pz_up mi (17 + 2 * (a1).toNat) 0 0) ml mr c s) 36 rfl rfl rfl rfl (pz_a2 rfl (pz_a2 (pz_nd_is nn3) (pz_a2 rfl rfl))) ?_
    refine pz_j1 [.inr (.inr (some 14))] 37 rfl rfl rfl rfl rfl ?_
    refine pz_j1 [.inr (.inr (some 15))] 40 rfl rfl rfl rfl (pz_a2 rfl pz_S14) ?_
    refine pz_j1 [.inl a1, .inr (.inr (some 15))] 41 rfl rfl rfl rfl rfl ?_
    obtain ⟨k4, K⟩ := K
    refine pz_j1 [.inr (.inr (pz_ov mr 15 ((a1).toNat)))] 42 rfl rfl rfl rfl (pz_a2 rfl (pz_ok_ix pz_S15 k4)) ?_
    rewrite [pz_ov_15 (show (a1).toNat < 64 by omega)]
    have nn5 : pz_nd (17 + 2 * (a1).toNat) := ⟨by omega, by omega, by omega⟩
    refine pz_j1 [.inr (.inr (some 14)), .inr (.inr (some (17 + 2 * (a1).toNat)))] 43 rfl rfl rfl rfl rfl ?_
    refine pz_j1 [.inr (.inr (mr 14 3)), .inr (.inr (some (17 + 2 * (a1).toNat)))] 46 rfl rfl rfl rfl (pz_a2 rfl pz_S14) ?_
    refine pz_j3 [] [(0, .inr (.inr (some 14))), (1, .inl a1)] (pz_SH n0, pz_up mi (17 + 2 * (a1).toNat) 0 0, ml, pz_up (pz_ov mr) (17 + 2 * (a1).toNat) 2 (mr 14 3), c, s) 49 rfl rfl rfl rfl (pz_a2 rfl (pz_a2 (pz_nd_is nn5) (pz_a2 rfl rfl))) ?_
    rewrite [pz_hp_up (pz_nd_lay nn5 (by decide))]
    refine pz_j1 [.inr (.inr (some 14))] 50 rfl rfl rfl rfl rfl ?_
    refine pz_j1 [.inr (.inr (some 14)), .inr (.inr (some 14))] 51 rfl rfl rfl rfl rfl ?_
    refine pz_j1 [.inr (.inr (some 15)), .inr (.inr (some 14))] 54 rfl rfl rfl rfl (pz_a2 rfl pz_S14) ?_
    refine pz_j1 [.inl a1, .inr (.inr (some 15)), .inr (.inr (some 14))] 55 rfl rfl rfl rfl rfl ?_
    obtain ⟨k6, K⟩ := K
    refine pz_j1 [.inr (.inr (pz_ov (pz_up mr (17 + 2 * (a1).toNat) 2 (mr 14 3)) 15 ((a1).toNat))), .inr (.inr (some 14))] 56 rfl rfl rfl rfl (pz_a2 rfl (pz_ok_ix pz_S15 k6)) ?_
    rewrite [pz_ov_15 (show (a1).toNat < 64 by omega)]
    have nn7 : pz_nd (17 + 2 * (a1).toNat) := ⟨by omega, by omega, by omega⟩
    refine pz_j3 [] [(0, .inr (.inr (some 14))), (1, .inl a1)] (pz_SH n0, pz_up mi (17 + 2 * (a1).toNat) 0 0, ml, pz_up (pz_ov (pz_up mr (17 + 2 * (a1).toNat) 2 (mr 14 3))) 14 3 (some (17 + 2 * (a1).toNat)), c, s) 59 rfl rfl rfl rfl (pz_a2 rfl (pz_a2 pz_S14 (pz_a2 rfl rfl))) ?_
    rewrite [pz_hp_up rfl]
    obtain ⟨k8, K⟩ := K
    refine pz_j2 [] [(1, .inl (a1 + 1)), (0, .inr (.inr (some 14)))] 62 rfl rfl rfl rfl (pz_a2 (pz_ok_in k8) rfl) ?_
    refine pz_j1 [] 20 rfl rfl rfl rfl rfl ?_
    refine pz_Rn_sub (L := [(0, .inr (.inr (some 14))), (1, .inl (a1 + 1))]) [1, 0] rfl rfl ?_
    exact K
-- 27 RelationStream$State.clear()V
theorem pz_g27_0 {p0 : Nat} (np0 : pz_sd p0) (K : Q (.inl none) (pz_hp n0 (pz_up mi p0 0 (-1)) (pz_up (pz_up ml p0 1 (Int64.ofNat 0)) p0 2 (Int64.ofNat 0)) mr c s)) : pz_Rn d 27 (0, [], [(0, .inr (.inr (some p0)))], pz_hp n0 mi ml mr c s, true) Q := by
  refine pz_j1 [.inr (.inr (some p0))] 1 rfl rfl rfl rfl rfl ?_
  refine pz_j1 [.inl (-1), .inr (.inr (some p0))] 2 rfl rfl rfl rfl rfl ?_
  refine pz_j3 [] [(0, .inr (.inr (some p0)))] (pz_hp n0 (pz_up mi p0 0 (-1)) ml mr c s) 5 rfl rfl rfl rfl (pz_a2 rfl (pz_a2 (pz_sd_is np0) (pz_a2 rfl rfl))) ?_
  refine pz_j1 [.inr (.inr (some p0))] 6 rfl rfl rfl rfl rfl ?_
  refine pz_j1 [.inr (.inl (Int64.ofNat 0)), .inr (.inr (some p0))] 7 rfl rfl rfl rfl rfl ?_
  refine pz_j3 [] [(0, .inr (.inr (some p0)))] (pz_hp n0 (pz_up mi p0 0 (-1)) (pz_up ml p0 1 (Int64.ofNat 0)) mr c s) 10 rfl rfl rfl rfl (pz_a2 rfl (pz_a2 (pz_sd_is np0) (pz_a2 rfl rfl))) ?_
  refine pz_j1 [.inr (.inr (some p0))] 11 rfl rfl rfl rfl rfl ?_
  refine pz_j1 [.inr (.inl (Int64.ofNat 0)), .inr (.inr (some p0))] 12 rfl rfl rfl rfl rfl ?_
  refine pz_j3 [] [(0, .inr (.inr (some p0)))] (pz_hp n0 (pz_up mi p0 0 (-1)) (pz_up (pz_up ml p0 1 (Int64.ofNat 0)) p0 2 (Int64.ofNat 0)) mr c s) 15 rfl rfl rfl rfl (pz_a2 rfl (pz_a2 (pz_sd_is np0) (pz_a2 rfl rfl))) ?_
  exact pz_Rn_ret rfl rfl rfl rfl K
end pzga
