/-! Segments of methods, by wip/whole/gen/seg.py: from an entry, a loop's head or behind a call to the next stop. -/
section pzge
variable {d n0 : Nat} {mi : Nat → Nat → Int} {ml : Nat → Nat → Int64} {mr : Nat → Nat → Option Nat} {c s : Nat} {Q : pz_O → pz_H → Prop}
-- 100 RelationStreamModel.addTerm(ZIII)I
theorem pz_g100_0 {a1 : Int} {a2 : Int} {a3 : Int} {a4 : Int}  (K : ((a1 ≠ 0 → ((mi 165 1 ≠ 40 → (0 ≤ mi 165 1 ∧ mi 165 1 < 40) ∧ (0 ≤ mi 165 1 ∧ mi 165 1 < 40) ∧ (0 ≤ mi 165 1 ∧ mi 165 1 < 40) ∧ (-2147483648 ≤ (mi 165 1) + 1 ∧ (mi 165 1) + 1 ≤ 2147483647) ∧ (-2147483648 ≤ ((mi 165 1) + 1) - 1 ∧ ((mi 165 1) + 1) - 1 ≤ 2147483647) ∧ Q (.inl (some (.inl (((mi 165 1) + 1) - 1)))) (pz_hp n0 (pz_up (pz_up (pz_up (pz_up (pz_up mi 165 0 0) 166 ((mi 165 1).toNat) a2) 167 ((mi 165 1).toNat) a3) 168 ((mi 165 1).toNat) a4) 165 1 ((mi 165 1) + 1)) ml mr c s)) ∧ (mi 165 1 = 40 → Q (.inl (some (.inl 0))) (pz_hp n0 (pz_up mi 165 0 2) ml mr c s)))) ∧ (a1 = 0 → Q (.inl (some (.inl 0))) (pz_hp n0 (pz_up mi 165 0 1) ml mr c s)))) : pz_Rn d 100 (0, [], [(0, .inr (.inr (some 165))), (1, .inl a1), (2, .inl a2), (3, .inl a3), (4, .inl a4)], pz_hp n0 mi ml mr c s, true) Q := by
  refine pz_j1 [.inr (.inr (some 165))] 1 rfl rfl rfl rfl rfl ?_
  refine pz_j1 [.inl a1, .inr (.inr (some 165))] 2 rfl rfl rfl rfl rfl ?_
  refine pz_j1 [.inr (.inr (some 165))] (bif pz_cp .ne a1 0 then 9 else 5) rfl rfl rfl rfl rfl ?_
  refine pz_Rn_if pz_c1_ne pz_c0_ne ⟨fun b1 => ?_, fun b1 => ?_⟩
  · replace K := K.1 b1
    refine pz_j1 [.inr (.inr (some 165)), .inr (.inr (some 165))] 10 rfl rfl rfl rfl rfl ?_
    refine pz_j1 [.inl (mi 165 1), .inr (.inr (some 165))] 13 rfl rfl rfl rfl (pz_a2 rfl pz_S165) ?_
    refine pz_j1 [.inl 40, .inl (mi 165 1), .inr (.inr (some 165))] 15 rfl rfl rfl rfl rfl ?_
    refine pz_j1 [.inr (.inr (some 165))] (bif pz_cp .ne (mi 165 1) 40 then 22 else 18) rfl rfl rfl rfl rfl ?_
    refine pz_Rn_if pz_c1_ne pz_c0_ne ⟨fun b2 => ?_, fun b2 => ?_⟩
    · replace K := K.1 b2
      refine pz_j1 [.inl 0, .inr (.inr (some 165))] 23 rfl rfl rfl rfl rfl ?_
      refine pz_j3 [] [(0, .inr (.inr (some 165))), (1, .inl a1), (2, .inl a2), (3, .inl a3), (4, .inl a4)] (pz_hp n0 (pz_up mi 165 0 0) ml mr c s) 26 rfl rfl rfl rfl (pz_a2 rfl (pz_a2 pz_S165 (pz_a2 rfl rfl))) ?_
      refine pz_j1 [.inr (.inr (some 165))] 27 rfl rfl rfl rfl rfl ?_
      refine pz_j1 [.inl 0] 30 rfl rfl rfl rfl (pz_a2 rfl pz_S165) ?_
      refine pz_j1 [] 35 rfl rfl rfl rfl rfl ?_
      refine pz_j1 [.inr (.inr (some 165))] 36 rfl rfl rfl rfl rfl ?_
      refine pz_j1 [.inr (.inr (some 166))] 39 rfl rfl rfl rfl (pz_a2 rfl pz_S165) ?_
      refine pz_j1 [.inr (.inr (some 165)), .inr (.inr (some 166))] 40 rfl rfl rfl rfl rfl ?_
      refine pz_j1 [.inl (mi 165 1), .inr (.inr (some 166))] 43 rfl rfl rfl rfl (pz_a2 rfl pz_S165) ?_
      refine pz_j1 [.inl a2, .inl (mi 165 1), .inr (.inr (some 166))] 44 rfl rfl rfl rfl rfl ?_
      obtain ⟨k3, K⟩ := K
      refine pz_j3 [] [(0, .inr (.inr (some 165))), (1, .inl a1), (2, .inl a2), (3, .inl a3), (4, .inl a4)] (pz_hp n0 (pz_up (pz_up mi 165 0 0) 166 ((mi 165 1).toNat) a2) ml mr c s) 45 rfl rfl rfl rfl (pz_a2 rfl (pz_ok_ix pz_S166 k3)) ?_
      refine pz_j1 [.inr (.inr (some 165))] 46 rfl rfl rfl rfl rfl ?_
      refine pz_j1 [.inr (.inr (some 167))] 49 rfl rfl rfl rfl (pz_a2 rfl pz_S165) ?_
      refine pz_j1 [.inr (.inr (some 165)), .inr (.inr (some 167))] 50 rfl rfl rfl rfl rfl ?_
      refine pz_j1 [.inl (mi 165 1), .inr (.inr (some 167))] 53 rfl rfl rfl rfl (pz_a2 rfl pz_S165) ?_
      refine pz_j1 [.inl a3, .inl (mi 165 1), .inr (.inr (some 167))] 54 rfl rfl rfl rfl rfl ?_
      obtain ⟨k4, K⟩ := K
      refine pz_j3 [] [(0, .inr (.inr (some 165))), (1, .inl a1), (2, .inl a2), (3, .inl a3), (4, .inl a4)] (pz_hp n0 (pz_up (pz_up (pz_up mi 165 0 0) 166 ((mi 165 1).toNat) a2) 167 ((mi 165 1).toNat) a3) ml mr c s) 55 rfl rfl rfl rfl (pz_a2 rfl (pz_ok_ix pz_S167 k4)) ?_
      refine pz_j1 [.inr (.inr (some 165))] 56 rfl rfl rfl rfl rfl ?_
      refine pz_j1 [.inr (.inr (some 168))] 59 rfl rfl rfl rfl (pz_a2 rfl pz_S165) ?_
      refine pz_j1 [.inr (.inr (some 165)), .inr (.inr (some 168))] 60 rfl rfl rfl rfl rfl ?_
      refine pz_j1 [.inl (mi 165 1), .inr (.inr (some 168))] 63 rfl rfl rfl rfl (pz_a2 rfl pz_S165) ?_
      refine pz_j1 [.inl a4, .inl (mi 165 1), .inr (.inr (some 168))] 65 rfl rfl rfl rfl rfl ?_
      obtain ⟨k5, K⟩ := K
      refine pz_j3 [] [(0, .inr (.inr (some 165))), (1, .inl a1), (2, .inl a2), (3, .inl a3), (4, .inl a4)] (pz_hp n0 (pz_up (pz_up (pz_up (pz_up mi 165 0 0) 166 ((mi 165 1).toNat) a2) 167 ((mi 165 1).toNat) a3) 168 ((mi 165 1).toNat) a4) ml mr c s) 66 rfl rfl rfl rfl (pz_a2 rfl (pz_ok_ix pz_S168 k5)) ?_
      refine pz_j1 [.inr (.inr (some 165))] 67 rfl rfl rfl rfl rfl ?_
      refine pz_j1 [.inr (.inr (some 165)), .inr (.inr (some 165))] 68 rfl rfl rfl rfl rfl ?_
      refine pz_j1 [.inl (mi 165 1), .inr (.inr (some 165))] 71 rfl rfl rfl rfl (pz_a2 rfl pz_S165) ?_
      refine pz_j1 [.inl 1, .inl (mi 165 1), .inr (.inr (some 165))] 72 rfl rfl rfl rfl rfl ?_
      obtain ⟨k6, K⟩ := K
      refine pz_j1 [.inl ((mi 165 1) + 1), .inr (.inr (some 165))] 73 rfl rfl rfl rfl (pz_ok_in k6) ?_
      refine pz_j3 [] [(0, .inr (.inr (some 165))), (1, .inl a1), (2, .inl a2), (3, .inl a3), (4, .inl a4)] (pz_hp n0 (pz_up (pz_up (pz_up (pz_up (pz_up mi 165 0 0) 166 ((mi 165 1).toNat) a2) 167 ((mi 165 1).toNat) a3) 168 ((mi 165 1).toNat) a4) 165 1 ((mi 165 1) + 1)) ml mr c s) 76 rfl rfl rfl rfl (pz_a2 rfl (pz_a2 pz_S165 (pz_a2 rfl rfl))) ?_
      refine pz_j1 [.inr (.inr (some 165))] 77 rfl rfl rfl rfl rfl ?_
      refine pz_j1 [.inl ((mi 165 1) + 1)] 80 rfl rfl rfl rfl (pz_a2 rfl pz_S165) ?_
      refine pz_j1 [.inl 1, .inl ((mi 165 1) + 1)] 81 rfl rfl rfl rfl rfl ?_
      obtain ⟨k7, K⟩ := K
      refine pz_j1 [.inl (((mi 165 1) + 1) - 1)] 82 rfl rfl rfl rfl (pz_ok_in k7) ?_
      exact pz_Rn_ret rfl rfl rfl rfl K
    · replace K := K.2 b2
      refine pz_j1 [.inl 2, .inr (.inr (some 165))] 19 rfl rfl rfl rfl rfl ?_
      refine pz_j1 [.inl 2, .inr (.inr (some 165))] 23 rfl rfl rfl rfl rfl ?_
      refine pz_j3 [] [(0, .inr (.inr (some 165))), (1, .inl a1), (2, .inl a2), (3, .inl a3), (4, .inl a4)] (pz_hp n0 (pz_up mi 165 0 2) ml mr c s) 26 rfl rfl rfl rfl (pz_a2 rfl (pz_a2 pz_S165 (pz_a2 rfl rfl))) ?_
      refine pz_j1 [.inr (.inr (some 165))] 27 rfl rfl rfl rfl rfl ?_
      refine pz_j1 [.inl 2] 30 rfl rfl rfl rfl (pz_a2 rfl pz_S165) ?_
      refine pz_j1 [] 33 rfl rfl rfl rfl rfl ?_
      refine pz_j1 [.inl 0] 34 rfl rfl rfl rfl rfl ?_
      exact pz_Rn_ret rfl rfl rfl rfl K
  · replace K := K.2 b1
    refine pz_j1 [.inl 1, .inr (.inr (some 165))] 6 rfl rfl rfl rfl rfl ?_
    refine pz_j1 [.inl 1, .inr (.inr (some 165))] 23 rfl rfl rfl rfl rfl ?_
    refine pz_j3 [] [(0, .inr (.inr (some 165))), (1, .inl a1), (2, .inl a2), (3, .inl a3), (4, .inl a4)] (pz_hp n0 (pz_up mi 165 0 1) ml mr c s) 26 rfl rfl rfl rfl (pz_a2 rfl (pz_a2 pz_S165 (pz_a2 rfl rfl))) ?_
    refine pz_j1 [.inr (.inr (some 165))] 27 rfl rfl rfl rfl rfl ?_
    refine pz_j1 [.inl 1] 30 rfl rfl rfl rfl (pz_a2 rfl pz_S165) ?_
    refine pz_j1 [] 33 rfl rfl rfl rfl rfl ?_
    refine pz_j1 [.inl 0] 34 rfl rfl rfl rfl rfl ?_
    exact pz_Rn_ret rfl rfl rfl rfl K
-- 101 RelationStreamModel.atom(I)I
theorem pz_g101_0 {a1 : Int}  (K : ((a1 < 0 → pz_Rn d 100 (0, [], [(0, .inr (.inr (some 165))), (1, .inl 0), (2, .inl 0), (3, .inl a1), (4, .inl 0)], pz_hp n0 mi ml mr c s, true) (pz_K (d + 1) 101 19 [] [] Q true)) ∧ (0 ≤ a1 → ((9 < a1 → pz_Rn d 100 (0, [], [(0, .inr (.inr (some 165))), (1, .inl 0), (2, .inl 0), (3, .inl a1), (4, .inl 0)], pz_hp n0 mi ml mr c s, true) (pz_K (d + 1) 101 19 [] [] Q true)) ∧ (a1 ≤ 9 → pz_Rn d 100 (0, [], [(0, .inr (.inr (some 165))), (1, .inl 1), (2, .inl 0), (3, .inl a1), (4, .inl 0)], pz_hp n0 mi ml mr c s, true) (pz_K (d + 1) 101 19 [] [] Q true)))))) : pz_Rn (d + 1) 101 (0, [], [(0, .inr (.inr (some 165))), (1, .inl a1)], pz_hp n0 mi ml mr c s, true) Q := by
  refine pz_j1 [.inr (.inr (some 165))] 1 rfl rfl rfl rfl rfl ?_
  refine pz_j1 [.inl a1, .inr (.inr (some 165))] 2 rfl rfl rfl rfl rfl ?_
  refine pz_j1 [.inr (.inr (some 165))] (bif pz_cp .lt a1 0 then 15 else 5) rfl rfl rfl rfl rfl ?_
  refine pz_Rn_if pz_c1_lt pz_c0_lt ⟨fun b1 => ?_, fun b1 => ?_⟩
  · replace K := K.1 b1
    refine pz_j1 [.inl 0, .inr (.inr (some 165))] 16 rfl rfl rfl rfl rfl ?_
    refine pz_j1 [.inl 0, .inl 0, .inr (.inr (some 165))] 17 rfl rfl rfl rfl rfl ?_
    refine pz_j1 [.inl a1, .inl 0, .inl 0, .inr (.inr (some 165))] 18 rfl rfl rfl rfl rfl ?_
    refine pz_j1 [.inl 0, .inl a1, .inl 0, .inl 0, .inr (.inr (some 165))] 19 rfl rfl rfl rfl rfl ?_
    refine pz_Rn_sub (L := []) [] rfl rfl ?_
    exact pz_Rn_k (y := 99) rfl rfl rfl rfl rfl rfl rfl rfl (pz_cok_v rfl rfl pz_S165) K
  · replace K := K.2 b1
    refine pz_j1 [.inl a1, .inr (.inr (some 165))] 6 rfl rfl rfl rfl rfl ?_
    refine pz_j1 [.inl 9, .inl a1, .inr (.inr (some 165))] 8 rfl rfl rfl rfl rfl ?_
    refine pz_j1 [.inr (.inr (some 165))] (bif pz_cp .gt a1 9 then 15 else 11) rfl rfl rfl rfl rfl ?_
    refine pz_Rn_if pz_c1_gt pz_c0_gt ⟨fun b2 => ?_, fun b2 => ?_⟩
    · replace K := K.1 b2
      refine pz_j1 [.inl 0, .inr (.inr (some 165))] 16 rfl rfl rfl rfl rfl ?_
      refine pz_j1 [.inl 0, .inl 0, .inr (.inr (some 165))] 17 rfl rfl rfl rfl rfl ?_
      refine pz_j1 [.inl a1, .inl 0, .inl 0, .inr (.inr (some 165))] 18 rfl rfl rfl rfl rfl ?_
      refine pz_j1 [.inl 0, .inl a1, .inl 0, .inl 0, .inr (.inr (some 165))] 19 rfl rfl rfl rfl rfl ?_
      refine pz_Rn_sub (L := []) [] rfl rfl ?_
      exact pz_Rn_k (y := 99) rfl rfl rfl rfl rfl rfl rfl rfl (pz_cok_v rfl rfl pz_S165) K
    · replace K := K.2 b2
      refine pz_j1 [.inl 1, .inr (.inr (some 165))] 12 rfl rfl rfl rfl rfl ?_
      refine pz_j1 [.inl 1, .inr (.inr (some 165))] 16 rfl rfl rfl rfl rfl ?_
      refine pz_j1 [.inl 0, .inl 1, .inr (.inr (some 165))] 17 rfl rfl rfl rfl rfl ?_
      refine pz_j1 [.inl a1, .inl 0, .inl 1, .inr (.inr (some 165))] 18 rfl rfl rfl rfl rfl ?_
      refine pz_j1 [.inl 0, .inl a1, .inl 0, .inl 1, .inr (.inr (some 165))] 19 rfl rfl rfl rfl rfl ?_
      refine pz_Rn_sub (L := []) [] rfl rfl ?_
      exact pz_Rn_k (y := 99) rfl rfl rfl rfl rfl rfl rfl rfl (pz_cok_v rfl rfl pz_S165) K
theorem pz_g101_22 {t0 : Int}  (K : Q (.inl (some (.inl t0))) (pz_hp n0 mi ml mr c s)) : pz_Rn (d + 1) 101 (22, [.inl t0], [], pz_hp n0 mi ml mr c s, true) Q := by
  exact pz_Rn_ret rfl rfl rfl rfl K
-- 102 RelationStreamModel.thrown()I
theorem pz_g102_0   (K : Q (.inl (some (.inl (mi 165 0)))) (pz_hp n0 mi ml mr c s)) : pz_Rn d 102 (0, [], [(0, .inr (.inr (some 165)))], pz_hp n0 mi ml mr c s, true) Q := by
  refine pz_j1 [.inr (.inr (some 165))] 1 rfl rfl rfl rfl rfl ?_
  refine pz_j1 [.inl (mi 165 0)] 4 rfl rfl rfl rfl (pz_a2 rfl pz_S165) ?_
  exact pz_Rn_ret rfl rfl rfl rfl K
-- 103 RelationStreamModel.place(I)I
theorem pz_g103_0 {a1 : Int}  (K : ((a1 < 0 → pz_Rn d 100 (0, [], [(0, .inr (.inr (some 165))), (1, .inl 0), (2, .inl 1), (3, .inl a1), (4, .inl 0)], pz_hp n0 mi ml mr c s, true) (pz_K (d + 1) 103 18 [] [] Q true)) ∧ (0 ≤ a1 → ((5 < a1 → pz_Rn d 100 (0, [], [(0, .inr (.inr (some 165))), (1, .inl 0), (2, .inl 1), (3, .inl a1), (4, .inl 0)], pz_hp n0 mi ml mr c s, true) (pz_K (d + 1) 103 18 [] [] Q true)) ∧ (a1 ≤ 5 → pz_Rn d 100 (0, [], [(0, .inr (.inr (some 165))), (1, .inl 1), (2, .inl 1), (3, .inl a1), (4, .inl 0)], pz_hp n0 mi ml mr c s, true) (pz_K (d + 1) 103 18 [] [] Q true)))))) : pz_Rn (d + 1) 103 (0, [], [(0, .inr (.inr (some 165))), (1, .inl a1)], pz_hp n0 mi ml mr c s, true) Q := by
  refine pz_j1 [.inr (.inr (some 165))] 1 rfl rfl rfl rfl rfl ?_
  refine pz_j1 [.inl a1, .inr (.inr (some 165))] 2 rfl rfl rfl rfl rfl ?_
  refine pz_j1 [.inr (.inr (some 165))] (bif pz_cp .lt a1 0 then 14 else 5) rfl rfl rfl rfl rfl ?_
  refine pz_Rn_if pz_c1_lt pz_c0_lt ⟨fun b1 => ?_, fun b1 => ?_⟩
  · replace K := K.1 b1
    refine pz_j1 [.inl 0, .inr (.inr (some 165))] 15 rfl rfl rfl rfl rfl ?_
    refine pz_j1 [.inl 1, .inl 0, .inr (.inr (some 165))] 16 rfl rfl rfl rfl rfl ?_
    refine pz_j1 [.inl a1, .inl 1, .inl 0, .inr (.inr (some 165))] 17 rfl rfl rfl rfl rfl ?_
    refine pz_j1 [.inl 0, .inl a1, .inl 1, .inl 0, .inr (.inr (some 165))] 18 rfl rfl rfl rfl rfl ?_
    refine pz_Rn_sub (L := []) [] rfl rfl ?_
    exact pz_Rn_k (y := 99) rfl rfl rfl rfl rfl rfl rfl rfl (pz_cok_v rfl rfl pz_S165) K
  · replace K := K.2 b1
    refine pz_j1 [.inl a1, .inr (.inr (some 165))] 6 rfl rfl rfl rfl rfl ?_
    refine pz_j1 [.inl 5, .inl a1, .inr (.inr (some 165))] 7 rfl rfl rfl rfl rfl ?_
    refine pz_j1 [.inr (.inr (some 165))] (bif pz_cp .gt a1 5 then 14 else 10) rfl rfl rfl rfl rfl ?_
    refine pz_Rn_if pz_c1_gt pz_c0_gt ⟨fun b2 => ?_, fun b2 => ?_⟩
    · replace K := K.1 b2
      refine pz_j1 [.inl 0, .inr (.inr (some 165))] 15 rfl rfl rfl rfl rfl ?_
      refine pz_j1 [.inl 1, .inl 0, .inr (.inr (some 165))] 16 rfl rfl rfl rfl rfl ?_
      refine pz_j1 [.inl a1, .inl 1, .inl 0, .inr (.inr (some 165))] 17 rfl rfl rfl rfl rfl ?_
      refine pz_j1 [.inl 0, .inl a1, .inl 1, .inl 0, .inr (.inr (some 165))] 18 rfl rfl rfl rfl rfl ?_
      refine pz_Rn_sub (L := []) [] rfl rfl ?_
      exact pz_Rn_k (y := 99) rfl rfl rfl rfl rfl rfl rfl rfl (pz_cok_v rfl rfl pz_S165) K
    · replace K := K.2 b2
      refine pz_j1 [.inl 1, .inr (.inr (some 165))] 11 rfl rfl rfl rfl rfl ?_
      refine pz_j1 [.inl 1, .inr (.inr (some 165))] 15 rfl rfl rfl rfl rfl ?_
      refine pz_j1 [.inl 1, .inl 1, .inr (.inr (some 165))] 16 rfl rfl rfl rfl rfl ?_
      refine pz_j1 [.inl a1, .inl 1, .inl 1, .inr (.inr (some 165))] 17 rfl rfl rfl rfl rfl ?_
      refine pz_j1 [.inl 0, .inl a1, .inl 1, .inl 1, .inr (.inr (some 165))] 18 rfl rfl rfl rfl rfl ?_
      refine pz_Rn_sub (L := []) [] rfl rfl ?_
      exact pz_Rn_k (y := 99) rfl rfl rfl rfl rfl rfl rfl rfl (pz_cok_v rfl rfl pz_S165) K
theorem pz_g103_21 {t0 : Int}  (K : Q (.inl (some (.inl t0))) (pz_hp n0 mi ml mr c s)) : pz_Rn (d + 1) 103 (21, [.inl t0], [], pz_hp n0 mi ml mr c s, true) Q := by
  exact pz_Rn_ret rfl rfl rfl rfl K
-- 104 RelationStreamModel.isTerm(I)Z
theorem pz_g104_0 {a1 : Int}  (K : ((a1 < 0 → Q (.inl (some (.inl 0))) (pz_hp n0 mi ml mr c s)) ∧ (0 ≤ a1 → ((mi 165 1 ≤ a1 → Q (.inl (some (.inl 0))) (pz_hp n0 mi ml mr c s)) ∧ (a1 < mi 165 1 → Q (.inl (some (.inl 1))) (pz_hp n0 mi ml mr c s)))))) : pz_Rn d 104 (0, [], [(0, .inr (.inr (some 165))), (1, .inl a1)], pz_hp n0 mi ml mr c s, true) Q := by
  refine pz_j1 [.inl a1] 1 rfl rfl rfl rfl rfl ?_
  refine pz_j1 [] (bif pz_cp .lt a1 0 then 16 else 4) rfl rfl rfl rfl rfl ?_
  refine pz_Rn_if pz_c1_lt pz_c0_lt ⟨fun b1 => ?_, fun b1 => ?_⟩
  · replace K := K.1 b1
    refine pz_j1 [.inl 0] 17 rfl rfl rfl rfl rfl ?_
    exact pz_Rn_ret rfl rfl rfl rfl K
  · replace K := K.2 b1
    refine pz_j1 [.inl a1] 5 rfl rfl rfl rfl rfl ?_
    refine pz_j1 [.inr (.inr (some 165)), .inl a1] 6 rfl rfl rfl rfl rfl ?_
    refine pz_j1 [.inl (mi 165 1), .inl a1] 9 rfl rfl rfl rfl (pz_a2 rfl pz_S165) ?_
    refine pz_j1 [] (bif pz_cp .ge a1 (mi 165 1) then 16 else 12) rfl rfl rfl rfl rfl ?_
    refine pz_Rn_if pz_c1_ge pz_c0_ge ⟨fun b2 => ?_, fun b2 => ?_⟩
    · replace K := K.1 b2
      refine pz_j1 [.inl 0] 17 rfl rfl rfl rfl rfl ?_
      exact pz_Rn_ret rfl rfl rfl rfl K
    · replace K := K.2 b2
      refine pz_j1 [.inl 1] 13 rfl rfl rfl rfl rfl ?_
      refine pz_j1 [.inl 1] 17 rfl rfl rfl rfl rfl ?_
      exact pz_Rn_ret rfl rfl rfl rfl K
-- 105 RelationStreamModel.pair(II)I
theorem pz_g105_0 {a1 : Int} {a2 : Int}  (K : pz_Rn d 104 (0, [], [(0, .inr (.inr (some 165))), (1, .inl a1)], pz_hp n0 mi ml mr c s, true) (pz_K (d + 1) 105 3 [.inr (.inr (some 165))] [(0, .inr (.inr (some 165))), (1, .inl a1), (2, .inl a2)] Q true)) : pz_Rn (d + 1) 105 (0, [], [(0, .inr (.inr (some 165))), (1, .inl a1), (2, .inl a2)], pz_hp n0 mi ml mr c s, true) Q := by
  refine pz_j1 [.inr (.inr (some 165))] 1 rfl rfl rfl rfl rfl ?_
  refine pz_j1 [.inr (.inr (some 165)), .inr (.inr (some 165))] 2 rfl rfl rfl rfl rfl ?_
  refine pz_j1 [.inl a1, .inr (.inr (some 165)), .inr (.inr (some 165))] 3 rfl rfl rfl rfl rfl ?_
  exact pz_Rn_k (y := 103) rfl rfl rfl rfl rfl rfl rfl rfl (pz_cok_v rfl rfl pz_S165) K
theorem pz_g105_6 {a1 : Int} {a2 : Int} {t1 : Int}  (K : ((t1 = 0 → pz_Rn d 100 (0, [], [(0, .inr (.inr (some 165))), (1, .inl 0), (2, .inl 2), (3, .inl a1), (4, .inl a2)], pz_hp n0 mi ml mr c s, true) (pz_K (d + 1) 105 25 [] [] Q true)) ∧ (t1 ≠ 0 → pz_Rn d 104 (0, [], [(0, .inr (.inr (some 165))), (1, .inl a2)], pz_hp n0 mi ml mr c s, true) (pz_K (d + 1) 105 11 [.inr (.inr (some 165))] [(1, .inl a1), (2, .inl a2)] Q true)))) : pz_Rn (d + 1) 105 (6, [.inl t1, .inr (.inr (some 165))], [(0, .inr (.inr (some 165))), (1, .inl a1), (2, .inl a2)], pz_hp n0 mi ml mr c s, true) Q := by
  refine pz_j1 [.inr (.inr (some 165))] (bif pz_cp .eq t1 0 then 21 else 9) rfl rfl rfl rfl rfl ?_
  refine pz_Rn_if pz_c1_eq pz_c0_eq ⟨fun b1 => ?_, fun b1 => ?_⟩
  · replace K := K.1 b1
    refine pz_j1 [.inl 0, .inr (.inr (some 165))] 22 rfl rfl rfl rfl rfl ?_
    refine pz_j1 [.inl 2, .inl 0, .inr (.inr (some 165))] 23 rfl rfl rfl rfl rfl ?_
    refine pz_j1 [.inl a1, .inl 2, .inl 0, .inr (.inr (some 165))] 24 rfl rfl rfl rfl rfl ?_
    refine pz_j1 [.inl a2, .inl a1, .inl 2, .inl 0, .inr (.inr (some 165))] 25 rfl rfl rfl rfl rfl ?_
    refine pz_Rn_sub (L := []) [] rfl rfl ?_
    exact pz_Rn_k (y := 99) rfl rfl rfl rfl rfl rfl rfl rfl (pz_cok_v rfl rfl pz_S165) K
  · replace K := K.2 b1
    refine pz_j1 [.inr (.inr (some 165)), .inr (.inr (some 165))] 10 rfl rfl rfl rfl rfl ?_
    refine pz_j1 [.inl a2, .inr (.inr (some 165)), .inr (.inr (some 165))] 11 rfl rfl rfl rfl rfl ?_
    refine pz_Rn_sub (L := [(1, .inl a1), (2, .inl a2)]) [1, 2] rfl rfl ?_
    exact pz_Rn_k (y := 103) rfl rfl rfl rfl rfl rfl rfl rfl (pz_cok_v rfl rfl pz_S165) K
theorem pz_g105_14 {a1 : Int} {a2 : Int} {t1 : Int}  (K : ((t1 = 0 → pz_Rn d 100 (0, [], [(0, .inr (.inr (some 165))), (1, .inl 0), (2, .inl 2), (3, .inl a1), (4, .inl a2)], pz_hp n0 mi ml mr c s, true) (pz_K (d + 1) 105 25 [] [] Q true)) ∧ (t1 ≠ 0 → pz_Rn d 100 (0, [], [(0, .inr (.inr (some 165))), (1, .inl 1), (2, .inl 2), (3, .inl a1), (4, .inl a2)], pz_hp n0 mi ml mr c s, true) (pz_K (d + 1) 105 25 [] [] Q true)))) : pz_Rn (d + 1) 105 (14, [.inl t1, .inr (.inr (some 165))], [(1, .inl a1), (2, .inl a2)], pz_hp n0 mi ml mr c s, true) Q := by
  refine pz_j1 [.inr (.inr (some 165))] (bif pz_cp .eq t1 0 then 21 else 17) rfl rfl rfl rfl rfl ?_
  refine pz_Rn_if pz_c1_eq pz_c0_eq ⟨fun b1 => ?_, fun b1 => ?_⟩
  · replace K := K.1 b1
    refine pz_j1 [.inl 0, .inr (.inr (some 165))] 22 rfl rfl rfl rfl rfl ?_
    refine pz_j1 [.inl 2, .inl 0, .inr (.inr (some 165))] 23 rfl rfl rfl rfl rfl ?_
    refine pz_j1 [.inl a1, .inl 2, .inl 0, .inr (.inr (some 165))] 24 rfl rfl rfl rfl rfl ?_
    refine pz_j1 [.inl a2, .inl a1, .inl 2, .inl 0, .inr (.inr (some 165))] 25 rfl rfl rfl rfl rfl ?_
    refine pz_Rn_sub (L := []) [] rfl rfl ?_
    exact pz_Rn_k (y := 99) rfl rfl rfl rfl rfl rfl rfl rfl (pz_cok_v rfl rfl pz_S165) K
  · replace K := K.2 b1
    refine pz_j1 [.inl 1, .inr (.inr (some 165))] 18 rfl rfl rfl rfl rfl ?_
    refine pz_j1 [.inl 1, .inr (.inr (some 165))] 22 rfl rfl rfl rfl rfl ?_
    refine pz_j1 [.inl 2, .inl 1, .inr (.inr (some 165))] 23 rfl rfl rfl rfl rfl ?_
    refine pz_j1 [.inl a1, .inl 2, .inl 1, .inr (.inr (some 165))] 24 rfl rfl rfl rfl rfl ?_
    refine pz_j1 [.inl a2, .inl a1, .inl 2, .inl 1, .inr (.inr (some 165))] 25 rfl rfl rfl rfl rfl ?_
    refine pz_Rn_sub (L := []) [] rfl rfl ?_
    exact pz_Rn_k (y := 99) rfl rfl rfl rfl rfl rfl rfl rfl (pz_cok_v rfl rfl pz_S165) K
theorem pz_g105_28 {t0 : Int}  (K : Q (.inl (some (.inl t0))) (pz_hp n0 mi ml mr c s)) : pz_Rn (d + 1) 105 (28, [.inl t0], [], pz_hp n0 mi ml mr c s, true) Q := by
  exact pz_Rn_ret rfl rfl rfl rfl K
-- 106 RelationStreamModel.addGoal(ZIII)I
theorem pz_g106_0 {a1 : Int} {a2 : Int} {a3 : Int} {a4 : Int}  (K : ((a1 ≠ 0 → ((mi 165 5 ≠ 40 → (0 ≤ mi 165 5 ∧ mi 165 5 < 40) ∧ (0 ≤ mi 165 5 ∧ mi 165 5 < 40) ∧ (0 ≤ mi 165 5 ∧ mi 165 5 < 40) ∧ (-2147483648 ≤ (mi 165 5) + 1 ∧ (mi 165 5) + 1 ≤ 2147483647) ∧ (-2147483648 ≤ ((mi 165 5) + 1) - 1 ∧ ((mi 165 5) + 1) - 1 ≤ 2147483647) ∧ Q (.inl (some (.inl (((mi 165 5) + 1) - 1)))) (pz_hp n0 (pz_up (pz_up (pz_up (pz_up (pz_up mi 165 0 0) 169 ((mi 165 5).toNat) a2) 170 ((mi 165 5).toNat) a3) 171 ((mi 165 5).toNat) a4) 165 5 ((mi 165 5) + 1)) ml mr c s)) ∧ (mi 165 5 = 40 → Q (.inl (some (.inl 0))) (pz_hp n0 (pz_up mi 165 0 2) ml mr c s)))) ∧ (a1 = 0 → Q (.inl (some (.inl 0))) (pz_hp n0 (pz_up mi 165 0 1) ml mr c s)))) : pz_Rn d 106 (0, [], [(0, .inr (.inr (some 165))), (1, .inl a1), (2, .inl a2), (3, .inl a3), (4, .inl a4)], pz_hp n0 mi ml mr c s, true) Q := by
  refine pz_j1 [.inr (.inr (some 165))] 1 rfl rfl rfl rfl rfl ?_
  refine pz_j1 [.inl a1, .inr (.inr (some 165))] 2 rfl rfl rfl rfl rfl ?_
  refine pz_j1 [.inr (.inr (some 165))] (bif pz_cp .ne a1 0 then 9 else 5) rfl rfl rfl rfl rfl ?_
  refine pz_Rn_if pz_c1_ne pz_c0_ne ⟨fun b1 => ?_, fun b1 => ?_⟩
  · replace K := K.1 b1
    refine pz_j1 [.inr (.inr (some 165)), .inr (.inr (some 165))] 10 rfl rfl rfl rfl rfl ?_
    refine pz_j1 [.inl (mi 165 5), .inr (.inr (some 165))] 13 rfl rfl rfl rfl (pz_a2 rfl pz_S165) ?_
    refine pz_j1 [.inl 40, .inl (mi 165 5), .inr (.inr (some 165))] 15 rfl rfl rfl rfl rfl ?_
    refine pz_j1 [.inr (.inr (some 165))] (bif pz_cp .ne (mi 165 5) 40 then 22 else 18) rfl rfl rfl rfl rfl ?_
    refine pz_Rn_if pz_c1_ne pz_c0_ne ⟨fun b2 => ?_, fun b2 => ?_⟩
    · replace K := K.1 b2
      refine pz_j1 [.inl 0, .inr (.inr (some 165))] 23 rfl rfl rfl rfl rfl ?_
      refine pz_j3 [] [(0, .inr (.inr (some 165))), (1, .inl a1), (2, .inl a2), (3, .inl a3), (4, .inl a4)] (pz_hp n0 (pz_up mi 165 0 0) ml mr c s) 26 rfl rfl rfl rfl (pz_a2 rfl (pz_a2 pz_S165 (pz_a2 rfl rfl))) ?_
      refine pz_j1 [.inr (.inr (some 165))] 27 rfl rfl rfl rfl rfl ?_
      refine pz_j1 [.inl 0] 30 rfl rfl rfl rfl (pz_a2 rfl pz_S165) ?_
      refine pz_j1 [] 35 rfl rfl rfl rfl rfl ?_
      refine pz_j1 [.inr (.inr (some 165))] 36 rfl rfl rfl rfl rfl ?_
      refine pz_j1 [.inr (.inr (some 169))] 39 rfl rfl rfl rfl (pz_a2 rfl pz_S165) ?_
      refine pz_j1 [.inr (.inr (some 165)), .inr (.inr (some 169))] 40 rfl rfl rfl rfl rfl ?_
      refine pz_j1 [.inl (mi 165 5), .inr (.inr (some 169))] 43 rfl rfl rfl rfl (pz_a2 rfl pz_S165) ?_
      refine pz_j1 [.inl a2, .inl (mi 165 5), .inr (.inr (some 169))] 44 rfl rfl rfl rfl rfl ?_
      obtain ⟨k3, K⟩ := K
      refine pz_j3 [] [(0, .inr (.inr (some 165))), (1, .inl a1), (2, .inl a2), (3, .inl a3), (4, .inl a4)] (pz_hp n0 (pz_up (pz_up mi 165 0 0) 169 ((mi 165 5).toNat) a2) ml mr c s) 45 rfl rfl rfl rfl (pz_a2 rfl (pz_ok_ix pz_S169 k3)) ?_
      refine pz_j1 [.inr (.inr (some 165))] 46 rfl rfl rfl rfl rfl ?_
      refine pz_j1 [.inr (.inr (some 170))] 49 rfl rfl rfl rfl (pz_a2 rfl pz_S165) ?_
      refine pz_j1 [.inr (.inr (some 165)), .inr (.inr (some 170))] 50 rfl rfl rfl rfl rfl ?_
      refine pz_j1 [.inl (mi 165 5), .inr (.inr (some 170))] 53 rfl rfl rfl rfl (pz_a2 rfl pz_S165) ?_
      refine pz_j1 [.inl a3, .inl (mi 165 5), .inr (.inr (some 170))] 54 rfl rfl rfl rfl rfl ?_
      obtain ⟨k4, K⟩ := K
      refine pz_j3 [] [(0, .inr (.inr (some 165))), (1, .inl a1), (2, .inl a2), (3, .inl a3), (4, .inl a4)] (pz_hp n0 (pz_up (pz_up (pz_up mi 165 0 0) 169 ((mi 165 5).toNat) a2) 170 ((mi 165 5).toNat) a3) ml mr c s) 55 rfl rfl rfl rfl (pz_a2 rfl (pz_ok_ix pz_S170 k4)) ?_
      refine pz_j1 [.inr (.inr (some 165))] 56 rfl rfl rfl rfl rfl ?_
      refine pz_j1 [.inr (.inr (some 171))] 59 rfl rfl rfl rfl (pz_a2 rfl pz_S165) ?_
      refine pz_j1 [.inr (.inr (some 165)), .inr (.inr (some 171))] 60 rfl rfl rfl rfl rfl ?_
      refine pz_j1 [.inl (mi 165 5), .inr (.inr (some 171))] 63 rfl rfl rfl rfl (pz_a2 rfl pz_S165) ?_
      refine pz_j1 [.inl a4, .inl (mi 165 5), .inr (.inr (some 171))] 65 rfl rfl rfl rfl rfl ?_
      obtain ⟨k5, K⟩ := K
      refine pz_j3 [] [(0, .inr (.inr (some 165))), (1, .inl a1), (2, .inl a2), (3, .inl a3), (4, .inl a4)] (pz_hp n0 (pz_up (pz_up (pz_up (pz_up mi 165 0 0) 169 ((mi 165 5).toNat) a2) 170 ((mi 165 5).toNat) a3) 171 ((mi 165 5).toNat) a4) ml mr c s) 66 rfl rfl rfl rfl (pz_a2 rfl (pz_ok_ix pz_S171 k5)) ?_
      refine pz_j1 [.inr (.inr (some 165))] 67 rfl rfl rfl rfl rfl ?_
      refine pz_j1 [.inr (.inr (some 165)), .inr (.inr (some 165))] 68 rfl rfl rfl rfl rfl ?_
      refine pz_j1 [.inl (mi 165 5), .inr (.inr (some 165))] 71 rfl rfl rfl rfl (pz_a2 rfl pz_S165) ?_
      refine pz_j1 [.inl 1, .inl (mi 165 5), .inr (.inr (some 165))] 72 rfl rfl rfl rfl rfl ?_
      obtain ⟨k6, K⟩ := K
      refine pz_j1 [.inl ((mi 165 5) + 1), .inr (.inr (some 165))] 73 rfl rfl rfl rfl (pz_ok_in k6) ?_
      refine pz_j3 [] [(0, .inr (.inr (some 165))), (1, .inl a1), (2, .inl a2), (3, .inl a3), (4, .inl a4)] (pz_hp n0 (pz_up (pz_up (pz_up (pz_up (pz_up mi 165 0 0) 169 ((mi 165 5).toNat) a2) 170 ((mi 165 5).toNat) a3) 171 ((mi 165 5).toNat) a4) 165 5 ((mi 165 5) + 1)) ml mr c s) 76 rfl rfl rfl rfl (pz_a2 rfl (pz_a2 pz_S165 (pz_a2 rfl rfl))) ?_
      refine pz_j1 [.inr (.inr (some 165))] 77 rfl rfl rfl rfl rfl ?_
      refine pz_j1 [.inl ((mi 165 5) + 1)] 80 rfl rfl rfl rfl (pz_a2 rfl pz_S165) ?_
      refine pz_j1 [.inl 1, .inl ((mi 165 5) + 1)] 81 rfl rfl rfl rfl rfl ?_
      obtain ⟨k7, K⟩ := K
      refine pz_j1 [.inl (((mi 165 5) + 1) - 1)] 82 rfl rfl rfl rfl (pz_ok_in k7) ?_
      exact pz_Rn_ret rfl rfl rfl rfl K
    · replace K := K.2 b2
      refine pz_j1 [.inl 2, .inr (.inr (some 165))] 19 rfl rfl rfl rfl rfl ?_
      refine pz_j1 [.inl 2, .inr (.inr (some 165))] 23 rfl rfl rfl rfl rfl ?_
      refine pz_j3 [] [(0, .inr (.inr (some 165))), (1, .inl a1), (2, .inl a2), (3, .inl a3), (4, .inl a4)] (pz_hp n0 (pz_up mi 165 0 2) ml mr c s) 26 rfl rfl rfl rfl (pz_a2 rfl (pz_a2 pz_S165 (pz_a2 rfl rfl))) ?_
      refine pz_j1 [.inr (.inr (some 165))] 27 rfl rfl rfl rfl rfl ?_
      refine pz_j1 [.inl 2] 30 rfl rfl rfl rfl (pz_a2 rfl pz_S165) ?_
      refine pz_j1 [] 33 rfl rfl rfl rfl rfl ?_
      refine pz_j1 [.inl 0] 34 rfl rfl rfl rfl rfl ?_
      exact pz_Rn_ret rfl rfl rfl rfl K
  · replace K := K.2 b1
    refine pz_j1 [.inl 1, .inr (.inr (some 165))] 6 rfl rfl rfl rfl rfl ?_
    refine pz_j1 [.inl 1, .inr (.inr (some 165))] 23 rfl rfl rfl rfl rfl ?_
    refine pz_j3 [] [(0, .inr (.inr (some 165))), (1, .inl a1), (2, .inl a2), (3, .inl a3), (4, .inl a4)] (pz_hp n0 (pz_up mi 165 0 1) ml mr c s) 26 rfl rfl rfl rfl (pz_a2 rfl (pz_a2 pz_S165 (pz_a2 rfl rfl))) ?_
    refine pz_j1 [.inr (.inr (some 165))] 27 rfl rfl rfl rfl rfl ?_
    refine pz_j1 [.inl 1] 30 rfl rfl rfl rfl (pz_a2 rfl pz_S165) ?_
    refine pz_j1 [] 33 rfl rfl rfl rfl rfl ?_
    refine pz_j1 [.inl 0] 34 rfl rfl rfl rfl rfl ?_
    exact pz_Rn_ret rfl rfl rfl rfl K
-- 107 RelationStreamModel.relate(ZII)I
theorem pz_g107_0 {a1 : Int} {a2 : Int} {a3 : Int}  (K : pz_Rn d 104 (0, [], [(0, .inr (.inr (some 165))), (1, .inl a2)], pz_hp n0 mi ml mr c s, true) (pz_K (d + 1) 107 3 [.inr (.inr (some 165))] [(0, .inr (.inr (some 165))), (1, .inl a1), (2, .inl a2), (3, .inl a3)] Q true)) : pz_Rn (d + 1) 107 (0, [], [(0, .inr (.inr (some 165))), (1, .inl a1), (2, .inl a2), (3, .inl a3)], pz_hp n0 mi ml mr c s, true) Q := by
  refine pz_j1 [.inr (.inr (some 165))] 1 rfl rfl rfl rfl rfl ?_
  refine pz_j1 [.inr (.inr (some 165)), .inr (.inr (some 165))] 2 rfl rfl rfl rfl rfl ?_
  refine pz_j1 [.inl a2, .inr (.inr (some 165)), .inr (.inr (some 165))] 3 rfl rfl rfl rfl rfl ?_
  exact pz_Rn_k (y := 103) rfl rfl rfl rfl rfl rfl rfl rfl (pz_cok_v rfl rfl pz_S165) K
theorem pz_g107_6 {a1 : Int} {a2 : Int} {a3 : Int} {t1 : Int}  (K : ((t1 = 0 → ((a1 = 0 → pz_Rn d 106 (0, [], [(0, .inr (.inr (some 165))), (1, .inl 0), (2, .inl 1), (3, .inl a2), (4, .inl a3)], pz_hp n0 mi ml mr c s, true) (pz_K (d + 1) 107 33 [] [] Q true)) ∧ (a1 ≠ 0 → pz_Rn d 106 (0, [], [(0, .inr (.inr (some 165))), (1, .inl 0), (2, .inl 0), (3, .inl a2), (4, .inl a3)], pz_hp n0 mi ml mr c s, true) (pz_K (d + 1) 107 33 [] [] Q true)))) ∧ (t1 ≠ 0 → pz_Rn d 104 (0, [], [(0, .inr (.inr (some 165))), (1, .inl a3)], pz_hp n0 mi ml mr c s, true) (pz_K (d + 1) 107 11 [.inr (.inr (some 165))] [(1, .inl a1), (2, .inl a2), (3, .inl a3)] Q true)))) : pz_Rn (d + 1) 107 (6, [.inl t1, .inr (.inr (some 165))], [(0, .inr (.inr (some 165))), (1, .inl a1), (2, .inl a2), (3, .inl a3)], pz_hp n0 mi ml mr c s, true) Q := by
  refine pz_j1 [.inr (.inr (some 165))] (bif pz_cp .eq t1 0 then 21 else 9) rfl rfl rfl rfl rfl ?_
  refine pz_Rn_if pz_c1_eq pz_c0_eq ⟨fun b1 => ?_, fun b1 => ?_⟩
  · replace K := K.1 b1
    refine pz_j1 [.inl 0, .inr (.inr (some 165))] 22 rfl rfl rfl rfl rfl ?_
    refine pz_j1 [.inl a1, .inl 0, .inr (.inr (some 165))] 23 rfl rfl rfl rfl rfl ?_
    refine pz_j1 [.inl 0, .inr (.inr (some 165))] (bif pz_cp .eq a1 0 then 30 else 26) rfl rfl rfl rfl rfl ?_
    refine pz_Rn_if pz_c1_eq pz_c0_eq ⟨fun b2 => ?_, fun b2 => ?_⟩
    · replace K := K.1 b2
      refine pz_j1 [.inl 1, .inl 0, .inr (.inr (some 165))] 31 rfl rfl rfl rfl rfl ?_
      refine pz_j1 [.inl a2, .inl 1, .inl 0, .inr (.inr (some 165))] 32 rfl rfl rfl rfl rfl ?_
      refine pz_j1 [.inl a3, .inl a2, .inl 1, .inl 0, .inr (.inr (some 165))] 33 rfl rfl rfl rfl rfl ?_
      refine pz_Rn_sub (L := []) [] rfl rfl ?_
      exact pz_Rn_k (y := 105) rfl rfl rfl rfl rfl rfl rfl rfl (pz_cok_v rfl rfl pz_S165) K
    · replace K := K.2 b2
      refine pz_j1 [.inl 0, .inl 0, .inr (.inr (some 165))] 27 rfl rfl rfl rfl rfl ?_
      refine pz_j1 [.inl 0, .inl 0, .inr (.inr (some 165))] 31 rfl rfl rfl rfl rfl ?_
      refine pz_j1 [.inl a2, .inl 0, .inl 0, .inr (.inr (some 165))] 32 rfl rfl rfl rfl rfl ?_
      refine pz_j1 [.inl a3, .inl a2, .inl 0, .inl 0, .inr (.inr (some 165))] 33 rfl rfl rfl rfl rfl ?_
      refine pz_Rn_sub (L := []) [] rfl rfl ?_
      exact pz_Rn_k (y := 105) rfl rfl rfl rfl rfl rfl rfl rfl (pz_cok_v rfl rfl pz_S165) K
  · replace K := K.2 b1
    refine pz_j1 [.inr (.inr (some 165)), .inr (.inr (some 165))] 10 rfl rfl rfl rfl rfl ?_
    refine pz_j1 [.inl a3, .inr (.inr (some 165)), .inr (.inr (some 165))] 11 rfl rfl rfl rfl rfl ?_
    refine pz_Rn_sub (L := [(1, .inl a1), (2, .inl a2), (3, .inl a3)]) [1, 2, 3] rfl rfl ?_
    exact pz_Rn_k (y := 103) rfl rfl rfl rfl rfl rfl rfl rfl (pz_cok_v rfl rfl pz_S165) K
theorem pz_g107_14 {a1 : Int} {a2 : Int} {a3 : Int} {t1 : Int}  (K : ((t1 = 0 → ((a1 = 0 → pz_Rn d 106 (0, [], [(0, .inr (.inr (some 165))), (1, .inl 0), (2, .inl 1), (3, .inl a2), (4, .inl a3)], pz_hp n0 mi ml mr c s, true) (pz_K (d + 1) 107 33 [] [] Q true)) ∧ (a1 ≠ 0 → pz_Rn d 106 (0, [], [(0, .inr (.inr (some 165))), (1, .inl 0), (2, .inl 0), (3, .inl a2), (4, .inl a3)], pz_hp n0 mi ml mr c s, true) (pz_K (d + 1) 107 33 [] [] Q true)))) ∧ (t1 ≠ 0 → ((a1 = 0 → pz_Rn d 106 (0, [], [(0, .inr (.inr (some 165))), (1, .inl 1), (2, .inl 1), (3, .inl a2), (4, .inl a3)], pz_hp n0 mi ml mr c s, true) (pz_K (d + 1) 107 33 [] [] Q true)) ∧ (a1 ≠ 0 → pz_Rn d 106 (0, [], [(0, .inr (.inr (some 165))), (1, .inl 1), (2, .inl 0), (3, .inl a2), (4, .inl a3)], pz_hp n0 mi ml mr c s, true) (pz_K (d + 1) 107 33 [] [] Q true)))))) : pz_Rn (d + 1) 107 (14, [.inl t1, .inr (.inr (some 165))], [(1, .inl a1), (2, .inl a2), (3, .inl a3)], pz_hp n0 mi ml mr c s, true) Q := by
  refine pz_j1 [.inr (.inr (some 165))] (bif pz_cp .eq t1 0 then 21 else 17) rfl rfl rfl rfl rfl ?_
  refine pz_Rn_if pz_c1_eq pz_c0_eq ⟨fun b1 => ?_, fun b1 => ?_⟩
  · replace K := K.1 b1
    refine pz_j1 [.inl 0, .inr (.inr (some 165))] 22 rfl rfl rfl rfl rfl ?_
    refine pz_j1 [.inl a1, .inl 0, .inr (.inr (some 165))] 23 rfl rfl rfl rfl rfl ?_
    refine pz_j1 [.inl 0, .inr (.inr (some 165))] (bif pz_cp .eq a1 0 then 30 else 26) rfl rfl rfl rfl rfl ?_
    refine pz_Rn_if pz_c1_eq pz_c0_eq ⟨fun b2 => ?_, fun b2 => ?_⟩
    · replace K := K.1 b2
      refine pz_j1 [.inl 1, .inl 0, .inr (.inr (some 165))] 31 rfl rfl rfl rfl rfl ?_
      refine pz_j1 [.inl a2, .inl 1, .inl 0, .inr (.inr (some 165))] 32 rfl rfl rfl rfl rfl ?_
      refine pz_j1 [.inl a3, .inl a2, .inl 1, .inl 0, .inr (.inr (some 165))] 33 rfl rfl rfl rfl rfl ?_
      refine pz_Rn_sub (L := []) [] rfl rfl ?_
      exact pz_Rn_k (y := 105) rfl rfl rfl rfl rfl rfl rfl rfl (pz_cok_v rfl rfl pz_S165) K
    · replace K := K.2 b2
      refine pz_j1 [.inl 0, .inl 0, .inr (.inr (some 165))] 27 rfl rfl rfl rfl rfl ?_
      refine pz_j1 [.inl 0, .inl 0, .inr (.inr (some 165))] 31 rfl rfl rfl rfl rfl ?_
      refine pz_j1 [.inl a2, .inl 0, .inl 0, .inr (.inr (some 165))] 32 rfl rfl rfl rfl rfl ?_
      refine pz_j1 [.inl a3, .inl a2, .inl 0, .inl 0, .inr (.inr (some 165))] 33 rfl rfl rfl rfl rfl ?_
      refine pz_Rn_sub (L := []) [] rfl rfl ?_
      exact pz_Rn_k (y := 105) rfl rfl rfl rfl rfl rfl rfl rfl (pz_cok_v rfl rfl pz_S165) K
  · replace K := K.2 b1
    refine pz_j1 [.inl 1, .inr (.inr (some 165))] 18 rfl rfl rfl rfl rfl ?_
    refine pz_j1 [.inl 1, .inr (.inr (some 165))] 22 rfl rfl rfl rfl rfl ?_
    refine pz_j1 [.inl a1, .inl 1, .inr (.inr (some 165))] 23 rfl rfl rfl rfl rfl ?_
    refine pz_j1 [.inl 1, .inr (.inr (some 165))] (bif pz_cp .eq a1 0 then 30 else 26) rfl rfl rfl rfl rfl ?_
    refine pz_Rn_if pz_c1_eq pz_c0_eq ⟨fun b3 => ?_, fun b3 => ?_⟩
    · replace K := K.1 b3
      refine pz_j1 [.inl 1, .inl 1, .inr (.inr (some 165))] 31 rfl rfl rfl rfl rfl ?_
      refine pz_j1 [.inl a2, .inl 1, .inl 1, .inr (.inr (some 165))] 32 rfl rfl rfl rfl rfl ?_
      refine pz_j1 [.inl a3, .inl a2, .inl 1, .inl 1, .inr (.inr (some 165))] 33 rfl rfl rfl rfl rfl ?_
      refine pz_Rn_sub (L := []) [] rfl rfl ?_
      exact pz_Rn_k (y := 105) rfl rfl rfl rfl rfl rfl rfl rfl (pz_cok_v rfl rfl pz_S165) K
    · replace K := K.2 b3
      refine pz_j1 [.inl 0, .inl 1, .inr (.inr (some 165))] 27 rfl rfl rfl rfl rfl ?_
      refine pz_j1 [.inl 0, .inl 1, .inr (.inr (some 165))] 31 rfl rfl rfl rfl rfl ?_
      refine pz_j1 [.inl a2, .inl 0, .inl 1, .inr (.inr (some 165))] 32 rfl rfl rfl rfl rfl ?_
      refine pz_j1 [.inl a3, .inl a2, .inl 0, .inl 1, .inr (.inr (some 165))] 33 rfl rfl rfl rfl rfl ?_
      refine pz_Rn_sub (L := []) [] rfl rfl ?_
      exact pz_Rn_k (y := 105) rfl rfl rfl rfl rfl rfl rfl rfl (pz_cok_v rfl rfl pz_S165) K
theorem pz_g107_36 {t0 : Int}  (K : Q (.inl (some (.inl t0))) (pz_hp n0 mi ml mr c s)) : pz_Rn (d + 1) 107 (36, [.inl t0], [], pz_hp n0 mi ml mr c s, true) Q := by
  exact pz_Rn_ret rfl rfl rfl rfl K
-- 108 RelationStreamModel.isGoal(I)Z
theorem pz_g108_0 {a1 : Int}  (K : ((a1 < 0 → Q (.inl (some (.inl 0))) (pz_hp n0 mi ml mr c s)) ∧ (0 ≤ a1 → ((mi 165 5 ≤ a1 → Q (.inl (some (.inl 0))) (pz_hp n0 mi ml mr c s)) ∧ (a1 < mi 165 5 → Q (.inl (some (.inl 1))) (pz_hp n0 mi ml mr c s)))))) : pz_Rn d 108 (0, [], [(0, .inr (.inr (some 165))), (1, .inl a1)], pz_hp n0 mi ml mr c s, true) Q := by
  refine pz_j1 [.inl a1] 1 rfl rfl rfl rfl rfl ?_
  refine pz_j1 [] (bif pz_cp .lt a1 0 then 16 else 4) rfl rfl rfl rfl rfl ?_
  refine pz_Rn_if pz_c1_lt pz_c0_lt ⟨fun b1 => ?_, fun b1 => ?_⟩
  · replace K := K.1 b1
    refine pz_j1 [.inl 0] 17 rfl rfl rfl rfl rfl ?_
    exact pz_Rn_ret rfl rfl rfl rfl K
  · replace K := K.2 b1
    refine pz_j1 [.inl a1] 5 rfl rfl rfl rfl rfl ?_
    refine pz_j1 [.inr (.inr (some 165)), .inl a1] 6 rfl rfl rfl rfl rfl ?_
    refine pz_j1 [.inl (mi 165 5), .inl a1] 9 rfl rfl rfl rfl (pz_a2 rfl pz_S165) ?_
    refine pz_j1 [] (bif pz_cp .ge a1 (mi 165 5) then 16 else 12) rfl rfl rfl rfl rfl ?_
    refine pz_Rn_if pz_c1_ge pz_c0_ge ⟨fun b2 => ?_, fun b2 => ?_⟩
    · replace K := K.1 b2
      refine pz_j1 [.inl 0] 17 rfl rfl rfl rfl rfl ?_
      exact pz_Rn_ret rfl rfl rfl rfl K
    · replace K := K.2 b2
      refine pz_j1 [.inl 1] 13 rfl rfl rfl rfl rfl ?_
      refine pz_j1 [.inl 1] 17 rfl rfl rfl rfl rfl ?_
      exact pz_Rn_ret rfl rfl rfl rfl K
-- 109 RelationStreamModel.combine(ZII)I
theorem pz_g109_0 {a1 : Int} {a2 : Int} {a3 : Int}  (K : pz_Rn d 108 (0, [], [(0, .inr (.inr (some 165))), (1, .inl a2)], pz_hp n0 mi ml mr c s, true) (pz_K (d + 1) 109 3 [.inr (.inr (some 165))] [(0, .inr (.inr (some 165))), (1, .inl a1), (2, .inl a2), (3, .inl a3)] Q true)) : pz_Rn (d + 1) 109 (0, [], [(0, .inr (.inr (some 165))), (1, .inl a1), (2, .inl a2), (3, .inl a3)], pz_hp n0 mi ml mr c s, true) Q := by
  refine pz_j1 [.inr (.inr (some 165))] 1 rfl rfl rfl rfl rfl ?_
  refine pz_j1 [.inr (.inr (some 165)), .inr (.inr (some 165))] 2 rfl rfl rfl rfl rfl ?_
  refine pz_j1 [.inl a2, .inr (.inr (some 165)), .inr (.inr (some 165))] 3 rfl rfl rfl rfl rfl ?_
  exact pz_Rn_k (y := 107) rfl rfl rfl rfl rfl rfl rfl rfl (pz_cok_v rfl rfl pz_S165) K
theorem pz_g109_6 {a1 : Int} {a2 : Int} {a3 : Int} {t1 : Int}  (K : ((t1 = 0 → ((a1 = 0 → pz_Rn d 106 (0, [], [(0, .inr (.inr (some 165))), (1, .inl 0), (2, .inl 3), (3, .inl a2), (4, .inl a3)], pz_hp n0 mi ml mr c s, true) (pz_K (d + 1) 109 33 [] [] Q true)) ∧ (a1 ≠ 0 → pz_Rn d 106 (0, [], [(0, .inr (.inr (some 165))), (1, .inl 0), (2, .inl 2), (3, .inl a2), (4, .inl a3)], pz_hp n0 mi ml mr c s, true) (pz_K (d + 1) 109 33 [] [] Q true)))) ∧ (t1 ≠ 0 → pz_Rn d 108 (0, [], [(0, .inr (.inr (some 165))), (1, .inl a3)], pz_hp n0 mi ml mr c s, true) (pz_K (d + 1) 109 11 [.inr (.inr (some 165))] [(1, .inl a1), (2, .inl a2), (3, .inl a3)] Q true)))) : pz_Rn (d + 1) 109 (6, [.inl t1, .inr (.inr (some 165))], [(0, .inr (.inr (some 165))), (1, .inl a1), (2, .inl a2), (3, .inl a3)], pz_hp n0 mi ml mr c s, true) Q := by
  refine pz_j1 [.inr (.inr (some 165))] (bif pz_cp .eq t1 0 then 21 else 9) rfl rfl rfl rfl rfl ?_
  refine pz_Rn_if pz_c1_eq pz_c0_eq ⟨fun b1 => ?_, fun b1 => ?_⟩
  · replace K := K.1 b1
    refine pz_j1 [.inl 0, .inr (.inr (some 165))] 22 rfl rfl rfl rfl rfl ?_
    refine pz_j1 [.inl a1, .inl 0, .inr (.inr (some 165))] 23 rfl rfl rfl rfl rfl ?_
    refine pz_j1 [.inl 0, .inr (.inr (some 165))] (bif pz_cp .eq a1 0 then 30 else 26) rfl rfl rfl rfl rfl ?_
    refine pz_Rn_if pz_c1_eq pz_c0_eq ⟨fun b2 => ?_, fun b2 => ?_⟩
    · replace K := K.1 b2
      refine pz_j1 [.inl 3, .inl 0, .inr (.inr (some 165))] 31 rfl rfl rfl rfl rfl ?_
      refine pz_j1 [.inl a2, .inl 3, .inl 0, .inr (.inr (some 165))] 32 rfl rfl rfl rfl rfl ?_
      refine pz_j1 [.inl a3, .inl a2, .inl 3, .inl 0, .inr (.inr (some 165))] 33 rfl rfl rfl rfl rfl ?_
      refine pz_Rn_sub (L := []) [] rfl rfl ?_
      exact pz_Rn_k (y := 105) rfl rfl rfl rfl rfl rfl rfl rfl (pz_cok_v rfl rfl pz_S165) K
    · replace K := K.2 b2
      refine pz_j1 [.inl 2, .inl 0, .inr (.inr (some 165))] 27 rfl rfl rfl rfl rfl ?_
      refine pz_j1 [.inl 2, .inl 0, .inr (.inr (some 165))] 31 rfl rfl rfl rfl rfl ?_
      refine pz_j1 [.inl a2, .inl 2, .inl 0, .inr (.inr (some 165))] 32 rfl rfl rfl rfl rfl ?_
      refine pz_j1 [.inl a3, .inl a2, .inl 2, .inl 0, .inr (.inr (some 165))] 33 rfl rfl rfl rfl rfl ?_
      refine pz_Rn_sub (L := []) [] rfl rfl ?_
      exact pz_Rn_k (y := 105) rfl rfl rfl rfl rfl rfl rfl rfl (pz_cok_v rfl rfl pz_S165) K
  · replace K := K.2 b1
    refine pz_j1 [.inr (.inr (some 165)), .inr (.inr (some 165))] 10 rfl rfl rfl rfl rfl ?_
    refine pz_j1 [.inl a3, .inr (.inr (some 165)), .inr (.inr (some 165))] 11 rfl rfl rfl rfl rfl ?_
    refine pz_Rn_sub (L := [(1, .inl a1), (2, .inl a2), (3, .inl a3)]) [1, 2, 3] rfl rfl ?_
    exact pz_Rn_k (y := 107) rfl rfl rfl rfl rfl rfl rfl rfl (pz_cok_v rfl rfl pz_S165) K
theorem pz_g109_14 {a1 : Int} {a2 : Int} {a3 : Int} {t1 : Int}  (K : ((t1 = 0 → ((a1 = 0 → pz_Rn d 106 (0, [], [(0, .inr (.inr (some 165))), (1, .inl 0), (2, .inl 3), (3, .inl a2), (4, .inl a3)], pz_hp n0 mi ml mr c s, true) (pz_K (d + 1) 109 33 [] [] Q true)) ∧ (a1 ≠ 0 → pz_Rn d 106 (0, [], [(0, .inr (.inr (some 165))), (1, .inl 0), (2, .inl 2), (3, .inl a2), (4, .inl a3)], pz_hp n0 mi ml mr c s, true) (pz_K (d + 1) 109 33 [] [] Q true)))) ∧ (t1 ≠ 0 → ((a1 = 0 → pz_Rn d 106 (0, [], [(0, .inr (.inr (some 165))), (1, .inl 1), (2, .inl 3), (3, .inl a2), (4, .inl a3)], pz_hp n0 mi ml mr c s, true) (pz_K (d + 1) 109 33 [] [] Q true)) ∧ (a1 ≠ 0 → pz_Rn d 106 (0, [], [(0, .inr (.inr (some 165))), (1, .inl 1), (2, .inl 2), (3, .inl a2), (4, .inl a3)], pz_hp n0 mi ml mr c s, true) (pz_K (d + 1) 109 33 [] [] Q true)))))) : pz_Rn (d + 1) 109 (14, [.inl t1, .inr (.inr (some 165))], [(1, .inl a1), (2, .inl a2), (3, .inl a3)], pz_hp n0 mi ml mr c s, true) Q := by
  refine pz_j1 [.inr (.inr (some 165))] (bif pz_cp .eq t1 0 then 21 else 17) rfl rfl rfl rfl rfl ?_
  refine pz_Rn_if pz_c1_eq pz_c0_eq ⟨fun b1 => ?_, fun b1 => ?_⟩
  · replace K := K.1 b1
    refine pz_j1 [.inl 0, .inr (.inr (some 165))] 22 rfl rfl rfl rfl rfl ?_
    refine pz_j1 [.inl a1, .inl 0, .inr (.inr (some 165))] 23 rfl rfl rfl rfl rfl ?_
    refine pz_j1 [.inl 0, .inr (.inr (some 165))] (bif pz_cp .eq a1 0 then 30 else 26) rfl rfl rfl rfl rfl ?_
    refine pz_Rn_if pz_c1_eq pz_c0_eq ⟨fun b2 => ?_, fun b2 => ?_⟩
    · replace K := K.1 b2
      refine pz_j1 [.inl 3, .inl 0, .inr (.inr (some 165))] 31 rfl rfl rfl rfl rfl ?_
      refine pz_j1 [.inl a2, .inl 3, .inl 0, .inr (.inr (some 165))] 32 rfl rfl rfl rfl rfl ?_
      refine pz_j1 [.inl a3, .inl a2, .inl 3, .inl 0, .inr (.inr (some 165))] 33 rfl rfl rfl rfl rfl ?_
      refine pz_Rn_sub (L := []) [] rfl rfl ?_
      exact pz_Rn_k (y := 105) rfl rfl rfl rfl rfl rfl rfl rfl (pz_cok_v rfl rfl pz_S165) K
    · replace K := K.2 b2
      refine pz_j1 [.inl 2, .inl 0, .inr (.inr (some 165))] 27 rfl rfl rfl rfl rfl ?_
      refine pz_j1 [.inl 2, .inl 0, .inr (.inr (some 165))] 31 rfl rfl rfl rfl rfl ?_
      refine pz_j1 [.inl a2, .inl 2, .inl 0, .inr (.inr (some 165))] 32 rfl rfl rfl rfl rfl ?_
      refine pz_j1 [.inl a3, .inl a2, .inl 2, .inl 0, .inr (.inr (some 165))] 33 rfl rfl rfl rfl rfl ?_
      refine pz_Rn_sub (L := []) [] rfl rfl ?_
      exact pz_Rn_k (y := 105) rfl rfl rfl rfl rfl rfl rfl rfl (pz_cok_v rfl rfl pz_S165) K
  · replace K := K.2 b1
    refine pz_j1 [.inl 1, .inr (.inr (some 165))] 18 rfl rfl rfl rfl rfl ?_
    refine pz_j1 [.inl 1, .inr (.inr (some 165))] 22 rfl rfl rfl rfl rfl ?_
    refine pz_j1 [.inl a1, .inl 1, .inr (.inr (some 165))] 23 rfl rfl rfl rfl rfl ?_
    refine pz_j1 [.inl 1, .inr (.inr (some 165))] (bif pz_cp .eq a1 0 then 30 else 26) rfl rfl rfl rfl rfl ?_
    refine pz_Rn_if pz_c1_eq pz_c0_eq ⟨fun b3 => ?_, fun b3 => ?_⟩
    · replace K := K.1 b3
      refine pz_j1 [.inl 3, .inl 1, .inr (.inr (some 165))] 31 rfl rfl rfl rfl rfl ?_
      refine pz_j1 [.inl a2, .inl 3, .inl 1, .inr (.inr (some 165))] 32 rfl rfl rfl rfl rfl ?_
      refine pz_j1 [.inl a3, .inl a2, .inl 3, .inl 1, .inr (.inr (some 165))] 33 rfl rfl rfl rfl rfl ?_
      refine pz_Rn_sub (L := []) [] rfl rfl ?_
      exact pz_Rn_k (y := 105) rfl rfl rfl rfl rfl rfl rfl rfl (pz_cok_v rfl rfl pz_S165) K
    · replace K := K.2 b3
      refine pz_j1 [.inl 2, .inl 1, .inr (.inr (some 165))] 27 rfl rfl rfl rfl rfl ?_
      refine pz_j1 [.inl 2, .inl 1, .inr (.inr (some 165))] 31 rfl rfl rfl rfl rfl ?_
      refine pz_j1 [.inl a2, .inl 2, .inl 1, .inr (.inr (some 165))] 32 rfl rfl rfl rfl rfl ?_
      refine pz_j1 [.inl a3, .inl a2, .inl 2, .inl 1, .inr (.inr (some 165))] 33 rfl rfl rfl rfl rfl ?_
      refine pz_Rn_sub (L := []) [] rfl rfl ?_
      exact pz_Rn_k (y := 105) rfl rfl rfl rfl rfl rfl rfl rfl (pz_cok_v rfl rfl pz_S165) K
theorem pz_g109_36 {t0 : Int}  (K : Q (.inl (some (.inl t0))) (pz_hp n0 mi ml mr c s)) : pz_Rn (d + 1) 109 (36, [.inl t0], [], pz_hp n0 mi ml mr c s, true) Q := by
  exact pz_Rn_ret rfl rfl rfl rfl K
-- 110 RelationStreamModel.call(IIII)I
theorem pz_g110_0 {a1 : Int} {a2 : Int} {a3 : Int} {a4 : Int}  (K : ((a1 < 0 → pz_Rn d 106 (0, [], [(0, .inr (.inr (some 165))), (1, .inl 0), (2, .inl 4), (3, .inl a1), (4, .inl a2)], pz_hp n0 mi ml mr c s, true) (pz_K (d + 1) 110 43 [] [(0, .inr (.inr (some 165))), (3, .inl a3), (4, .inl a4)] Q true)) ∧ (0 ≤ a1 → ((4 ≤ a1 → pz_Rn d 106 (0, [], [(0, .inr (.inr (some 165))), (1, .inl 0), (2, .inl 4), (3, .inl a1), (4, .inl a2)], pz_hp n0 mi ml mr c s, true) (pz_K (d + 1) 110 43 [] [(0, .inr (.inr (some 165))), (3, .inl a3), (4, .inl a4)] Q true)) ∧ (a1 < 4 → pz_Rn d 104 (0, [], [(0, .inr (.inr (some 165))), (1, .inl a2)], pz_hp n0 mi ml mr c s, true) (pz_K (d + 1) 110 12 [.inr (.inr (some 165))] [(0, .inr (.inr (some 165))), (1, .inl a1), (2, .inl a2), (3, .inl a3), (4, .inl a4)] Q true)))))) : pz_Rn (d + 1) 110 (0, [], [(0, .inr (.inr (some 165))), (1, .inl a1), (2, .inl a2), (3, .inl a3), (4, .inl a4)], pz_hp n0 mi ml mr c s, true) Q := by
  refine pz_j1 [.inr (.inr (some 165))] 1 rfl rfl rfl rfl rfl ?_
  refine pz_j1 [.inl a1, .inr (.inr (some 165))] 2 rfl rfl rfl rfl rfl ?_
  refine pz_j1 [.inr (.inr (some 165))] (bif pz_cp .lt a1 0 then 39 else 5) rfl rfl rfl rfl rfl ?_
  refine pz_Rn_if pz_c1_lt pz_c0_lt ⟨fun b1 => ?_, fun b1 => ?_⟩
  · replace K := K.1 b1
    refine pz_j1 [.inl 0, .inr (.inr (some 165))] 40 rfl rfl rfl rfl rfl ?_
    refine pz_j1 [.inl 4, .inl 0, .inr (.inr (some 165))] 41 rfl rfl rfl rfl rfl ?_
    refine pz_j1 [.inl a1, .inl 4, .inl 0, .inr (.inr (some 165))] 42 rfl rfl rfl rfl rfl ?_
    refine pz_j1 [.inl a2, .inl a1, .inl 4, .inl 0, .inr (.inr (some 165))] 43 rfl rfl rfl rfl rfl ?_
    refine pz_Rn_sub (L := [(0, .inr (.inr (some 165))), (3, .inl a3), (4, .inl a4)]) [0, 3, 4] rfl rfl ?_
    exact pz_Rn_k (y := 105) rfl rfl rfl rfl rfl rfl rfl rfl (pz_cok_v rfl rfl pz_S165) K
  · replace K := K.2 b1
    refine pz_j1 [.inl a1, .inr (.inr (some 165))] 6 rfl rfl rfl rfl rfl ?_
    refine pz_j1 [.inl 4, .inl a1, .inr (.inr (some 165))] 7 rfl rfl rfl rfl rfl ?_
    refine pz_j1 [.inr (.inr (some 165))] (bif pz_cp .ge a1 4 then 39 else 10) rfl rfl rfl rfl rfl ?_
    refine pz_Rn_if pz_c1_ge pz_c0_ge ⟨fun b2 => ?_, fun b2 => ?_⟩
    · replace K := K.1 b2
      refine pz_j1 [.inl 0, .inr (.inr (some 165))] 40 rfl rfl rfl rfl rfl ?_
      refine pz_j1 [.inl 4, .inl 0, .inr (.inr (some 165))] 41 rfl rfl rfl rfl rfl ?_
      refine pz_j1 [.inl a1, .inl 4, .inl 0, .inr (.inr (some 165))] 42 rfl rfl rfl rfl rfl ?_
      refine pz_j1 [.inl a2, .inl a1, .inl 4, .inl 0, .inr (.inr (some 165))] 43 rfl rfl rfl rfl rfl ?_
      refine pz_Rn_sub (L := [(0, .inr (.inr (some 165))), (3, .inl a3), (4, .inl a4)]) [0, 3, 4] rfl rfl ?_
      exact pz_Rn_k (y := 105) rfl rfl rfl rfl rfl rfl rfl rfl (pz_cok_v rfl rfl pz_S165) K
    · replace K := K.2 b2
      refine pz_j1 [.inr (.inr (some 165)), .inr (.inr (some 165))] 11 rfl rfl rfl rfl rfl ?_
      refine pz_j1 [.inl a2, .inr (.inr (some 165)), .inr (.inr (some 165))] 12 rfl rfl rfl rfl rfl ?_
      exact pz_Rn_k (y := 103) rfl rfl rfl rfl rfl rfl rfl rfl (pz_cok_v rfl rfl pz_S165) K
theorem pz_g110_15 {a1 : Int} {a2 : Int} {a3 : Int} {a4 : Int} {t1 : Int}  (K : ((t1 = 0 → pz_Rn d 106 (0, [], [(0, .inr (.inr (some 165))), (1, .inl 0), (2, .inl 4), (3, .inl a1), (4, .inl a2)], pz_hp n0 mi ml mr c s, true) (pz_K (d + 1) 110 43 [] [(0, .inr (.inr (some 165))), (3, .inl a3), (4, .inl a4)] Q true)) ∧ (t1 ≠ 0 → pz_Rn d 104 (0, [], [(0, .inr (.inr (some 165))), (1, .inl a3)], pz_hp n0 mi ml mr c s, true) (pz_K (d + 1) 110 20 [.inr (.inr (some 165))] [(0, .inr (.inr (some 165))), (1, .inl a1), (2, .inl a2), (3, .inl a3), (4, .inl a4)] Q true)))) : pz_Rn (d + 1) 110 (15, [.inl t1, .inr (.inr (some 165))], [(0, .inr (.inr (some 165))), (1, .inl a1), (2, .inl a2), (3, .inl a3), (4, .inl a4)], pz_hp n0 mi ml mr c s, true) Q := by
  refine pz_j1 [.inr (.inr (some 165))] (bif pz_cp .eq t1 0 then 39 else 18) rfl rfl rfl rfl rfl ?_
  refine pz_Rn_if pz_c1_eq pz_c0_eq ⟨fun b1 => ?_, fun b1 => ?_⟩
  · replace K := K.1 b1
    refine pz_j1 [.inl 0, .inr (.inr (some 165))] 40 rfl rfl rfl rfl rfl ?_
    refine pz_j1 [.inl 4, .inl 0, .inr (.inr (some 165))] 41 rfl rfl rfl rfl rfl ?_
    refine pz_j1 [.inl a1, .inl 4, .inl 0, .inr (.inr (some 165))] 42 rfl rfl rfl rfl rfl ?_
    refine pz_j1 [.inl a2, .inl a1, .inl 4, .inl 0, .inr (.inr (some 165))] 43 rfl rfl rfl rfl rfl ?_
    refine pz_Rn_sub (L := [(0, .inr (.inr (some 165))), (3, .inl a3), (4, .inl a4)]) [0, 3, 4] rfl rfl ?_
    exact pz_Rn_k (y := 105) rfl rfl rfl rfl rfl rfl rfl rfl (pz_cok_v rfl rfl pz_S165) K
  · replace K := K.2 b1
    refine pz_j1 [.inr (.inr (some 165)), .inr (.inr (some 165))] 19 rfl rfl rfl rfl rfl ?_
    refine pz_j1 [.inl a3, .inr (.inr (some 165)), .inr (.inr (some 165))] 20 rfl rfl rfl rfl rfl ?_
    exact pz_Rn_k (y := 103) rfl rfl rfl rfl rfl rfl rfl rfl (pz_cok_v rfl rfl pz_S165) K
theorem pz_g110_23 {a1 : Int} {a2 : Int} {a3 : Int} {a4 : Int} {t1 : Int}  (K : ((t1 = 0 → pz_Rn d 106 (0, [], [(0, .inr (.inr (some 165))), (1, .inl 0), (2, .inl 4), (3, .inl a1), (4, .inl a2)], pz_hp n0 mi ml mr c s, true) (pz_K (d + 1) 110 43 [] [(0, .inr (.inr (some 165))), (3, .inl a3), (4, .inl a4)] Q true)) ∧ (t1 ≠ 0 → pz_Rn d 104 (0, [], [(0, .inr (.inr (some 165))), (1, .inl a4)], pz_hp n0 mi ml mr c s, true) (pz_K (d + 1) 110 29 [.inr (.inr (some 165))] [(0, .inr (.inr (some 165))), (1, .inl a1), (2, .inl a2), (3, .inl a3), (4, .inl a4)] Q true)))) : pz_Rn (d + 1) 110 (23, [.inl t1, .inr (.inr (some 165))], [(0, .inr (.inr (some 165))), (1, .inl a1), (2, .inl a2), (3, .inl a3), (4, .inl a4)], pz_hp n0 mi ml mr c s, true) Q := by
  refine pz_j1 [.inr (.inr (some 165))] (bif pz_cp .eq t1 0 then 39 else 26) rfl rfl rfl rfl rfl ?_
  refine pz_Rn_if pz_c1_eq pz_c0_eq ⟨fun b1 => ?_, fun b1 => ?_⟩
  · replace K := K.1 b1
    refine pz_j1 [.inl 0, .inr (.inr (some 165))] 40 rfl rfl rfl rfl rfl ?_
    refine pz_j1 [.inl 4, .inl 0, .inr (.inr (some 165))] 41 rfl rfl rfl rfl rfl ?_
    refine pz_j1 [.inl a1, .inl 4, .inl 0, .inr (.inr (some 165))] 42 rfl rfl rfl rfl rfl ?_
    refine pz_j1 [.inl a2, .inl a1, .inl 4, .inl 0, .inr (.inr (some 165))] 43 rfl rfl rfl rfl rfl ?_
    refine pz_Rn_sub (L := [(0, .inr (.inr (some 165))), (3, .inl a3), (4, .inl a4)]) [0, 3, 4] rfl rfl ?_
    exact pz_Rn_k (y := 105) rfl rfl rfl rfl rfl rfl rfl rfl (pz_cok_v rfl rfl pz_S165) K
  · replace K := K.2 b1
    refine pz_j1 [.inr (.inr (some 165)), .inr (.inr (some 165))] 27 rfl rfl rfl rfl rfl ?_
    refine pz_j1 [.inl a4, .inr (.inr (some 165)), .inr (.inr (some 165))] 29 rfl rfl rfl rfl rfl ?_
    exact pz_Rn_k (y := 103) rfl rfl rfl rfl rfl rfl rfl rfl (pz_cok_v rfl rfl pz_S165) K
theorem pz_g110_32 {a1 : Int} {a2 : Int} {a3 : Int} {a4 : Int} {t1 : Int}  (K : ((t1 = 0 → pz_Rn d 106 (0, [], [(0, .inr (.inr (some 165))), (1, .inl 0), (2, .inl 4), (3, .inl a1), (4, .inl a2)], pz_hp n0 mi ml mr c s, true) (pz_K (d + 1) 110 43 [] [(0, .inr (.inr (some 165))), (3, .inl a3), (4, .inl a4)] Q true)) ∧ (t1 ≠ 0 → pz_Rn d 106 (0, [], [(0, .inr (.inr (some 165))), (1, .inl 1), (2, .inl 4), (3, .inl a1), (4, .inl a2)], pz_hp n0 mi ml mr c s, true) (pz_K (d + 1) 110 43 [] [(0, .inr (.inr (some 165))), (3, .inl a3), (4, .inl a4)] Q true)))) : pz_Rn (d + 1) 110 (32, [.inl t1, .inr (.inr (some 165))], [(0, .inr (.inr (some 165))), (1, .inl a1), (2, .inl a2), (3, .inl a3), (4, .inl a4)], pz_hp n0 mi ml mr c s, true) Q := by
  refine pz_j1 [.inr (.inr (some 165))] (bif pz_cp .eq t1 0 then 39 else 35) rfl rfl rfl rfl rfl ?_
  refine pz_Rn_if pz_c1_eq pz_c0_eq ⟨fun b1 => ?_, fun b1 => ?_⟩
  · replace K := K.1 b1
    refine pz_j1 [.inl 0, .inr (.inr (some 165))] 40 rfl rfl rfl rfl rfl ?_
    refine pz_j1 [.inl 4, .inl 0, .inr (.inr (some 165))] 41 rfl rfl rfl rfl rfl ?_
    refine pz_j1 [.inl a1, .inl 4, .inl 0, .inr (.inr (some 165))] 42 rfl rfl rfl rfl rfl ?_
    refine pz_j1 [.inl a2, .inl a1, .inl 4, .inl 0, .inr (.inr (some 165))] 43 rfl rfl rfl rfl rfl ?_
    refine pz_Rn_sub (L := [(0, .inr (.inr (some 165))), (3, .inl a3), (4, .inl a4)]) [0, 3, 4] rfl rfl ?_
    exact pz_Rn_k (y := 105) rfl rfl rfl rfl rfl rfl rfl rfl (pz_cok_v rfl rfl pz_S165) K
  · replace K := K.2 b1
    refine pz_j1 [.inl 1, .inr (.inr (some 165))] 36 rfl rfl rfl rfl rfl ?_
    refine pz_j1 [.inl 1, .inr (.inr (some 165))] 40 rfl rfl rfl rfl rfl ?_
    refine pz_j1 [.inl 4, .inl 1, .inr (.inr (some 165))] 41 rfl rfl rfl rfl rfl ?_
    refine pz_j1 [.inl a1, .inl 4, .inl 1, .inr (.inr (some 165))] 42 rfl rfl rfl rfl rfl ?_
    refine pz_j1 [.inl a2, .inl a1, .inl 4, .inl 1, .inr (.inr (some 165))] 43 rfl rfl rfl rfl rfl ?_
    refine pz_Rn_sub (L := [(0, .inr (.inr (some 165))), (3, .inl a3), (4, .inl a4)]) [0, 3, 4] rfl rfl ?_
    exact pz_Rn_k (y := 105) rfl rfl rfl rfl rfl rfl rfl rfl (pz_cok_v rfl rfl pz_S165) K
theorem pz_g110_46 {a3 : Int} {a4 : Int} {t0 : Int}  (K : ((mi 165 0 ≤ 0 → (0 ≤ t0 ∧ t0 < 40) ∧ (0 ≤ t0 ∧ t0 < 40) ∧ Q (.inl (some (.inl t0))) (pz_hp n0 (pz_up (pz_up mi 172 ((t0).toNat) a3) 173 ((t0).toNat) a4) ml mr c s)) ∧ (0 < mi 165 0 → Q (.inl (some (.inl 0))) (pz_hp n0 mi ml mr c s)))) : pz_Rn (d + 1) 110 (46, [.inl t0], [(0, .inr (.inr (some 165))), (3, .inl a3), (4, .inl a4)], pz_hp n0 mi ml mr c s, true) Q := by
  refine pz_j2 [] [(5, .inl t0), (0, .inr (.inr (some 165))), (3, .inl a3), (4, .inl a4)] 48 rfl rfl rfl rfl rfl ?_
  refine pz_j1 [.inr (.inr (some 165))] 49 rfl rfl rfl rfl rfl ?_
  refine pz_j1 [.inl (mi 165 0)] 52 rfl rfl rfl rfl (pz_a2 rfl pz_S165) ?_
  refine pz_j1 [] (bif pz_cp .le (mi 165 0) 0 then 57 else 55) rfl rfl rfl rfl rfl ?_
  refine pz_Rn_if pz_c1_le pz_c0_le ⟨fun b1 => ?_, fun b1 => ?_⟩
  · replace K := K.1 b1
    refine pz_j1 [.inr (.inr (some 165))] 58 rfl rfl rfl rfl rfl ?_
    refine pz_j1 [.inr (.inr (some 172))] 61 rfl rfl rfl rfl (pz_a2 rfl pz_S165) ?_
    refine pz_j1 [.inl t0, .inr (.inr (some 172))] 63 rfl rfl rfl rfl rfl ?_
    refine pz_j1 [.inl a3, .inl t0, .inr (.inr (some 172))] 64 rfl rfl rfl rfl rfl ?_
    obtain ⟨k2, K⟩ := K
    refine pz_j3 [] [(5, .inl t0), (0, .inr (.inr (some 165))), (3, .inl a3), (4, .inl a4)] (pz_hp n0 (pz_up mi 172 ((t0).toNat) a3) ml mr c s) 65 rfl rfl rfl rfl (pz_a2 rfl (pz_ok_ix pz_S172 k2)) ?_
    refine pz_j1 [.inr (.inr (some 165))] 66 rfl rfl rfl rfl rfl ?_
    refine pz_j1 [.inr (.inr (some 173))] 69 rfl rfl rfl rfl (pz_a2 rfl pz_S165) ?_
    refine pz_j1 [.inl t0, .inr (.inr (some 173))] 71 rfl rfl rfl rfl rfl ?_
    refine pz_j1 [.inl a4, .inl t0, .inr (.inr (some 173))] 73 rfl rfl rfl rfl rfl ?_
    obtain ⟨k3, K⟩ := K
    refine pz_j3 [] [(5, .inl t0), (0, .inr (.inr (some 165))), (3, .inl a3), (4, .inl a4)] (pz_hp n0 (pz_up (pz_up mi 172 ((t0).toNat) a3) 173 ((t0).toNat) a4) ml mr c s) 74 rfl rfl rfl rfl (pz_a2 rfl (pz_ok_ix pz_S173 k3)) ?_
    refine pz_j1 [.inl t0] 76 rfl rfl rfl rfl rfl ?_
    exact pz_Rn_ret rfl rfl rfl rfl K
  · replace K := K.2 b1
    refine pz_j1 [.inl 0] 56 rfl rfl rfl rfl rfl ?_
    exact pz_Rn_ret rfl rfl rfl rfl K
-- 111 RelationStreamModel.define(II)V
theorem pz_g111_0 {a1 : Int} {a2 : Int}  (K : ((a1 < 0 → Q (.inl none) (pz_hp n0 (pz_up mi 165 0 1) ml mr c s)) ∧ (0 ≤ a1 → ((4 ≤ a1 → Q (.inl none) (pz_hp n0 (pz_up mi 165 0 1) ml mr c s)) ∧ (a1 < 4 → ((a2 = (-1) → (0 ≤ a1 ∧ a1 < 4) ∧ Q (.inl none) (pz_hp n0 (pz_up (pz_up mi 165 0 0) 174 ((a1).toNat) a2) ml mr c s)) ∧ (a2 ≠ (-1) → pz_Rn d 108 (0, [], [(0, .inr (.inr (some 165))), (1, .inl a2)], pz_hp n0 mi ml mr c s, true) (pz_K (d + 1) 111 17 [.inr (.inr (some 165))] [(0, .inr (.inr (some 165))), (1, .inl a1), (2, .inl a2)] Q true)))))))) : pz_Rn (d + 1) 111 (0, [], [(0, .inr (.inr (some 165))), (1, .inl a1), (2, .inl a2)], pz_hp n0 mi ml mr c s, true) Q := by
  refine pz_j1 [.inr (.inr (some 165))] 1 rfl rfl rfl rfl rfl ?_
  refine pz_j1 [.inl a1, .inr (.inr (some 165))] 2 rfl rfl rfl rfl rfl ?_
  refine pz_j1 [.inr (.inr (some 165))] (bif pz_cp .lt a1 0 then 27 else 5) rfl rfl rfl rfl rfl ?_
  refine pz_Rn_if pz_c1_lt pz_c0_lt ⟨fun b1 => ?_, fun b1 => ?_⟩
  · replace K := K.1 b1
    refine pz_j1 [.inl 1, .inr (.inr (some 165))] 28 rfl rfl rfl rfl rfl ?_
    refine pz_j3 [] [(0, .inr (.inr (some 165))), (1, .inl a1), (2, .inl a2)] (pz_hp n0 (pz_up mi 165 0 1) ml mr c s) 31 rfl rfl rfl rfl (pz_a2 rfl (pz_a2 pz_S165 (pz_a2 rfl rfl))) ?_
    refine pz_j1 [.inr (.inr (some 165))] 32 rfl rfl rfl rfl rfl ?_
    refine pz_j1 [.inl 1] 35 rfl rfl rfl rfl (pz_a2 rfl pz_S165) ?_
    refine pz_j1 [] 45 rfl rfl rfl rfl rfl ?_
    exact pz_Rn_ret rfl rfl rfl rfl K
  · replace K := K.2 b1
    refine pz_j1 [.inl a1, .inr (.inr (some 165))] 6 rfl rfl rfl rfl rfl ?_
    refine pz_j1 [.inl 4, .inl a1, .inr (.inr (some 165))] 7 rfl rfl rfl rfl rfl ?_
    refine pz_j1 [.inr (.inr (some 165))] (bif pz_cp .ge a1 4 then 27 else 10) rfl rfl rfl rfl rfl ?_
    refine pz_Rn_if pz_c1_ge pz_c0_ge ⟨fun b2 => ?_, fun b2 => ?_⟩
    · replace K := K.1 b2
      refine pz_j1 [.inl 1, .inr (.inr (some 165))] 28 rfl rfl rfl rfl rfl ?_
      refine pz_j3 [] [(0, .inr (.inr (some 165))), (1, .inl a1), (2, .inl a2)] (pz_hp n0 (pz_up mi 165 0 1) ml mr c s) 31 rfl rfl rfl rfl (pz_a2 rfl (pz_a2 pz_S165 (pz_a2 rfl rfl))) ?_
      refine pz_j1 [.inr (.inr (some 165))] 32 rfl rfl rfl rfl rfl ?_
      refine pz_j1 [.inl 1] 35 rfl rfl rfl rfl (pz_a2 rfl pz_S165) ?_
      refine pz_j1 [] 45 rfl rfl rfl rfl rfl ?_
      exact pz_Rn_ret rfl rfl rfl rfl K
    · replace K := K.2 b2
      refine pz_j1 [.inl a2, .inr (.inr (some 165))] 11 rfl rfl rfl rfl rfl ?_
      refine pz_j1 [.inl (-1), .inl a2, .inr (.inr (some 165))] 12 rfl rfl rfl rfl rfl ?_
      refine pz_j1 [.inr (.inr (some 165))] (bif pz_cp .eq a2 (-1) then 23 else 15) rfl rfl rfl rfl rfl ?_
      refine pz_Rn_if pz_c1_eq pz_c0_eq ⟨fun b3 => ?_, fun b3 => ?_⟩
      · replace K := K.1 b3
        refine pz_j1 [.inl 0, .inr (.inr (some 165))] 24 rfl rfl rfl rfl rfl ?_
        refine pz_j1 [.inl 0, .inr (.inr (some 165))] 28 rfl rfl rfl rfl rfl ?_
        refine pz_j3 [] [(0, .inr (.inr (some 165))), (1, .inl a1), (2, .inl a2)] (pz_hp n0 (pz_up mi 165 0 0) ml mr c s) 31 rfl rfl rfl rfl (pz_a2 rfl (pz_a2 pz_S165 (pz_a2 rfl rfl))) ?_
        refine pz_j1 [.inr (.inr (some 165))] 32 rfl rfl rfl rfl rfl ?_
        refine pz_j1 [.inl 0] 35 rfl rfl rfl rfl (pz_a2 rfl pz_S165) ?_
        refine pz_j1 [] 38 rfl rfl rfl rfl rfl ?_
        refine pz_j1 [.inr (.inr (some 165))] 39 rfl rfl rfl rfl rfl ?_
        refine pz_j1 [.inr (.inr (some 174))] 42 rfl rfl rfl rfl (pz_a2 rfl pz_S165) ?_
        refine pz_j1 [.inl a1, .inr (.inr (some 174))] 43 rfl rfl rfl rfl rfl ?_
        refine pz_j1 [.inl a2, .inl a1, .inr (.inr (some 174))] 44 rfl rfl rfl rfl rfl ?_
        obtain ⟨k4, K⟩ := K
        refine pz_j3 [] [(0, .inr (.inr (some 165))), (1, .inl a1), (2, .inl a2)] (pz_hp n0 (pz_up (pz_up mi 165 0 0) 174 ((a1).toNat) a2) ml mr c s) 45 rfl rfl rfl rfl (pz_a2 rfl (pz_ok_ix pz_S174 k4)) ?_
        exact pz_Rn_ret rfl rfl rfl rfl K
      · replace K := K.2 b3
        refine pz_j1 [.inr (.inr (some 165)), .inr (.inr (some 165))] 16 rfl rfl rfl rfl rfl ?_
        refine pz_j1 [.inl a2, .inr (.inr (some 165)), .inr (.inr (some 165))] 17 rfl rfl rfl rfl rfl ?_
        exact pz_Rn_k (y := 107) rfl rfl rfl rfl rfl rfl rfl rfl (pz_cok_v rfl rfl pz_S165) K
theorem pz_g111_20 {a1 : Int} {a2 : Int} {t1 : Int}  (K : ((t1 = 0 → Q (.inl none) (pz_hp n0 (pz_up mi 165 0 1) ml mr c s)) ∧ (t1 ≠ 0 → (0 ≤ a1 ∧ a1 < 4) ∧ Q (.inl none) (pz_hp n0 (pz_up (pz_up mi 165 0 0) 174 ((a1).toNat) a2) ml mr c s)))) : pz_Rn (d + 1) 111 (20, [.inl t1, .inr (.inr (some 165))], [(0, .inr (.inr (some 165))), (1, .inl a1), (2, .inl a2)], pz_hp n0 mi ml mr c s, true) Q := by
  refine pz_j1 [.inr (.inr (some 165))] (bif pz_cp .eq t1 0 then 27 else 23) rfl rfl rfl rfl rfl ?_
  refine pz_Rn_if pz_c1_eq pz_c0_eq ⟨fun b1 => ?_, fun b1 => ?_⟩
  · replace K := K.1 b1
    refine pz_j1 [.inl 1, .inr (.inr (some 165))] 28 rfl rfl rfl rfl rfl ?_
    refine pz_j3 [] [(0, .inr (.inr (some 165))), (1, .inl a1), (2, .inl a2)] (pz_hp n0 (pz_up mi 165 0 1) ml mr c s) 31 rfl rfl rfl rfl (pz_a2 rfl (pz_a2 pz_S165 (pz_a2 rfl rfl))) ?_
    refine pz_j1 [.inr (.inr (some 165))] 32 rfl rfl rfl rfl rfl ?_
    refine pz_j1 [.inl 1] 35 rfl rfl rfl rfl (pz_a2 rfl pz_S165) ?_
    refine pz_j1 [] 45 rfl rfl rfl rfl rfl ?_
    exact pz_Rn_ret rfl rfl rfl rfl K
  · replace K := K.2 b1
    refine pz_j1 [.inl 0, .inr (.inr (some 165))] 24 rfl rfl rfl rfl rfl ?_
    refine pz_j1 [.inl 0, .inr (.inr (some 165))] 28 rfl rfl rfl rfl rfl ?_
    refine pz_j3 [] [(0, .inr (.inr (some 165))), (1, .inl a1), (2, .inl a2)] (pz_hp n0 (pz_up mi 165 0 0) ml mr c s) 31 rfl rfl rfl rfl (pz_a2 rfl (pz_a2 pz_S165 (pz_a2 rfl rfl))) ?_
    refine pz_j1 [.inr (.inr (some 165))] 32 rfl rfl rfl rfl rfl ?_
    refine pz_j1 [.inl 0] 35 rfl rfl rfl rfl (pz_a2 rfl pz_S165) ?_
    refine pz_j1 [] 38 rfl rfl rfl rfl rfl ?_
    refine pz_j1 [.inr (.inr (some 165))] 39 rfl rfl rfl rfl rfl ?_
    refine pz_j1 [.inr (.inr (some 174))] 42 rfl rfl rfl rfl (pz_a2 rfl pz_S165) ?_
    refine pz_j1 [.inl a1, .inr (.inr (some 174))] 43 rfl rfl rfl rfl rfl ?_
    refine pz_j1 [.inl a2, .inl a1, .inr (.inr (some 174))] 44 rfl rfl rfl rfl rfl ?_
    obtain ⟨k2, K⟩ := K
    refine pz_j3 [] [(0, .inr (.inr (some 165))), (1, .inl a1), (2, .inl a2)] (pz_hp n0 (pz_up (pz_up mi 165 0 0) 174 ((a1).toNat) a2) ml mr c s) 45 rfl rfl rfl rfl (pz_a2 rfl (pz_ok_ix pz_S174 k2)) ?_
    exact pz_Rn_ret rfl rfl rfl rfl K
-- 112 RelationStreamModel.create(I)I
theorem pz_g112_0 {a1 : Int}  (K : ∀ x1 : Int, x1 = mi 165 12 → (0 ≤ x1 ∧ x1 < 64) ∧ (0 ≤ x1 ∧ x1 < 64) ∧ Q (.inl (some (.inl x1))) (pz_hp n0 (pz_up (pz_up mi 165 12 (mi 176 ((x1).toNat))) 175 ((x1).toNat) a1) ml mr c s)) : pz_Rn d 112 (0, [], [(0, .inr (.inr (some 165))), (1, .inl a1)], pz_hp n0 mi ml mr c s, true) Q := by
  refine pz_j1 [.inr (.inr (some 165))] 1 rfl rfl rfl rfl rfl ?_
  refine pz_j1 [.inl (mi 165 12)] 4 rfl rfl rfl rfl (pz_a2 rfl pz_S165) ?_
  obtain ⟨x1, hx1⟩ : ∃ x : Int, x = mi 165 12 := ⟨_, rfl⟩
  rewrite [← hx1]
  replace K := K x1 hx1
  refine pz_j2 [] [(2, .inl x1), (0, .inr (.inr (some 165))), (1, .inl a1)] 5 rfl rfl rfl rfl rfl ?_
  refine pz_j1 [.inr (.inr (some 165))] 6 rfl rfl rfl rfl rfl ?_
  refine pz_j1 [.inr (.inr (some 165)), .inr (.inr (some 165))] 7 rfl rfl rfl rfl rfl ?_
  refine pz_j1 [.inr (.inr (some 176)), .inr (.inr (some 165))] 10 rfl rfl rfl rfl (pz_a2 rfl pz_S165) ?_
  refine pz_j1 [.inl x1, .inr (.inr (some 176)), .inr (.inr (some 165))] 11 rfl rfl rfl rfl rfl ?_
  obtain ⟨k2, K⟩ := K
  refine pz_j1 [.inl (mi 176 ((x1).toNat)), .inr (.inr (some 165))] 12 rfl rfl rfl rfl (pz_a2 rfl (pz_ok_ixs pz_S176 k2)) ?_
  refine pz_j3 [] [(2, .inl x1), (0, .inr (.inr (some 165))), (1, .inl a1)] (pz_hp n0 (pz_up mi 165 12 (mi 176 ((x1).toNat))) ml mr c s) 15 rfl rfl rfl rfl (pz_a2 rfl (pz_a2 pz_S165 (pz_a2 rfl rfl))) ?_
  refine pz_j1 [.inr (.inr (some 165))] 16 rfl rfl rfl rfl rfl ?_
  refine pz_j1 [.inr (.inr (some 175))] 19 rfl rfl rfl rfl (pz_a2 rfl pz_S165) ?_
  refine pz_j1 [.inl x1, .inr (.inr (some 175))] 20 rfl rfl rfl rfl rfl ?_
  refine pz_j1 [.inl a1, .inl x1, .inr (.inr (some 175))] 21 rfl rfl rfl rfl rfl ?_
  obtain ⟨k3, K⟩ := K
  refine pz_j3 [] [(2, .inl x1), (0, .inr (.inr (some 165))), (1, .inl a1)] (pz_hp n0 (pz_up (pz_up mi 165 12 (mi 176 ((x1).toNat))) 175 ((x1).toNat) a1) ml mr c s) 22 rfl rfl rfl rfl (pz_a2 rfl (pz_ok_ix pz_S175 k3)) ?_
  refine pz_j1 [.inl x1] 23 rfl rfl rfl rfl rfl ?_
  exact pz_Rn_ret rfl rfl rfl rfl K
-- 113 RelationStreamModel.ask(I)V
theorem pz_g113_0 {a1 : Int}  (K : pz_Rn d 108 (0, [], [(0, .inr (.inr (some 165))), (1, .inl a1)], pz_hp n0 mi ml mr c s, true) (pz_K (d + 1) 113 3 [.inr (.inr (some 165))] [(0, .inr (.inr (some 165))), (1, .inl a1)] Q true)) : pz_Rn (d + 1) 113 (0, [], [(0, .inr (.inr (some 165))), (1, .inl a1)], pz_hp n0 mi ml mr c s, true) Q := by
  refine pz_j1 [.inr (.inr (some 165))] 1 rfl rfl rfl rfl rfl ?_
  refine pz_j1 [.inr (.inr (some 165)), .inr (.inr (some 165))] 2 rfl rfl rfl rfl rfl ?_
  refine pz_j1 [.inl a1, .inr (.inr (some 165)), .inr (.inr (some 165))] 3 rfl rfl rfl rfl rfl ?_
  exact pz_Rn_k (y := 107) rfl rfl rfl rfl rfl rfl rfl rfl (pz_cok_v rfl rfl pz_S165) K
theorem pz_g113_6 {a1 : Int} {t1 : Int}  (K : ((t1 = 0 → Q (.inl none) (pz_hp n0 (pz_up mi 165 0 1) ml mr c s)) ∧ (t1 ≠ 0 → pz_Rn (d + 1) 113 (27, [], [(0, .inr (.inr (some 165))), (1, .inl a1), (2, .inl 0)], pz_hp n0 (pz_up mi 165 0 0) ml mr c s, true) Q))) : pz_Rn (d + 1) 113 (6, [.inl t1, .inr (.inr (some 165))], [(0, .inr (.inr (some 165))), (1, .inl a1)], pz_hp n0 mi ml mr c s, true) Q := by
  refine pz_j1 [.inr (.inr (some 165))] (bif pz_cp .eq t1 0 then 13 else 9) rfl rfl rfl rfl rfl ?_
  refine pz_Rn_if pz_c1_eq pz_c0_eq ⟨fun b1 => ?_, fun b1 => ?_⟩
  · replace K := K.1 b1
    refine pz_j1 [.inl 1, .inr (.inr (some 165))] 14 rfl rfl rfl rfl rfl ?_
    refine pz_j3 [] [(0, .inr (.inr (some 165))), (1, .inl a1)] (pz_hp n0 (pz_up mi 165 0 1) ml mr c s) 17 rfl rfl rfl rfl (pz_a2 rfl (pz_a2 pz_S165 (pz_a2 rfl rfl))) ?_
    refine pz_j1 [.inr (.inr (some 165))] 18 rfl rfl rfl rfl rfl ?_
    refine pz_j1 [.inl 1] 21 rfl rfl rfl rfl (pz_a2 rfl pz_S165) ?_
    refine pz_j1 [] 24 rfl rfl rfl rfl rfl ?_
    exact pz_Rn_ret rfl rfl rfl rfl K
  · replace K := K.2 b1
    refine pz_j1 [.inl 0, .inr (.inr (some 165))] 10 rfl rfl rfl rfl rfl ?_
    refine pz_j1 [.inl 0, .inr (.inr (some 165))] 14 rfl rfl rfl rfl rfl ?_
    refine pz_j3 [] [(0, .inr (.inr (some 165))), (1, .inl a1)] (pz_hp n0 (pz_up mi 165 0 0) ml mr c s) 17 rfl rfl rfl rfl (pz_a2 rfl (pz_a2 pz_S165 (pz_a2 rfl rfl))) ?_
    refine pz_j1 [.inr (.inr (some 165))] 18 rfl rfl rfl rfl rfl ?_
    refine pz_j1 [.inl 0] 21 rfl rfl rfl rfl (pz_a2 rfl pz_S165) ?_
    refine pz_j1 [] 25 rfl rfl rfl rfl rfl ?_
    refine pz_j1 [.inl 0] 26 rfl rfl rfl rfl rfl ?_
    refine pz_j2 [] [(2, .inl 0), (0, .inr (.inr (some 165))), (1, .inl a1)] 27 rfl rfl rfl rfl rfl ?_
    refine pz_Rn_sub (L := [(0, .inr (.inr (some 165))), (1, .inl a1), (2, .inl 0)]) [1, 2, 0] rfl rfl ?_
    exact K
theorem pz_g113_27 {a1 : Int} {a2 : Int}  (K : ((64 ≤ a2 → pz_Rn d 112 (0, [], [(0, .inr (.inr (some 165))), (1, .inl 0)], pz_hp n0 (pz_up mi 165 12 0) ml mr c s, true) (pz_K (d + 1) 113 56 [.inr (.inr (some 165))] [(0, .inr (.inr (some 165))), (1, .inl a1)] Q true)) ∧ (a2 < 64 → (-2147483648 ≤ a2 + 1 ∧ a2 + 1 ≤ 2147483647) ∧ (0 ≤ a2 ∧ a2 < 64) ∧ (-2147483648 ≤ a2 + 1 ∧ a2 + 1 ≤ 2147483647) ∧ pz_Rn (d + 1) 113 (27, [], [(0, .inr (.inr (some 165))), (1, .inl a1), (2, .inl (a2 + 1))], pz_hp n0 (pz_up mi 176 ((a2).toNat) (a2 + 1)) ml mr c s, true) Q))) : pz_Rn (d + 1) 113 (27, [], [(0, .inr (.inr (some 165))), (1, .inl a1), (2, .inl a2)], pz_hp n0 mi ml mr c s, true) Q := by
  refine pz_j1 [.inl a2] 28 rfl rfl rfl rfl rfl ?_
  refine pz_j1 [.inl 64, .inl a2] 30 rfl rfl rfl rfl rfl ?_
  refine pz_j1 [] (bif pz_cp .ge a2 64 then 48 else 33) rfl rfl rfl rfl rfl ?_
  refine pz_Rn_if pz_c1_ge pz_c0_ge ⟨fun b1 => ?_, fun b1 => ?_⟩
  · replace K := K.1 b1
    refine pz_j1 [.inr (.inr (some 165))] 49 rfl rfl rfl rfl rfl ?_
    refine pz_j1 [.inl 0, .inr (.inr (some 165))] 50 rfl rfl rfl rfl rfl ?_
    refine pz_j3 [] [(0, .inr (.inr (some 165))), (1, .inl a1), (2, .inl a2)] (pz_hp n0 (pz_up mi 165 12 0) ml mr c s) 53 rfl rfl rfl rfl (pz_a2 rfl (pz_a2 pz_S165 (pz_a2 rfl rfl))) ?_
    refine pz_j1 [.inr (.inr (some 165))] 54 rfl rfl rfl rfl rfl ?_
    refine pz_j1 [.inr (.inr (some 165)), .inr (.inr (some 165))] 55 rfl rfl rfl rfl rfl ?_
    refine pz_j1 [.inl 0, .inr (.inr (some 165)), .inr (.inr (some 165))] 56 rfl rfl rfl rfl rfl ?_
    refine pz_Rn_sub (L := [(0, .inr (.inr (some 165))), (1, .inl a1)]) [0, 1] rfl rfl ?_
    exact pz_Rn_k (y := 111) rfl rfl rfl rfl rfl rfl rfl rfl (pz_cok_v rfl rfl pz_S165) K
  · replace K := K.2 b1
    refine pz_j1 [.inr (.inr (some 165))] 34 rfl rfl rfl rfl rfl ?_
    refine pz_j1 [.inr (.inr (some 176))] 37 rfl rfl rfl rfl (pz_a2 rfl pz_S165) ?_
    refine pz_j1 [.inl a2, .inr (.inr (some 176))] 38 rfl rfl rfl rfl rfl ?_
    refine pz_j1 [.inl a2, .inl a2, .inr (.inr (some 176))] 39 rfl rfl rfl rfl rfl ?_
    refine pz_j1 [.inl 1, .inl a2, .inl a2, .inr (.inr (some 176))] 40 rfl rfl rfl rfl rfl ?_
    obtain ⟨k2, K⟩ := K
    refine pz_j1 [.inl (a2 + 1), .inl a2, .inr (.inr (some 176))] 41 rfl rfl rfl rfl (pz_ok_in k2) ?_
    obtain ⟨k3, K⟩ := K
    refine pz_j3 [] [(0, .inr (.inr (some 165))), (1, .inl a1), (2, .inl a2)] (pz_hp n0 (pz_up mi 176 ((a2).toNat) (a2 + 1)) ml mr c s) 42 rfl rfl rfl rfl (pz_a2 rfl (pz_ok_ix pz_S176 k3)) ?_
    obtain ⟨k4, K⟩ := K
    refine pz_j2 [] [(2, .inl (a2 + 1)), (0, .inr (.inr (some 165))), (1, .inl a1)] 45 rfl rfl rfl rfl (pz_a2 (pz_ok_in k4) rfl) ?_
    refine pz_j1 [] 27 rfl rfl rfl rfl rfl ?_
    refine pz_Rn_sub (L := [(0, .inr (.inr (some 165))), (1, .inl a1), (2, .inl (a2 + 1))]) [1, 2, 0] rfl rfl ?_
    exact K
theorem pz_g113_59 {a1 : Int} {t1 : Int}  (K : (0 ≤ t1 ∧ t1 < 64) ∧ (0 ≤ t1 ∧ t1 < 64) ∧ pz_Rn (d + 1) 113 (84, [], [(0, .inr (.inr (some 165))), (2, .inl 0)], pz_hp n0 (pz_up (pz_up (pz_up mi 165 13 t1) 178 ((t1).toNat) a1) 179 ((t1).toNat) 0) ml mr c s, true) Q) : pz_Rn (d + 1) 113 (59, [.inl t1, .inr (.inr (some 165))], [(0, .inr (.inr (some 165))), (1, .inl a1)], pz_hp n0 mi ml mr c s, true) Q := by
  refine pz_j3 [] [(0, .inr (.inr (some 165))), (1, .inl a1)] (pz_hp n0 (pz_up mi 165 13 t1) ml mr c s) 62 rfl rfl rfl rfl (pz_a2 rfl (pz_a2 pz_S165 (pz_a2 rfl rfl))) ?_
  refine pz_j1 [.inr (.inr (some 165))] 63 rfl rfl rfl rfl rfl ?_
  refine pz_j1 [.inr (.inr (some 178))] 66 rfl rfl rfl rfl (pz_a2 rfl pz_S165) ?_
  refine pz_j1 [.inr (.inr (some 165)), .inr (.inr (some 178))] 67 rfl rfl rfl rfl rfl ?_
  refine pz_j1 [.inl t1, .inr (.inr (some 178))] 70 rfl rfl rfl rfl (pz_a2 rfl pz_S165) ?_
  refine pz_j1 [.inl a1, .inl t1, .inr (.inr (some 178))] 71 rfl rfl rfl rfl rfl ?_
  obtain ⟨k1, K⟩ := K
  refine pz_j3 [] [(0, .inr (.inr (some 165))), (1, .inl a1)] (pz_hp n0 (pz_up (pz_up mi 165 13 t1) 178 ((t1).toNat) a1) ml mr c s) 72 rfl rfl rfl rfl (pz_a2 rfl (pz_ok_ix pz_S178 k1)) ?_
  refine pz_j1 [.inr (.inr (some 165))] 73 rfl rfl rfl rfl rfl ?_
  refine pz_j1 [.inr (.inr (some 179))] 76 rfl rfl rfl rfl (pz_a2 rfl pz_S165) ?_
  refine pz_j1 [.inr (.inr (some 165)), .inr (.inr (some 179))] 77 rfl rfl rfl rfl rfl ?_
  refine pz_j1 [.inl t1, .inr (.inr (some 179))] 80 rfl rfl rfl rfl (pz_a2 rfl pz_S165) ?_
  refine pz_j1 [.inl 0, .inl t1, .inr (.inr (some 179))] 81 rfl rfl rfl rfl rfl ?_
  obtain ⟨k2, K⟩ := K
  refine pz_j3 [] [(0, .inr (.inr (some 165))), (1, .inl a1)] (pz_hp n0 (pz_up (pz_up (pz_up mi 165 13 t1) 178 ((t1).toNat) a1) 179 ((t1).toNat) 0) ml mr c s) 82 rfl rfl rfl rfl (pz_a2 rfl (pz_ok_ix pz_S179 k2)) ?_
  refine pz_j1 [.inl 0] 83 rfl rfl rfl rfl rfl ?_
  refine pz_j2 [] [(2, .inl 0), (0, .inr (.inr (some 165))), (1, .inl a1)] 84 rfl rfl rfl rfl rfl ?_
  refine pz_Rn_sub (L := [(0, .inr (.inr (some 165))), (2, .inl 0)]) [1, 0] rfl rfl ?_
  exact K
theorem pz_g113_84 {a2 : Int}  (K : ((240 ≤ a2 → (0 ≤ mi 165 13 ∧ mi 165 13 < 64) ∧ (0 ≤ mi 165 13 ∧ mi 165 13 < 64) ∧ pz_Rn (d + 1) 113 (155, [], [(0, .inr (.inr (some 165))), (2, .inl 0)], pz_hp n0 (pz_up (pz_up (pz_up (pz_up mi 165 14 1) 165 28 1) 165 29 0) 165 24 0) (pz_up (pz_up ml 180 ((mi 165 13).toNat) (Int64.ofNat 0)) 181 ((mi 165 13).toNat) (Int64.ofNat 0)) mr c s, true) Q) ∧ (a2 < 240 → (-2147483648 ≤ 240 * (mi 165 13) ∧ 240 * (mi 165 13) ≤ 2147483647) ∧ (-2147483648 ≤ (240 * (mi 165 13)) + a2 ∧ (240 * (mi 165 13)) + a2 ≤ 2147483647) ∧ (0 ≤ (240 * (mi 165 13)) + a2 ∧ (240 * (mi 165 13)) + a2 < 15120) ∧ (-2147483648 ≤ a2 + 1 ∧ a2 + 1 ≤ 2147483647) ∧ pz_Rn (d + 1) 113 (84, [], [(0, .inr (.inr (some 165))), (2, .inl (a2 + 1))], pz_hp n0 (pz_up mi 182 (((240 * (mi 165 13)) + a2).toNat) 0) ml mr c s, true) Q))) : pz_Rn (d + 1) 113 (84, [], [(0, .inr (.inr (some 165))), (2, .inl a2)], pz_hp n0 mi ml mr c s, true) Q := by
  refine pz_j1 [.inl a2] 85 rfl rfl rfl rfl rfl ?_
  refine pz_j1 [.inl 240, .inl a2] 88 rfl rfl rfl rfl rfl ?_
  refine pz_j1 [] (bif pz_cp .ge a2 240 then 113 else 91) rfl rfl rfl rfl rfl ?_
  refine pz_Rn_if pz_c1_ge pz_c0_ge ⟨fun b1 => ?_, fun b1 => ?_⟩
  · replace K := K.1 b1
    refine pz_j1 [.inr (.inr (some 165))] 114 rfl rfl rfl rfl rfl ?_
    refine pz_j1 [.inr (.inr (some 180))] 117 rfl rfl rfl rfl (pz_a2 rfl pz_S165) ?_
    refine pz_j1 [.inr (.inr (some 165)), .inr (.inr (some 180))] 118 rfl rfl rfl rfl rfl ?_
    refine pz_j1 [.inl (mi 165 13), .inr (.inr (some 180))] 121 rfl rfl rfl rfl (pz_a2 rfl pz_S165) ?_
    refine pz_j1 [.inr (.inl (Int64.ofNat 0)), .inl (mi 165 13), .inr (.inr (some 180))] 122 rfl rfl rfl rfl rfl ?_
    obtain ⟨k2, K⟩ := K
    refine pz_j3 [] [(0, .inr (.inr (some 165))), (2, .inl a2)] (pz_hp n0 mi (pz_up ml 180 ((mi 165 13).toNat) (Int64.ofNat 0)) mr c s) 123 rfl rfl rfl rfl (pz_a2 rfl (pz_ok_ix pz_S180 k2)) ?_
    refine pz_j1 [.inr (.inr (some 165))] 124 rfl rfl rfl rfl rfl ?_
    refine pz_j1 [.inr (.inr (some 181))] 127 rfl rfl rfl rfl (pz_a2 rfl pz_S165) ?_
    refine pz_j1 [.inr (.inr (some 165)), .inr (.inr (some 181))] 128 rfl rfl rfl rfl rfl ?_
    refine pz_j1 [.inl (mi 165 13), .inr (.inr (some 181))] 131 rfl rfl rfl rfl (pz_a2 rfl pz_S165) ?_
    refine pz_j1 [.inr (.inl (Int64.ofNat 0)), .inl (mi 165 13), .inr (.inr (some 181))] 132 rfl rfl rfl rfl rfl ?_
    obtain ⟨k3, K⟩ := K
    refine pz_j3 [] [(0, .inr (.inr (some 165))), (2, .inl a2)] (pz_hp n0 mi (pz_up (pz_up ml 180 ((mi 165 13).toNat) (Int64.ofNat 0)) 181 ((mi 165 13).toNat) (Int64.ofNat 0)) mr c s) 133 rfl rfl rfl rfl (pz_a2 rfl (pz_ok_ix pz_S181 k3)) ?_
    refine pz_j1 [.inr (.inr (some 165))] 134 rfl rfl rfl rfl rfl ?_
    refine pz_j1 [.inl 1, .inr (.inr (some 165))] 135 rfl rfl rfl rfl rfl ?_
    refine pz_j3 [] [(0, .inr (.inr (some 165))), (2, .inl a2)] (pz_hp n0 (pz_up mi 165 14 1) (pz_up (pz_up ml 180 ((mi 165 13).toNat) (Int64.ofNat 0)) 181 ((mi 165 13).toNat) (Int64.ofNat 0)) mr c s) 138 rfl rfl rfl rfl (pz_a2 rfl (pz_a2 pz_S165 (pz_a2 rfl rfl))) ?_
    refine pz_j1 [.inr (.inr (some 165))] 139 rfl rfl rfl rfl rfl ?_
    refine pz_j1 [.inl 1, .inr (.inr (some 165))] 140 rfl rfl rfl rfl rfl ?_
    refine pz_j3 [] [(0, .inr (.inr (some 165))), (2, .inl a2)] (pz_hp n0 (pz_up (pz_up mi 165 14 1) 165 28 1) (pz_up (pz_up ml 180 ((mi 165 13).toNat) (Int64.ofNat 0)) 181 ((mi 165 13).toNat) (Int64.ofNat 0)) mr c s) 143 rfl rfl rfl rfl (pz_a2 rfl (pz_a2 pz_S165 (pz_a2 rfl rfl))) ?_
    refine pz_j1 [.inr (.inr (some 165))] 144 rfl rfl rfl rfl rfl ?_
    refine pz_j1 [.inl 0, .inr (.inr (some 165))] 145 rfl rfl rfl rfl rfl ?_
    refine pz_j3 [] [(0, .inr (.inr (some 165))), (2, .inl a2)] (pz_hp n0 (pz_up (pz_up (pz_up mi 165 14 1) 165 28 1) 165 29 0) (pz_up (pz_up ml 180 ((mi 165 13).toNat) (Int64.ofNat 0)) 181 ((mi 165 13).toNat) (Int64.ofNat 0)) mr c s) 148 rfl rfl rfl rfl (pz_a2 rfl (pz_a2 pz_S165 (pz_a2 rfl rfl))) ?_
    refine pz_j1 [.inr (.inr (some 165))] 149 rfl rfl rfl rfl rfl ?_
    refine pz_j1 [.inl 0, .inr (.inr (some 165))] 150 rfl rfl rfl rfl rfl ?_
    refine pz_j3 [] [(0, .inr (.inr (some 165))), (2, .inl a2)] (pz_hp n0 (pz_up (pz_up (pz_up (pz_up mi 165 14 1) 165 28 1) 165 29 0) 165 24 0) (pz_up (pz_up ml 180 ((mi 165 13).toNat) (Int64.ofNat 0)) 181 ((mi 165 13).toNat) (Int64.ofNat 0)) mr c s) 153 rfl rfl rfl rfl (pz_a2 rfl (pz_a2 pz_S165 (pz_a2 rfl rfl))) ?_
    refine pz_j1 [.inl 0] 154 rfl rfl rfl rfl rfl ?_
    refine pz_j2 [] [(2, .inl 0), (0, .inr (.inr (some 165)))] 155 rfl rfl rfl rfl rfl ?_
    refine pz_Rn_sub (L := [(0, .inr (.inr (some 165))), (2, .inl 0)]) [1, 0] rfl rfl ?_
    exact K
  · replace K := K.2 b1
    refine pz_j1 [.inr (.inr (some 165))] 92 rfl rfl rfl rfl rfl ?_
    refine pz_j1 [.inr (.inr (some 182))] 95 rfl rfl rfl rfl (pz_a2 rfl pz_S165) ?_
    refine pz_j1 [.inl 240, .inr (.inr (some 182))] 98 rfl rfl rfl rfl rfl ?_
    refine pz_j1 [.inr (.inr (some 165)), .inl 240, .inr (.inr (some 182))] 99 rfl rfl rfl rfl rfl ?_
    refine pz_j1 [.inl (mi 165 13), .inl 240, .inr (.inr (some 182))] 102 rfl rfl rfl rfl (pz_a2 rfl pz_S165) ?_
    obtain ⟨k4, K⟩ := K
    refine pz_j1 [.inl (240 * (mi 165 13)), .inr (.inr (some 182))] 103 rfl rfl rfl rfl (pz_ok_in k4) ?_
    refine pz_j1 [.inl a2, .inl (240 * (mi 165 13)), .inr (.inr (some 182))] 104 rfl rfl rfl rfl rfl ?_
    obtain ⟨k5, K⟩ := K
    refine pz_j1 [.inl ((240 * (mi 165 13)) + a2), .inr (.inr (some 182))] 105 rfl rfl rfl rfl (pz_ok_in k5) ?_
    refine pz_j1 [.inl 0, .inl ((240 * (mi 165 13)) + a2), .inr (.inr (some 182))] 106 rfl rfl rfl rfl rfl ?_
    obtain ⟨k6, K⟩ := K
    refine pz_j3 [] [(0, .inr (.inr (some 165))), (2, .inl a2)] (pz_hp n0 (pz_up mi 182 (((240 * (mi 165 13)) + a2).toNat) 0) ml mr c s) 107 rfl rfl rfl rfl (pz_a2 rfl (pz_ok_ix pz_S182 k6)) ?_
    obtain ⟨k7, K⟩ := K
    refine pz_j2 [] [(2, .inl (a2 + 1)), (0, .inr (.inr (some 165)))] 110 rfl rfl rfl rfl (pz_a2 (pz_ok_in k7) rfl) ?_
    refine pz_j1 [] 84 rfl rfl rfl rfl rfl ?_
    refine pz_Rn_sub (L := [(0, .inr (.inr (some 165))), (2, .inl (a2 + 1))]) [1, 0] rfl rfl ?_
    exact K
theorem pz_g113_155 {a2 : Int}  (K : ((8 ≤ a2 → Q (.inl none) (pz_hp n0 (pz_up (pz_up mi 189 1 1) 189 4 1) ml mr c s)) ∧ (a2 < 8 → (0 ≤ a2 ∧ a2 < 8) ∧ (-2147483648 ≤ a2 + 1 ∧ a2 + 1 ≤ 2147483647) ∧ pz_Rn (d + 1) 113 (155, [], [(0, .inr (.inr (some 165))), (2, .inl (a2 + 1))], pz_hp n0 (pz_up mi 189 ((a2).toNat) 0) ml mr c s, true) Q))) : pz_Rn (d + 1) 113 (155, [], [(0, .inr (.inr (some 165))), (2, .inl a2)], pz_hp n0 mi ml mr c s, true) Q := by
  refine pz_j1 [.inl a2] 156 rfl rfl rfl rfl rfl ?_
  refine pz_j1 [.inl 8, .inl a2] 158 rfl rfl rfl rfl rfl ?_
  refine pz_j1 [] (bif pz_cp .ge a2 8 then 174 else 161) rfl rfl rfl rfl rfl ?_
  refine pz_Rn_if pz_c1_ge pz_c0_ge ⟨fun b1 => ?_, fun b1 => ?_⟩
  · replace K := K.1 b1
    refine pz_j1 [.inr (.inr (some 165))] 175 rfl rfl rfl rfl rfl ?_
    refine pz_j1 [.inr (.inr (some 189))] 178 rfl rfl rfl rfl (pz_a2 rfl pz_S165) ?_
    refine pz_j1 [.inl 1, .inr (.inr (some 189))] 179 rfl rfl rfl rfl rfl ?_
    refine pz_j1 [.inl 1, .inl 1, .inr (.inr (some 189))] 180 rfl rfl rfl rfl rfl ?_
    refine pz_j3 [] [(0, .inr (.inr (some 165))), (2, .inl a2)] (pz_hp n0 (pz_up mi 189 1 1) ml mr c s) 181 rfl rfl rfl rfl (pz_a2 rfl (pz_ok_ix pz_S189 ⟨by decide, by decide⟩)) ?_
    refine pz_j1 [.inr (.inr (some 165))] 182 rfl rfl rfl rfl rfl ?_
    refine pz_j1 [.inr (.inr (some 189))] 185 rfl rfl rfl rfl (pz_a2 rfl pz_S165) ?_
    refine pz_j1 [.inl 4, .inr (.inr (some 189))] 186 rfl rfl rfl rfl rfl ?_
    refine pz_j1 [.inl 1, .inl 4, .inr (.inr (some 189))] 187 rfl rfl rfl rfl rfl ?_
    refine pz_j3 [] [(0, .inr (.inr (some 165))), (2, .inl a2)] (pz_hp n0 (pz_up (pz_up mi 189 1 1) 189 4 1) ml mr c s) 188 rfl rfl rfl rfl (pz_a2 rfl (pz_ok_ix pz_S189 ⟨by decide, by decide⟩)) ?_
    exact pz_Rn_ret rfl rfl rfl rfl K
  · replace K := K.2 b1
    refine pz_j1 [.inr (.inr (some 165))] 162 rfl rfl rfl rfl rfl ?_
    refine pz_j1 [.inr (.inr (some 189))] 165 rfl rfl rfl rfl (pz_a2 rfl pz_S165) ?_
    refine pz_j1 [.inl a2, .inr (.inr (some 189))] 166 rfl rfl rfl rfl rfl ?_
    refine pz_j1 [.inl 0, .inl a2, .inr (.inr (some 189))] 167 rfl rfl rfl rfl rfl ?_
    obtain ⟨k2, K⟩ := K
    refine pz_j3 [] [(0, .inr (.inr (some 165))), (2, .inl a2)] (pz_hp n0 (pz_up mi 189 ((a2).toNat) 0) ml mr c s) 168 rfl rfl rfl rfl (pz_a2 rfl (pz_ok_ix pz_S189 k2)) ?_
    obtain ⟨k3, K⟩ := K
    refine pz_j2 [] [(2, .inl (a2 + 1)), (0, .inr (.inr (some 165)))] 171 rfl rfl rfl rfl (pz_a2 (pz_ok_in k3) rfl) ?_
    refine pz_j1 [] 155 rfl rfl rfl rfl rfl ?_
    refine pz_Rn_sub (L := [(0, .inr (.inr (some 165))), (2, .inl (a2 + 1))]) [1, 0] rfl rfl ?_
    exact K
-- 114 RelationStreamModel.item(II)I
theorem pz_g114_0 {a0 : Int} {a1 : Int}  (K : (-2147483648 ≤ 64 * a0 ∧ 64 * a0 ≤ 2147483647) ∧ (-2147483648 ≤ 1 + (64 * a0) ∧ 1 + (64 * a0) ≤ 2147483647) ∧ (-2147483648 ≤ (1 + (64 * a0)) + a1 ∧ (1 + (64 * a0)) + a1 ≤ 2147483647) ∧ Q (.inl (some (.inl ((1 + (64 * a0)) + a1)))) (pz_hp n0 mi ml mr c s)) : pz_Rn d 114 (0, [], [(0, .inl a0), (1, .inl a1)], pz_hp n0 mi ml mr c s, true) Q := by
  refine pz_j1 [.inl 1] 1 rfl rfl rfl rfl rfl ?_
  refine pz_j1 [.inl 64, .inl 1] 3 rfl rfl rfl rfl rfl ?_
  refine pz_j1 [.inl a0, .inl 64, .inl 1] 4 rfl rfl rfl rfl rfl ?_
  obtain ⟨k1, K⟩ := K
  refine pz_j1 [.inl (64 * a0), .inl 1] 5 rfl rfl rfl rfl (pz_ok_in k1) ?_
  obtain ⟨k2, K⟩ := K
  refine pz_j1 [.inl (1 + (64 * a0))] 6 rfl rfl rfl rfl (pz_ok_in k2) ?_
  refine pz_j1 [.inl a1, .inl (1 + (64 * a0))] 7 rfl rfl rfl rfl rfl ?_
  obtain ⟨k3, K⟩ := K
  refine pz_j1 [.inl ((1 + (64 * a0)) + a1)] 8 rfl rfl rfl rfl (pz_ok_in k3) ?_
  exact pz_Rn_ret rfl rfl rfl rfl K
-- 115 RelationStreamModel.look()V
theorem pz_g115_0   (K : (-2147483648 ≤ (mi 165 27) + 1 ∧ (mi 165 27) + 1 ≤ 2147483647) ∧ (((mi 165 27) + 1 ≤ 500 → Q (.inl none) (pz_hp n0 (pz_up mi 165 27 ((mi 165 27) + 1)) ml mr c s)) ∧ (500 < (mi 165 27) + 1 → Q (.inl none) (pz_hp n0 (pz_up (pz_up mi 165 27 ((mi 165 27) + 1)) 165 31 1) ml mr c s)))) : pz_Rn d 115 (0, [], [(0, .inr (.inr (some 165)))], pz_hp n0 mi ml mr c s, true) Q := by
  refine pz_j1 [.inr (.inr (some 165))] 1 rfl rfl rfl rfl rfl ?_
  refine pz_j1 [.inr (.inr (some 165)), .inr (.inr (some 165))] 2 rfl rfl rfl rfl rfl ?_
  refine pz_j1 [.inl (mi 165 27), .inr (.inr (some 165))] 5 rfl rfl rfl rfl (pz_a2 rfl pz_S165) ?_
  refine pz_j1 [.inl 1, .inl (mi 165 27), .inr (.inr (some 165))] 6 rfl rfl rfl rfl rfl ?_
  obtain ⟨k1, K⟩ := K
  refine pz_j1 [.inl ((mi 165 27) + 1), .inr (.inr (some 165))] 7 rfl rfl rfl rfl (pz_ok_in k1) ?_
  refine pz_j3 [] [(0, .inr (.inr (some 165)))] (pz_hp n0 (pz_up mi 165 27 ((mi 165 27) + 1)) ml mr c s) 10 rfl rfl rfl rfl (pz_a2 rfl (pz_a2 pz_S165 (pz_a2 rfl rfl))) ?_
  refine pz_j1 [.inr (.inr (some 165))] 11 rfl rfl rfl rfl rfl ?_
  refine pz_j1 [.inl ((mi 165 27) + 1)] 14 rfl rfl rfl rfl (pz_a2 rfl pz_S165) ?_
  refine pz_j1 [.inl 500, .inl ((mi 165 27) + 1)] 17 rfl rfl rfl rfl rfl ?_
  refine pz_j1 [] (bif pz_cp .le ((mi 165 27) + 1) 500 then 25 else 20) rfl rfl rfl rfl rfl ?_
  refine pz_Rn_if pz_c1_le pz_c0_le ⟨fun b2 => ?_, fun b2 => ?_⟩
  · replace K := K.1 b2
    exact pz_Rn_ret rfl rfl rfl rfl K
  · replace K := K.2 b2
    refine pz_j1 [.inr (.inr (some 165))] 21 rfl rfl rfl rfl rfl ?_
    refine pz_j1 [.inl 1, .inr (.inr (some 165))] 22 rfl rfl rfl rfl rfl ?_
    refine pz_j3 [] [(0, .inr (.inr (some 165)))] (pz_hp n0 (pz_up (pz_up mi 165 27 ((mi 165 27) + 1)) 165 31 1) ml mr c s) 25 rfl rfl rfl rfl (pz_a2 rfl (pz_a2 pz_S165 (pz_a2 rfl rfl))) ?_
    exact pz_Rn_ret rfl rfl rfl rfl K
-- 116 RelationStreamModel.is(II)I
theorem pz_g116_0 {a1 : Int} {a2 : Int}  (K : pz_Rn d 116 (5, [], [(0, .inr (.inr (some 165))), (1, .inl a1), (3, .inl a2), (4, .inl 1)], pz_hp n0 mi ml mr c s, true) Q) : pz_Rn d 116 (0, [], [(0, .inr (.inr (some 165))), (1, .inl a1), (2, .inl a2)], pz_hp n0 mi ml mr c s, true) Q := by
  refine pz_j1 [.inl a2] 1 rfl rfl rfl rfl rfl ?_
  refine pz_j2 [] [(3, .inl a2), (0, .inr (.inr (some 165))), (1, .inl a1), (2, .inl a2)] 2 rfl rfl rfl rfl rfl ?_
  refine pz_j1 [.inl 1] 3 rfl rfl rfl rfl rfl ?_
  refine pz_j2 [] [(4, .inl 1), (3, .inl a2), (0, .inr (.inr (some 165))), (1, .inl a1), (2, .inl a2)] 5 rfl rfl rfl rfl rfl ?_
  refine pz_Rn_sub (L := [(0, .inr (.inr (some 165))), (1, .inl a1), (3, .inl a2), (4, .inl 1)]) [2, 3, 1, 0] rfl rfl ?_
  exact K
theorem pz_g116_5 {a1 : Int} {a3 : Int} {a4 : Int}  (K : ((a4 = 0 → Q (.inl (some (.inl a3))) (pz_hp n0 mi ml mr c s)) ∧ (a4 ≠ 0 → ((3000 ≤ a3 → (-2147483648 ≤ 240 * a1 ∧ 240 * a1 ≤ 2147483647) ∧ (-2147483648 ≤ (240 * a1) + a3 ∧ (240 * a1) + a3 ≤ 2147483647) ∧ (-2147483648 ≤ ((240 * a1) + a3) - 3000 ∧ ((240 * a1) + a3) - 3000 ≤ 2147483647) ∧ (0 ≤ ((240 * a1) + a3) - 3000 ∧ ((240 * a1) + a3) - 3000 < 15120) ∧ ((mi 182 ((((240 * a1) + a3) - 3000).toNat) = 0 → pz_Rn d 116 (5, [], [(0, .inr (.inr (some 165))), (1, .inl a1), (3, .inl a3), (4, .inl 0)], pz_hp n0 mi ml mr c s, true) Q) ∧ (mi 182 ((((240 * a1) + a3) - 3000).toNat) ≠ 0 → (-2147483648 ≤ 240 * a1 ∧ 240 * a1 ≤ 2147483647) ∧ (-2147483648 ≤ (240 * a1) + a3 ∧ (240 * a1) + a3 ≤ 2147483647) ∧ (-2147483648 ≤ ((240 * a1) + a3) - 3000 ∧ ((240 * a1) + a3) - 3000 ≤ 2147483647) ∧ (0 ≤ ((240 * a1) + a3) - 3000 ∧ ((240 * a1) + a3) - 3000 < 15120) ∧ ∀ x13 : Int, x13 = mi 182 ((((240 * a1) + a3) - 3000).toNat) → pz_Rn d 116 (5, [], [(0, .inr (.inr (some 165))), (1, .inl a1), (3, .inl x13), (4, .inl 1)], pz_hp n0 mi ml mr c s, true) Q))) ∧ (a3 < 3000 → (-2147483648 ≤ a3 - 1 ∧ a3 - 1 ≤ 2147483647) ∧ 0 ≤ a3 - 1 ∧ (0 ≤ (a3 - 1) / 64 ∧ (a3 - 1) / 64 < 40) ∧ ((mi 166 (((a3 - 1) / 64).toNat) ≠ 1 → pz_Rn d 116 (5, [], [(0, .inr (.inr (some 165))), (1, .inl a1), (3, .inl a3), (4, .inl 0)], pz_hp n0 mi ml mr c s, true) Q) ∧ (mi 166 (((a3 - 1) / 64).toNat) = 1 → (-2147483648 ≤ a3 - 1 ∧ a3 - 1 ≤ 2147483647) ∧ 0 ≤ a3 - 1 ∧ (-2147483648 ≤ 6 * ((a3 - 1) % 64) ∧ 6 * ((a3 - 1) % 64) ≤ 2147483647) ∧ (-2147483648 ≤ 3000 + (6 * ((a3 - 1) % 64)) ∧ 3000 + (6 * ((a3 - 1) % 64)) ≤ 2147483647) ∧ (-2147483648 ≤ a3 - 1 ∧ a3 - 1 ≤ 2147483647) ∧ 0 ≤ a3 - 1 ∧ (0 ≤ (a3 - 1) / 64 ∧ (a3 - 1) / 64 < 40) ∧ (-2147483648 ≤ (3000 + (6 * ((a3 - 1) % 64))) + (mi 167 (((a3 - 1) / 64).toNat)) ∧ (3000 + (6 * ((a3 - 1) % 64))) + (mi 167 (((a3 - 1) / 64).toNat)) ≤ 2147483647) ∧ ∀ x27 : Int, x27 = (3000 + (6 * ((a3 - 1) % 64))) + (mi 167 (((a3 - 1) / 64).toNat)) → ((x27 < 3000 → pz_Rn d 116 (5, [], [(0, .inr (.inr (some 165))), (1, .inl a1), (3, .inl x27), (4, .inl 0)], pz_hp n0 mi ml mr c s, true) Q) ∧ (3000 ≤ x27 → (-2147483648 ≤ 240 * a1 ∧ 240 * a1 ≤ 2147483647) ∧ (-2147483648 ≤ (240 * a1) + x27 ∧ (240 * a1) + x27 ≤ 2147483647) ∧ (-2147483648 ≤ ((240 * a1) + x27) - 3000 ∧ ((240 * a1) + x27) - 3000 ≤ 2147483647) ∧ (0 ≤ ((240 * a1) + x27) - 3000 ∧ ((240 * a1) + x27) - 3000 < 15120) ∧ ((mi 182 ((((240 * a1) + x27) - 3000).toNat) = 0 → pz_Rn d 116 (5, [], [(0, .inr (.inr (some 165))), (1, .inl a1), (3, .inl x27), (4, .inl 0)], pz_hp n0 mi ml mr c s, true) Q) ∧ (mi 182 ((((240 * a1) + x27) - 3000).toNat) ≠ 0 → (-2147483648 ≤ 240 * a1 ∧ 240 * a1 ≤ 2147483647) ∧ (-2147483648 ≤ (240 * a1) + x27 ∧ (240 * a1) + x27 ≤ 2147483647) ∧ (-2147483648 ≤ ((240 * a1) + x27) - 3000 ∧ ((240 * a1) + x27) - 3000 ≤ 2147483647) ∧ (0 ≤ ((240 * a1) + x27) - 3000 ∧ ((240 * a1) + x27) - 3000 < 15120) ∧ ∀ x38 : Int, x38 = mi 182 ((((240 * a1) + x27) - 3000).toNat) → pz_Rn d 116 (5, [], [(0, .inr (.inr (some 165))), (1, .inl a1), (3, .inl x38), (4, .inl 1)], pz_hp n0 mi ml mr c s, true) Q))))))))))) : pz_Rn d 116 (5, [], [(0, .inr (.inr (some 165))), (1, .inl a1), (3, .inl a3), (4, .inl a4)], pz_hp n0 mi ml mr c s, true) Q := by
  refine pz_j1 [.inl a4] 7 rfl rfl rfl rfl rfl ?_
  refine pz_j1 [] (bif pz_cp .eq a4 0 then 116 else 10) rfl rfl rfl rfl rfl ?_
  refine pz_Rn_if pz_c1_eq pz_c0_eq ⟨fun b1 => ?_, fun b1 => ?_⟩
  · replace K := K.1 b1
    refine pz_j1 [.inl a3] 117 rfl rfl rfl rfl rfl ?_
    exact pz_Rn_ret rfl rfl rfl rfl K
  · replace K := K.2 b1
    refine pz_j1 [.inl a3] 11 rfl rfl rfl rfl rfl ?_
    refine pz_j1 [.inl 3000, .inl a3] 14 rfl rfl rfl rfl rfl ?_
    refine pz_j1 [] (bif pz_cp .ge a3 3000 then 58 else 17) rfl rfl rfl rfl rfl ?_
    refine pz_Rn_if pz_c1_ge pz_c0_ge ⟨fun b2 => ?_, fun b2 => ?_⟩
    · replace K := K.1 b2
      refine pz_j1 [.inl a3] 59 rfl rfl rfl rfl rfl ?_
      refine pz_j1 [.inl 3000, .inl a3] 62 rfl rfl rfl rfl rfl ?_
      refine pz_j1 [] (bif pz_cp .lt a3 3000 then 88 else 65) rfl rfl rfl rfl rfl ?_
      refine pz_Rn_if pz_c1_lt pz_c0_lt ⟨fun b3 => absurd b3 (by omega), fun _ => ?_⟩
      refine pz_j1 [.inr (.inr (some 165))] 66 rfl rfl rfl rfl rfl ?_
      refine pz_j1 [.inr (.inr (some 182))] 69 rfl rfl rfl rfl (pz_a2 rfl pz_S165) ?_
      refine pz_j1 [.inl 240, .inr (.inr (some 182))] 72 rfl rfl rfl rfl rfl ?_
      refine pz_j1 [.inl a1, .inl 240, .inr (.inr (some 182))] 73 rfl rfl rfl rfl rfl ?_
      obtain ⟨k4, K⟩ := K
      refine pz_j1 [.inl (240 * a1), .inr (.inr (some 182))] 74 rfl rfl rfl rfl (pz_ok_in k4) ?_
      refine pz_j1 [.inl a3, .inl (240 * a1), .inr (.inr (some 182))] 75 rfl rfl rfl rfl rfl ?_
      obtain ⟨k5, K⟩ := K
      refine pz_j1 [.inl ((240 * a1) + a3), .inr (.inr (some 182))] 76 rfl rfl rfl rfl (pz_ok_in k5) ?_
      refine pz_j1 [.inl 3000, .inl ((240 * a1) + a3), .inr (.inr (some 182))] 79 rfl rfl rfl rfl rfl ?_
      obtain ⟨k6, K⟩ := K
      refine pz_j1 [.inl (((240 * a1) + a3) - 3000), .inr (.inr (some 182))] 80 rfl rfl rfl rfl (pz_ok_in k6) ?_
      obtain ⟨k7, K⟩ := K
      refine pz_j1 [.inl (mi 182 ((((240 * a1) + a3) - 3000).toNat))] 81 rfl rfl rfl rfl (pz_a2 rfl (pz_ok_ixs pz_S182 k7)) ?_
      refine pz_j1 [] (bif pz_cp .eq (mi 182 ((((240 * a1) + a3) - 3000).toNat)) 0 then 88 else 84) rfl rfl rfl rfl rfl ?_
      refine pz_Rn_if pz_c1_eq pz_c0_eq ⟨fun b8 => ?_, fun b8 => ?_⟩
      · replace K := K.1 b8
        refine pz_j1 [.inl 0] 89 rfl rfl rfl rfl rfl ?_
        refine pz_j2 [] [(4, .inl 0), (0, .inr (.inr (some 165))), (1, .inl a1), (3, .inl a3)] 91 rfl rfl rfl rfl rfl ?_
        refine pz_j1 [.inl 0] 93 rfl rfl rfl rfl rfl ?_
        refine pz_j1 [] 5 rfl rfl rfl rfl rfl ?_
        refine pz_Rn_sub (L := [(0, .inr (.inr (some 165))), (1, .inl a1), (3, .inl a3), (4, .inl 0)]) [1, 2, 3, 0] rfl rfl ?_
        exact K
      · replace K := K.2 b8
        refine pz_j1 [.inl 1] 85 rfl rfl rfl rfl rfl ?_
        refine pz_j1 [.inl 1] 89 rfl rfl rfl rfl rfl ?_
        refine pz_j2 [] [(4, .inl 1), (0, .inr (.inr (some 165))), (1, .inl a1), (3, .inl a3)] 91 rfl rfl rfl rfl rfl ?_
        refine pz_j1 [.inl 1] 93 rfl rfl rfl rfl rfl ?_
        refine pz_j1 [] 96 rfl rfl rfl rfl rfl ?_
        refine pz_j1 [.inr (.inr (some 165))] 97 rfl rfl rfl rfl rfl ?_
        refine pz_j1 [.inr (.inr (some 182))] 100 rfl rfl rfl rfl (pz_a2 rfl pz_S165) ?_
        refine pz_j1 [.inl 240, .inr (.inr (some 182))] 103 rfl rfl rfl rfl rfl ?_
        refine pz_j1 [.inl a1, .inl 240, .inr (.inr (some 182))] 104 rfl rfl rfl rfl rfl ?_
        obtain ⟨k9, K⟩ := K
        refine pz_j1 [.inl (240 * a1), .inr (.inr (some 182))] 105 rfl rfl rfl rfl (pz_ok_in k9) ?_
        refine pz_j1 [.inl a3, .inl (240 * a1), .inr (.inr (some 182))] 106 rfl rfl rfl rfl rfl ?_
        obtain ⟨k10, K⟩ := K
        refine pz_j1 [.inl ((240 * a1) + a3), .inr (.inr (some 182))] 107 rfl rfl rfl rfl (pz_ok_in k10) ?_
        refine pz_j1 [.inl 3000, .inl ((240 * a1) + a3), .inr (.inr (some 182))] 110 rfl rfl rfl rfl rfl ?_
        obtain ⟨k11, K⟩ := K
        refine pz_j1 [.inl (((240 * a1) + a3) - 3000), .inr (.inr (some 182))] 111 rfl rfl rfl rfl (pz_ok_in k11) ?_
        obtain ⟨k12, K⟩ := K
        refine pz_j1 [.inl (mi 182 ((((240 * a1) + a3) - 3000).toNat))] 112 rfl rfl rfl rfl (pz_a2 rfl (pz_ok_ixs pz_S182 k12)) ?_
        obtain ⟨x13, hx13⟩ : ∃ x : Int, x = mi 182 ((((240 * a1) + a3) - 3000).toNat) := ⟨_, rfl⟩
        rewrite [← hx13]
        replace K := K x13 hx13
        refine pz_j2 [] [(3, .inl x13), (4, .inl 1), (0, .inr (.inr (some 165))), (1, .inl a1)] 113 rfl rfl rfl rfl rfl ?_
        refine pz_j1 [] 5 rfl rfl rfl rfl rfl ?_
        refine pz_Rn_sub (L := [(0, .inr (.inr (some 165))), (1, .inl a1), (3, .inl x13), (4, .inl 1)]) [2, 3, 0, 1] rfl rfl ?_
        exact K
    · replace K := K.2 b2
      refine pz_j1 [.inr (.inr (some 165))] 18 rfl rfl rfl rfl rfl ?_
      refine pz_j1 [.inr (.inr (some 166))] 21 rfl rfl rfl rfl (pz_a2 rfl pz_S165) ?_
      refine pz_j1 [.inl a3, .inr (.inr (some 166))] 22 rfl rfl rfl rfl rfl ?_
      refine pz_j1 [.inl 1, .inl a3, .inr (.inr (some 166))] 23 rfl rfl rfl rfl rfl ?_
      obtain ⟨k14, K⟩ := K
      refine pz_j1 [.inl (a3 - 1), .inr (.inr (some 166))] 24 rfl rfl rfl rfl (pz_ok_in k14) ?_
      refine pz_j1 [.inl 64, .inl (a3 - 1), .inr (.inr (some 166))] 26 rfl rfl rfl rfl rfl ?_
      obtain ⟨k15, K⟩ := K
      refine pz_j1 [.inl ((a3 - 1) / 64), .inr (.inr (some 166))] 27 rfl rfl rfl rfl (pz_ok_dv ⟨k15, by decide⟩) ?_
      obtain ⟨k16, K⟩ := K
      refine pz_j1 [.inl (mi 166 (((a3 - 1) / 64).toNat))] 28 rfl rfl rfl rfl (pz_a2 rfl (pz_ok_ixs pz_S166 k16)) ?_
      refine pz_j1 [.inl 1, .inl (mi 166 (((a3 - 1) / 64).toNat))] 29 rfl rfl rfl rfl rfl ?_
      refine pz_j1 [] (bif pz_cp .ne (mi 166 (((a3 - 1) / 64).toNat)) 1 then 58 else 32) rfl rfl rfl rfl rfl ?_
      refine pz_Rn_if pz_c1_ne pz_c0_ne ⟨fun b17 => ?_, fun b17 => ?_⟩
      · replace K := K.1 b17
        refine pz_j1 [.inl a3] 59 rfl rfl rfl rfl rfl ?_
        refine pz_j1 [.inl 3000, .inl a3] 62 rfl rfl rfl rfl rfl ?_
        refine pz_j1 [] (bif pz_cp .lt a3 3000 then 88 else 65) rfl rfl rfl rfl rfl ?_
        refine pz_Rn_if pz_c1_lt pz_c0_lt ⟨fun _ => ?_, fun b18 => absurd b18 (by omega)⟩
        refine pz_j1 [.inl 0] 89 rfl rfl rfl rfl rfl ?_
        refine pz_j2 [] [(4, .inl 0), (0, .inr (.inr (some 165))), (1, .inl a1), (3, .inl a3)] 91 rfl rfl rfl rfl rfl ?_
        refine pz_j1 [.inl 0] 93 rfl rfl rfl rfl rfl ?_
        refine pz_j1 [] 5 rfl rfl rfl rfl rfl ?_
        refine pz_Rn_sub (L := [(0, .inr (.inr (some 165))), (1, .inl a1), (3, .inl a3), (4, .inl 0)]) [1, 2, 3, 0] rfl rfl ?_
        exact K
      · replace K := K.2 b17
        refine pz_j1 [.inl 3000] 35 rfl rfl rfl rfl rfl ?_
        refine pz_j1 [.inl 6, .inl 3000] 37 rfl rfl rfl rfl rfl ?_
        refine pz_j1 [.inl a3, .inl 6, .inl 3000] 38 rfl rfl rfl rfl rfl ?_
        refine pz_j1 [.inl 1, .inl a3, .inl 6, .inl 3000] 39 rfl rfl rfl rfl rfl ?_
        obtain ⟨k19, K⟩ := K
        refine pz_j1 [.inl (a3 - 1), .inl 6, .inl 3000] 40 rfl rfl rfl rfl (pz_ok_in k19) ?_
        refine pz_j1 [.inl 64, .inl (a3 - 1), .inl 6, .inl 3000] 42 rfl rfl rfl rfl rfl ?_
        obtain ⟨k20, K⟩ := K
        refine pz_j1 [.inl ((a3 - 1) % 64), .inl 6, .inl 3000] 43 rfl rfl rfl rfl (pz_ok_dv ⟨k20, by decide⟩) ?_
        obtain ⟨k21, K⟩ := K
        refine pz_j1 [.inl (6 * ((a3 - 1) % 64)), .inl 3000] 44 rfl rfl rfl rfl (pz_ok_in k21) ?_
        obtain ⟨k22, K⟩ := K
        refine pz_j1 [.inl (3000 + (6 * ((a3 - 1) % 64)))] 45 rfl rfl rfl rfl (pz_ok_in k22) ?_
        refine pz_j1 [.inr (.inr (some 165)), .inl (3000 + (6 * ((a3 - 1) % 64)))] 46 rfl rfl rfl rfl rfl ?_
        refine pz_j1 [.inr (.inr (some 167)), .inl (3000 + (6 * ((a3 - 1) % 64)))] 49 rfl rfl rfl rfl (pz_a2 rfl pz_S165) ?_
        refine pz_j1 [.inl a3, .inr (.inr (some 167)), .inl (3000 + (6 * ((a3 - 1) % 64)))] 50 rfl rfl rfl rfl rfl ?_
        refine pz_j1 [.inl 1, .inl a3, .inr (.inr (some 167)), .inl (3000 + (6 * ((a3 - 1) % 64)))] 51 rfl rfl rfl rfl rfl ?_
        obtain ⟨k23, K⟩ := K
        refine pz_j1 [.inl (a3 - 1), .inr (.inr (some 167)), .inl (3000 + (6 * ((a3 - 1) % 64)))] 52 rfl rfl rfl rfl (pz_ok_in k23) ?_
        refine pz_j1 [.inl 64, .inl (a3 - 1), .inr (.inr (some 167)), .inl (3000 + (6 * ((a3 - 1) % 64)))] 54 rfl rfl rfl rfl rfl ?_
        obtain ⟨k24, K⟩ := K
        refine pz_j1 [.inl ((a3 - 1) / 64), .inr (.inr (some 167)), .inl (3000 + (6 * ((a3 - 1) % 64)))] 55 rfl rfl rfl rfl (pz_ok_dv ⟨k24, by decide⟩) ?_
        obtain ⟨k25, K⟩ := K
        refine pz_j1 [.inl (mi 167 (((a3 - 1) / 64).toNat)), .inl (3000 + (6 * ((a3 - 1) % 64)))] 56 rfl rfl rfl rfl (pz_a2 rfl (pz_ok_ixs pz_S167 k25)) ?_
        obtain ⟨k26, K⟩ := K
        refine pz_j1 [.inl ((3000 + (6 * ((a3 - 1) % 64))) + (mi 167 (((a3 - 1) / 64).toNat)))] 57 rfl rfl rfl rfl (pz_ok_in k26) ?_
        obtain ⟨x27, hx27⟩ : ∃ x : Int, x = (3000 + (6 * ((a3 - 1) % 64))) + (mi 167 (((a3 - 1) / 64).toNat)) := ⟨_, rfl⟩
        rewrite [← hx27]
        replace K := K x27 hx27
        refine pz_j2 [] [(3, .inl x27), (0, .inr (.inr (some 165))), (1, .inl a1), (4, .inl a4)] 58 rfl rfl rfl rfl rfl ?_
        refine pz_j1 [.inl x27] 59 rfl rfl rfl rfl rfl ?_
        refine pz_j1 [.inl 3000, .inl x27] 62 rfl rfl rfl rfl rfl ?_
        refine pz_j1 [] (bif pz_cp .lt x27 3000 then 88 else 65) rfl rfl rfl rfl rfl ?_
        refine pz_Rn_if pz_c1_lt pz_c0_lt ⟨fun b28 => ?_, fun b28 => ?_⟩
        · replace K := K.1 b28
          refine pz_j1 [.inl 0] 89 rfl rfl rfl rfl rfl ?_
          refine pz_j2 [] [(4, .inl 0), (3, .inl x27), (0, .inr (.inr (some 165))), (1, .inl a1)] 91 rfl rfl rfl rfl rfl ?_
          refine pz_j1 [.inl 0] 93 rfl rfl rfl rfl rfl ?_
          refine pz_j1 [] 5 rfl rfl rfl rfl rfl ?_
          refine pz_Rn_sub (L := [(0, .inr (.inr (some 165))), (1, .inl a1), (3, .inl x27), (4, .inl 0)]) [2, 3, 1, 0] rfl rfl ?_
          exact K
        · replace K := K.2 b28
          refine pz_j1 [.inr (.inr (some 165))] 66 rfl rfl rfl rfl rfl ?_
          refine pz_j1 [.inr (.inr (some 182))] 69 rfl rfl rfl rfl (pz_a2 rfl pz_S165) ?_
          refine pz_j1 [.inl 240, .inr (.inr (some 182))] 72 rfl rfl rfl rfl rfl ?_
          refine pz_j1 [.inl a1, .inl 240, .inr (.inr (some 182))] 73 rfl rfl rfl rfl rfl ?_
          obtain ⟨k29, K⟩ := K
          refine pz_j1 [.inl (240 * a1), .inr (.inr (some 182))] 74 rfl rfl rfl rfl (pz_ok_in k29) ?_
          refine pz_j1 [.inl x27, .inl (240 * a1), .inr (.inr (some 182))] 75 rfl rfl rfl rfl rfl ?_
          obtain ⟨k30, K⟩ := K
          refine pz_j1 [.inl ((240 * a1) + x27), .inr (.inr (some 182))] 76 rfl rfl rfl rfl (pz_ok_in k30) ?_
          refine pz_j1 [.inl 3000, .inl ((240 * a1) + x27), .inr (.inr (some 182))] 79 rfl rfl rfl rfl rfl ?_
          obtain ⟨k31, K⟩ := K
          refine pz_j1 [.inl (((240 * a1) + x27) - 3000), .inr (.inr (some 182))] 80 rfl rfl rfl rfl (pz_ok_in k31) ?_
          obtain ⟨k32, K⟩ := K
          refine pz_j1 [.inl (mi 182 ((((240 * a1) + x27) - 3000).toNat))] 81 rfl rfl rfl rfl (pz_a2 rfl (pz_ok_ixs pz_S182 k32)) ?_
          refine pz_j1 [] (bif pz_cp .eq (mi 182 ((((240 * a1) + x27) - 3000).toNat)) 0 then 88 else 84) rfl rfl rfl rfl rfl ?_
          refine pz_Rn_if pz_c1_eq pz_c0_eq ⟨fun b33 => ?_, fun b33 => ?_⟩
          · replace K := K.1 b33
            refine pz_j1 [.inl 0] 89 rfl rfl rfl rfl rfl ?_
            refine pz_j2 [] [(4, .inl 0), (3, .inl x27), (0, .inr (.inr (some 165))), (1, .inl a1)] 91 rfl rfl rfl rfl rfl ?_
            refine pz_j1 [.inl 0] 93 rfl rfl rfl rfl rfl ?_
            refine pz_j1 [] 5 rfl rfl rfl rfl rfl ?_
            refine pz_Rn_sub (L := [(0, .inr (.inr (some 165))), (1, .inl a1), (3, .inl x27), (4, .inl 0)]) [2, 3, 1, 0] rfl rfl ?_
            exact K
          · replace K := K.2 b33
            refine pz_j1 [.inl 1] 85 rfl rfl rfl rfl rfl ?_
            refine pz_j1 [.inl 1] 89 rfl rfl rfl rfl rfl ?_
            refine pz_j2 [] [(4, .inl 1), (3, .inl x27), (0, .inr (.inr (some 165))), (1, .inl a1)] 91 rfl rfl rfl rfl rfl ?_
            refine pz_j1 [.inl 1] 93 rfl rfl rfl rfl rfl ?_
            refine pz_j1 [] 96 rfl rfl rfl rfl rfl ?_
            refine pz_j1 [.inr (.inr (some 165))] 97 rfl rfl rfl rfl rfl ?_
            refine pz_j1 [.inr (.inr (some 182))] 100 rfl rfl rfl rfl (pz_a2 rfl pz_S165) ?_
            refine pz_j1 [.inl 240, .inr (.inr (some 182))] 103 rfl rfl rfl rfl rfl ?_
            refine pz_j1 [.inl a1, .inl 240, .inr (.inr (some 182))] 104 rfl rfl rfl rfl rfl ?_
            obtain ⟨k34, K⟩ := K
            refine pz_j1 [.inl (240 * a1), .inr (.inr (some 182))] 105 rfl rfl rfl rfl (pz_ok_in k34) ?_
            refine pz_j1 [.inl x27, .inl (240 * a1), .inr (.inr (some 182))] 106 rfl rfl rfl rfl rfl ?_
            obtain ⟨k35, K⟩ := K
            refine pz_j1 [.inl ((240 * a1) + x27), .inr (.inr (some 182))] 107 rfl rfl rfl rfl (pz_ok_in k35) ?_
            refine pz_j1 [.inl 3000, .inl ((240 * a1) + x27), .inr (.inr (some 182))] 110 rfl rfl rfl rfl rfl ?_
            obtain ⟨k36, K⟩ := K
            refine pz_j1 [.inl (((240 * a1) + x27) - 3000), .inr (.inr (some 182))] 111 rfl rfl rfl rfl (pz_ok_in k36) ?_
            obtain ⟨k37, K⟩ := K
            refine pz_j1 [.inl (mi 182 ((((240 * a1) + x27) - 3000).toNat))] 112 rfl rfl rfl rfl (pz_a2 rfl (pz_ok_ixs pz_S182 k37)) ?_
            obtain ⟨x38, hx38⟩ : ∃ x : Int, x = mi 182 ((((240 * a1) + x27) - 3000).toNat) := ⟨_, rfl⟩
            rewrite [← hx38]
            replace K := K x38 hx38
            refine pz_j2 [] [(3, .inl x38), (4, .inl 1), (0, .inr (.inr (some 165))), (1, .inl a1)] 113 rfl rfl rfl rfl rfl ?_
            refine pz_j1 [] 5 rfl rfl rfl rfl rfl ?_
            refine pz_Rn_sub (L := [(0, .inr (.inr (some 165))), (1, .inl a1), (3, .inl x38), (4, .inl 1)]) [2, 3, 0, 1] rfl rfl ?_
            exact K
-- 117 RelationStreamModel.termOf(I)I
theorem pz_g117_0 {a0 : Int}  (K : (-2147483648 ≤ a0 - 1 ∧ a0 - 1 ≤ 2147483647) ∧ 0 ≤ a0 - 1 ∧ Q (.inl (some (.inl ((a0 - 1) / 64)))) (pz_hp n0 mi ml mr c s)) : pz_Rn d 117 (0, [], [(0, .inl a0)], pz_hp n0 mi ml mr c s, true) Q := by
  refine pz_j1 [.inl a0] 1 rfl rfl rfl rfl rfl ?_
  refine pz_j1 [.inl 1, .inl a0] 2 rfl rfl rfl rfl rfl ?_
  obtain ⟨k1, K⟩ := K
  refine pz_j1 [.inl (a0 - 1)] 3 rfl rfl rfl rfl (pz_ok_in k1) ?_
  refine pz_j1 [.inl 64, .inl (a0 - 1)] 5 rfl rfl rfl rfl rfl ?_
  obtain ⟨k2, K⟩ := K
  refine pz_j1 [.inl ((a0 - 1) / 64)] 6 rfl rfl rfl rfl (pz_ok_dv ⟨k2, by decide⟩) ?_
  exact pz_Rn_ret rfl rfl rfl rfl K
-- 118 RelationStreamModel.isPair(I)Z
theorem pz_g118_0 {a1 : Int}  (K : ((3000 ≤ a1 → Q (.inl (some (.inl 0))) (pz_hp n0 mi ml mr c s)) ∧ (a1 < 3000 → pz_Rn d 117 (0, [], [(0, .inl a1)], pz_hp n0 mi ml mr c s, true) (pz_K (d + 1) 118 12 [.inr (.inr (some 166))] [] Q true)))) : pz_Rn (d + 1) 118 (0, [], [(0, .inr (.inr (some 165))), (1, .inl a1)], pz_hp n0 mi ml mr c s, true) Q := by
  refine pz_j1 [.inl a1] 1 rfl rfl rfl rfl rfl ?_
  refine pz_j1 [.inl 3000, .inl a1] 4 rfl rfl rfl rfl rfl ?_
  refine pz_j1 [] (bif pz_cp .ge a1 3000 then 24 else 7) rfl rfl rfl rfl rfl ?_
  refine pz_Rn_if pz_c1_ge pz_c0_ge ⟨fun b1 => ?_, fun b1 => ?_⟩
  · replace K := K.1 b1
    refine pz_j1 [.inl 0] 25 rfl rfl rfl rfl rfl ?_
    exact pz_Rn_ret rfl rfl rfl rfl K
  · replace K := K.2 b1
    refine pz_j1 [.inr (.inr (some 165))] 8 rfl rfl rfl rfl rfl ?_
    refine pz_j1 [.inr (.inr (some 166))] 11 rfl rfl rfl rfl (pz_a2 rfl pz_S165) ?_
    refine pz_j1 [.inl a1, .inr (.inr (some 166))] 12 rfl rfl rfl rfl rfl ?_
    refine pz_Rn_sub (L := []) [] rfl rfl ?_
    exact pz_Rn_k (y := 116) rfl rfl rfl rfl rfl rfl rfl rfl rfl K
theorem pz_g118_15 {t1 : Int}  (K : (0 ≤ t1 ∧ t1 < 40) ∧ ((mi 166 ((t1).toNat) ≠ 2 → Q (.inl (some (.inl 0))) (pz_hp n0 mi ml mr c s)) ∧ (mi 166 ((t1).toNat) = 2 → Q (.inl (some (.inl 1))) (pz_hp n0 mi ml mr c s)))) : pz_Rn (d + 1) 118 (15, [.inl t1, .inr (.inr (some 166))], [], pz_hp n0 mi ml mr c s, true) Q := by
  obtain ⟨k1, K⟩ := K
  refine pz_j1 [.inl (mi 166 ((t1).toNat))] 16 rfl rfl rfl rfl (pz_a2 rfl (pz_ok_ixs pz_S166 k1)) ?_
  refine pz_j1 [.inl 2, .inl (mi 166 ((t1).toNat))] 17 rfl rfl rfl rfl rfl ?_
  refine pz_j1 [] (bif pz_cp .ne (mi 166 ((t1).toNat)) 2 then 24 else 20) rfl rfl rfl rfl rfl ?_
  refine pz_Rn_if pz_c1_ne pz_c0_ne ⟨fun b2 => ?_, fun b2 => ?_⟩
  · replace K := K.1 b2
    refine pz_j1 [.inl 0] 25 rfl rfl rfl rfl rfl ?_
    exact pz_Rn_ret rfl rfl rfl rfl K
  · replace K := K.2 b2
    refine pz_j1 [.inl 1] 21 rfl rfl rfl rfl rfl ?_
    refine pz_j1 [.inl 1] 25 rfl rfl rfl rfl rfl ?_
    exact pz_Rn_ret rfl rfl rfl rfl K
-- 119 RelationStreamModel.half(IZ)I
theorem pz_g119_0 {a1 : Int} {a2 : Int}  (K : pz_Rn d 117 (0, [], [(0, .inl a1)], pz_hp n0 mi ml mr c s, true) (pz_K (d + 1) 119 1 [] [(0, .inr (.inr (some 165))), (1, .inl a1), (2, .inl a2)] Q true)) : pz_Rn (d + 1) 119 (0, [], [(0, .inr (.inr (some 165))), (1, .inl a1), (2, .inl a2)], pz_hp n0 mi ml mr c s, true) Q := by
  refine pz_j1 [.inl a1] 1 rfl rfl rfl rfl rfl ?_
  exact pz_Rn_k (y := 116) rfl rfl rfl rfl rfl rfl rfl rfl rfl K
theorem pz_g119_4 {a1 : Int} {a2 : Int} {t0 : Int}  (K : ((a2 = 0 → (0 ≤ t0 ∧ t0 < 40) ∧ (-2147483648 ≤ a1 - 1 ∧ a1 - 1 ≤ 2147483647) ∧ 0 ≤ a1 - 1 ∧ pz_Rn d 114 (0, [], [(0, .inl (mi 168 ((t0).toNat))), (1, .inl ((a1 - 1) % 64))], pz_hp n0 mi ml mr c s, true) (pz_K (d + 1) 119 30 [] [] Q true)) ∧ (a2 ≠ 0 → (0 ≤ t0 ∧ t0 < 40) ∧ (-2147483648 ≤ a1 - 1 ∧ a1 - 1 ≤ 2147483647) ∧ 0 ≤ a1 - 1 ∧ pz_Rn d 114 (0, [], [(0, .inl (mi 167 ((t0).toNat))), (1, .inl ((a1 - 1) % 64))], pz_hp n0 mi ml mr c s, true) (pz_K (d + 1) 119 30 [] [] Q true)))) : pz_Rn (d + 1) 119 (4, [.inl t0], [(0, .inr (.inr (some 165))), (1, .inl a1), (2, .inl a2)], pz_hp n0 mi ml mr c s, true) Q := by
  refine pz_j2 [] [(3, .inl t0), (0, .inr (.inr (some 165))), (1, .inl a1), (2, .inl a2)] 5 rfl rfl rfl rfl rfl ?_
  refine pz_j1 [.inl a2] 6 rfl rfl rfl rfl rfl ?_
  refine pz_j1 [] (bif pz_cp .eq a2 0 then 18 else 9) rfl rfl rfl rfl rfl ?_
  refine pz_Rn_if pz_c1_eq pz_c0_eq ⟨fun b1 => ?_, fun b1 => ?_⟩
  · replace K := K.1 b1
    refine pz_j1 [.inr (.inr (some 165))] 19 rfl rfl rfl rfl rfl ?_
    refine pz_j1 [.inr (.inr (some 168))] 22 rfl rfl rfl rfl (pz_a2 rfl pz_S165) ?_
    refine pz_j1 [.inl t0, .inr (.inr (some 168))] 23 rfl rfl rfl rfl rfl ?_
    obtain ⟨k2, K⟩ := K
    refine pz_j1 [.inl (mi 168 ((t0).toNat))] 24 rfl rfl rfl rfl (pz_a2 rfl (pz_ok_ixs pz_S168 k2)) ?_
    refine pz_j1 [.inl a1, .inl (mi 168 ((t0).toNat))] 25 rfl rfl rfl rfl rfl ?_
    refine pz_j1 [.inl 1, .inl a1, .inl (mi 168 ((t0).toNat))] 26 rfl rfl rfl rfl rfl ?_
    obtain ⟨k3, K⟩ := K
    refine pz_j1 [.inl (a1 - 1), .inl (mi 168 ((t0).toNat))] 27 rfl rfl rfl rfl (pz_ok_in k3) ?_
    refine pz_j1 [.inl 64, .inl (a1 - 1), .inl (mi 168 ((t0).toNat))] 29 rfl rfl rfl rfl rfl ?_
    obtain ⟨k4, K⟩ := K
    refine pz_j1 [.inl ((a1 - 1) % 64), .inl (mi 168 ((t0).toNat))] 30 rfl rfl rfl rfl (pz_ok_dv ⟨k4, by decide⟩) ?_
    refine pz_Rn_sub (L := []) [] rfl rfl ?_
    exact pz_Rn_k (y := 113) rfl rfl rfl rfl rfl rfl rfl rfl rfl K
  · replace K := K.2 b1
    refine pz_j1 [.inr (.inr (some 165))] 10 rfl rfl rfl rfl rfl ?_
    refine pz_j1 [.inr (.inr (some 167))] 13 rfl rfl rfl rfl (pz_a2 rfl pz_S165) ?_
    refine pz_j1 [.inl t0, .inr (.inr (some 167))] 14 rfl rfl rfl rfl rfl ?_
    obtain ⟨k5, K⟩ := K
    refine pz_j1 [.inl (mi 167 ((t0).toNat))] 15 rfl rfl rfl rfl (pz_a2 rfl (pz_ok_ixs pz_S167 k5)) ?_
    refine pz_j1 [.inl (mi 167 ((t0).toNat))] 24 rfl rfl rfl rfl rfl ?_
    refine pz_j1 [.inl a1, .inl (mi 167 ((t0).toNat))] 25 rfl rfl rfl rfl rfl ?_
    refine pz_j1 [.inl 1, .inl a1, .inl (mi 167 ((t0).toNat))] 26 rfl rfl rfl rfl rfl ?_
    obtain ⟨k6, K⟩ := K
    refine pz_j1 [.inl (a1 - 1), .inl (mi 167 ((t0).toNat))] 27 rfl rfl rfl rfl (pz_ok_in k6) ?_
    refine pz_j1 [.inl 64, .inl (a1 - 1), .inl (mi 167 ((t0).toNat))] 29 rfl rfl rfl rfl rfl ?_
    obtain ⟨k7, K⟩ := K
    refine pz_j1 [.inl ((a1 - 1) % 64), .inl (mi 167 ((t0).toNat))] 30 rfl rfl rfl rfl (pz_ok_dv ⟨k7, by decide⟩) ?_
    refine pz_Rn_sub (L := []) [] rfl rfl ?_
    exact pz_Rn_k (y := 113) rfl rfl rfl rfl rfl rfl rfl rfl rfl K
theorem pz_g119_33 {t0 : Int}  (K : Q (.inl (some (.inl t0))) (pz_hp n0 mi ml mr c s)) : pz_Rn (d + 1) 119 (33, [.inl t0], [], pz_hp n0 mi ml mr c s, true) Q := by
  exact pz_Rn_ret rfl rfl rfl rfl K
-- 120 RelationStreamModel.occurs(III)Z
theorem pz_g120_0 {a1 : Int} {a2 : Int} {a3 : Int}  (K : (-2147483648 ≤ (mi 165 35) + 1 ∧ (mi 165 35) + 1 ≤ 2147483647) ∧ ∀ x2 : Int, x2 = (mi 165 35) + 1 → (0 ≤ mi 165 35 ∧ mi 165 35 < 510) ∧ pz_Rn (d + 1) 120 (18, [], [(0, .inr (.inr (some 165))), (1, .inl a1), (2, .inl a2), (4, .inl x2)], pz_hp n0 (pz_up mi 187 ((mi 165 35).toNat) a3) ml mr c s, true) Q) : pz_Rn (d + 1) 120 (0, [], [(0, .inr (.inr (some 165))), (1, .inl a1), (2, .inl a2), (3, .inl a3)], pz_hp n0 mi ml mr c s, true) Q := by
  refine pz_j1 [.inr (.inr (some 165))] 1 rfl rfl rfl rfl rfl ?_
  refine pz_j1 [.inl (mi 165 35)] 4 rfl rfl rfl rfl (pz_a2 rfl pz_S165) ?_
  refine pz_j1 [.inl 1, .inl (mi 165 35)] 5 rfl rfl rfl rfl rfl ?_
  obtain ⟨k1, K⟩ := K
  refine pz_j1 [.inl ((mi 165 35) + 1)] 6 rfl rfl rfl rfl (pz_ok_in k1) ?_
  obtain ⟨x2, hx2⟩ : ∃ x : Int, x = (mi 165 35) + 1 := ⟨_, rfl⟩
  rewrite [← hx2]
  replace K := K x2 hx2
  refine pz_j2 [] [(4, .inl x2), (0, .inr (.inr (some 165))), (1, .inl a1), (2, .inl a2), (3, .inl a3)] 8 rfl rfl rfl rfl rfl ?_
  refine pz_j1 [.inr (.inr (some 165))] 9 rfl rfl rfl rfl rfl ?_
  refine pz_j1 [.inr (.inr (some 187))] 12 rfl rfl rfl rfl (pz_a2 rfl pz_S165) ?_
  refine pz_j1 [.inr (.inr (some 165)), .inr (.inr (some 187))] 13 rfl rfl rfl rfl rfl ?_
  refine pz_j1 [.inl (mi 165 35), .inr (.inr (some 187))] 16 rfl rfl rfl rfl (pz_a2 rfl pz_S165) ?_
  refine pz_j1 [.inl a3, .inl (mi 165 35), .inr (.inr (some 187))] 17 rfl rfl rfl rfl rfl ?_
  obtain ⟨k3, K⟩ := K
  refine pz_j3 [] [(4, .inl x2), (0, .inr (.inr (some 165))), (1, .inl a1), (2, .inl a2), (3, .inl a3)] (pz_hp n0 (pz_up mi 187 ((mi 165 35).toNat) a3) ml mr c s) 18 rfl rfl rfl rfl (pz_a2 rfl (pz_ok_ix pz_S187 k3)) ?_
  refine pz_Rn_sub (L := [(0, .inr (.inr (some 165))), (1, .inl a1), (2, .inl a2), (4, .inl x2)]) [1, 2, 3, 0] rfl rfl ?_
  exact K
theorem pz_g120_18 {a1 : Int} {a2 : Int} {a4 : Int}  (K : ((a4 ≤ mi 165 35 → Q (.inl (some (.inl 0))) (pz_hp n0 mi ml mr c s)) ∧ (mi 165 35 < a4 → (-2147483648 ≤ a4 + (-1) ∧ a4 + (-1) ≤ 2147483647) ∧ pz_Rn d 115 (0, [], [(0, .inr (.inr (some 165)))], pz_hp n0 mi ml mr c s, true) (pz_K (d + 1) 120 31 [] [(0, .inr (.inr (some 165))), (1, .inl a1), (2, .inl a2), (4, .inl (a4 + (-1)))] Q true)))) : pz_Rn (d + 1) 120 (18, [], [(0, .inr (.inr (some 165))), (1, .inl a1), (2, .inl a2), (4, .inl a4)], pz_hp n0 mi ml mr c s, true) Q := by
  refine pz_j1 [.inl a4] 20 rfl rfl rfl rfl rfl ?_
  refine pz_j1 [.inr (.inr (some 165)), .inl a4] 21 rfl rfl rfl rfl rfl ?_
  refine pz_j1 [.inl (mi 165 35), .inl a4] 24 rfl rfl rfl rfl (pz_a2 rfl pz_S165) ?_
  refine pz_j1 [] (bif pz_cp .le a4 (mi 165 35) then 113 else 27) rfl rfl rfl rfl rfl ?_
  refine pz_Rn_if pz_c1_le pz_c0_le ⟨fun b1 => ?_, fun b1 => ?_⟩
  · replace K := K.1 b1
    refine pz_j1 [.inl 0] 114 rfl rfl rfl rfl rfl ?_
    exact pz_Rn_ret rfl rfl rfl rfl K
  · replace K := K.2 b1
    obtain ⟨k2, K⟩ := K
    refine pz_j2 [] [(4, .inl (a4 + (-1))), (0, .inr (.inr (some 165))), (1, .inl a1), (2, .inl a2)] 30 rfl rfl rfl rfl (pz_a2 (pz_ok_in k2) rfl) ?_
    refine pz_j1 [.inr (.inr (some 165))] 31 rfl rfl rfl rfl rfl ?_
    refine pz_Rn_sub (L := [(0, .inr (.inr (some 165))), (1, .inl a1), (2, .inl a2), (4, .inl (a4 + (-1)))]) [1, 2, 3, 0] rfl rfl ?_
    exact pz_Rn_k (y := 114) rfl rfl rfl rfl rfl rfl rfl rfl (pz_cok_v rfl rfl pz_S165) K
theorem pz_g120_34 {a1 : Int} {a2 : Int} {a4 : Int}  (K : ((mi 165 31 = 0 → (0 ≤ a4 ∧ a4 < 510) ∧ pz_Rn d 116 (0, [], [(0, .inr (.inr (some 165))), (1, .inl a1), (2, .inl (mi 187 ((a4).toNat)))], pz_hp n0 mi ml mr c s, true) (pz_K (d + 1) 120 52 [] [(0, .inr (.inr (some 165))), (1, .inl a1), (2, .inl a2), (4, .inl a4)] Q true)) ∧ (mi 165 31 ≠ 0 → Q (.inl (some (.inl 1))) (pz_hp n0 mi ml mr c s)))) : pz_Rn (d + 1) 120 (34, [], [(0, .inr (.inr (some 165))), (1, .inl a1), (2, .inl a2), (4, .inl a4)], pz_hp n0 mi ml mr c s, true) Q := by
  refine pz_j1 [.inr (.inr (some 165))] 35 rfl rfl rfl rfl rfl ?_
  refine pz_j1 [.inl (mi 165 31)] 38 rfl rfl rfl rfl (pz_a2 rfl pz_S165) ?_
  refine pz_j1 [] (bif pz_cp .eq (mi 165 31) 0 then 43 else 41) rfl rfl rfl rfl rfl ?_
  refine pz_Rn_if pz_c1_eq pz_c0_eq ⟨fun b1 => ?_, fun b1 => ?_⟩
  · replace K := K.1 b1
    refine pz_j1 [.inr (.inr (some 165))] 44 rfl rfl rfl rfl rfl ?_
    refine pz_j1 [.inl a1, .inr (.inr (some 165))] 45 rfl rfl rfl rfl rfl ?_
    refine pz_j1 [.inr (.inr (some 165)), .inl a1, .inr (.inr (some 165))] 46 rfl rfl rfl rfl rfl ?_
    refine pz_j1 [.inr (.inr (some 187)), .inl a1, .inr (.inr (some 165))] 49 rfl rfl rfl rfl (pz_a2 rfl pz_S165) ?_
    refine pz_j1 [.inl a4, .inr (.inr (some 187)), .inl a1, .inr (.inr (some 165))] 51 rfl rfl rfl rfl rfl ?_
    obtain ⟨k2, K⟩ := K
    refine pz_j1 [.inl (mi 187 ((a4).toNat)), .inl a1, .inr (.inr (some 165))] 52 rfl rfl rfl rfl (pz_a2 rfl (pz_ok_ixs pz_S187 k2)) ?_
    exact pz_Rn_k (y := 115) rfl rfl rfl rfl rfl rfl rfl rfl (pz_cok_v rfl rfl pz_S165) K
  · replace K := K.2 b1
    refine pz_j1 [.inl 1] 42 rfl rfl rfl rfl rfl ?_
    exact pz_Rn_ret rfl rfl rfl rfl K
theorem pz_g120_55 {a1 : Int} {a2 : Int} {a4 : Int} {t0 : Int}  (K : ((t0 ≠ a2 → pz_Rn d 118 (0, [], [(0, .inr (.inr (some 165))), (1, .inl t0)], pz_hp n0 mi ml mr c s, true) (pz_K (d + 1) 120 68 [] [(0, .inr (.inr (some 165))), (1, .inl a1), (2, .inl a2), (4, .inl a4), (5, .inl t0)] Q true)) ∧ (t0 = a2 → Q (.inl (some (.inl 1))) (pz_hp n0 mi ml mr c s)))) : pz_Rn (d + 1) 120 (55, [.inl t0], [(0, .inr (.inr (some 165))), (1, .inl a1), (2, .inl a2), (4, .inl a4)], pz_hp n0 mi ml mr c s, true) Q := by
  refine pz_j2 [] [(5, .inl t0), (0, .inr (.inr (some 165))), (1, .inl a1), (2, .inl a2), (4, .inl a4)] 57 rfl rfl rfl rfl rfl ?_
  refine pz_j1 [.inl t0] 59 rfl rfl rfl rfl rfl ?_
  refine pz_j1 [.inl a2, .inl t0] 60 rfl rfl rfl rfl rfl ?_
  refine pz_j1 [] (bif pz_cp .ne t0 a2 then 65 else 63) rfl rfl rfl rfl rfl ?_
  refine pz_Rn_if pz_c1_ne pz_c0_ne ⟨fun b1 => ?_, fun b1 => ?_⟩
  · replace K := K.1 b1
    refine pz_j1 [.inr (.inr (some 165))] 66 rfl rfl rfl rfl rfl ?_
    refine pz_j1 [.inl t0, .inr (.inr (some 165))] 68 rfl rfl rfl rfl rfl ?_
    refine pz_Rn_sub (L := [(0, .inr (.inr (some 165))), (1, .inl a1), (2, .inl a2), (4, .inl a4), (5, .inl t0)]) [1, 2, 3, 4, 0] rfl rfl ?_
    exact pz_Rn_k (y := 117) rfl rfl rfl rfl rfl rfl rfl rfl (pz_cok_v rfl rfl pz_S165) K
  · replace K := K.2 b1
    refine pz_j1 [.inl 1] 64 rfl rfl rfl rfl rfl ?_
    exact pz_Rn_ret rfl rfl rfl rfl K
theorem pz_g120_71 {a1 : Int} {a2 : Int} {a4 : Int} {a5 : Int} {t0 : Int}  (K : ((t0 ≠ 0 → pz_Rn d 119 (0, [], [(0, .inr (.inr (some 165))), (1, .inl a5), (2, .inl 0)], pz_hp n0 mi ml mr c s, true) (pz_K (d + 1) 120 87 [.inl a4, .inr (.inr (some 187))] [(0, .inr (.inr (some 165))), (1, .inl a1), (2, .inl a2), (4, .inl a4), (5, .inl a5)] Q true)) ∧ (t0 = 0 → pz_Rn (d + 1) 120 (18, [], [(0, .inr (.inr (some 165))), (1, .inl a1), (2, .inl a2), (4, .inl a4)], pz_hp n0 mi ml mr c s, true) Q))) : pz_Rn (d + 1) 120 (71, [.inl t0], [(0, .inr (.inr (some 165))), (1, .inl a1), (2, .inl a2), (4, .inl a4), (5, .inl a5)], pz_hp n0 mi ml mr c s, true) Q := by
  refine pz_j1 [] (bif pz_cp .ne t0 0 then 77 else 74) rfl rfl rfl rfl rfl ?_
  refine pz_Rn_if pz_c1_ne pz_c0_ne ⟨fun b1 => ?_, fun b1 => ?_⟩
  · replace K := K.1 b1
    refine pz_j1 [.inr (.inr (some 165))] 78 rfl rfl rfl rfl rfl ?_
    refine pz_j1 [.inr (.inr (some 187))] 81 rfl rfl rfl rfl (pz_a2 rfl pz_S165) ?_
    refine pz_j1 [.inl a4, .inr (.inr (some 187))] 83 rfl rfl rfl rfl rfl ?_
    refine pz_j1 [.inr (.inr (some 165)), .inl a4, .inr (.inr (some 187))] 84 rfl rfl rfl rfl rfl ?_
    refine pz_j1 [.inl a5, .inr (.inr (some 165)), .inl a4, .inr (.inr (some 187))] 86 rfl rfl rfl rfl rfl ?_
    refine pz_j1 [.inl 0, .inl a5, .inr (.inr (some 165)), .inl a4, .inr (.inr (some 187))] 87 rfl rfl rfl rfl rfl ?_
    exact pz_Rn_k (y := 118) rfl rfl rfl rfl rfl rfl rfl rfl (pz_cok_v rfl rfl pz_S165) K
  · replace K := K.2 b1
    refine pz_j1 [] 18 rfl rfl rfl rfl rfl ?_
    refine pz_Rn_sub (L := [(0, .inr (.inr (some 165))), (1, .inl a1), (2, .inl a2), (4, .inl a4)]) [0, 1, 2, 3] rfl rfl ?_
    exact K
theorem pz_g120_90 {a1 : Int} {a2 : Int} {a4 : Int} {a5 : Int} {t1 : Int} {t2 : Int}  (K : (0 ≤ t1 ∧ t1 < 510) ∧ (-2147483648 ≤ a4 + 1 ∧ a4 + 1 ≤ 2147483647) ∧ pz_Rn d 119 (0, [], [(0, .inr (.inr (some 165))), (1, .inl a5), (2, .inl 1)], pz_hp n0 (pz_up mi 187 ((t1).toNat) t2) ml mr c s, true) (pz_K (d + 1) 120 103 [.inl (a4 + 1), .inr (.inr (some 187))] [(0, .inr (.inr (some 165))), (1, .inl a1), (2, .inl a2), (4, .inl a4)] Q true)) : pz_Rn (d + 1) 120 (90, [.inl t2, .inl t1, .inr (.inr (some 187))], [(0, .inr (.inr (some 165))), (1, .inl a1), (2, .inl a2), (4, .inl a4), (5, .inl a5)], pz_hp n0 mi ml mr c s, true) Q := by
  obtain ⟨k1, K⟩ := K
  refine pz_j3 [] [(0, .inr (.inr (some 165))), (1, .inl a1), (2, .inl a2), (4, .inl a4), (5, .inl a5)] (pz_hp n0 (pz_up mi 187 ((t1).toNat) t2) ml mr c s) 91 rfl rfl rfl rfl (pz_a2 rfl (pz_ok_ix pz_S187 k1)) ?_
  refine pz_j1 [.inr (.inr (some 165))] 92 rfl rfl rfl rfl rfl ?_
  refine pz_j1 [.inr (.inr (some 187))] 95 rfl rfl rfl rfl (pz_a2 rfl pz_S165) ?_
  refine pz_j1 [.inl a4, .inr (.inr (some 187))] 97 rfl rfl rfl rfl rfl ?_
  refine pz_j1 [.inl 1, .inl a4, .inr (.inr (some 187))] 98 rfl rfl rfl rfl rfl ?_
  obtain ⟨k2, K⟩ := K
  refine pz_j1 [.inl (a4 + 1), .inr (.inr (some 187))] 99 rfl rfl rfl rfl (pz_ok_in k2) ?_
  refine pz_j1 [.inr (.inr (some 165)), .inl (a4 + 1), .inr (.inr (some 187))] 100 rfl rfl rfl rfl rfl ?_
  refine pz_j1 [.inl a5, .inr (.inr (some 165)), .inl (a4 + 1), .inr (.inr (some 187))] 102 rfl rfl rfl rfl rfl ?_
  refine pz_j1 [.inl 1, .inl a5, .inr (.inr (some 165)), .inl (a4 + 1), .inr (.inr (some 187))] 103 rfl rfl rfl rfl rfl ?_
  refine pz_Rn_sub (L := [(0, .inr (.inr (some 165))), (1, .inl a1), (2, .inl a2), (4, .inl a4)]) [0, 1, 2, 3] rfl rfl ?_
  exact pz_Rn_k (y := 118) rfl rfl rfl rfl rfl rfl rfl rfl (pz_cok_v rfl rfl pz_S165) K
theorem pz_g120_106 {a1 : Int} {a2 : Int} {a4 : Int} {t1 : Int} {t2 : Int}  (K : (0 ≤ t1 ∧ t1 < 510) ∧ (-2147483648 ≤ a4 + 2 ∧ a4 + 2 ≤ 2147483647) ∧ pz_Rn (d + 1) 120 (18, [], [(0, .inr (.inr (some 165))), (1, .inl a1), (2, .inl a2), (4, .inl (a4 + 2))], pz_hp n0 (pz_up mi 187 ((t1).toNat) t2) ml mr c s, true) Q) : pz_Rn (d + 1) 120 (106, [.inl t2, .inl t1, .inr (.inr (some 187))], [(0, .inr (.inr (some 165))), (1, .inl a1), (2, .inl a2), (4, .inl a4)], pz_hp n0 mi ml mr c s, true) Q := by
  obtain ⟨k1, K⟩ := K
  refine pz_j3 [] [(0, .inr (.inr (some 165))), (1, .inl a1), (2, .inl a2), (4, .inl a4)] (pz_hp n0 (pz_up mi 187 ((t1).toNat) t2) ml mr c s) 107 rfl rfl rfl rfl (pz_a2 rfl (pz_ok_ix pz_S187 k1)) ?_
  obtain ⟨k2, K⟩ := K
  refine pz_j2 [] [(4, .inl (a4 + 2)), (0, .inr (.inr (some 165))), (1, .inl a1), (2, .inl a2)] 110 rfl rfl rfl rfl (pz_a2 (pz_ok_in k2) rfl) ?_
  refine pz_j1 [] 18 rfl rfl rfl rfl rfl ?_
  refine pz_Rn_sub (L := [(0, .inr (.inr (some 165))), (1, .inl a1), (2, .inl a2), (4, .inl (a4 + 2))]) [1, 2, 3, 0] rfl rfl ?_
  exact K
-- 121 RelationStreamModel.bind(III)V
theorem pz_g121_0 {a1 : Int} {a2 : Int} {a3 : Int}  (K : ((mi 165 29 ≠ 1000 → (-2147483648 ≤ (mi 165 29) + 1 ∧ (mi 165 29) + 1 ≤ 2147483647) ∧ (-2147483648 ≤ 240 * a1 ∧ 240 * a1 ≤ 2147483647) ∧ (-2147483648 ≤ (240 * a1) + a2 ∧ (240 * a1) + a2 ≤ 2147483647) ∧ (-2147483648 ≤ ((240 * a1) + a2) - 3000 ∧ ((240 * a1) + a2) - 3000 ≤ 2147483647) ∧ (0 ≤ ((240 * a1) + a2) - 3000 ∧ ((240 * a1) + a2) - 3000 < 15120) ∧ (0 ≤ mi 165 33 ∧ mi 165 33 < 240) ∧ (-2147483648 ≤ (mi 165 33) + 1 ∧ (mi 165 33) + 1 ≤ 2147483647) ∧ Q (.inl none) (pz_hp n0 (pz_up (pz_up (pz_up (pz_up mi 165 29 ((mi 165 29) + 1)) 182 ((((240 * a1) + a2) - 3000).toNat) a3) 186 ((mi 165 33).toNat) a2) 165 33 ((mi 165 33) + 1)) ml mr c s)) ∧ (mi 165 29 = 1000 → Q (.inl none) (pz_hp n0 (pz_up mi 165 31 1) ml mr c s)))) : pz_Rn d 121 (0, [], [(0, .inr (.inr (some 165))), (1, .inl a1), (2, .inl a2), (3, .inl a3)], pz_hp n0 mi ml mr c s, true) Q := by
  refine pz_j1 [.inr (.inr (some 165))] 1 rfl rfl rfl rfl rfl ?_
  refine pz_j1 [.inl (mi 165 29)] 4 rfl rfl rfl rfl (pz_a2 rfl pz_S165) ?_
  refine pz_j1 [.inl 1000, .inl (mi 165 29)] 7 rfl rfl rfl rfl rfl ?_
  refine pz_j1 [] (bif pz_cp .ne (mi 165 29) 1000 then 16 else 10) rfl rfl rfl rfl rfl ?_
  refine pz_Rn_if pz_c1_ne pz_c0_ne ⟨fun b1 => ?_, fun b1 => ?_⟩
  · replace K := K.1 b1
    refine pz_j1 [.inr (.inr (some 165))] 17 rfl rfl rfl rfl rfl ?_
    refine pz_j1 [.inr (.inr (some 165)), .inr (.inr (some 165))] 18 rfl rfl rfl rfl rfl ?_
    refine pz_j1 [.inl (mi 165 29), .inr (.inr (some 165))] 21 rfl rfl rfl rfl (pz_a2 rfl pz_S165) ?_
    refine pz_j1 [.inl 1, .inl (mi 165 29), .inr (.inr (some 165))] 22 rfl rfl rfl rfl rfl ?_
    obtain ⟨k2, K⟩ := K
    refine pz_j1 [.inl ((mi 165 29) + 1), .inr (.inr (some 165))] 23 rfl rfl rfl rfl (pz_ok_in k2) ?_
    refine pz_j3 [] [(0, .inr (.inr (some 165))), (1, .inl a1), (2, .inl a2), (3, .inl a3)] (pz_hp n0 (pz_up mi 165 29 ((mi 165 29) + 1)) ml mr c s) 26 rfl rfl rfl rfl (pz_a2 rfl (pz_a2 pz_S165 (pz_a2 rfl rfl))) ?_
    refine pz_j1 [.inr (.inr (some 165))] 27 rfl rfl rfl rfl rfl ?_
    refine pz_j1 [.inr (.inr (some 182))] 30 rfl rfl rfl rfl (pz_a2 rfl pz_S165) ?_
    refine pz_j1 [.inl 240, .inr (.inr (some 182))] 33 rfl rfl rfl rfl rfl ?_
    refine pz_j1 [.inl a1, .inl 240, .inr (.inr (some 182))] 34 rfl rfl rfl rfl rfl ?_
    obtain ⟨k3, K⟩ := K
    refine pz_j1 [.inl (240 * a1), .inr (.inr (some 182))] 35 rfl rfl rfl rfl (pz_ok_in k3) ?_
    refine pz_j1 [.inl a2, .inl (240 * a1), .inr (.inr (some 182))] 36 rfl rfl rfl rfl rfl ?_
    obtain ⟨k4, K⟩ := K
    refine pz_j1 [.inl ((240 * a1) + a2), .inr (.inr (some 182))] 37 rfl rfl rfl rfl (pz_ok_in k4) ?_
    refine pz_j1 [.inl 3000, .inl ((240 * a1) + a2), .inr (.inr (some 182))] 40 rfl rfl rfl rfl rfl ?_
    obtain ⟨k5, K⟩ := K
    refine pz_j1 [.inl (((240 * a1) + a2) - 3000), .inr (.inr (some 182))] 41 rfl rfl rfl rfl (pz_ok_in k5) ?_
    refine pz_j1 [.inl a3, .inl (((240 * a1) + a2) - 3000), .inr (.inr (some 182))] 42 rfl rfl rfl rfl rfl ?_
    obtain ⟨k6, K⟩ := K
    refine pz_j3 [] [(0, .inr (.inr (some 165))), (1, .inl a1), (2, .inl a2), (3, .inl a3)] (pz_hp n0 (pz_up (pz_up mi 165 29 ((mi 165 29) + 1)) 182 ((((240 * a1) + a2) - 3000).toNat) a3) ml mr c s) 43 rfl rfl rfl rfl (pz_a2 rfl (pz_ok_ix pz_S182 k6)) ?_
    refine pz_j1 [.inr (.inr (some 165))] 44 rfl rfl rfl rfl rfl ?_
    refine pz_j1 [.inr (.inr (some 186))] 47 rfl rfl rfl rfl (pz_a2 rfl pz_S165) ?_
    refine pz_j1 [.inr (.inr (some 165)), .inr (.inr (some 186))] 48 rfl rfl rfl rfl rfl ?_
    refine pz_j1 [.inl (mi 165 33), .inr (.inr (some 186))] 51 rfl rfl rfl rfl (pz_a2 rfl pz_S165) ?_
    refine pz_j1 [.inl a2, .inl (mi 165 33), .inr (.inr (some 186))] 52 rfl rfl rfl rfl rfl ?_
    obtain ⟨k7, K⟩ := K
    refine pz_j3 [] [(0, .inr (.inr (some 165))), (1, .inl a1), (2, .inl a2), (3, .inl a3)] (pz_hp n0 (pz_up (pz_up (pz_up mi 165 29 ((mi 165 29) + 1)) 182 ((((240 * a1) + a2) - 3000).toNat) a3) 186 ((mi 165 33).toNat) a2) ml mr c s) 53 rfl rfl rfl rfl (pz_a2 rfl (pz_ok_ix pz_S186 k7)) ?_
    refine pz_j1 [.inr (.inr (some 165))] 54 rfl rfl rfl rfl rfl ?_
    refine pz_j1 [.inr (.inr (some 165)), .inr (.inr (some 165))] 55 rfl rfl rfl rfl rfl ?_
    refine pz_j1 [.inl (mi 165 33), .inr (.inr (some 165))] 58 rfl rfl rfl rfl (pz_a2 rfl pz_S165) ?_
    refine pz_j1 [.inl 1, .inl (mi 165 33), .inr (.inr (some 165))] 59 rfl rfl rfl rfl rfl ?_
    obtain ⟨k8, K⟩ := K
    refine pz_j1 [.inl ((mi 165 33) + 1), .inr (.inr (some 165))] 60 rfl rfl rfl rfl (pz_ok_in k8) ?_
    refine pz_j3 [] [(0, .inr (.inr (some 165))), (1, .inl a1), (2, .inl a2), (3, .inl a3)] (pz_hp n0 (pz_up (pz_up (pz_up (pz_up mi 165 29 ((mi 165 29) + 1)) 182 ((((240 * a1) + a2) - 3000).toNat) a3) 186 ((mi 165 33).toNat) a2) 165 33 ((mi 165 33) + 1)) ml mr c s) 63 rfl rfl rfl rfl (pz_a2 rfl (pz_a2 pz_S165 (pz_a2 rfl rfl))) ?_
    exact pz_Rn_ret rfl rfl rfl rfl K
  · replace K := K.2 b1
    refine pz_j1 [.inr (.inr (some 165))] 11 rfl rfl rfl rfl rfl ?_
    refine pz_j1 [.inl 1, .inr (.inr (some 165))] 12 rfl rfl rfl rfl rfl ?_
    refine pz_j3 [] [(0, .inr (.inr (some 165))), (1, .inl a1), (2, .inl a2), (3, .inl a3)] (pz_hp n0 (pz_up mi 165 31 1) ml mr c s) 15 rfl rfl rfl rfl (pz_a2 rfl (pz_a2 pz_S165 (pz_a2 rfl rfl))) ?_
    exact pz_Rn_ret rfl rfl rfl rfl K
-- 122 RelationStreamModel.meet(III)Z
theorem pz_g122_0 {a1 : Int} {a2 : Int} {a3 : Int}  (K : pz_Rn d 120 (0, [], [(0, .inr (.inr (some 165))), (1, .inl a1), (2, .inl a2), (3, .inl a3)], pz_hp n0 mi ml mr c s, true) (pz_K (d + 1) 122 4 [] [(0, .inr (.inr (some 165))), (1, .inl a1), (2, .inl a2), (3, .inl a3)] Q true)) : pz_Rn (d + 1) 122 (0, [], [(0, .inr (.inr (some 165))), (1, .inl a1), (2, .inl a2), (3, .inl a3)], pz_hp n0 mi ml mr c s, true) Q := by
  refine pz_j1 [.inr (.inr (some 165))] 1 rfl rfl rfl rfl rfl ?_
  refine pz_j1 [.inl a1, .inr (.inr (some 165))] 2 rfl rfl rfl rfl rfl ?_
  refine pz_j1 [.inl a2, .inl a1, .inr (.inr (some 165))] 3 rfl rfl rfl rfl rfl ?_
  refine pz_j1 [.inl a3, .inl a2, .inl a1, .inr (.inr (some 165))] 4 rfl rfl rfl rfl rfl ?_
  exact pz_Rn_k (y := 119) rfl rfl rfl rfl rfl rfl rfl rfl (pz_cok_v rfl rfl pz_S165) K
theorem pz_g122_7 {a1 : Int} {a2 : Int} {a3 : Int} {t0 : Int}  (K : ((t0 = 0 → pz_Rn d 121 (0, [], [(0, .inr (.inr (some 165))), (1, .inl a1), (2, .inl a2), (3, .inl a3)], pz_hp n0 mi ml mr c s, true) (pz_K (d + 1) 122 16 [] [] Q true)) ∧ (t0 ≠ 0 → Q (.inl (some (.inl 0))) (pz_hp n0 mi ml mr c s)))) : pz_Rn (d + 1) 122 (7, [.inl t0], [(0, .inr (.inr (some 165))), (1, .inl a1), (2, .inl a2), (3, .inl a3)], pz_hp n0 mi ml mr c s, true) Q := by
  refine pz_j1 [] (bif pz_cp .eq t0 0 then 12 else 10) rfl rfl rfl rfl rfl ?_
  refine pz_Rn_if pz_c1_eq pz_c0_eq ⟨fun b1 => ?_, fun b1 => ?_⟩
  · replace K := K.1 b1
    refine pz_j1 [.inr (.inr (some 165))] 13 rfl rfl rfl rfl rfl ?_
    refine pz_j1 [.inl a1, .inr (.inr (some 165))] 14 rfl rfl rfl rfl rfl ?_
    refine pz_j1 [.inl a2, .inl a1, .inr (.inr (some 165))] 15 rfl rfl rfl rfl rfl ?_
    refine pz_j1 [.inl a3, .inl a2, .inl a1, .inr (.inr (some 165))] 16 rfl rfl rfl rfl rfl ?_
    refine pz_Rn_sub (L := []) [] rfl rfl ?_
    exact pz_Rn_k (y := 120) rfl rfl rfl rfl rfl rfl rfl rfl (pz_cok_v rfl rfl pz_S165) K
  · replace K := K.2 b1
    refine pz_j1 [.inl 0] 11 rfl rfl rfl rfl rfl ?_
    exact pz_Rn_ret rfl rfl rfl rfl K
theorem pz_g122_19   (K : Q (.inl (some (.inl 1))) (pz_hp n0 mi ml mr c s)) : pz_Rn (d + 1) 122 (19, [], [], pz_hp n0 mi ml mr c s, true) Q := by
  refine pz_j1 [.inl 1] 20 rfl rfl rfl rfl rfl ?_
  exact pz_Rn_ret rfl rfl rfl rfl K
-- 123 RelationStreamModel.matchOne(III)Z
theorem pz_g123_0 {a1 : Int} {a2 : Int} {a3 : Int}  (K : pz_Rn d 115 (0, [], [(0, .inr (.inr (some 165)))], pz_hp n0 mi ml mr c s, true) (pz_K (d + 1) 123 1 [] [(0, .inr (.inr (some 165))), (1, .inl a1), (2, .inl a2), (3, .inl a3)] Q true)) : pz_Rn (d + 1) 123 (0, [], [(0, .inr (.inr (some 165))), (1, .inl a1), (2, .inl a2), (3, .inl a3)], pz_hp n0 mi ml mr c s, true) Q := by
  refine pz_j1 [.inr (.inr (some 165))] 1 rfl rfl rfl rfl rfl ?_
  exact pz_Rn_k (y := 114) rfl rfl rfl rfl rfl rfl rfl rfl (pz_cok_v rfl rfl pz_S165) K
theorem pz_g123_4 {a1 : Int} {a2 : Int} {a3 : Int}  (K : pz_Rn d 116 (0, [], [(0, .inr (.inr (some 165))), (1, .inl a1), (2, .inl a2)], pz_hp n0 mi ml mr c s, true) (pz_K (d + 1) 123 7 [] [(0, .inr (.inr (some 165))), (1, .inl a1), (3, .inl a3)] Q true)) : pz_Rn (d + 1) 123 (4, [], [(0, .inr (.inr (some 165))), (1, .inl a1), (2, .inl a2), (3, .inl a3)], pz_hp n0 mi ml mr c s, true) Q := by
  refine pz_j1 [.inr (.inr (some 165))] 5 rfl rfl rfl rfl rfl ?_
  refine pz_j1 [.inl a1, .inr (.inr (some 165))] 6 rfl rfl rfl rfl rfl ?_
  refine pz_j1 [.inl a2, .inl a1, .inr (.inr (some 165))] 7 rfl rfl rfl rfl rfl ?_
  refine pz_Rn_sub (L := [(0, .inr (.inr (some 165))), (1, .inl a1), (3, .inl a3)]) [0, 1, 3] rfl rfl ?_
  exact pz_Rn_k (y := 115) rfl rfl rfl rfl rfl rfl rfl rfl (pz_cok_v rfl rfl pz_S165) K
theorem pz_g123_10 {a1 : Int} {a3 : Int} {t0 : Int}  (K : pz_Rn d 116 (0, [], [(0, .inr (.inr (some 165))), (1, .inl a1), (2, .inl a3)], pz_hp n0 mi ml mr c s, true) (pz_K (d + 1) 123 15 [] [(0, .inr (.inr (some 165))), (1, .inl a1), (4, .inl t0)] Q true)) : pz_Rn (d + 1) 123 (10, [.inl t0], [(0, .inr (.inr (some 165))), (1, .inl a1), (3, .inl a3)], pz_hp n0 mi ml mr c s, true) Q := by
  refine pz_j2 [] [(4, .inl t0), (0, .inr (.inr (some 165))), (1, .inl a1), (3, .inl a3)] 12 rfl rfl rfl rfl rfl ?_
  refine pz_j1 [.inr (.inr (some 165))] 13 rfl rfl rfl rfl rfl ?_
  refine pz_j1 [.inl a1, .inr (.inr (some 165))] 14 rfl rfl rfl rfl rfl ?_
  refine pz_j1 [.inl a3, .inl a1, .inr (.inr (some 165))] 15 rfl rfl rfl rfl rfl ?_
  refine pz_Rn_sub (L := [(0, .inr (.inr (some 165))), (1, .inl a1), (4, .inl t0)]) [1, 2, 0] rfl rfl ?_
  exact pz_Rn_k (y := 115) rfl rfl rfl rfl rfl rfl rfl rfl (pz_cok_v rfl rfl pz_S165) K
theorem pz_g123_18 {a1 : Int} {a4 : Int} {t0 : Int}  (K : ((a4 < 3000 → ((t0 < 3000 → pz_Rn d 118 (0, [], [(0, .inr (.inr (some 165))), (1, .inl a4)], pz_hp n0 mi ml mr c s, true) (pz_K (d + 1) 123 74 [] [(0, .inr (.inr (some 165))), (4, .inl a4), (5, .inl t0)] Q true)) ∧ (3000 ≤ t0 → pz_Rn d 122 (0, [], [(0, .inr (.inr (some 165))), (1, .inl a1), (2, .inl t0), (3, .inl a4)], pz_hp n0 mi ml mr c s, true) (pz_K (d + 1) 123 67 [] [] Q true)))) ∧ (3000 ≤ a4 → ((a4 = t0 → Q (.inl (some (.inl 1))) (pz_hp n0 mi ml mr c s)) ∧ (a4 ≠ t0 → pz_Rn d 122 (0, [], [(0, .inr (.inr (some 165))), (1, .inl a1), (2, .inl a4), (3, .inl t0)], pz_hp n0 mi ml mr c s, true) (pz_K (d + 1) 123 41 [] [] Q true)))))) : pz_Rn (d + 1) 123 (18, [.inl t0], [(0, .inr (.inr (some 165))), (1, .inl a1), (4, .inl a4)], pz_hp n0 mi ml mr c s, true) Q := by
  refine pz_j2 [] [(5, .inl t0), (0, .inr (.inr (some 165))), (1, .inl a1), (4, .inl a4)] 20 rfl rfl rfl rfl rfl ?_
  refine pz_j1 [.inl a4] 22 rfl rfl rfl rfl rfl ?_
  refine pz_j1 [.inl 3000, .inl a4] 25 rfl rfl rfl rfl rfl ?_
  refine pz_j1 [] (bif pz_cp .lt a4 3000 then 53 else 28) rfl rfl rfl rfl rfl ?_
  refine pz_Rn_if pz_c1_lt pz_c0_lt ⟨fun b1 => ?_, fun b1 => ?_⟩
  · replace K := K.1 b1
    refine pz_j1 [.inl t0] 55 rfl rfl rfl rfl rfl ?_
    refine pz_j1 [.inl 3000, .inl t0] 58 rfl rfl rfl rfl rfl ?_
    refine pz_j1 [] (bif pz_cp .lt t0 3000 then 71 else 61) rfl rfl rfl rfl rfl ?_
    refine pz_Rn_if pz_c1_lt pz_c0_lt ⟨fun b2 => ?_, fun b2 => ?_⟩
    · replace K := K.1 b2
      refine pz_j1 [.inr (.inr (some 165))] 72 rfl rfl rfl rfl rfl ?_
      refine pz_j1 [.inl a4, .inr (.inr (some 165))] 74 rfl rfl rfl rfl rfl ?_
      refine pz_Rn_sub (L := [(0, .inr (.inr (some 165))), (4, .inl a4), (5, .inl t0)]) [1, 3, 0] rfl rfl ?_
      exact pz_Rn_k (y := 117) rfl rfl rfl rfl rfl rfl rfl rfl (pz_cok_v rfl rfl pz_S165) K
    · replace K := K.2 b2
      refine pz_j1 [.inr (.inr (some 165))] 62 rfl rfl rfl rfl rfl ?_
      refine pz_j1 [.inl a1, .inr (.inr (some 165))] 63 rfl rfl rfl rfl rfl ?_
      refine pz_j1 [.inl t0, .inl a1, .inr (.inr (some 165))] 65 rfl rfl rfl rfl rfl ?_
      refine pz_j1 [.inl a4, .inl t0, .inl a1, .inr (.inr (some 165))] 67 rfl rfl rfl rfl rfl ?_
      refine pz_Rn_sub (L := []) [] rfl rfl ?_
      exact pz_Rn_k (y := 121) rfl rfl rfl rfl rfl rfl rfl rfl (pz_cok_v rfl rfl pz_S165) K
  · replace K := K.2 b1
    refine pz_j1 [.inl a4] 30 rfl rfl rfl rfl rfl ?_
    refine pz_j1 [.inl t0, .inl a4] 32 rfl rfl rfl rfl rfl ?_
    refine pz_j1 [] (bif pz_cp .eq a4 t0 then 47 else 35) rfl rfl rfl rfl rfl ?_
    refine pz_Rn_if pz_c1_eq pz_c0_eq ⟨fun b3 => ?_, fun b3 => ?_⟩
    · replace K := K.1 b3
      refine pz_j1 [.inl 1] 48 rfl rfl rfl rfl rfl ?_
      refine pz_j1 [.inl 1] 52 rfl rfl rfl rfl rfl ?_
      exact pz_Rn_ret rfl rfl rfl rfl K
    · replace K := K.2 b3
      refine pz_j1 [.inr (.inr (some 165))] 36 rfl rfl rfl rfl rfl ?_
      refine pz_j1 [.inl a1, .inr (.inr (some 165))] 37 rfl rfl rfl rfl rfl ?_
      refine pz_j1 [.inl a4, .inl a1, .inr (.inr (some 165))] 39 rfl rfl rfl rfl rfl ?_
      refine pz_j1 [.inl t0, .inl a4, .inl a1, .inr (.inr (some 165))] 41 rfl rfl rfl rfl rfl ?_
      refine pz_Rn_sub (L := []) [] rfl rfl ?_
      exact pz_Rn_k (y := 121) rfl rfl rfl rfl rfl rfl rfl rfl (pz_cok_v rfl rfl pz_S165) K
theorem pz_g123_44 {t0 : Int}  (K : ((t0 = 0 → Q (.inl (some (.inl 0))) (pz_hp n0 mi ml mr c s)) ∧ (t0 ≠ 0 → Q (.inl (some (.inl 1))) (pz_hp n0 mi ml mr c s)))) : pz_Rn (d + 1) 123 (44, [.inl t0], [], pz_hp n0 mi ml mr c s, true) Q := by
  refine pz_j1 [] (bif pz_cp .eq t0 0 then 51 else 47) rfl rfl rfl rfl rfl ?_
  refine pz_Rn_if pz_c1_eq pz_c0_eq ⟨fun b1 => ?_, fun b1 => ?_⟩
  · replace K := K.1 b1
    refine pz_j1 [.inl 0] 52 rfl rfl rfl rfl rfl ?_
    exact pz_Rn_ret rfl rfl rfl rfl K
  · replace K := K.2 b1
    refine pz_j1 [.inl 1] 48 rfl rfl rfl rfl rfl ?_
    refine pz_j1 [.inl 1] 52 rfl rfl rfl rfl rfl ?_
    exact pz_Rn_ret rfl rfl rfl rfl K
theorem pz_g123_70 {t0 : Int}  (K : (t0 = 0 ∨ t0 = 1) ∧ Q (.inl (some (.inl t0))) (pz_hp n0 mi ml mr c s)) : pz_Rn (d + 1) 123 (70, [.inl t0], [], pz_hp n0 mi ml mr c s, true) Q := by
  obtain ⟨k1, K⟩ := K
  exact pz_Rn_ret rfl rfl rfl (pz_a2 rfl (pz_ok_zz k1)) K
theorem pz_g123_77 {a4 : Int} {a5 : Int} {t0 : Int}  (K : ((t0 = 0 → pz_Rn d 118 (0, [], [(0, .inr (.inr (some 165))), (1, .inl a4)], pz_hp n0 mi ml mr c s, true) (pz_K (d + 1) 123 172 [] [(0, .inr (.inr (some 165))), (4, .inl a4), (5, .inl a5)] Q true)) ∧ (t0 ≠ 0 → pz_Rn d 118 (0, [], [(0, .inr (.inr (some 165))), (1, .inl a5)], pz_hp n0 mi ml mr c s, true) (pz_K (d + 1) 123 83 [] [(0, .inr (.inr (some 165))), (4, .inl a4), (5, .inl a5)] Q true)))) : pz_Rn (d + 1) 123 (77, [.inl t0], [(0, .inr (.inr (some 165))), (4, .inl a4), (5, .inl a5)], pz_hp n0 mi ml mr c s, true) Q := by
  refine pz_j1 [] (bif pz_cp .eq t0 0 then 169 else 80) rfl rfl rfl rfl rfl ?_
  refine pz_Rn_if pz_c1_eq pz_c0_eq ⟨fun b1 => ?_, fun b1 => ?_⟩
  · replace K := K.1 b1
    refine pz_j1 [.inr (.inr (some 165))] 170 rfl rfl rfl rfl rfl ?_
    refine pz_j1 [.inl a4, .inr (.inr (some 165))] 172 rfl rfl rfl rfl rfl ?_
    exact pz_Rn_k (y := 117) rfl rfl rfl rfl rfl rfl rfl rfl (pz_cok_v rfl rfl pz_S165) K
  · replace K := K.2 b1
    refine pz_j1 [.inr (.inr (some 165))] 81 rfl rfl rfl rfl rfl ?_
    refine pz_j1 [.inl a5, .inr (.inr (some 165))] 83 rfl rfl rfl rfl rfl ?_
    exact pz_Rn_k (y := 117) rfl rfl rfl rfl rfl rfl rfl rfl (pz_cok_v rfl rfl pz_S165) K
theorem pz_g123_86 {a4 : Int} {a5 : Int} {t0 : Int}  (K : ((t0 = 0 → pz_Rn d 118 (0, [], [(0, .inr (.inr (some 165))), (1, .inl a4)], pz_hp n0 mi ml mr c s, true) (pz_K (d + 1) 123 172 [] [(0, .inr (.inr (some 165))), (4, .inl a4), (5, .inl a5)] Q true)) ∧ (t0 ≠ 0 → pz_Rn d 119 (0, [], [(0, .inr (.inr (some 165))), (1, .inl a4), (2, .inl 0)], pz_hp n0 mi ml mr c s, true) (pz_K (d + 1) 123 101 [.inl (mi 165 35), .inr (.inr (some 187))] [(0, .inr (.inr (some 165))), (4, .inl a4), (5, .inl a5)] Q true)))) : pz_Rn (d + 1) 123 (86, [.inl t0], [(0, .inr (.inr (some 165))), (4, .inl a4), (5, .inl a5)], pz_hp n0 mi ml mr c s, true) Q := by
  refine pz_j1 [] (bif pz_cp .eq t0 0 then 169 else 89) rfl rfl rfl rfl rfl ?_
  refine pz_Rn_if pz_c1_eq pz_c0_eq ⟨fun b1 => ?_, fun b1 => ?_⟩
  · replace K := K.1 b1
    refine pz_j1 [.inr (.inr (some 165))] 170 rfl rfl rfl rfl rfl ?_
    refine pz_j1 [.inl a4, .inr (.inr (some 165))] 172 rfl rfl rfl rfl rfl ?_
    exact pz_Rn_k (y := 117) rfl rfl rfl rfl rfl rfl rfl rfl (pz_cok_v rfl rfl pz_S165) K
  · replace K := K.2 b1
    refine pz_j1 [.inr (.inr (some 165))] 90 rfl rfl rfl rfl rfl ?_
    refine pz_j1 [.inr (.inr (some 187))] 93 rfl rfl rfl rfl (pz_a2 rfl pz_S165) ?_
    refine pz_j1 [.inr (.inr (some 165)), .inr (.inr (some 187))] 94 rfl rfl rfl rfl rfl ?_
    refine pz_j1 [.inl (mi 165 35), .inr (.inr (some 187))] 97 rfl rfl rfl rfl (pz_a2 rfl pz_S165) ?_
    refine pz_j1 [.inr (.inr (some 165)), .inl (mi 165 35), .inr (.inr (some 187))] 98 rfl rfl rfl rfl rfl ?_
    refine pz_j1 [.inl a4, .inr (.inr (some 165)), .inl (mi 165 35), .inr (.inr (some 187))] 100 rfl rfl rfl rfl rfl ?_
    refine pz_j1 [.inl 0, .inl a4, .inr (.inr (some 165)), .inl (mi 165 35), .inr (.inr (some 187))] 101 rfl rfl rfl rfl rfl ?_
    exact pz_Rn_k (y := 118) rfl rfl rfl rfl rfl rfl rfl rfl (pz_cok_v rfl rfl pz_S165) K
theorem pz_g123_104 {a4 : Int} {a5 : Int} {t1 : Int} {t2 : Int}  (K : (0 ≤ t1 ∧ t1 < 510) ∧ pz_Rn d 119 (0, [], [(0, .inr (.inr (some 165))), (1, .inl a5), (2, .inl 0)], pz_hp n0 (pz_up mi 187 ((t1).toNat) t2) ml mr c s, true) (pz_K (d + 1) 123 117 [.inl (mi 165 35), .inr (.inr (some 188))] [(0, .inr (.inr (some 165))), (4, .inl a4), (5, .inl a5)] Q true)) : pz_Rn (d + 1) 123 (104, [.inl t2, .inl t1, .inr (.inr (some 187))], [(0, .inr (.inr (some 165))), (4, .inl a4), (5, .inl a5)], pz_hp n0 mi ml mr c s, true) Q := by
  obtain ⟨k1, K⟩ := K
  refine pz_j3 [] [(0, .inr (.inr (some 165))), (4, .inl a4), (5, .inl a5)] (pz_hp n0 (pz_up mi 187 ((t1).toNat) t2) ml mr c s) 105 rfl rfl rfl rfl (pz_a2 rfl (pz_ok_ix pz_S187 k1)) ?_
  refine pz_j1 [.inr (.inr (some 165))] 106 rfl rfl rfl rfl rfl ?_
  refine pz_j1 [.inr (.inr (some 188))] 109 rfl rfl rfl rfl (pz_a2 rfl pz_S165) ?_
  refine pz_j1 [.inr (.inr (some 165)), .inr (.inr (some 188))] 110 rfl rfl rfl rfl rfl ?_
  refine pz_j1 [.inl (mi 165 35), .inr (.inr (some 188))] 113 rfl rfl rfl rfl (pz_a2 rfl pz_S165) ?_
  refine pz_j1 [.inr (.inr (some 165)), .inl (mi 165 35), .inr (.inr (some 188))] 114 rfl rfl rfl rfl rfl ?_
  refine pz_j1 [.inl a5, .inr (.inr (some 165)), .inl (mi 165 35), .inr (.inr (some 188))] 116 rfl rfl rfl rfl rfl ?_
  refine pz_j1 [.inl 0, .inl a5, .inr (.inr (some 165)), .inl (mi 165 35), .inr (.inr (some 188))] 117 rfl rfl rfl rfl rfl ?_
  exact pz_Rn_k (y := 118) rfl rfl rfl rfl rfl rfl rfl rfl (pz_cok_v rfl rfl pz_S165) K
theorem pz_g123_120 {a4 : Int} {a5 : Int} {t1 : Int} {t2 : Int}  (K : (0 ≤ t1 ∧ t1 < 510) ∧ (-2147483648 ≤ (mi 165 35) + 1 ∧ (mi 165 35) + 1 ≤ 2147483647) ∧ pz_Rn d 119 (0, [], [(0, .inr (.inr (some 165))), (1, .inl a4), (2, .inl 1)], pz_hp n0 (pz_up mi 188 ((t1).toNat) t2) ml mr c s, true) (pz_K (d + 1) 123 135 [.inl ((mi 165 35) + 1), .inr (.inr (some 187))] [(0, .inr (.inr (some 165))), (5, .inl a5)] Q true)) : pz_Rn (d + 1) 123 (120, [.inl t2, .inl t1, .inr (.inr (some 188))], [(0, .inr (.inr (some 165))), (4, .inl a4), (5, .inl a5)], pz_hp n0 mi ml mr c s, true) Q := by
  obtain ⟨k1, K⟩ := K
  refine pz_j3 [] [(0, .inr (.inr (some 165))), (4, .inl a4), (5, .inl a5)] (pz_hp n0 (pz_up mi 188 ((t1).toNat) t2) ml mr c s) 121 rfl rfl rfl rfl (pz_a2 rfl (pz_ok_ix pz_S188 k1)) ?_
  refine pz_j1 [.inr (.inr (some 165))] 122 rfl rfl rfl rfl rfl ?_
  refine pz_j1 [.inr (.inr (some 187))] 125 rfl rfl rfl rfl (pz_a2 rfl pz_S165) ?_
  refine pz_j1 [.inr (.inr (some 165)), .inr (.inr (some 187))] 126 rfl rfl rfl rfl rfl ?_
  refine pz_j1 [.inl (mi 165 35), .inr (.inr (some 187))] 129 rfl rfl rfl rfl (pz_a2 rfl pz_S165) ?_
  refine pz_j1 [.inl 1, .inl (mi 165 35), .inr (.inr (some 187))] 130 rfl rfl rfl rfl rfl ?_
  obtain ⟨k2, K⟩ := K
  refine pz_j1 [.inl ((mi 165 35) + 1), .inr (.inr (some 187))] 131 rfl rfl rfl rfl (pz_ok_in k2) ?_
  refine pz_j1 [.inr (.inr (some 165)), .inl ((mi 165 35) + 1), .inr (.inr (some 187))] 132 rfl rfl rfl rfl rfl ?_
  refine pz_j1 [.inl a4, .inr (.inr (some 165)), .inl ((mi 165 35) + 1), .inr (.inr (some 187))] 134 rfl rfl rfl rfl rfl ?_
  refine pz_j1 [.inl 1, .inl a4, .inr (.inr (some 165)), .inl ((mi 165 35) + 1), .inr (.inr (some 187))] 135 rfl rfl rfl rfl rfl ?_
  refine pz_Rn_sub (L := [(0, .inr (.inr (some 165))), (5, .inl a5)]) [0, 2] rfl rfl ?_
  exact pz_Rn_k (y := 118) rfl rfl rfl rfl rfl rfl rfl rfl (pz_cok_v rfl rfl pz_S165) K
theorem pz_g123_138 {a5 : Int} {t1 : Int} {t2 : Int}  (K : (0 ≤ t1 ∧ t1 < 510) ∧ (-2147483648 ≤ (mi 165 35) + 1 ∧ (mi 165 35) + 1 ≤ 2147483647) ∧ pz_Rn d 119 (0, [], [(0, .inr (.inr (some 165))), (1, .inl a5), (2, .inl 1)], pz_hp n0 (pz_up mi 187 ((t1).toNat) t2) ml mr c s, true) (pz_K (d + 1) 123 153 [.inl ((mi 165 35) + 1), .inr (.inr (some 188))] [(0, .inr (.inr (some 165)))] Q true)) : pz_Rn (d + 1) 123 (138, [.inl t2, .inl t1, .inr (.inr (some 187))], [(0, .inr (.inr (some 165))), (5, .inl a5)], pz_hp n0 mi ml mr c s, true) Q := by
  obtain ⟨k1, K⟩ := K
  refine pz_j3 [] [(0, .inr (.inr (some 165))), (5, .inl a5)] (pz_hp n0 (pz_up mi 187 ((t1).toNat) t2) ml mr c s) 139 rfl rfl rfl rfl (pz_a2 rfl (pz_ok_ix pz_S187 k1)) ?_
  refine pz_j1 [.inr (.inr (some 165))] 140 rfl rfl rfl rfl rfl ?_
  refine pz_j1 [.inr (.inr (some 188))] 143 rfl rfl rfl rfl (pz_a2 rfl pz_S165) ?_
  refine pz_j1 [.inr (.inr (some 165)), .inr (.inr (some 188))] 144 rfl rfl rfl rfl rfl ?_
  refine pz_j1 [.inl (mi 165 35), .inr (.inr (some 188))] 147 rfl rfl rfl rfl (pz_a2 rfl pz_S165) ?_
  refine pz_j1 [.inl 1, .inl (mi 165 35), .inr (.inr (some 188))] 148 rfl rfl rfl rfl rfl ?_
  obtain ⟨k2, K⟩ := K
  refine pz_j1 [.inl ((mi 165 35) + 1), .inr (.inr (some 188))] 149 rfl rfl rfl rfl (pz_ok_in k2) ?_
  refine pz_j1 [.inr (.inr (some 165)), .inl ((mi 165 35) + 1), .inr (.inr (some 188))] 150 rfl rfl rfl rfl rfl ?_
  refine pz_j1 [.inl a5, .inr (.inr (some 165)), .inl ((mi 165 35) + 1), .inr (.inr (some 188))] 152 rfl rfl rfl rfl rfl ?_
  refine pz_j1 [.inl 1, .inl a5, .inr (.inr (some 165)), .inl ((mi 165 35) + 1), .inr (.inr (some 188))] 153 rfl rfl rfl rfl rfl ?_
  refine pz_Rn_sub (L := [(0, .inr (.inr (some 165)))]) [0] rfl rfl ?_
  exact pz_Rn_k (y := 118) rfl rfl rfl rfl rfl rfl rfl rfl (pz_cok_v rfl rfl pz_S165) K
theorem pz_g123_156 {t1 : Int} {t2 : Int}  (K : (0 ≤ t1 ∧ t1 < 510) ∧ (-2147483648 ≤ (mi 165 35) + 2 ∧ (mi 165 35) + 2 ≤ 2147483647) ∧ Q (.inl (some (.inl 1))) (pz_hp n0 (pz_up (pz_up mi 188 ((t1).toNat) t2) 165 35 ((mi 165 35) + 2)) ml mr c s)) : pz_Rn (d + 1) 123 (156, [.inl t2, .inl t1, .inr (.inr (some 188))], [(0, .inr (.inr (some 165)))], pz_hp n0 mi ml mr c s, true) Q := by
  obtain ⟨k1, K⟩ := K
  refine pz_j3 [] [(0, .inr (.inr (some 165)))] (pz_hp n0 (pz_up mi 188 ((t1).toNat) t2) ml mr c s) 157 rfl rfl rfl rfl (pz_a2 rfl (pz_ok_ix pz_S188 k1)) ?_
  refine pz_j1 [.inr (.inr (some 165))] 158 rfl rfl rfl rfl rfl ?_
  refine pz_j1 [.inr (.inr (some 165)), .inr (.inr (some 165))] 159 rfl rfl rfl rfl rfl ?_
  refine pz_j1 [.inl (mi 165 35), .inr (.inr (some 165))] 162 rfl rfl rfl rfl (pz_a2 rfl pz_S165) ?_
  refine pz_j1 [.inl 2, .inl (mi 165 35), .inr (.inr (some 165))] 163 rfl rfl rfl rfl rfl ?_
  obtain ⟨k2, K⟩ := K
  refine pz_j1 [.inl ((mi 165 35) + 2), .inr (.inr (some 165))] 164 rfl rfl rfl rfl (pz_ok_in k2) ?_
  refine pz_j3 [] [(0, .inr (.inr (some 165)))] (pz_hp n0 (pz_up (pz_up mi 188 ((t1).toNat) t2) 165 35 ((mi 165 35) + 2)) ml mr c s) 167 rfl rfl rfl rfl (pz_a2 rfl (pz_a2 pz_S165 (pz_a2 rfl rfl))) ?_
  refine pz_j1 [.inl 1] 168 rfl rfl rfl rfl rfl ?_
  exact pz_Rn_ret rfl rfl rfl rfl K
theorem pz_g123_175 {a4 : Int} {a5 : Int} {t0 : Int}  (K : ((t0 ≠ 0 → Q (.inl (some (.inl 0))) (pz_hp n0 mi ml mr c s)) ∧ (t0 = 0 → pz_Rn d 118 (0, [], [(0, .inr (.inr (some 165))), (1, .inl a5)], pz_hp n0 mi ml mr c s, true) (pz_K (d + 1) 123 181 [] [(0, .inr (.inr (some 165))), (4, .inl a4), (5, .inl a5)] Q true)))) : pz_Rn (d + 1) 123 (175, [.inl t0], [(0, .inr (.inr (some 165))), (4, .inl a4), (5, .inl a5)], pz_hp n0 mi ml mr c s, true) Q := by
  refine pz_j1 [] (bif pz_cp .ne t0 0 then 214 else 178) rfl rfl rfl rfl rfl ?_
  refine pz_Rn_if pz_c1_ne pz_c0_ne ⟨fun b1 => ?_, fun b1 => ?_⟩
  · replace K := K.1 b1
    refine pz_j1 [.inl 0] 215 rfl rfl rfl rfl rfl ?_
    exact pz_Rn_ret rfl rfl rfl rfl K
  · replace K := K.2 b1
    refine pz_j1 [.inr (.inr (some 165))] 179 rfl rfl rfl rfl rfl ?_
    refine pz_j1 [.inl a5, .inr (.inr (some 165))] 181 rfl rfl rfl rfl rfl ?_
    exact pz_Rn_k (y := 117) rfl rfl rfl rfl rfl rfl rfl rfl (pz_cok_v rfl rfl pz_S165) K
theorem pz_g123_184 {a4 : Int} {a5 : Int} {t0 : Int}  (K : ((t0 ≠ 0 → Q (.inl (some (.inl 0))) (pz_hp n0 mi ml mr c s)) ∧ (t0 = 0 → pz_Rn d 117 (0, [], [(0, .inl a4)], pz_hp n0 mi ml mr c s, true) (pz_K (d + 1) 123 193 [.inr (.inr (some 167))] [(0, .inr (.inr (some 165))), (5, .inl a5)] Q true)))) : pz_Rn (d + 1) 123 (184, [.inl t0], [(0, .inr (.inr (some 165))), (4, .inl a4), (5, .inl a5)], pz_hp n0 mi ml mr c s, true) Q := by
  refine pz_j1 [] (bif pz_cp .ne t0 0 then 214 else 187) rfl rfl rfl rfl rfl ?_
  refine pz_Rn_if pz_c1_ne pz_c0_ne ⟨fun b1 => ?_, fun b1 => ?_⟩
  · replace K := K.1 b1
    refine pz_j1 [.inl 0] 215 rfl rfl rfl rfl rfl ?_
    exact pz_Rn_ret rfl rfl rfl rfl K
  · replace K := K.2 b1
    refine pz_j1 [.inr (.inr (some 165))] 188 rfl rfl rfl rfl rfl ?_
    refine pz_j1 [.inr (.inr (some 167))] 191 rfl rfl rfl rfl (pz_a2 rfl pz_S165) ?_
    refine pz_j1 [.inl a4, .inr (.inr (some 167))] 193 rfl rfl rfl rfl rfl ?_
    refine pz_Rn_sub (L := [(0, .inr (.inr (some 165))), (5, .inl a5)]) [0, 2] rfl rfl ?_
    exact pz_Rn_k (y := 116) rfl rfl rfl rfl rfl rfl rfl rfl rfl K
theorem pz_g123_196 {a5 : Int} {t1 : Int}  (K : (0 ≤ t1 ∧ t1 < 40) ∧ pz_Rn d 117 (0, [], [(0, .inl a5)], pz_hp n0 mi ml mr c s, true) (pz_K (d + 1) 123 203 [.inr (.inr (some 167)), .inl (mi 167 ((t1).toNat))] [] Q true)) : pz_Rn (d + 1) 123 (196, [.inl t1, .inr (.inr (some 167))], [(0, .inr (.inr (some 165))), (5, .inl a5)], pz_hp n0 mi ml mr c s, true) Q := by
  obtain ⟨k1, K⟩ := K
  refine pz_j1 [.inl (mi 167 ((t1).toNat))] 197 rfl rfl rfl rfl (pz_a2 rfl (pz_ok_ixs pz_S167 k1)) ?_
  refine pz_j1 [.inr (.inr (some 165)), .inl (mi 167 ((t1).toNat))] 198 rfl rfl rfl rfl rfl ?_
  refine pz_j1 [.inr (.inr (some 167)), .inl (mi 167 ((t1).toNat))] 201 rfl rfl rfl rfl (pz_a2 rfl pz_S165) ?_
  refine pz_j1 [.inl a5, .inr (.inr (some 167)), .inl (mi 167 ((t1).toNat))] 203 rfl rfl rfl rfl rfl ?_
  refine pz_Rn_sub (L := []) [] rfl rfl ?_
  exact pz_Rn_k (y := 116) rfl rfl rfl rfl rfl rfl rfl rfl rfl K
theorem pz_g123_206 {t0 : Int} {t2 : Int}  (K : (0 ≤ t2 ∧ t2 < 40) ∧ ((t0 ≠ mi 167 ((t2).toNat) → Q (.inl (some (.inl 0))) (pz_hp n0 mi ml mr c s)) ∧ (t0 = mi 167 ((t2).toNat) → Q (.inl (some (.inl 1))) (pz_hp n0 mi ml mr c s)))) : pz_Rn (d + 1) 123 (206, [.inl t2, .inr (.inr (some 167)), .inl t0], [], pz_hp n0 mi ml mr c s, true) Q := by
  obtain ⟨k1, K⟩ := K
  refine pz_j1 [.inl (mi 167 ((t2).toNat)), .inl t0] 207 rfl rfl rfl rfl (pz_a2 rfl (pz_ok_ixs pz_S167 k1)) ?_
  refine pz_j1 [] (bif pz_cp .ne t0 (mi 167 ((t2).toNat)) then 214 else 210) rfl rfl rfl rfl rfl ?_
  refine pz_Rn_if pz_c1_ne pz_c0_ne ⟨fun b2 => ?_, fun b2 => ?_⟩
  · replace K := K.1 b2
    refine pz_j1 [.inl 0] 215 rfl rfl rfl rfl rfl ?_
    exact pz_Rn_ret rfl rfl rfl rfl K
  · replace K := K.2 b2
    refine pz_j1 [.inl 1] 211 rfl rfl rfl rfl rfl ?_
    refine pz_j1 [.inl 1] 215 rfl rfl rfl rfl rfl ?_
    exact pz_Rn_ret rfl rfl rfl rfl K
-- 124 RelationStreamModel.matches(III)Z
theorem pz_g124_0 {a1 : Int} {a2 : Int} {a3 : Int}  (K : pz_Rn (d + 1) 124 (27, [], [(0, .inr (.inr (some 165))), (1, .inl a1), (4, .inl 1)], pz_hp n0 (pz_up (pz_up (pz_up (pz_up mi 165 33 0) 187 0 a2) 188 0 a3) 165 35 1) ml mr c s, true) Q) : pz_Rn (d + 1) 124 (0, [], [(0, .inr (.inr (some 165))), (1, .inl a1), (2, .inl a2), (3, .inl a3)], pz_hp n0 mi ml mr c s, true) Q := by
  refine pz_j1 [.inr (.inr (some 165))] 1 rfl rfl rfl rfl rfl ?_
  refine pz_j1 [.inl 0, .inr (.inr (some 165))] 2 rfl rfl rfl rfl rfl ?_
  refine pz_j3 [] [(0, .inr (.inr (some 165))), (1, .inl a1), (2, .inl a2), (3, .inl a3)] (pz_hp n0 (pz_up mi 165 33 0) ml mr c s) 5 rfl rfl rfl rfl (pz_a2 rfl (pz_a2 pz_S165 (pz_a2 rfl rfl))) ?_
  refine pz_j1 [.inr (.inr (some 165))] 6 rfl rfl rfl rfl rfl ?_
  refine pz_j1 [.inr (.inr (some 187))] 9 rfl rfl rfl rfl (pz_a2 rfl pz_S165) ?_
  refine pz_j1 [.inl 0, .inr (.inr (some 187))] 10 rfl rfl rfl rfl rfl ?_
  refine pz_j1 [.inl a2, .inl 0, .inr (.inr (some 187))] 11 rfl rfl rfl rfl rfl ?_
  refine pz_j3 [] [(0, .inr (.inr (some 165))), (1, .inl a1), (2, .inl a2), (3, .inl a3)] (pz_hp n0 (pz_up (pz_up mi 165 33 0) 187 0 a2) ml mr c s) 12 rfl rfl rfl rfl (pz_a2 rfl (pz_ok_ix pz_S187 ⟨by decide, by decide⟩)) ?_
  refine pz_j1 [.inr (.inr (some 165))] 13 rfl rfl rfl rfl rfl ?_
  refine pz_j1 [.inr (.inr (some 188))] 16 rfl rfl rfl rfl (pz_a2 rfl pz_S165) ?_
  refine pz_j1 [.inl 0, .inr (.inr (some 188))] 17 rfl rfl rfl rfl rfl ?_
  refine pz_j1 [.inl a3, .inl 0, .inr (.inr (some 188))] 18 rfl rfl rfl rfl rfl ?_
  refine pz_j3 [] [(0, .inr (.inr (some 165))), (1, .inl a1), (2, .inl a2), (3, .inl a3)] (pz_hp n0 (pz_up (pz_up (pz_up mi 165 33 0) 187 0 a2) 188 0 a3) ml mr c s) 19 rfl rfl rfl rfl (pz_a2 rfl (pz_ok_ix pz_S188 ⟨by decide, by decide⟩)) ?_
  refine pz_j1 [.inr (.inr (some 165))] 20 rfl rfl rfl rfl rfl ?_
  refine pz_j1 [.inl 1, .inr (.inr (some 165))] 21 rfl rfl rfl rfl rfl ?_
  refine pz_j3 [] [(0, .inr (.inr (some 165))), (1, .inl a1), (2, .inl a2), (3, .inl a3)] (pz_hp n0 (pz_up (pz_up (pz_up (pz_up mi 165 33 0) 187 0 a2) 188 0 a3) 165 35 1) ml mr c s) 24 rfl rfl rfl rfl (pz_a2 rfl (pz_a2 pz_S165 (pz_a2 rfl rfl))) ?_
  refine pz_j1 [.inl 1] 25 rfl rfl rfl rfl rfl ?_
  refine pz_j2 [] [(4, .inl 1), (0, .inr (.inr (some 165))), (1, .inl a1), (2, .inl a2), (3, .inl a3)] 27 rfl rfl rfl rfl rfl ?_
  refine pz_Rn_sub (L := [(0, .inr (.inr (some 165))), (1, .inl a1), (4, .inl 1)]) [1, 2, 0] rfl rfl ?_
  exact K
theorem pz_g124_27 {a1 : Int} {a4 : Int}  (K : ((mi 165 35 ≤ 0 → (a4 = 0 ∨ a4 = 1) ∧ Q (.inl (some (.inl a4))) (pz_hp n0 mi ml mr c s)) ∧ (0 < mi 165 35 → ((a4 = 0 → (a4 = 0 ∨ a4 = 1) ∧ Q (.inl (some (.inl a4))) (pz_hp n0 mi ml mr c s)) ∧ (a4 ≠ 0 → ((mi 165 31 ≠ 0 → (a4 = 0 ∨ a4 = 1) ∧ Q (.inl (some (.inl a4))) (pz_hp n0 mi ml mr c s)) ∧ (mi 165 31 = 0 → (-2147483648 ≤ (mi 165 35) - 1 ∧ (mi 165 35) - 1 ≤ 2147483647) ∧ (0 ≤ (mi 165 35) - 1 ∧ (mi 165 35) - 1 < 510) ∧ (0 ≤ (mi 165 35) - 1 ∧ (mi 165 35) - 1 < 510) ∧ pz_Rn d 123 (0, [], [(0, .inr (.inr (some 165))), (1, .inl a1), (2, .inl (mi 187 (((mi 165 35) - 1).toNat))), (3, .inl (mi 188 (((mi 165 35) - 1).toNat)))], pz_hp n0 (pz_up mi 165 35 ((mi 165 35) - 1)) ml mr c s, true) (pz_K (d + 1) 124 76 [] [(0, .inr (.inr (some 165))), (1, .inl a1)] Q true)))))))) : pz_Rn (d + 1) 124 (27, [], [(0, .inr (.inr (some 165))), (1, .inl a1), (4, .inl a4)], pz_hp n0 mi ml mr c s, true) Q := by
  refine pz_j1 [.inr (.inr (some 165))] 28 rfl rfl rfl rfl rfl ?_
  refine pz_j1 [.inl (mi 165 35)] 31 rfl rfl rfl rfl (pz_a2 rfl pz_S165) ?_
  refine pz_j1 [] (bif pz_cp .le (mi 165 35) 0 then 84 else 34) rfl rfl rfl rfl rfl ?_
  refine pz_Rn_if pz_c1_le pz_c0_le ⟨fun b1 => ?_, fun b1 => ?_⟩
  · replace K := K.1 b1
    refine pz_j1 [.inl a4] 86 rfl rfl rfl rfl rfl ?_
    obtain ⟨k2, K⟩ := K
    exact pz_Rn_ret rfl rfl rfl (pz_a2 rfl (pz_ok_zz k2)) K
  · replace K := K.2 b1
    refine pz_j1 [.inl a4] 36 rfl rfl rfl rfl rfl ?_
    refine pz_j1 [] (bif pz_cp .eq a4 0 then 84 else 39) rfl rfl rfl rfl rfl ?_
    refine pz_Rn_if pz_c1_eq pz_c0_eq ⟨fun b3 => ?_, fun b3 => ?_⟩
    · replace K := K.1 b3
      refine pz_j1 [.inl a4] 86 rfl rfl rfl rfl rfl ?_
      obtain ⟨k4, K⟩ := K
      exact pz_Rn_ret rfl rfl rfl (pz_a2 rfl (pz_ok_zz k4)) K
    · replace K := K.2 b3
      refine pz_j1 [.inr (.inr (some 165))] 40 rfl rfl rfl rfl rfl ?_
      refine pz_j1 [.inl (mi 165 31)] 43 rfl rfl rfl rfl (pz_a2 rfl pz_S165) ?_
      refine pz_j1 [] (bif pz_cp .ne (mi 165 31) 0 then 84 else 46) rfl rfl rfl rfl rfl ?_
      refine pz_Rn_if pz_c1_ne pz_c0_ne ⟨fun b5 => ?_, fun b5 => ?_⟩
      · replace K := K.1 b5
        refine pz_j1 [.inl a4] 86 rfl rfl rfl rfl rfl ?_
        obtain ⟨k6, K⟩ := K
        exact pz_Rn_ret rfl rfl rfl (pz_a2 rfl (pz_ok_zz k6)) K
      · replace K := K.2 b5
        refine pz_j1 [.inr (.inr (some 165))] 47 rfl rfl rfl rfl rfl ?_
        refine pz_j1 [.inr (.inr (some 165)), .inr (.inr (some 165))] 48 rfl rfl rfl rfl rfl ?_
        refine pz_j1 [.inl (mi 165 35), .inr (.inr (some 165))] 51 rfl rfl rfl rfl (pz_a2 rfl pz_S165) ?_
        refine pz_j1 [.inl 1, .inl (mi 165 35), .inr (.inr (some 165))] 52 rfl rfl rfl rfl rfl ?_
        obtain ⟨k7, K⟩ := K
        refine pz_j1 [.inl ((mi 165 35) - 1), .inr (.inr (some 165))] 53 rfl rfl rfl rfl (pz_ok_in k7) ?_
        refine pz_j3 [] [(0, .inr (.inr (some 165))), (1, .inl a1), (4, .inl a4)] (pz_hp n0 (pz_up mi 165 35 ((mi 165 35) - 1)) ml mr c s) 56 rfl rfl rfl rfl (pz_a2 rfl (pz_a2 pz_S165 (pz_a2 rfl rfl))) ?_
        refine pz_j1 [.inr (.inr (some 165))] 57 rfl rfl rfl rfl rfl ?_
        refine pz_j1 [.inl a1, .inr (.inr (some 165))] 58 rfl rfl rfl rfl rfl ?_
        refine pz_j1 [.inr (.inr (some 165)), .inl a1, .inr (.inr (some 165))] 59 rfl rfl rfl rfl rfl ?_
        refine pz_j1 [.inr (.inr (some 187)), .inl a1, .inr (.inr (some 165))] 62 rfl rfl rfl rfl (pz_a2 rfl pz_S165) ?_
        refine pz_j1 [.inr (.inr (some 165)), .inr (.inr (some 187)), .inl a1, .inr (.inr (some 165))] 63 rfl rfl rfl rfl rfl ?_
        refine pz_j1 [.inl ((mi 165 35) - 1), .inr (.inr (some 187)), .inl a1, .inr (.inr (some 165))] 66 rfl rfl rfl rfl (pz_a2 rfl pz_S165) ?_
        obtain ⟨k8, K⟩ := K
        refine pz_j1 [.inl (mi 187 (((mi 165 35) - 1).toNat)), .inl a1, .inr (.inr (some 165))] 67 rfl rfl rfl rfl (pz_a2 rfl (pz_ok_ixs pz_S187 k8)) ?_
        refine pz_j1 [.inr (.inr (some 165)), .inl (mi 187 (((mi 165 35) - 1).toNat)), .inl a1, .inr (.inr (some 165))] 68 rfl rfl rfl rfl rfl ?_
        refine pz_j1 [.inr (.inr (some 188)), .inl (mi 187 (((mi 165 35) - 1).toNat)), .inl a1, .inr (.inr (some 165))] 71 rfl rfl rfl rfl (pz_a2 rfl pz_S165) ?_
        refine pz_j1 [.inr (.inr (some 165)), .inr (.inr (some 188)), .inl (mi 187 (((mi 165 35) - 1).toNat)), .inl a1, .inr (.inr (some 165))] 72 rfl rfl rfl rfl rfl ?_
        refine pz_j1 [.inl ((mi 165 35) - 1), .inr (.inr (some 188)), .inl (mi 187 (((mi 165 35) - 1).toNat)), .inl a1, .inr (.inr (some 165))] 75 rfl rfl rfl rfl (pz_a2 rfl pz_S165) ?_
        obtain ⟨k9, K⟩ := K
        refine pz_j1 [.inl (mi 188 (((mi 165 35) - 1).toNat)), .inl (mi 187 (((mi 165 35) - 1).toNat)), .inl a1, .inr (.inr (some 165))] 76 rfl rfl rfl rfl (pz_a2 rfl (pz_ok_ixs pz_S188 k9)) ?_
        refine pz_Rn_sub (L := [(0, .inr (.inr (some 165))), (1, .inl a1)]) [0, 1] rfl rfl ?_
        exact pz_Rn_k (y := 122) rfl rfl rfl rfl rfl rfl rfl rfl (pz_cok_v rfl rfl pz_S165) K
theorem pz_g124_79 {a1 : Int} {t0 : Int}  (K : pz_Rn (d + 1) 124 (27, [], [(0, .inr (.inr (some 165))), (1, .inl a1), (4, .inl t0)], pz_hp n0 mi ml mr c s, true) Q) : pz_Rn (d + 1) 124 (79, [.inl t0], [(0, .inr (.inr (some 165))), (1, .inl a1)], pz_hp n0 mi ml mr c s, true) Q := by
  refine pz_j2 [] [(4, .inl t0), (0, .inr (.inr (some 165))), (1, .inl a1)] 81 rfl rfl rfl rfl rfl ?_
  refine pz_j1 [] 27 rfl rfl rfl rfl rfl ?_
  refine pz_Rn_sub (L := [(0, .inr (.inr (some 165))), (1, .inl a1), (4, .inl t0)]) [1, 2, 0] rfl rfl ?_
  exact K
end pzge
