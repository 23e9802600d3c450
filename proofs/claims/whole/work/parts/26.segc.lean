/-! Segments of methods, by wip/whole/gen/seg.py: from an entry, a loop's head or behind a call to the next stop. -/
section pzgc
variable {d n0 : Nat} {mi : Nat → Nat → Int} {ml : Nat → Nat → Int64} {mr : Nat → Nat → Option Nat} {c s : Nat} {Q : pz_O → pz_H → Prop}
-- 50 RelationStream$Matcher.pushHalves(III)V
theorem pz_g50_0 {a1 : Int} {a2 : Int} {a3 : Int}  (K : 0 ≤ a1 ∧ ∀ x2 : Int, x2 = a1 / 41 → 0 ≤ a2 ∧ ∀ x4 : Int, x4 = a2 / 41 → 0 ≤ a1 ∧ (0 ≤ a1 % 41 ∧ a1 % 41 < 41) ∧ pz_Rn d 44 (0, [], [(0, .inl x2), (1, .inl (mi 5 ((a1 % 41).toNat)))], pz_hp n0 mi ml mr c s, true) (pz_K (d + 1) 50 31 [.inl a3, .inr (.inr (some 156))] [(0, .inr (.inr (some 155))), (1, .inl a1), (2, .inl a2), (3, .inl a3), (4, .inl x2), (5, .inl x4)] Q true)) : pz_Rn (d + 1) 50 (0, [], [(0, .inr (.inr (some 155))), (1, .inl a1), (2, .inl a2), (3, .inl a3)], pz_hp n0 mi ml mr c s, true) Q := by
  refine pz_j1 [.inl a1] 1 rfl rfl rfl rfl rfl ?_
  refine pz_j1 [.inl 41, .inl a1] 3 rfl rfl rfl rfl rfl ?_
  obtain ⟨k1, K⟩ := K
  refine pz_j1 [.inl (a1 / 41)] 4 rfl rfl rfl rfl (pz_ok_dv ⟨k1, by decide⟩) ?_
  obtain ⟨x2, hx2⟩ : ∃ x : Int, x = a1 / 41 := ⟨_, rfl⟩
  rewrite [← hx2]
  replace K := K x2 hx2
  refine pz_j2 [] [(4, .inl x2), (0, .inr (.inr (some 155))), (1, .inl a1), (2, .inl a2), (3, .inl a3)] 6 rfl rfl rfl rfl rfl ?_
  refine pz_j1 [.inl a2] 7 rfl rfl rfl rfl rfl ?_
  refine pz_j1 [.inl 41, .inl a2] 9 rfl rfl rfl rfl rfl ?_
  obtain ⟨k3, K⟩ := K
  refine pz_j1 [.inl (a2 / 41)] 10 rfl rfl rfl rfl (pz_ok_dv ⟨k3, by decide⟩) ?_
  obtain ⟨x4, hx4⟩ : ∃ x : Int, x = a2 / 41 := ⟨_, rfl⟩
  rewrite [← hx4]
  replace K := K x4 hx4
  refine pz_j2 [] [(5, .inl x4), (4, .inl x2), (0, .inr (.inr (some 155))), (1, .inl a1), (2, .inl a2), (3, .inl a3)] 12 rfl rfl rfl rfl rfl ?_
  refine pz_j1 [.inr (.inr (some 155))] 13 rfl rfl rfl rfl rfl ?_
  refine pz_j1 [.inr (.inr (some 156))] 16 rfl rfl rfl rfl (pz_a2 rfl pz_S155) ?_
  refine pz_j1 [.inl a3, .inr (.inr (some 156))] 17 rfl rfl rfl rfl rfl ?_
  refine pz_j1 [.inl x2, .inl a3, .inr (.inr (some 156))] 19 rfl rfl rfl rfl rfl ?_
  refine pz_j1 [.inr (.inr (some 155)), .inl x2, .inl a3, .inr (.inr (some 156))] 20 rfl rfl rfl rfl rfl ?_
  refine pz_j1 [.inr (.inr (some 2)), .inl x2, .inl a3, .inr (.inr (some 156))] 23 rfl rfl rfl rfl (pz_a2 rfl pz_S155) ?_
  refine pz_j1 [.inr (.inr (some 5)), .inl x2, .inl a3, .inr (.inr (some 156))] 26 rfl rfl rfl rfl (pz_a2 rfl pz_S2) ?_
  refine pz_j1 [.inl a1, .inr (.inr (some 5)), .inl x2, .inl a3, .inr (.inr (some 156))] 27 rfl rfl rfl rfl rfl ?_
  refine pz_j1 [.inl 41, .inl a1, .inr (.inr (some 5)), .inl x2, .inl a3, .inr (.inr (some 156))] 29 rfl rfl rfl rfl rfl ?_
  obtain ⟨k5, K⟩ := K
  refine pz_j1 [.inl (a1 % 41), .inr (.inr (some 5)), .inl x2, .inl a3, .inr (.inr (some 156))] 30 rfl rfl rfl rfl (pz_ok_dv ⟨k5, by decide⟩) ?_
  obtain ⟨k6, K⟩ := K
  refine pz_j1 [.inl (mi 5 ((a1 % 41).toNat)), .inl x2, .inl a3, .inr (.inr (some 156))] 31 rfl rfl rfl rfl (pz_a2 rfl (pz_ok_ixs pz_S5 k6)) ?_
  refine pz_Rn_sub (L := [(0, .inr (.inr (some 155))), (1, .inl a1), (2, .inl a2), (3, .inl a3), (4, .inl x2), (5, .inl x4)]) [2, 3, 4, 5, 1, 0] rfl rfl ?_
  exact pz_Rn_k (y := 43) rfl rfl rfl rfl rfl rfl rfl rfl rfl K
theorem pz_g50_34 {a1 : Int} {a2 : Int} {a3 : Int} {a4 : Int} {a5 : Int} {t1 : Int} {t2 : Int}  (K : (0 ≤ t1 ∧ t1 < 503) ∧ 0 ≤ a2 ∧ (0 ≤ a2 % 41 ∧ a2 % 41 < 41) ∧ pz_Rn d 44 (0, [], [(0, .inl a5), (1, .inl (mi 5 ((a2 % 41).toNat)))], pz_hp n0 (pz_up mi 156 ((t1).toNat) t2) ml mr c s, true) (pz_K (d + 1) 50 54 [.inl a3, .inr (.inr (some 157))] [(0, .inr (.inr (some 155))), (1, .inl a1), (2, .inl a2), (3, .inl a3), (4, .inl a4), (5, .inl a5)] Q true)) : pz_Rn (d + 1) 50 (34, [.inl t2, .inl t1, .inr (.inr (some 156))], [(0, .inr (.inr (some 155))), (1, .inl a1), (2, .inl a2), (3, .inl a3), (4, .inl a4), (5, .inl a5)], pz_hp n0 mi ml mr c s, true) Q := by
  obtain ⟨k1, K⟩ := K
  refine pz_j3 [] [(0, .inr (.inr (some 155))), (1, .inl a1), (2, .inl a2), (3, .inl a3), (4, .inl a4), (5, .inl a5)] (pz_hp n0 (pz_up mi 156 ((t1).toNat) t2) ml mr c s) 35 rfl rfl rfl rfl (pz_a2 rfl (pz_ok_ix pz_S156 k1)) ?_
  refine pz_j1 [.inr (.inr (some 155))] 36 rfl rfl rfl rfl rfl ?_
  refine pz_j1 [.inr (.inr (some 157))] 39 rfl rfl rfl rfl (pz_a2 rfl pz_S155) ?_
  refine pz_j1 [.inl a3, .inr (.inr (some 157))] 40 rfl rfl rfl rfl rfl ?_
  refine pz_j1 [.inl a5, .inl a3, .inr (.inr (some 157))] 42 rfl rfl rfl rfl rfl ?_
  refine pz_j1 [.inr (.inr (some 155)), .inl a5, .inl a3, .inr (.inr (some 157))] 43 rfl rfl rfl rfl rfl ?_
  refine pz_j1 [.inr (.inr (some 2)), .inl a5, .inl a3, .inr (.inr (some 157))] 46 rfl rfl rfl rfl (pz_a2 rfl pz_S155) ?_
  refine pz_j1 [.inr (.inr (some 5)), .inl a5, .inl a3, .inr (.inr (some 157))] 49 rfl rfl rfl rfl (pz_a2 rfl pz_S2) ?_
  refine pz_j1 [.inl a2, .inr (.inr (some 5)), .inl a5, .inl a3, .inr (.inr (some 157))] 50 rfl rfl rfl rfl rfl ?_
  refine pz_j1 [.inl 41, .inl a2, .inr (.inr (some 5)), .inl a5, .inl a3, .inr (.inr (some 157))] 52 rfl rfl rfl rfl rfl ?_
  obtain ⟨k2, K⟩ := K
  refine pz_j1 [.inl (a2 % 41), .inr (.inr (some 5)), .inl a5, .inl a3, .inr (.inr (some 157))] 53 rfl rfl rfl rfl (pz_ok_dv ⟨k2, by decide⟩) ?_
  obtain ⟨k3, K⟩ := K
  refine pz_j1 [.inl (mi 5 ((a2 % 41).toNat)), .inl a5, .inl a3, .inr (.inr (some 157))] 54 rfl rfl rfl rfl (pz_a2 rfl (pz_ok_ixs pz_S5 k3)) ?_
  exact pz_Rn_k (y := 43) rfl rfl rfl rfl rfl rfl rfl rfl rfl K
theorem pz_g50_57 {a1 : Int} {a2 : Int} {a3 : Int} {a4 : Int} {a5 : Int} {t1 : Int} {t2 : Int}  (K : (0 ≤ t1 ∧ t1 < 503) ∧ (-2147483648 ≤ a3 + 1 ∧ a3 + 1 ≤ 2147483647) ∧ 0 ≤ a1 ∧ (0 ≤ a1 % 41 ∧ a1 % 41 < 41) ∧ pz_Rn d 44 (0, [], [(0, .inl a4), (1, .inl (mi 4 ((a1 % 41).toNat)))], pz_hp n0 (pz_up mi 157 ((t1).toNat) t2) ml mr c s, true) (pz_K (d + 1) 50 79 [.inl (a3 + 1), .inr (.inr (some 156))] [(0, .inr (.inr (some 155))), (2, .inl a2), (3, .inl a3), (5, .inl a5)] Q true)) : pz_Rn (d + 1) 50 (57, [.inl t2, .inl t1, .inr (.inr (some 157))], [(0, .inr (.inr (some 155))), (1, .inl a1), (2, .inl a2), (3, .inl a3), (4, .inl a4), (5, .inl a5)], pz_hp n0 mi ml mr c s, true) Q := by
  obtain ⟨k1, K⟩ := K
  refine pz_j3 [] [(0, .inr (.inr (some 155))), (1, .inl a1), (2, .inl a2), (3, .inl a3), (4, .inl a4), (5, .inl a5)] (pz_hp n0 (pz_up mi 157 ((t1).toNat) t2) ml mr c s) 58 rfl rfl rfl rfl (pz_a2 rfl (pz_ok_ix pz_S157 k1)) ?_
  refine pz_j1 [.inr (.inr (some 155))] 59 rfl rfl rfl rfl rfl ?_
  refine pz_j1 [.inr (.inr (some 156))] 62 rfl rfl rfl rfl (pz_a2 rfl pz_S155) ?_
  refine pz_j1 [.inl a3, .inr (.inr (some 156))] 63 rfl rfl rfl rfl rfl ?_
  refine pz_j1 [.inl 1, .inl a3, .inr (.inr (some 156))] 64 rfl rfl rfl rfl rfl ?_
  obtain ⟨k2, K⟩ := K
  refine pz_j1 [.inl (a3 + 1), .inr (.inr (some 156))] 65 rfl rfl rfl rfl (pz_ok_in k2) ?_
  refine pz_j1 [.inl a4, .inl (a3 + 1), .inr (.inr (some 156))] 67 rfl rfl rfl rfl rfl ?_
  refine pz_j1 [.inr (.inr (some 155)), .inl a4, .inl (a3 + 1), .inr (.inr (some 156))] 68 rfl rfl rfl rfl rfl ?_
  refine pz_j1 [.inr (.inr (some 2)), .inl a4, .inl (a3 + 1), .inr (.inr (some 156))] 71 rfl rfl rfl rfl (pz_a2 rfl pz_S155) ?_
  refine pz_j1 [.inr (.inr (some 4)), .inl a4, .inl (a3 + 1), .inr (.inr (some 156))] 74 rfl rfl rfl rfl (pz_a2 rfl pz_S2) ?_
  refine pz_j1 [.inl a1, .inr (.inr (some 4)), .inl a4, .inl (a3 + 1), .inr (.inr (some 156))] 75 rfl rfl rfl rfl rfl ?_
  refine pz_j1 [.inl 41, .inl a1, .inr (.inr (some 4)), .inl a4, .inl (a3 + 1), .inr (.inr (some 156))] 77 rfl rfl rfl rfl rfl ?_
  obtain ⟨k3, K⟩ := K
  refine pz_j1 [.inl (a1 % 41), .inr (.inr (some 4)), .inl a4, .inl (a3 + 1), .inr (.inr (some 156))] 78 rfl rfl rfl rfl (pz_ok_dv ⟨k3, by decide⟩) ?_
  obtain ⟨k4, K⟩ := K
  refine pz_j1 [.inl (mi 4 ((a1 % 41).toNat)), .inl a4, .inl (a3 + 1), .inr (.inr (some 156))] 79 rfl rfl rfl rfl (pz_a2 rfl (pz_ok_ixs pz_S4 k4)) ?_
  refine pz_Rn_sub (L := [(0, .inr (.inr (some 155))), (2, .inl a2), (3, .inl a3), (5, .inl a5)]) [0, 2, 3, 5] rfl rfl ?_
  exact pz_Rn_k (y := 43) rfl rfl rfl rfl rfl rfl rfl rfl rfl K
theorem pz_g50_82 {a2 : Int} {a3 : Int} {a5 : Int} {t1 : Int} {t2 : Int}  (K : (0 ≤ t1 ∧ t1 < 503) ∧ (-2147483648 ≤ a3 + 1 ∧ a3 + 1 ≤ 2147483647) ∧ 0 ≤ a2 ∧ (0 ≤ a2 % 41 ∧ a2 % 41 < 41) ∧ pz_Rn d 44 (0, [], [(0, .inl a5), (1, .inl (mi 4 ((a2 % 41).toNat)))], pz_hp n0 (pz_up mi 156 ((t1).toNat) t2) ml mr c s, true) (pz_K (d + 1) 50 104 [.inl (a3 + 1), .inr (.inr (some 157))] [] Q true)) : pz_Rn (d + 1) 50 (82, [.inl t2, .inl t1, .inr (.inr (some 156))], [(0, .inr (.inr (some 155))), (2, .inl a2), (3, .inl a3), (5, .inl a5)], pz_hp n0 mi ml mr c s, true) Q := by
  obtain ⟨k1, K⟩ := K
  refine pz_j3 [] [(0, .inr (.inr (some 155))), (2, .inl a2), (3, .inl a3), (5, .inl a5)] (pz_hp n0 (pz_up mi 156 ((t1).toNat) t2) ml mr c s) 83 rfl rfl rfl rfl (pz_a2 rfl (pz_ok_ix pz_S156 k1)) ?_
  refine pz_j1 [.inr (.inr (some 155))] 84 rfl rfl rfl rfl rfl ?_
  refine pz_j1 [.inr (.inr (some 157))] 87 rfl rfl rfl rfl (pz_a2 rfl pz_S155) ?_
  refine pz_j1 [.inl a3, .inr (.inr (some 157))] 88 rfl rfl rfl rfl rfl ?_
  refine pz_j1 [.inl 1, .inl a3, .inr (.inr (some 157))] 89 rfl rfl rfl rfl rfl ?_
  obtain ⟨k2, K⟩ := K
  refine pz_j1 [.inl (a3 + 1), .inr (.inr (some 157))] 90 rfl rfl rfl rfl (pz_ok_in k2) ?_
  refine pz_j1 [.inl a5, .inl (a3 + 1), .inr (.inr (some 157))] 92 rfl rfl rfl rfl rfl ?_
  refine pz_j1 [.inr (.inr (some 155)), .inl a5, .inl (a3 + 1), .inr (.inr (some 157))] 93 rfl rfl rfl rfl rfl ?_
  refine pz_j1 [.inr (.inr (some 2)), .inl a5, .inl (a3 + 1), .inr (.inr (some 157))] 96 rfl rfl rfl rfl (pz_a2 rfl pz_S155) ?_
  refine pz_j1 [.inr (.inr (some 4)), .inl a5, .inl (a3 + 1), .inr (.inr (some 157))] 99 rfl rfl rfl rfl (pz_a2 rfl pz_S2) ?_
  refine pz_j1 [.inl a2, .inr (.inr (some 4)), .inl a5, .inl (a3 + 1), .inr (.inr (some 157))] 100 rfl rfl rfl rfl rfl ?_
  refine pz_j1 [.inl 41, .inl a2, .inr (.inr (some 4)), .inl a5, .inl (a3 + 1), .inr (.inr (some 157))] 102 rfl rfl rfl rfl rfl ?_
  obtain ⟨k3, K⟩ := K
  refine pz_j1 [.inl (a2 % 41), .inr (.inr (some 4)), .inl a5, .inl (a3 + 1), .inr (.inr (some 157))] 103 rfl rfl rfl rfl (pz_ok_dv ⟨k3, by decide⟩) ?_
  obtain ⟨k4, K⟩ := K
  refine pz_j1 [.inl (mi 4 ((a2 % 41).toNat)), .inl a5, .inl (a3 + 1), .inr (.inr (some 157))] 104 rfl rfl rfl rfl (pz_a2 rfl (pz_ok_ixs pz_S4 k4)) ?_
  refine pz_Rn_sub (L := []) [] rfl rfl ?_
  exact pz_Rn_k (y := 43) rfl rfl rfl rfl rfl rfl rfl rfl rfl K
theorem pz_g50_107 {t1 : Int} {t2 : Int}  (K : (0 ≤ t1 ∧ t1 < 503) ∧ Q (.inl none) (pz_hp n0 (pz_up mi 157 ((t1).toNat) t2) ml mr c s)) : pz_Rn (d + 1) 50 (107, [.inl t2, .inl t1, .inr (.inr (some 157))], [], pz_hp n0 mi ml mr c s, true) Q := by
  obtain ⟨k1, K⟩ := K
  refine pz_j3 [] [] (pz_hp n0 (pz_up mi 157 ((t1).toNat) t2) ml mr c s) 108 rfl rfl rfl rfl (pz_a2 rfl (pz_ok_ix pz_S157 k1)) ?_
  exact pz_Rn_ret rfl rfl rfl rfl K
-- 51 RelationStream$Bindings.variableAt(I)I
theorem pz_g51_0 {a1 : Int}  (K : 0 ≤ a1 ∧ (-2147483648 ≤ (a1 / 41) * 6 ∧ (a1 / 41) * 6 ≤ 2147483647) ∧ 0 ≤ a1 ∧ (0 ≤ a1 % 41 ∧ a1 % 41 < 41) ∧ (-2147483648 ≤ ((a1 / 41) * 6) + (mi 4 ((a1 % 41).toNat)) ∧ ((a1 / 41) * 6) + (mi 4 ((a1 % 41).toNat)) ≤ 2147483647) ∧ Q (.inl (some (.inl (((a1 / 41) * 6) + (mi 4 ((a1 % 41).toNat)))))) (pz_hp n0 mi ml mr c s)) : pz_Rn d 51 (0, [], [(0, .inr (.inr (some 150))), (1, .inl a1)], pz_hp n0 mi ml mr c s, true) Q := by
  refine pz_j1 [.inl a1] 1 rfl rfl rfl rfl rfl ?_
  refine pz_j1 [.inl 41, .inl a1] 3 rfl rfl rfl rfl rfl ?_
  obtain ⟨k1, K⟩ := K
  refine pz_j1 [.inl (a1 / 41)] 4 rfl rfl rfl rfl (pz_ok_dv ⟨k1, by decide⟩) ?_
  refine pz_j1 [.inl 6, .inl (a1 / 41)] 6 rfl rfl rfl rfl rfl ?_
  obtain ⟨k2, K⟩ := K
  refine pz_j1 [.inl ((a1 / 41) * 6)] 7 rfl rfl rfl rfl (pz_ok_in k2) ?_
  refine pz_j1 [.inr (.inr (some 150)), .inl ((a1 / 41) * 6)] 8 rfl rfl rfl rfl rfl ?_
  refine pz_j1 [.inr (.inr (some 2)), .inl ((a1 / 41) * 6)] 11 rfl rfl rfl rfl (pz_a2 rfl pz_S150) ?_
  refine pz_j1 [.inr (.inr (some 4)), .inl ((a1 / 41) * 6)] 14 rfl rfl rfl rfl (pz_a2 rfl pz_S2) ?_
  refine pz_j1 [.inl a1, .inr (.inr (some 4)), .inl ((a1 / 41) * 6)] 15 rfl rfl rfl rfl rfl ?_
  refine pz_j1 [.inl 41, .inl a1, .inr (.inr (some 4)), .inl ((a1 / 41) * 6)] 17 rfl rfl rfl rfl rfl ?_
  obtain ⟨k3, K⟩ := K
  refine pz_j1 [.inl (a1 % 41), .inr (.inr (some 4)), .inl ((a1 / 41) * 6)] 18 rfl rfl rfl rfl (pz_ok_dv ⟨k3, by decide⟩) ?_
  obtain ⟨k4, K⟩ := K
  refine pz_j1 [.inl (mi 4 ((a1 % 41).toNat)), .inl ((a1 / 41) * 6)] 19 rfl rfl rfl rfl (pz_a2 rfl (pz_ok_ixs pz_S4 k4)) ?_
  obtain ⟨k5, K⟩ := K
  refine pz_j1 [.inl (((a1 / 41) * 6) + (mi 4 ((a1 % 41).toNat)))] 20 rfl rfl rfl rfl (pz_ok_in k5) ?_
  exact pz_Rn_ret rfl rfl rfl rfl K
-- 52 RelationStream$Matcher.isSameVariable(II)Z
theorem pz_g52_0 {a1 : Int} {a2 : Int}  (K : 0 ≤ a1 ∧ (0 ≤ a1 % 41 ∧ a1 % 41 < 41) ∧ ((mi 3 ((a1 % 41).toNat) ≠ 1 → Q (.inl (some (.inl 0))) (pz_hp n0 mi ml mr c s)) ∧ (mi 3 ((a1 % 41).toNat) = 1 → 0 ≤ a2 ∧ (0 ≤ a2 % 41 ∧ a2 % 41 < 41) ∧ ((mi 3 ((a2 % 41).toNat) ≠ 1 → Q (.inl (some (.inl 0))) (pz_hp n0 mi ml mr c s)) ∧ (mi 3 ((a2 % 41).toNat) = 1 → pz_Rn d 51 (0, [], [(0, .inr (.inr (some 150))), (1, .inl a1)], pz_hp n0 mi ml mr c s, true) (pz_K (d + 1) 52 37 [] [(0, .inr (.inr (some 155))), (2, .inl a2)] Q true)))))) : pz_Rn (d + 1) 52 (0, [], [(0, .inr (.inr (some 155))), (1, .inl a1), (2, .inl a2)], pz_hp n0 mi ml mr c s, true) Q := by
  refine pz_j1 [.inr (.inr (some 155))] 1 rfl rfl rfl rfl rfl ?_
  refine pz_j1 [.inr (.inr (some 2))] 4 rfl rfl rfl rfl (pz_a2 rfl pz_S155) ?_
  refine pz_j1 [.inr (.inr (some 3))] 7 rfl rfl rfl rfl (pz_a2 rfl pz_S2) ?_
  refine pz_j1 [.inl a1, .inr (.inr (some 3))] 8 rfl rfl rfl rfl rfl ?_
  refine pz_j1 [.inl 41, .inl a1, .inr (.inr (some 3))] 10 rfl rfl rfl rfl rfl ?_
  obtain ⟨k1, K⟩ := K
  refine pz_j1 [.inl (a1 % 41), .inr (.inr (some 3))] 11 rfl rfl rfl rfl (pz_ok_dv ⟨k1, by decide⟩) ?_
  obtain ⟨k2, K⟩ := K
  refine pz_j1 [.inl (mi 3 ((a1 % 41).toNat))] 12 rfl rfl rfl rfl (pz_a2 rfl (pz_ok_ixs pz_S3 k2)) ?_
  refine pz_j1 [.inl 1, .inl (mi 3 ((a1 % 41).toNat))] 13 rfl rfl rfl rfl rfl ?_
  refine pz_j1 [] (bif pz_cp .ne (mi 3 ((a1 % 41).toNat)) 1 then 55 else 16) rfl rfl rfl rfl rfl ?_
  refine pz_Rn_if pz_c1_ne pz_c0_ne ⟨fun b3 => ?_, fun b3 => ?_⟩
  · replace K := K.1 b3
    refine pz_j1 [.inl 0] 56 rfl rfl rfl rfl rfl ?_
    exact pz_Rn_ret rfl rfl rfl rfl K
  · replace K := K.2 b3
    refine pz_j1 [.inr (.inr (some 155))] 17 rfl rfl rfl rfl rfl ?_
    refine pz_j1 [.inr (.inr (some 2))] 20 rfl rfl rfl rfl (pz_a2 rfl pz_S155) ?_
    refine pz_j1 [.inr (.inr (some 3))] 23 rfl rfl rfl rfl (pz_a2 rfl pz_S2) ?_
    refine pz_j1 [.inl a2, .inr (.inr (some 3))] 24 rfl rfl rfl rfl rfl ?_
    refine pz_j1 [.inl 41, .inl a2, .inr (.inr (some 3))] 26 rfl rfl rfl rfl rfl ?_
    obtain ⟨k4, K⟩ := K
    refine pz_j1 [.inl (a2 % 41), .inr (.inr (some 3))] 27 rfl rfl rfl rfl (pz_ok_dv ⟨k4, by decide⟩) ?_
    obtain ⟨k5, K⟩ := K
    refine pz_j1 [.inl (mi 3 ((a2 % 41).toNat))] 28 rfl rfl rfl rfl (pz_a2 rfl (pz_ok_ixs pz_S3 k5)) ?_
    refine pz_j1 [.inl 1, .inl (mi 3 ((a2 % 41).toNat))] 29 rfl rfl rfl rfl rfl ?_
    refine pz_j1 [] (bif pz_cp .ne (mi 3 ((a2 % 41).toNat)) 1 then 55 else 32) rfl rfl rfl rfl rfl ?_
    refine pz_Rn_if pz_c1_ne pz_c0_ne ⟨fun b6 => ?_, fun b6 => ?_⟩
    · replace K := K.1 b6
      refine pz_j1 [.inl 0] 56 rfl rfl rfl rfl rfl ?_
      exact pz_Rn_ret rfl rfl rfl rfl K
    · replace K := K.2 b6
      refine pz_j1 [.inr (.inr (some 155))] 33 rfl rfl rfl rfl rfl ?_
      refine pz_j1 [.inr (.inr (some 150))] 36 rfl rfl rfl rfl (pz_a2 rfl pz_S155) ?_
      refine pz_j1 [.inl a1, .inr (.inr (some 150))] 37 rfl rfl rfl rfl rfl ?_
      refine pz_Rn_sub (L := [(0, .inr (.inr (some 155))), (2, .inl a2)]) [0, 2] rfl rfl ?_
      exact pz_Rn_k (y := 50) rfl rfl rfl rfl rfl rfl rfl rfl (pz_cok_v rfl rfl pz_S150) K
theorem pz_g52_40 {a2 : Int} {t0 : Int}  (K : pz_Rn d 51 (0, [], [(0, .inr (.inr (some 150))), (1, .inl a2)], pz_hp n0 mi ml mr c s, true) (pz_K (d + 1) 52 45 [.inl t0] [] Q true)) : pz_Rn (d + 1) 52 (40, [.inl t0], [(0, .inr (.inr (some 155))), (2, .inl a2)], pz_hp n0 mi ml mr c s, true) Q := by
  refine pz_j1 [.inr (.inr (some 155)), .inl t0] 41 rfl rfl rfl rfl rfl ?_
  refine pz_j1 [.inr (.inr (some 150)), .inl t0] 44 rfl rfl rfl rfl (pz_a2 rfl pz_S155) ?_
  refine pz_j1 [.inl a2, .inr (.inr (some 150)), .inl t0] 45 rfl rfl rfl rfl rfl ?_
  refine pz_Rn_sub (L := []) [] rfl rfl ?_
  exact pz_Rn_k (y := 50) rfl rfl rfl rfl rfl rfl rfl rfl (pz_cok_v rfl rfl pz_S150) K
theorem pz_g52_48 {t0 : Int} {t1 : Int}  (K : ((t0 ≠ t1 → Q (.inl (some (.inl 0))) (pz_hp n0 mi ml mr c s)) ∧ (t0 = t1 → Q (.inl (some (.inl 1))) (pz_hp n0 mi ml mr c s)))) : pz_Rn (d + 1) 52 (48, [.inl t1, .inl t0], [], pz_hp n0 mi ml mr c s, true) Q := by
  refine pz_j1 [] (bif pz_cp .ne t0 t1 then 55 else 51) rfl rfl rfl rfl rfl ?_
  refine pz_Rn_if pz_c1_ne pz_c0_ne ⟨fun b1 => ?_, fun b1 => ?_⟩
  · replace K := K.1 b1
    refine pz_j1 [.inl 0] 56 rfl rfl rfl rfl rfl ?_
    exact pz_Rn_ret rfl rfl rfl rfl K
  · replace K := K.2 b1
    refine pz_j1 [.inl 1] 52 rfl rfl rfl rfl rfl ?_
    refine pz_j1 [.inl 1] 56 rfl rfl rfl rfl rfl ?_
    exact pz_Rn_ret rfl rfl rfl rfl K
-- 53 RelationStream$Matcher.isInside(II)Z
theorem pz_g53_0 {a1 : Int} {a2 : Int}  (K : pz_Rn (d + 1) 53 (9, [], [(0, .inr (.inr (some 155))), (1, .inl a1), (3, .inl 1)], pz_hp n0 (pz_up mi 158 0 a2) ml mr c s, true) Q) : pz_Rn (d + 1) 53 (0, [], [(0, .inr (.inr (some 155))), (1, .inl a1), (2, .inl a2)], pz_hp n0 mi ml mr c s, true) Q := by
  refine pz_j1 [.inr (.inr (some 155))] 1 rfl rfl rfl rfl rfl ?_
  refine pz_j1 [.inr (.inr (some 158))] 4 rfl rfl rfl rfl (pz_a2 rfl pz_S155) ?_
  refine pz_j1 [.inl 0, .inr (.inr (some 158))] 5 rfl rfl rfl rfl rfl ?_
  refine pz_j1 [.inl a2, .inl 0, .inr (.inr (some 158))] 6 rfl rfl rfl rfl rfl ?_
  refine pz_j3 [] [(0, .inr (.inr (some 155))), (1, .inl a1), (2, .inl a2)] (pz_hp n0 (pz_up mi 158 0 a2) ml mr c s) 7 rfl rfl rfl rfl (pz_a2 rfl (pz_ok_ix pz_S158 ⟨by decide, by decide⟩)) ?_
  refine pz_j1 [.inl 1] 8 rfl rfl rfl rfl rfl ?_
  refine pz_j2 [] [(3, .inl 1), (0, .inr (.inr (some 155))), (1, .inl a1), (2, .inl a2)] 9 rfl rfl rfl rfl rfl ?_
  refine pz_Rn_sub (L := [(0, .inr (.inr (some 155))), (1, .inl a1), (3, .inl 1)]) [1, 2, 0] rfl rfl ?_
  exact K
theorem pz_g53_9 {a1 : Int} {a3 : Int}  (K : ((a3 ≤ 0 → Q (.inl (some (.inl 0))) (pz_hp n0 mi ml mr c s)) ∧ (0 < a3 → ((500 < mi 155 5 → Q (.inl (some (.inl 0))) (pz_hp n0 mi ml mr c s)) ∧ (mi 155 5 ≤ 500 → (-2147483648 ≤ (mi 155 5) + 1 ∧ (mi 155 5) + 1 ≤ 2147483647) ∧ (-2147483648 ≤ a3 + (-1) ∧ a3 + (-1) ≤ 2147483647) ∧ (0 ≤ a3 + (-1) ∧ a3 + (-1) < 503) ∧ pz_Rn d 49 (0, [], [(0, .inr (.inr (some 150))), (1, .inl (mi 158 ((a3 + (-1)).toNat)))], pz_hp n0 (pz_up mi 155 5 ((mi 155 5) + 1)) ml mr c s, true) (pz_K (d + 1) 53 46 [] [(0, .inr (.inr (some 155))), (1, .inl a1), (3, .inl (a3 + (-1)))] Q true)))))) : pz_Rn (d + 1) 53 (9, [], [(0, .inr (.inr (some 155))), (1, .inl a1), (3, .inl a3)], pz_hp n0 mi ml mr c s, true) Q := by
  refine pz_j1 [.inl a3] 10 rfl rfl rfl rfl rfl ?_
  refine pz_j1 [] (bif pz_cp .le a3 0 then 157 else 13) rfl rfl rfl rfl rfl ?_
  refine pz_Rn_if pz_c1_le pz_c0_le ⟨fun b1 => ?_, fun b1 => ?_⟩
  · replace K := K.1 b1
    refine pz_j1 [.inl 0] 158 rfl rfl rfl rfl rfl ?_
    exact pz_Rn_ret rfl rfl rfl rfl K
  · replace K := K.2 b1
    refine pz_j1 [.inr (.inr (some 155))] 14 rfl rfl rfl rfl rfl ?_
    refine pz_j1 [.inl (mi 155 5)] 17 rfl rfl rfl rfl (pz_a2 rfl pz_S155) ?_
    refine pz_j1 [.inl 500, .inl (mi 155 5)] 20 rfl rfl rfl rfl rfl ?_
    refine pz_j1 [] (bif pz_cp .gt (mi 155 5) 500 then 157 else 23) rfl rfl rfl rfl rfl ?_
    refine pz_Rn_if pz_c1_gt pz_c0_gt ⟨fun b2 => ?_, fun b2 => ?_⟩
    · replace K := K.1 b2
      refine pz_j1 [.inl 0] 158 rfl rfl rfl rfl rfl ?_
      exact pz_Rn_ret rfl rfl rfl rfl K
    · replace K := K.2 b2
      refine pz_j1 [.inr (.inr (some 155))] 24 rfl rfl rfl rfl rfl ?_
      refine pz_j1 [.inr (.inr (some 155)), .inr (.inr (some 155))] 25 rfl rfl rfl rfl rfl ?_
      refine pz_j1 [.inl (mi 155 5), .inr (.inr (some 155))] 28 rfl rfl rfl rfl (pz_a2 rfl pz_S155) ?_
      refine pz_j1 [.inl 1, .inl (mi 155 5), .inr (.inr (some 155))] 29 rfl rfl rfl rfl rfl ?_
      obtain ⟨k3, K⟩ := K
      refine pz_j1 [.inl ((mi 155 5) + 1), .inr (.inr (some 155))] 30 rfl rfl rfl rfl (pz_ok_in k3) ?_
      refine pz_j3 [] [(0, .inr (.inr (some 155))), (1, .inl a1), (3, .inl a3)] (pz_hp n0 (pz_up mi 155 5 ((mi 155 5) + 1)) ml mr c s) 33 rfl rfl rfl rfl (pz_a2 rfl (pz_a2 pz_S155 (pz_a2 rfl rfl))) ?_
      obtain ⟨k4, K⟩ := K
      refine pz_j2 [] [(3, .inl (a3 + (-1))), (0, .inr (.inr (some 155))), (1, .inl a1)] 36 rfl rfl rfl rfl (pz_a2 (pz_ok_in k4) rfl) ?_
      refine pz_j1 [.inr (.inr (some 155))] 37 rfl rfl rfl rfl rfl ?_
      refine pz_j1 [.inr (.inr (some 150))] 40 rfl rfl rfl rfl (pz_a2 rfl pz_S155) ?_
      refine pz_j1 [.inr (.inr (some 155)), .inr (.inr (some 150))] 41 rfl rfl rfl rfl rfl ?_
      refine pz_j1 [.inr (.inr (some 158)), .inr (.inr (some 150))] 44 rfl rfl rfl rfl (pz_a2 rfl pz_S155) ?_
      refine pz_j1 [.inl (a3 + (-1)), .inr (.inr (some 158)), .inr (.inr (some 150))] 45 rfl rfl rfl rfl rfl ?_
      obtain ⟨k5, K⟩ := K
      refine pz_j1 [.inl (mi 158 ((a3 + (-1)).toNat)), .inr (.inr (some 150))] 46 rfl rfl rfl rfl (pz_a2 rfl (pz_ok_ixs pz_S158 k5)) ?_
      refine pz_Rn_sub (L := [(0, .inr (.inr (some 155))), (1, .inl a1), (3, .inl (a3 + (-1)))]) [1, 2, 0] rfl rfl ?_
      exact pz_Rn_k (y := 48) rfl rfl rfl rfl rfl rfl rfl rfl (pz_cok_v rfl rfl pz_S150) K
theorem pz_g53_49 {a1 : Int} {a3 : Int} {t0 : Int}  (K : 0 ≤ t0 ∧ ∀ x2 : Int, x2 = t0 % 41 → (0 ≤ x2 ∧ x2 < 41) ∧ ((mi 3 ((x2).toNat) ≠ 1 → (0 ≤ x2 ∧ x2 < 41) ∧ ((mi 3 ((x2).toNat) ≠ 2 → pz_Rn (d + 1) 53 (9, [], [(0, .inr (.inr (some 155))), (1, .inl a1), (3, .inl a3)], pz_hp n0 mi ml mr c s, true) Q) ∧ (mi 3 ((x2).toNat) = 2 → 0 ≤ t0 ∧ (0 ≤ x2 ∧ x2 < 41) ∧ pz_Rn d 44 (0, [], [(0, .inl (t0 / 41)), (1, .inl (mi 5 ((x2).toNat)))], pz_hp n0 mi ml mr c s, true) (pz_K (d + 1) 53 121 [.inl a3, .inr (.inr (some 158))] [(0, .inr (.inr (some 155))), (1, .inl a1), (3, .inl a3), (4, .inl t0), (5, .inl x2)] Q true)))) ∧ (mi 3 ((x2).toNat) = 1 → pz_Rn d 51 (0, [], [(0, .inr (.inr (some 150))), (1, .inl t0)], pz_hp n0 mi ml mr c s, true) (pz_K (d + 1) 53 78 [] [(0, .inr (.inr (some 155))), (1, .inl a1), (3, .inl a3), (4, .inl t0), (5, .inl x2)] Q true)))) : pz_Rn (d + 1) 53 (49, [.inl t0], [(0, .inr (.inr (some 155))), (1, .inl a1), (3, .inl a3)], pz_hp n0 mi ml mr c s, true) Q := by
  refine pz_j2 [] [(4, .inl t0), (0, .inr (.inr (some 155))), (1, .inl a1), (3, .inl a3)] 51 rfl rfl rfl rfl rfl ?_
  refine pz_j1 [.inl t0] 53 rfl rfl rfl rfl rfl ?_
  refine pz_j1 [.inl 41, .inl t0] 55 rfl rfl rfl rfl rfl ?_
  obtain ⟨k1, K⟩ := K
  refine pz_j1 [.inl (t0 % 41)] 56 rfl rfl rfl rfl (pz_ok_dv ⟨k1, by decide⟩) ?_
  obtain ⟨x2, hx2⟩ : ∃ x : Int, x = t0 % 41 := ⟨_, rfl⟩
  rewrite [← hx2]
  replace K := K x2 hx2
  refine pz_j2 [] [(5, .inl x2), (4, .inl t0), (0, .inr (.inr (some 155))), (1, .inl a1), (3, .inl a3)] 58 rfl rfl rfl rfl rfl ?_
  refine pz_j1 [.inr (.inr (some 155))] 59 rfl rfl rfl rfl rfl ?_
  refine pz_j1 [.inr (.inr (some 2))] 62 rfl rfl rfl rfl (pz_a2 rfl pz_S155) ?_
  refine pz_j1 [.inr (.inr (some 3))] 65 rfl rfl rfl rfl (pz_a2 rfl pz_S2) ?_
  refine pz_j1 [.inl x2, .inr (.inr (some 3))] 67 rfl rfl rfl rfl rfl ?_
  obtain ⟨k3, K⟩ := K
  refine pz_j1 [.inl (mi 3 ((x2).toNat))] 68 rfl rfl rfl rfl (pz_a2 rfl (pz_ok_ixs pz_S3 k3)) ?_
  refine pz_j1 [.inl 1, .inl (mi 3 ((x2).toNat))] 69 rfl rfl rfl rfl rfl ?_
  refine pz_j1 [] (bif pz_cp .ne (mi 3 ((x2).toNat)) 1 then 87 else 72) rfl rfl rfl rfl rfl ?_
  refine pz_Rn_if pz_c1_ne pz_c0_ne ⟨fun b4 => ?_, fun b4 => ?_⟩
  · replace K := K.1 b4
    refine pz_j1 [.inr (.inr (some 155))] 88 rfl rfl rfl rfl rfl ?_
    refine pz_j1 [.inr (.inr (some 2))] 91 rfl rfl rfl rfl (pz_a2 rfl pz_S155) ?_
    refine pz_j1 [.inr (.inr (some 3))] 94 rfl rfl rfl rfl (pz_a2 rfl pz_S2) ?_
    refine pz_j1 [.inl x2, .inr (.inr (some 3))] 96 rfl rfl rfl rfl rfl ?_
    obtain ⟨k5, K⟩ := K
    refine pz_j1 [.inl (mi 3 ((x2).toNat))] 97 rfl rfl rfl rfl (pz_a2 rfl (pz_ok_ixs pz_S3 k5)) ?_
    refine pz_j1 [.inl 2, .inl (mi 3 ((x2).toNat))] 98 rfl rfl rfl rfl rfl ?_
    refine pz_j1 [] (bif pz_cp .ne (mi 3 ((x2).toNat)) 2 then 154 else 101) rfl rfl rfl rfl rfl ?_
    refine pz_Rn_if pz_c1_ne pz_c0_ne ⟨fun b6 => ?_, fun b6 => ?_⟩
    · replace K := K.1 b6
      refine pz_j1 [] 9 rfl rfl rfl rfl rfl ?_
      refine pz_Rn_sub (L := [(0, .inr (.inr (some 155))), (1, .inl a1), (3, .inl a3)]) [2, 3, 4] rfl rfl ?_
      exact K
    · replace K := K.2 b6
      refine pz_j1 [.inr (.inr (some 155))] 102 rfl rfl rfl rfl rfl ?_
      refine pz_j1 [.inr (.inr (some 158))] 105 rfl rfl rfl rfl (pz_a2 rfl pz_S155) ?_
      refine pz_j1 [.inl a3, .inr (.inr (some 158))] 106 rfl rfl rfl rfl rfl ?_
      refine pz_j1 [.inl t0, .inl a3, .inr (.inr (some 158))] 108 rfl rfl rfl rfl rfl ?_
      refine pz_j1 [.inl 41, .inl t0, .inl a3, .inr (.inr (some 158))] 110 rfl rfl rfl rfl rfl ?_
      obtain ⟨k7, K⟩ := K
      refine pz_j1 [.inl (t0 / 41), .inl a3, .inr (.inr (some 158))] 111 rfl rfl rfl rfl (pz_ok_dv ⟨k7, by decide⟩) ?_
      refine pz_j1 [.inr (.inr (some 155)), .inl (t0 / 41), .inl a3, .inr (.inr (some 158))] 112 rfl rfl rfl rfl rfl ?_
      refine pz_j1 [.inr (.inr (some 2)), .inl (t0 / 41), .inl a3, .inr (.inr (some 158))] 115 rfl rfl rfl rfl (pz_a2 rfl pz_S155) ?_
      refine pz_j1 [.inr (.inr (some 5)), .inl (t0 / 41), .inl a3, .inr (.inr (some 158))] 118 rfl rfl rfl rfl (pz_a2 rfl pz_S2) ?_
      refine pz_j1 [.inl x2, .inr (.inr (some 5)), .inl (t0 / 41), .inl a3, .inr (.inr (some 158))] 120 rfl rfl rfl rfl rfl ?_
      obtain ⟨k8, K⟩ := K
      refine pz_j1 [.inl (mi 5 ((x2).toNat)), .inl (t0 / 41), .inl a3, .inr (.inr (some 158))] 121 rfl rfl rfl rfl (pz_a2 rfl (pz_ok_ixs pz_S5 k8)) ?_
      refine pz_Rn_sub (L := [(0, .inr (.inr (some 155))), (1, .inl a1), (3, .inl a3), (4, .inl t0), (5, .inl x2)]) [2, 3, 4, 1, 0] rfl rfl ?_
      exact pz_Rn_k (y := 43) rfl rfl rfl rfl rfl rfl rfl rfl rfl K
  · replace K := K.2 b4
    refine pz_j1 [.inr (.inr (some 155))] 73 rfl rfl rfl rfl rfl ?_
    refine pz_j1 [.inr (.inr (some 150))] 76 rfl rfl rfl rfl (pz_a2 rfl pz_S155) ?_
    refine pz_j1 [.inl t0, .inr (.inr (some 150))] 78 rfl rfl rfl rfl rfl ?_
    refine pz_Rn_sub (L := [(0, .inr (.inr (some 155))), (1, .inl a1), (3, .inl a3), (4, .inl t0), (5, .inl x2)]) [2, 3, 4, 1, 0] rfl rfl ?_
    exact pz_Rn_k (y := 50) rfl rfl rfl rfl rfl rfl rfl rfl (pz_cok_v rfl rfl pz_S150) K
theorem pz_g53_81 {a1 : Int} {a3 : Int} {a4 : Int} {a5 : Int} {t0 : Int}  (K : ((t0 ≠ a1 → (0 ≤ a5 ∧ a5 < 41) ∧ ((mi 3 ((a5).toNat) ≠ 2 → pz_Rn (d + 1) 53 (9, [], [(0, .inr (.inr (some 155))), (1, .inl a1), (3, .inl a3)], pz_hp n0 mi ml mr c s, true) Q) ∧ (mi 3 ((a5).toNat) = 2 → 0 ≤ a4 ∧ (0 ≤ a5 ∧ a5 < 41) ∧ pz_Rn d 44 (0, [], [(0, .inl (a4 / 41)), (1, .inl (mi 5 ((a5).toNat)))], pz_hp n0 mi ml mr c s, true) (pz_K (d + 1) 53 121 [.inl a3, .inr (.inr (some 158))] [(0, .inr (.inr (some 155))), (1, .inl a1), (3, .inl a3), (4, .inl a4), (5, .inl a5)] Q true)))) ∧ (t0 = a1 → Q (.inl (some (.inl 1))) (pz_hp n0 mi ml mr c s)))) : pz_Rn (d + 1) 53 (81, [.inl t0], [(0, .inr (.inr (some 155))), (1, .inl a1), (3, .inl a3), (4, .inl a4), (5, .inl a5)], pz_hp n0 mi ml mr c s, true) Q := by
  refine pz_j1 [.inl a1, .inl t0] 82 rfl rfl rfl rfl rfl ?_
  refine pz_j1 [] (bif pz_cp .ne t0 a1 then 87 else 85) rfl rfl rfl rfl rfl ?_
  refine pz_Rn_if pz_c1_ne pz_c0_ne ⟨fun b1 => ?_, fun b1 => ?_⟩
  · replace K := K.1 b1
    refine pz_j1 [.inr (.inr (some 155))] 88 rfl rfl rfl rfl rfl ?_
    refine pz_j1 [.inr (.inr (some 2))] 91 rfl rfl rfl rfl (pz_a2 rfl pz_S155) ?_
    refine pz_j1 [.inr (.inr (some 3))] 94 rfl rfl rfl rfl (pz_a2 rfl pz_S2) ?_
    refine pz_j1 [.inl a5, .inr (.inr (some 3))] 96 rfl rfl rfl rfl rfl ?_
    obtain ⟨k2, K⟩ := K
    refine pz_j1 [.inl (mi 3 ((a5).toNat))] 97 rfl rfl rfl rfl (pz_a2 rfl (pz_ok_ixs pz_S3 k2)) ?_
    refine pz_j1 [.inl 2, .inl (mi 3 ((a5).toNat))] 98 rfl rfl rfl rfl rfl ?_
    refine pz_j1 [] (bif pz_cp .ne (mi 3 ((a5).toNat)) 2 then 154 else 101) rfl rfl rfl rfl rfl ?_
    refine pz_Rn_if pz_c1_ne pz_c0_ne ⟨fun b3 => ?_, fun b3 => ?_⟩
    · replace K := K.1 b3
      refine pz_j1 [] 9 rfl rfl rfl rfl rfl ?_
      refine pz_Rn_sub (L := [(0, .inr (.inr (some 155))), (1, .inl a1), (3, .inl a3)]) [0, 1, 2] rfl rfl ?_
      exact K
    · replace K := K.2 b3
      refine pz_j1 [.inr (.inr (some 155))] 102 rfl rfl rfl rfl rfl ?_
      refine pz_j1 [.inr (.inr (some 158))] 105 rfl rfl rfl rfl (pz_a2 rfl pz_S155) ?_
      refine pz_j1 [.inl a3, .inr (.inr (some 158))] 106 rfl rfl rfl rfl rfl ?_
      refine pz_j1 [.inl a4, .inl a3, .inr (.inr (some 158))] 108 rfl rfl rfl rfl rfl ?_
      refine pz_j1 [.inl 41, .inl a4, .inl a3, .inr (.inr (some 158))] 110 rfl rfl rfl rfl rfl ?_
      obtain ⟨k4, K⟩ := K
      refine pz_j1 [.inl (a4 / 41), .inl a3, .inr (.inr (some 158))] 111 rfl rfl rfl rfl (pz_ok_dv ⟨k4, by decide⟩) ?_
      refine pz_j1 [.inr (.inr (some 155)), .inl (a4 / 41), .inl a3, .inr (.inr (some 158))] 112 rfl rfl rfl rfl rfl ?_
      refine pz_j1 [.inr (.inr (some 2)), .inl (a4 / 41), .inl a3, .inr (.inr (some 158))] 115 rfl rfl rfl rfl (pz_a2 rfl pz_S155) ?_
      refine pz_j1 [.inr (.inr (some 5)), .inl (a4 / 41), .inl a3, .inr (.inr (some 158))] 118 rfl rfl rfl rfl (pz_a2 rfl pz_S2) ?_
      refine pz_j1 [.inl a5, .inr (.inr (some 5)), .inl (a4 / 41), .inl a3, .inr (.inr (some 158))] 120 rfl rfl rfl rfl rfl ?_
      obtain ⟨k5, K⟩ := K
      refine pz_j1 [.inl (mi 5 ((a5).toNat)), .inl (a4 / 41), .inl a3, .inr (.inr (some 158))] 121 rfl rfl rfl rfl (pz_a2 rfl (pz_ok_ixs pz_S5 k5)) ?_
      exact pz_Rn_k (y := 43) rfl rfl rfl rfl rfl rfl rfl rfl rfl K
  · replace K := K.2 b1
    refine pz_j1 [.inl 1] 86 rfl rfl rfl rfl rfl ?_
    exact pz_Rn_ret rfl rfl rfl rfl K
theorem pz_g53_124 {a1 : Int} {a3 : Int} {a4 : Int} {a5 : Int} {t1 : Int} {t2 : Int}  (K : (0 ≤ t1 ∧ t1 < 503) ∧ (-2147483648 ≤ a3 + 1 ∧ a3 + 1 ≤ 2147483647) ∧ 0 ≤ a4 ∧ (0 ≤ a5 ∧ a5 < 41) ∧ pz_Rn d 44 (0, [], [(0, .inl (a4 / 41)), (1, .inl (mi 4 ((a5).toNat)))], pz_hp n0 (pz_up mi 158 ((t1).toNat) t2) ml mr c s, true) (pz_K (d + 1) 53 147 [.inl (a3 + 1), .inr (.inr (some 158))] [(0, .inr (.inr (some 155))), (1, .inl a1), (3, .inl a3)] Q true)) : pz_Rn (d + 1) 53 (124, [.inl t2, .inl t1, .inr (.inr (some 158))], [(0, .inr (.inr (some 155))), (1, .inl a1), (3, .inl a3), (4, .inl a4), (5, .inl a5)], pz_hp n0 mi ml mr c s, true) Q := by
  obtain ⟨k1, K⟩ := K
  refine pz_j3 [] [(0, .inr (.inr (some 155))), (1, .inl a1), (3, .inl a3), (4, .inl a4), (5, .inl a5)] (pz_hp n0 (pz_up mi 158 ((t1).toNat) t2) ml mr c s) 125 rfl rfl rfl rfl (pz_a2 rfl (pz_ok_ix pz_S158 k1)) ?_
  refine pz_j1 [.inr (.inr (some 155))] 126 rfl rfl rfl rfl rfl ?_
  refine pz_j1 [.inr (.inr (some 158))] 129 rfl rfl rfl rfl (pz_a2 rfl pz_S155) ?_
  refine pz_j1 [.inl a3, .inr (.inr (some 158))] 130 rfl rfl rfl rfl rfl ?_
  refine pz_j1 [.inl 1, .inl a3, .inr (.inr (some 158))] 131 rfl rfl rfl rfl rfl ?_
  obtain ⟨k2, K⟩ := K
  refine pz_j1 [.inl (a3 + 1), .inr (.inr (some 158))] 132 rfl rfl rfl rfl (pz_ok_in k2) ?_
  refine pz_j1 [.inl a4, .inl (a3 + 1), .inr (.inr (some 158))] 134 rfl rfl rfl rfl rfl ?_
  refine pz_j1 [.inl 41, .inl a4, .inl (a3 + 1), .inr (.inr (some 158))] 136 rfl rfl rfl rfl rfl ?_
  obtain ⟨k3, K⟩ := K
  refine pz_j1 [.inl (a4 / 41), .inl (a3 + 1), .inr (.inr (some 158))] 137 rfl rfl rfl rfl (pz_ok_dv ⟨k3, by decide⟩) ?_
  refine pz_j1 [.inr (.inr (some 155)), .inl (a4 / 41), .inl (a3 + 1), .inr (.inr (some 158))] 138 rfl rfl rfl rfl rfl ?_
  refine pz_j1 [.inr (.inr (some 2)), .inl (a4 / 41), .inl (a3 + 1), .inr (.inr (some 158))] 141 rfl rfl rfl rfl (pz_a2 rfl pz_S155) ?_
  refine pz_j1 [.inr (.inr (some 4)), .inl (a4 / 41), .inl (a3 + 1), .inr (.inr (some 158))] 144 rfl rfl rfl rfl (pz_a2 rfl pz_S2) ?_
  refine pz_j1 [.inl a5, .inr (.inr (some 4)), .inl (a4 / 41), .inl (a3 + 1), .inr (.inr (some 158))] 146 rfl rfl rfl rfl rfl ?_
  obtain ⟨k4, K⟩ := K
  refine pz_j1 [.inl (mi 4 ((a5).toNat)), .inl (a4 / 41), .inl (a3 + 1), .inr (.inr (some 158))] 147 rfl rfl rfl rfl (pz_a2 rfl (pz_ok_ixs pz_S4 k4)) ?_
  refine pz_Rn_sub (L := [(0, .inr (.inr (some 155))), (1, .inl a1), (3, .inl a3)]) [0, 1, 2] rfl rfl ?_
  exact pz_Rn_k (y := 43) rfl rfl rfl rfl rfl rfl rfl rfl rfl K
theorem pz_g53_150 {a1 : Int} {a3 : Int} {t1 : Int} {t2 : Int}  (K : (0 ≤ t1 ∧ t1 < 503) ∧ (-2147483648 ≤ a3 + 2 ∧ a3 + 2 ≤ 2147483647) ∧ pz_Rn (d + 1) 53 (9, [], [(0, .inr (.inr (some 155))), (1, .inl a1), (3, .inl (a3 + 2))], pz_hp n0 (pz_up mi 158 ((t1).toNat) t2) ml mr c s, true) Q) : pz_Rn (d + 1) 53 (150, [.inl t2, .inl t1, .inr (.inr (some 158))], [(0, .inr (.inr (some 155))), (1, .inl a1), (3, .inl a3)], pz_hp n0 mi ml mr c s, true) Q := by
  obtain ⟨k1, K⟩ := K
  refine pz_j3 [] [(0, .inr (.inr (some 155))), (1, .inl a1), (3, .inl a3)] (pz_hp n0 (pz_up mi 158 ((t1).toNat) t2) ml mr c s) 151 rfl rfl rfl rfl (pz_a2 rfl (pz_ok_ix pz_S158 k1)) ?_
  obtain ⟨k2, K⟩ := K
  refine pz_j2 [] [(3, .inl (a3 + 2)), (0, .inr (.inr (some 155))), (1, .inl a1)] 154 rfl rfl rfl rfl (pz_a2 (pz_ok_in k2) rfl) ?_
  refine pz_j1 [] 9 rfl rfl rfl rfl rfl ?_
  refine pz_Rn_sub (L := [(0, .inr (.inr (some 155))), (1, .inl a1), (3, .inl (a3 + 2))]) [1, 2, 0] rfl rfl ?_
  exact K
-- 54 RelationStream$Matcher.match(II)Z
theorem pz_g54_0 {a1 : Int} {a2 : Int}  (K : pz_Rn (d + 1) 54 (16, [], [(0, .inr (.inr (some 155))), (3, .inl 1)], pz_hp n0 (pz_up (pz_up mi 156 0 a1) 157 0 a2) ml mr c s, true) Q) : pz_Rn (d + 1) 54 (0, [], [(0, .inr (.inr (some 155))), (1, .inl a1), (2, .inl a2)], pz_hp n0 mi ml mr c s, true) Q := by
  refine pz_j1 [.inr (.inr (some 155))] 1 rfl rfl rfl rfl rfl ?_
  refine pz_j1 [.inr (.inr (some 156))] 4 rfl rfl rfl rfl (pz_a2 rfl pz_S155) ?_
  refine pz_j1 [.inl 0, .inr (.inr (some 156))] 5 rfl rfl rfl rfl rfl ?_
  refine pz_j1 [.inl a1, .inl 0, .inr (.inr (some 156))] 6 rfl rfl rfl rfl rfl ?_
  refine pz_j3 [] [(0, .inr (.inr (some 155))), (1, .inl a1), (2, .inl a2)] (pz_hp n0 (pz_up mi 156 0 a1) ml mr c s) 7 rfl rfl rfl rfl (pz_a2 rfl (pz_ok_ix pz_S156 ⟨by decide, by decide⟩)) ?_
  refine pz_j1 [.inr (.inr (some 155))] 8 rfl rfl rfl rfl rfl ?_
  refine pz_j1 [.inr (.inr (some 157))] 11 rfl rfl rfl rfl (pz_a2 rfl pz_S155) ?_
  refine pz_j1 [.inl 0, .inr (.inr (some 157))] 12 rfl rfl rfl rfl rfl ?_
  refine pz_j1 [.inl a2, .inl 0, .inr (.inr (some 157))] 13 rfl rfl rfl rfl rfl ?_
  refine pz_j3 [] [(0, .inr (.inr (some 155))), (1, .inl a1), (2, .inl a2)] (pz_hp n0 (pz_up (pz_up mi 156 0 a1) 157 0 a2) ml mr c s) 14 rfl rfl rfl rfl (pz_a2 rfl (pz_ok_ix pz_S157 ⟨by decide, by decide⟩)) ?_
  refine pz_j1 [.inl 1] 15 rfl rfl rfl rfl rfl ?_
  refine pz_j2 [] [(3, .inl 1), (0, .inr (.inr (some 155))), (1, .inl a1), (2, .inl a2)] 16 rfl rfl rfl rfl rfl ?_
  refine pz_Rn_sub (L := [(0, .inr (.inr (some 155))), (3, .inl 1)]) [1, 0] rfl rfl ?_
  exact K
theorem pz_g54_16 {a3 : Int}  (K : ((a3 ≤ 0 → Q (.inl (some (.inl 1))) (pz_hp n0 mi ml mr c s)) ∧ (0 < a3 → ((500 < mi 155 5 → Q (.inl (some (.inl 1))) (pz_hp n0 mi ml mr c s)) ∧ (mi 155 5 ≤ 500 → pz_Rn d 48 (0, [], [(0, .inr (.inr (some 150)))], pz_hp n0 mi ml mr c s, true) (pz_K (d + 1) 54 34 [] [(0, .inr (.inr (some 155))), (3, .inl a3)] Q true)))))) : pz_Rn (d + 1) 54 (16, [], [(0, .inr (.inr (some 155))), (3, .inl a3)], pz_hp n0 mi ml mr c s, true) Q := by
  refine pz_j1 [.inl a3] 17 rfl rfl rfl rfl rfl ?_
  refine pz_j1 [] (bif pz_cp .le a3 0 then 275 else 20) rfl rfl rfl rfl rfl ?_
  refine pz_Rn_if pz_c1_le pz_c0_le ⟨fun b1 => ?_, fun b1 => ?_⟩
  · replace K := K.1 b1
    refine pz_j1 [.inl 1] 276 rfl rfl rfl rfl rfl ?_
    exact pz_Rn_ret rfl rfl rfl rfl K
  · replace K := K.2 b1
    refine pz_j1 [.inr (.inr (some 155))] 21 rfl rfl rfl rfl rfl ?_
    refine pz_j1 [.inl (mi 155 5)] 24 rfl rfl rfl rfl (pz_a2 rfl pz_S155) ?_
    refine pz_j1 [.inl 500, .inl (mi 155 5)] 27 rfl rfl rfl rfl rfl ?_
    refine pz_j1 [] (bif pz_cp .gt (mi 155 5) 500 then 275 else 30) rfl rfl rfl rfl rfl ?_
    refine pz_Rn_if pz_c1_gt pz_c0_gt ⟨fun b2 => ?_, fun b2 => ?_⟩
    · replace K := K.1 b2
      refine pz_j1 [.inl 1] 276 rfl rfl rfl rfl rfl ?_
      exact pz_Rn_ret rfl rfl rfl rfl K
    · replace K := K.2 b2
      refine pz_j1 [.inr (.inr (some 155))] 31 rfl rfl rfl rfl rfl ?_
      refine pz_j1 [.inr (.inr (some 150))] 34 rfl rfl rfl rfl (pz_a2 rfl pz_S155) ?_
      exact pz_Rn_k (y := 47) rfl rfl rfl rfl rfl rfl rfl rfl (pz_cok_v rfl rfl pz_S150) K
theorem pz_g54_37 {a3 : Int} {t0 : Int}  (K : ((t0 ≠ 0 → Q (.inl (some (.inl 1))) (pz_hp n0 mi ml mr c s)) ∧ (t0 = 0 → (-2147483648 ≤ (mi 155 5) + 1 ∧ (mi 155 5) + 1 ≤ 2147483647) ∧ (-2147483648 ≤ a3 + (-1) ∧ a3 + (-1) ≤ 2147483647) ∧ (0 ≤ a3 + (-1) ∧ a3 + (-1) < 503) ∧ pz_Rn d 49 (0, [], [(0, .inr (.inr (some 150))), (1, .inl (mi 156 ((a3 + (-1)).toNat)))], pz_hp n0 (pz_up mi 155 5 ((mi 155 5) + 1)) ml mr c s, true) (pz_K (d + 1) 54 63 [] [(0, .inr (.inr (some 155))), (3, .inl (a3 + (-1)))] Q true)))) : pz_Rn (d + 1) 54 (37, [.inl t0], [(0, .inr (.inr (some 155))), (3, .inl a3)], pz_hp n0 mi ml mr c s, true) Q := by
  refine pz_j1 [] (bif pz_cp .ne t0 0 then 275 else 40) rfl rfl rfl rfl rfl ?_
  refine pz_Rn_if pz_c1_ne pz_c0_ne ⟨fun b1 => ?_, fun b1 => ?_⟩
  · replace K := K.1 b1
    refine pz_j1 [.inl 1] 276 rfl rfl rfl rfl rfl ?_
    exact pz_Rn_ret rfl rfl rfl rfl K
  · replace K := K.2 b1
    refine pz_j1 [.inr (.inr (some 155))] 41 rfl rfl rfl rfl rfl ?_
    refine pz_j1 [.inr (.inr (some 155)), .inr (.inr (some 155))] 42 rfl rfl rfl rfl rfl ?_
    refine pz_j1 [.inl (mi 155 5), .inr (.inr (some 155))] 45 rfl rfl rfl rfl (pz_a2 rfl pz_S155) ?_
    refine pz_j1 [.inl 1, .inl (mi 155 5), .inr (.inr (some 155))] 46 rfl rfl rfl rfl rfl ?_
    obtain ⟨k2, K⟩ := K
    refine pz_j1 [.inl ((mi 155 5) + 1), .inr (.inr (some 155))] 47 rfl rfl rfl rfl (pz_ok_in k2) ?_
    refine pz_j3 [] [(0, .inr (.inr (some 155))), (3, .inl a3)] (pz_hp n0 (pz_up mi 155 5 ((mi 155 5) + 1)) ml mr c s) 50 rfl rfl rfl rfl (pz_a2 rfl (pz_a2 pz_S155 (pz_a2 rfl rfl))) ?_
    obtain ⟨k3, K⟩ := K
    refine pz_j2 [] [(3, .inl (a3 + (-1))), (0, .inr (.inr (some 155)))] 53 rfl rfl rfl rfl (pz_a2 (pz_ok_in k3) rfl) ?_
    refine pz_j1 [.inr (.inr (some 155))] 54 rfl rfl rfl rfl rfl ?_
    refine pz_j1 [.inr (.inr (some 150))] 57 rfl rfl rfl rfl (pz_a2 rfl pz_S155) ?_
    refine pz_j1 [.inr (.inr (some 155)), .inr (.inr (some 150))] 58 rfl rfl rfl rfl rfl ?_
    refine pz_j1 [.inr (.inr (some 156)), .inr (.inr (some 150))] 61 rfl rfl rfl rfl (pz_a2 rfl pz_S155) ?_
    refine pz_j1 [.inl (a3 + (-1)), .inr (.inr (some 156)), .inr (.inr (some 150))] 62 rfl rfl rfl rfl rfl ?_
    obtain ⟨k4, K⟩ := K
    refine pz_j1 [.inl (mi 156 ((a3 + (-1)).toNat)), .inr (.inr (some 150))] 63 rfl rfl rfl rfl (pz_a2 rfl (pz_ok_ixs pz_S156 k4)) ?_
    refine pz_Rn_sub (L := [(0, .inr (.inr (some 155))), (3, .inl (a3 + (-1)))]) [1, 0] rfl rfl ?_
    exact pz_Rn_k (y := 48) rfl rfl rfl rfl rfl rfl rfl rfl (pz_cok_v rfl rfl pz_S150) K
theorem pz_g54_66 {a3 : Int} {t0 : Int}  (K : (0 ≤ a3 ∧ a3 < 503) ∧ pz_Rn d 49 (0, [], [(0, .inr (.inr (some 150))), (1, .inl (mi 157 ((a3).toNat)))], pz_hp n0 mi ml mr c s, true) (pz_K (d + 1) 54 78 [] [(0, .inr (.inr (some 155))), (3, .inl a3), (4, .inl t0)] Q true)) : pz_Rn (d + 1) 54 (66, [.inl t0], [(0, .inr (.inr (some 155))), (3, .inl a3)], pz_hp n0 mi ml mr c s, true) Q := by
  refine pz_j2 [] [(4, .inl t0), (0, .inr (.inr (some 155))), (3, .inl a3)] 68 rfl rfl rfl rfl rfl ?_
  refine pz_j1 [.inr (.inr (some 155))] 69 rfl rfl rfl rfl rfl ?_
  refine pz_j1 [.inr (.inr (some 150))] 72 rfl rfl rfl rfl (pz_a2 rfl pz_S155) ?_
  refine pz_j1 [.inr (.inr (some 155)), .inr (.inr (some 150))] 73 rfl rfl rfl rfl rfl ?_
  refine pz_j1 [.inr (.inr (some 157)), .inr (.inr (some 150))] 76 rfl rfl rfl rfl (pz_a2 rfl pz_S155) ?_
  refine pz_j1 [.inl a3, .inr (.inr (some 157)), .inr (.inr (some 150))] 77 rfl rfl rfl rfl rfl ?_
  obtain ⟨k1, K⟩ := K
  refine pz_j1 [.inl (mi 157 ((a3).toNat)), .inr (.inr (some 150))] 78 rfl rfl rfl rfl (pz_a2 rfl (pz_ok_ixs pz_S157 k1)) ?_
  refine pz_Rn_sub (L := [(0, .inr (.inr (some 155))), (3, .inl a3), (4, .inl t0)]) [1, 2, 0] rfl rfl ?_
  exact pz_Rn_k (y := 48) rfl rfl rfl rfl rfl rfl rfl rfl (pz_cok_v rfl rfl pz_S150) K
theorem pz_g54_81 {a3 : Int} {a4 : Int} {t0 : Int}  (K : 0 ≤ a4 ∧ (0 ≤ a4 % 41 ∧ a4 % 41 < 41) ∧ ∀ x3 : Int, x3 = mi 3 ((a4 % 41).toNat) → 0 ≤ t0 ∧ (0 ≤ t0 % 41 ∧ t0 % 41 < 41) ∧ ∀ x6 : Int, x6 = mi 3 ((t0 % 41).toNat) → ((x3 ≠ 2 → ((x3 = 1 → pz_Rn d 52 (0, [], [(0, .inr (.inr (some 155))), (1, .inl a4), (2, .inl t0)], pz_hp n0 mi ml mr c s, true) (pz_K (d + 1) 54 187 [] [(0, .inr (.inr (some 155))), (3, .inl a3), (8, .inl a4), (9, .inl t0)] Q true)) ∧ (x3 ≠ 1 → ((x6 ≠ 1 → ((x3 ≠ x6 → Q (.inl (some (.inl 0))) (pz_hp n0 mi ml mr c s)) ∧ (x3 = x6 → 0 ≤ a4 ∧ (0 ≤ a4 % 41 ∧ a4 % 41 < 41) ∧ 0 ≤ t0 ∧ (0 ≤ t0 % 41 ∧ t0 % 41 < 41) ∧ ((mi 4 ((a4 % 41).toNat) = mi 4 ((t0 % 41).toNat) → pz_Rn (d + 1) 54 (16, [], [(0, .inr (.inr (some 155))), (3, .inl a3)], pz_hp n0 mi ml mr c s, true) Q) ∧ (mi 4 ((a4 % 41).toNat) ≠ mi 4 ((t0 % 41).toNat) → Q (.inl (some (.inl 0))) (pz_hp n0 mi ml mr c s)))))) ∧ (x6 = 1 → pz_Rn d 52 (0, [], [(0, .inr (.inr (some 155))), (1, .inl a4), (2, .inl t0)], pz_hp n0 mi ml mr c s, true) (pz_K (d + 1) 54 187 [] [(0, .inr (.inr (some 155))), (3, .inl a3), (8, .inl t0), (9, .inl a4)] Q true)))))) ∧ (x3 = 2 → ((x6 ≠ 2 → ((x6 ≠ 1 → ((x3 ≠ x6 → Q (.inl (some (.inl 0))) (pz_hp n0 mi ml mr c s)) ∧ (x3 = x6 → 0 ≤ a4 ∧ (0 ≤ a4 % 41 ∧ a4 % 41 < 41) ∧ 0 ≤ t0 ∧ (0 ≤ t0 % 41 ∧ t0 % 41 < 41) ∧ ((mi 4 ((a4 % 41).toNat) = mi 4 ((t0 % 41).toNat) → pz_Rn (d + 1) 54 (16, [], [(0, .inr (.inr (some 155))), (3, .inl a3)], pz_hp n0 mi ml mr c s, true) Q) ∧ (mi 4 ((a4 % 41).toNat) ≠ mi 4 ((t0 % 41).toNat) → Q (.inl (some (.inl 0))) (pz_hp n0 mi ml mr c s)))))) ∧ (x6 = 1 → pz_Rn d 52 (0, [], [(0, .inr (.inr (some 155))), (1, .inl a4), (2, .inl t0)], pz_hp n0 mi ml mr c s, true) (pz_K (d + 1) 54 187 [] [(0, .inr (.inr (some 155))), (3, .inl a3), (8, .inl t0), (9, .inl a4)] Q true)))) ∧ (x6 = 2 → pz_Rn d 50 (0, [], [(0, .inr (.inr (some 155))), (1, .inl a4), (2, .inl t0), (3, .inl a3)], pz_hp n0 mi ml mr c s, true) (pz_K (d + 1) 54 131 [] [(0, .inr (.inr (some 155))), (3, .inl a3)] Q true)))))) : pz_Rn (d + 1) 54 (81, [.inl t0], [(0, .inr (.inr (some 155))), (3, .inl a3), (4, .inl a4)], pz_hp n0 mi ml mr c s, true) Q := by
  refine pz_j2 [] [(5, .inl t0), (0, .inr (.inr (some 155))), (3, .inl a3), (4, .inl a4)] 83 rfl rfl rfl rfl rfl ?_
  refine pz_j1 [.inr (.inr (some 155))] 84 rfl rfl rfl rfl rfl ?_
  refine pz_j1 [.inr (.inr (some 2))] 87 rfl rfl rfl rfl (pz_a2 rfl pz_S155) ?_
  refine pz_j1 [.inr (.inr (some 3))] 90 rfl rfl rfl rfl (pz_a2 rfl pz_S2) ?_
  refine pz_j1 [.inl a4, .inr (.inr (some 3))] 92 rfl rfl rfl rfl rfl ?_
  refine pz_j1 [.inl 41, .inl a4, .inr (.inr (some 3))] 94 rfl rfl rfl rfl rfl ?_
  obtain ⟨k1, K⟩ := K
  refine pz_j1 [.inl (a4 % 41), .inr (.inr (some 3))] 95 rfl rfl rfl rfl (pz_ok_dv ⟨k1, by decide⟩) ?_
  obtain ⟨k2, K⟩ := K
  refine pz_j1 [.inl (mi 3 ((a4 % 41).toNat))] 96 rfl rfl rfl rfl (pz_a2 rfl (pz_ok_ixs pz_S3 k2)) ?_
  obtain ⟨x3, hx3⟩ : ∃ x : Int, x = mi 3 ((a4 % 41).toNat) := ⟨_, rfl⟩
  rewrite [← hx3]
  replace K := K x3 hx3
  refine pz_j2 [] [(6, .inl x3), (5, .inl t0), (0, .inr (.inr (some 155))), (3, .inl a3), (4, .inl a4)] 98 rfl rfl rfl rfl rfl ?_
  refine pz_j1 [.inr (.inr (some 155))] 99 rfl rfl rfl rfl rfl ?_
  refine pz_j1 [.inr (.inr (some 2))] 102 rfl rfl rfl rfl (pz_a2 rfl pz_S155) ?_
  refine pz_j1 [.inr (.inr (some 3))] 105 rfl rfl rfl rfl (pz_a2 rfl pz_S2) ?_
  refine pz_j1 [.inl t0, .inr (.inr (some 3))] 107 rfl rfl rfl rfl rfl ?_
  refine pz_j1 [.inl 41, .inl t0, .inr (.inr (some 3))] 109 rfl rfl rfl rfl rfl ?_
  obtain ⟨k4, K⟩ := K
  refine pz_j1 [.inl (t0 % 41), .inr (.inr (some 3))] 110 rfl rfl rfl rfl (pz_ok_dv ⟨k4, by decide⟩) ?_
  obtain ⟨k5, K⟩ := K
  refine pz_j1 [.inl (mi 3 ((t0 % 41).toNat))] 111 rfl rfl rfl rfl (pz_a2 rfl (pz_ok_ixs pz_S3 k5)) ?_
  obtain ⟨x6, hx6⟩ : ∃ x : Int, x = mi 3 ((t0 % 41).toNat) := ⟨_, rfl⟩
  rewrite [← hx6]
  replace K := K x6 hx6
  refine pz_j2 [] [(7, .inl x6), (6, .inl x3), (5, .inl t0), (0, .inr (.inr (some 155))), (3, .inl a3), (4, .inl a4)] 113 rfl rfl rfl rfl rfl ?_
  refine pz_j1 [.inl x3] 115 rfl rfl rfl rfl rfl ?_
  refine pz_j1 [.inl 2, .inl x3] 116 rfl rfl rfl rfl rfl ?_
  refine pz_j1 [] (bif pz_cp .ne x3 2 then 140 else 119) rfl rfl rfl rfl rfl ?_
  refine pz_Rn_if pz_c1_ne pz_c0_ne ⟨fun b7 => ?_, fun b7 => ?_⟩
  · replace K := K.1 b7
    refine pz_j1 [.inl x3] 142 rfl rfl rfl rfl rfl ?_
    refine pz_j1 [.inl 1, .inl x3] 143 rfl rfl rfl rfl rfl ?_
    refine pz_j1 [] (bif pz_cp .eq x3 1 then 152 else 146) rfl rfl rfl rfl rfl ?_
    refine pz_Rn_if pz_c1_eq pz_c0_eq ⟨fun b8 => ?_, fun b8 => ?_⟩
    · replace K := K.1 b8
      refine pz_j1 [.inl x3] 154 rfl rfl rfl rfl rfl ?_
      refine pz_j1 [.inl 1, .inl x3] 155 rfl rfl rfl rfl rfl ?_
      refine pz_j1 [] (bif pz_cp .ne x3 1 then 163 else 158) rfl rfl rfl rfl rfl ?_
      refine pz_Rn_if pz_c1_ne pz_c0_ne ⟨fun b9 => absurd b9 (by omega), fun _ => ?_⟩
      refine pz_j1 [.inl a4] 160 rfl rfl rfl rfl rfl ?_
      refine pz_j1 [.inl a4] 165 rfl rfl rfl rfl rfl ?_
      refine pz_j2 [] [(8, .inl a4), (7, .inl x6), (6, .inl x3), (5, .inl t0), (0, .inr (.inr (some 155))), (3, .inl a3), (4, .inl a4)] 167 rfl rfl rfl rfl rfl ?_
      refine pz_j1 [.inl x3] 169 rfl rfl rfl rfl rfl ?_
      refine pz_j1 [.inl 1, .inl x3] 170 rfl rfl rfl rfl rfl ?_
      refine pz_j1 [] (bif pz_cp .ne x3 1 then 178 else 173) rfl rfl rfl rfl rfl ?_
      refine pz_Rn_if pz_c1_ne pz_c0_ne ⟨fun b10 => absurd b10 (by omega), fun _ => ?_⟩
      refine pz_j1 [.inl t0] 175 rfl rfl rfl rfl rfl ?_
      refine pz_j1 [.inl t0] 180 rfl rfl rfl rfl rfl ?_
      refine pz_j2 [] [(9, .inl t0), (8, .inl a4), (7, .inl x6), (6, .inl x3), (5, .inl t0), (0, .inr (.inr (some 155))), (3, .inl a3), (4, .inl a4)] 182 rfl rfl rfl rfl rfl ?_
      refine pz_j1 [.inr (.inr (some 155))] 183 rfl rfl rfl rfl rfl ?_
      refine pz_j1 [.inl a4, .inr (.inr (some 155))] 185 rfl rfl rfl rfl rfl ?_
      refine pz_j1 [.inl t0, .inl a4, .inr (.inr (some 155))] 187 rfl rfl rfl rfl rfl ?_
      refine pz_Rn_sub (L := [(0, .inr (.inr (some 155))), (3, .inl a3), (8, .inl a4), (9, .inl t0)]) [5, 6, 1, 0] rfl rfl ?_
      exact pz_Rn_k (y := 51) rfl rfl rfl rfl rfl rfl rfl rfl (pz_cok_v rfl rfl pz_S155) K
    · replace K := K.2 b8
      refine pz_j1 [.inl x6] 148 rfl rfl rfl rfl rfl ?_
      refine pz_j1 [.inl 1, .inl x6] 149 rfl rfl rfl rfl rfl ?_
      refine pz_j1 [] (bif pz_cp .ne x6 1 then 234 else 152) rfl rfl rfl rfl rfl ?_
      refine pz_Rn_if pz_c1_ne pz_c0_ne ⟨fun b11 => ?_, fun b11 => ?_⟩
      · replace K := K.1 b11
        refine pz_j1 [.inl x3] 236 rfl rfl rfl rfl rfl ?_
        refine pz_j1 [.inl x6, .inl x3] 238 rfl rfl rfl rfl rfl ?_
        refine pz_j1 [] (bif pz_cp .ne x3 x6 then 270 else 241) rfl rfl rfl rfl rfl ?_
        refine pz_Rn_if pz_c1_ne pz_c0_ne ⟨fun b12 => ?_, fun b12 => ?_⟩
        · replace K := K.1 b12
          refine pz_j1 [.inl 0] 271 rfl rfl rfl rfl rfl ?_
          exact pz_Rn_ret rfl rfl rfl rfl K
        · replace K := K.2 b12
          refine pz_j1 [.inr (.inr (some 155))] 242 rfl rfl rfl rfl rfl ?_
          refine pz_j1 [.inr (.inr (some 2))] 245 rfl rfl rfl rfl (pz_a2 rfl pz_S155) ?_
          refine pz_j1 [.inr (.inr (some 4))] 248 rfl rfl rfl rfl (pz_a2 rfl pz_S2) ?_
          refine pz_j1 [.inl a4, .inr (.inr (some 4))] 250 rfl rfl rfl rfl rfl ?_
          refine pz_j1 [.inl 41, .inl a4, .inr (.inr (some 4))] 252 rfl rfl rfl rfl rfl ?_
          obtain ⟨k13, K⟩ := K
          refine pz_j1 [.inl (a4 % 41), .inr (.inr (some 4))] 253 rfl rfl rfl rfl (pz_ok_dv ⟨k13, by decide⟩) ?_
          obtain ⟨k14, K⟩ := K
          refine pz_j1 [.inl (mi 4 ((a4 % 41).toNat))] 254 rfl rfl rfl rfl (pz_a2 rfl (pz_ok_ixs pz_S4 k14)) ?_
          refine pz_j1 [.inr (.inr (some 155)), .inl (mi 4 ((a4 % 41).toNat))] 255 rfl rfl rfl rfl rfl ?_
          refine pz_j1 [.inr (.inr (some 2)), .inl (mi 4 ((a4 % 41).toNat))] 258 rfl rfl rfl rfl (pz_a2 rfl pz_S155) ?_
          refine pz_j1 [.inr (.inr (some 4)), .inl (mi 4 ((a4 % 41).toNat))] 261 rfl rfl rfl rfl (pz_a2 rfl pz_S2) ?_
          refine pz_j1 [.inl t0, .inr (.inr (some 4)), .inl (mi 4 ((a4 % 41).toNat))] 263 rfl rfl rfl rfl rfl ?_
          refine pz_j1 [.inl 41, .inl t0, .inr (.inr (some 4)), .inl (mi 4 ((a4 % 41).toNat))] 265 rfl rfl rfl rfl rfl ?_
          obtain ⟨k15, K⟩ := K
          refine pz_j1 [.inl (t0 % 41), .inr (.inr (some 4)), .inl (mi 4 ((a4 % 41).toNat))] 266 rfl rfl rfl rfl (pz_ok_dv ⟨k15, by decide⟩) ?_
          obtain ⟨k16, K⟩ := K
          refine pz_j1 [.inl (mi 4 ((t0 % 41).toNat)), .inl (mi 4 ((a4 % 41).toNat))] 267 rfl rfl rfl rfl (pz_a2 rfl (pz_ok_ixs pz_S4 k16)) ?_
          refine pz_j1 [] (bif pz_cp .eq (mi 4 ((a4 % 41).toNat)) (mi 4 ((t0 % 41).toNat)) then 272 else 270) rfl rfl rfl rfl rfl ?_
          refine pz_Rn_if pz_c1_eq pz_c0_eq ⟨fun b17 => ?_, fun b17 => ?_⟩
          · replace K := K.1 b17
            refine pz_j1 [] 16 rfl rfl rfl rfl rfl ?_
            refine pz_Rn_sub (L := [(0, .inr (.inr (some 155))), (3, .inl a3)]) [3, 4] rfl rfl ?_
            exact K
          · replace K := K.2 b17
            refine pz_j1 [.inl 0] 271 rfl rfl rfl rfl rfl ?_
            exact pz_Rn_ret rfl rfl rfl rfl K
      · replace K := K.2 b11
        refine pz_j1 [.inl x3] 154 rfl rfl rfl rfl rfl ?_
        refine pz_j1 [.inl 1, .inl x3] 155 rfl rfl rfl rfl rfl ?_
        refine pz_j1 [] (bif pz_cp .ne x3 1 then 163 else 158) rfl rfl rfl rfl rfl ?_
        refine pz_Rn_if pz_c1_ne pz_c0_ne ⟨fun _ => ?_, fun b18 => absurd b18 (by omega)⟩
        refine pz_j1 [.inl t0] 165 rfl rfl rfl rfl rfl ?_
        refine pz_j2 [] [(8, .inl t0), (7, .inl x6), (6, .inl x3), (5, .inl t0), (0, .inr (.inr (some 155))), (3, .inl a3), (4, .inl a4)] 167 rfl rfl rfl rfl rfl ?_
        refine pz_j1 [.inl x3] 169 rfl rfl rfl rfl rfl ?_
        refine pz_j1 [.inl 1, .inl x3] 170 rfl rfl rfl rfl rfl ?_
        refine pz_j1 [] (bif pz_cp .ne x3 1 then 178 else 173) rfl rfl rfl rfl rfl ?_
        refine pz_Rn_if pz_c1_ne pz_c0_ne ⟨fun _ => ?_, fun b19 => absurd b19 (by omega)⟩
        refine pz_j1 [.inl a4] 180 rfl rfl rfl rfl rfl ?_
        refine pz_j2 [] [(9, .inl a4), (8, .inl t0), (7, .inl x6), (6, .inl x3), (5, .inl t0), (0, .inr (.inr (some 155))), (3, .inl a3), (4, .inl a4)] 182 rfl rfl rfl rfl rfl ?_
        refine pz_j1 [.inr (.inr (some 155))] 183 rfl rfl rfl rfl rfl ?_
        refine pz_j1 [.inl a4, .inr (.inr (some 155))] 185 rfl rfl rfl rfl rfl ?_
        refine pz_j1 [.inl t0, .inl a4, .inr (.inr (some 155))] 187 rfl rfl rfl rfl rfl ?_
        refine pz_Rn_sub (L := [(0, .inr (.inr (some 155))), (3, .inl a3), (8, .inl t0), (9, .inl a4)]) [5, 6, 1, 0] rfl rfl ?_
        exact pz_Rn_k (y := 51) rfl rfl rfl rfl rfl rfl rfl rfl (pz_cok_v rfl rfl pz_S155) K
  · replace K := K.2 b7
    refine pz_j1 [.inl x6] 121 rfl rfl rfl rfl rfl ?_
    refine pz_j1 [.inl 2, .inl x6] 122 rfl rfl rfl rfl rfl ?_
    refine pz_j1 [] (bif pz_cp .ne x6 2 then 140 else 125) rfl rfl rfl rfl rfl ?_
    refine pz_Rn_if pz_c1_ne pz_c0_ne ⟨fun b20 => ?_, fun b20 => ?_⟩
    · replace K := K.1 b20
      refine pz_j1 [.inl x3] 142 rfl rfl rfl rfl rfl ?_
      refine pz_j1 [.inl 1, .inl x3] 143 rfl rfl rfl rfl rfl ?_
      refine pz_j1 [] (bif pz_cp .eq x3 1 then 152 else 146) rfl rfl rfl rfl rfl ?_
      refine pz_Rn_if pz_c1_eq pz_c0_eq ⟨fun b21 => absurd b21 (by omega), fun _ => ?_⟩
      refine pz_j1 [.inl x6] 148 rfl rfl rfl rfl rfl ?_
      refine pz_j1 [.inl 1, .inl x6] 149 rfl rfl rfl rfl rfl ?_
      refine pz_j1 [] (bif pz_cp .ne x6 1 then 234 else 152) rfl rfl rfl rfl rfl ?_
      refine pz_Rn_if pz_c1_ne pz_c0_ne ⟨fun b22 => ?_, fun b22 => ?_⟩
      · replace K := K.1 b22
        refine pz_j1 [.inl x3] 236 rfl rfl rfl rfl rfl ?_
        refine pz_j1 [.inl x6, .inl x3] 238 rfl rfl rfl rfl rfl ?_
        refine pz_j1 [] (bif pz_cp .ne x3 x6 then 270 else 241) rfl rfl rfl rfl rfl ?_
        refine pz_Rn_if pz_c1_ne pz_c0_ne ⟨fun b23 => ?_, fun b23 => ?_⟩
        · replace K := K.1 b23
          refine pz_j1 [.inl 0] 271 rfl rfl rfl rfl rfl ?_
          exact pz_Rn_ret rfl rfl rfl rfl K
        · replace K := K.2 b23
          refine pz_j1 [.inr (.inr (some 155))] 242 rfl rfl rfl rfl rfl ?_
          refine pz_j1 [.inr (.inr (some 2))] 245 rfl rfl rfl rfl (pz_a2 rfl pz_S155) ?_
          refine pz_j1 [.inr (.inr (some 4))] 248 rfl rfl rfl rfl (pz_a2 rfl pz_S2) ?_
          refine pz_j1 [.inl a4, .inr (.inr (some 4))] 250 rfl rfl rfl rfl rfl ?_
          refine pz_j1 [.inl 41, .inl a4, .inr (.inr (some 4))] 252 rfl rfl rfl rfl rfl ?_
          obtain ⟨k24, K⟩ := K
          refine pz_j1 [.inl (a4 % 41), .inr (.inr (some 4))] 253 rfl rfl rfl rfl (pz_ok_dv ⟨k24, by decide⟩) ?_
          obtain ⟨k25, K⟩ := K
          refine pz_j1 [.inl (mi 4 ((a4 % 41).toNat))] 254 rfl rfl rfl rfl (pz_a2 rfl (pz_ok_ixs pz_S4 k25)) ?_
          refine pz_j1 [.inr (.inr (some 155)), .inl (mi 4 ((a4 % 41).toNat))] 255 rfl rfl rfl rfl rfl ?_
          refine pz_j1 [.inr (.inr (some 2)), .inl (mi 4 ((a4 % 41).toNat))] 258 rfl rfl rfl rfl (pz_a2 rfl pz_S155) ?_
          refine pz_j1 [.inr (.inr (some 4)), .inl (mi 4 ((a4 % 41).toNat))] 261 rfl rfl rfl rfl (pz_a2 rfl pz_S2) ?_
          refine pz_j1 [.inl t0, .inr (.inr (some 4)), .inl (mi 4 ((a4 % 41).toNat))] 263 rfl rfl rfl rfl rfl ?_
          refine pz_j1 [.inl 41, .inl t0, .inr (.inr (some 4)), .inl (mi 4 ((a4 % 41).toNat))] 265 rfl rfl rfl rfl rfl ?_
          obtain ⟨k26, K⟩ := K
          refine pz_j1 [.inl (t0 % 41), .inr (.inr (some 4)), .inl (mi 4 ((a4 % 41).toNat))] 266 rfl rfl rfl rfl (pz_ok_dv ⟨k26, by decide⟩) ?_
          obtain ⟨k27, K⟩ := K
          refine pz_j1 [.inl (mi 4 ((t0 % 41).toNat)), .inl (mi 4 ((a4 % 41).toNat))] 267 rfl rfl rfl rfl (pz_a2 rfl (pz_ok_ixs pz_S4 k27)) ?_
          refine pz_j1 [] (bif pz_cp .eq (mi 4 ((a4 % 41).toNat)) (mi 4 ((t0 % 41).toNat)) then 272 else 270) rfl rfl rfl rfl rfl ?_
          refine pz_Rn_if pz_c1_eq pz_c0_eq ⟨fun b28 => ?_, fun b28 => ?_⟩
          · replace K := K.1 b28
            refine pz_j1 [] 16 rfl rfl rfl rfl rfl ?_
            refine pz_Rn_sub (L := [(0, .inr (.inr (some 155))), (3, .inl a3)]) [3, 4] rfl rfl ?_
            exact K
          · replace K := K.2 b28
            refine pz_j1 [.inl 0] 271 rfl rfl rfl rfl rfl ?_
            exact pz_Rn_ret rfl rfl rfl rfl K
      · replace K := K.2 b22
        refine pz_j1 [.inl x3] 154 rfl rfl rfl rfl rfl ?_
        refine pz_j1 [.inl 1, .inl x3] 155 rfl rfl rfl rfl rfl ?_
        refine pz_j1 [] (bif pz_cp .ne x3 1 then 163 else 158) rfl rfl rfl rfl rfl ?_
        refine pz_Rn_if pz_c1_ne pz_c0_ne ⟨fun _ => ?_, fun b29 => absurd b29 (by omega)⟩
        refine pz_j1 [.inl t0] 165 rfl rfl rfl rfl rfl ?_
        refine pz_j2 [] [(8, .inl t0), (7, .inl x6), (6, .inl x3), (5, .inl t0), (0, .inr (.inr (some 155))), (3, .inl a3), (4, .inl a4)] 167 rfl rfl rfl rfl rfl ?_
        refine pz_j1 [.inl x3] 169 rfl rfl rfl rfl rfl ?_
        refine pz_j1 [.inl 1, .inl x3] 170 rfl rfl rfl rfl rfl ?_
        refine pz_j1 [] (bif pz_cp .ne x3 1 then 178 else 173) rfl rfl rfl rfl rfl ?_
        refine pz_Rn_if pz_c1_ne pz_c0_ne ⟨fun _ => ?_, fun b30 => absurd b30 (by omega)⟩
        refine pz_j1 [.inl a4] 180 rfl rfl rfl rfl rfl ?_
        refine pz_j2 [] [(9, .inl a4), (8, .inl t0), (7, .inl x6), (6, .inl x3), (5, .inl t0), (0, .inr (.inr (some 155))), (3, .inl a3), (4, .inl a4)] 182 rfl rfl rfl rfl rfl ?_
        refine pz_j1 [.inr (.inr (some 155))] 183 rfl rfl rfl rfl rfl ?_
        refine pz_j1 [.inl a4, .inr (.inr (some 155))] 185 rfl rfl rfl rfl rfl ?_
        refine pz_j1 [.inl t0, .inl a4, .inr (.inr (some 155))] 187 rfl rfl rfl rfl rfl ?_
        refine pz_Rn_sub (L := [(0, .inr (.inr (some 155))), (3, .inl a3), (8, .inl t0), (9, .inl a4)]) [5, 6, 1, 0] rfl rfl ?_
        exact pz_Rn_k (y := 51) rfl rfl rfl rfl rfl rfl rfl rfl (pz_cok_v rfl rfl pz_S155) K
    · replace K := K.2 b20
      refine pz_j1 [.inr (.inr (some 155))] 126 rfl rfl rfl rfl rfl ?_
      refine pz_j1 [.inl a4, .inr (.inr (some 155))] 128 rfl rfl rfl rfl rfl ?_
      refine pz_j1 [.inl t0, .inl a4, .inr (.inr (some 155))] 130 rfl rfl rfl rfl rfl ?_
      refine pz_j1 [.inl a3, .inl t0, .inl a4, .inr (.inr (some 155))] 131 rfl rfl rfl rfl rfl ?_
      refine pz_Rn_sub (L := [(0, .inr (.inr (some 155))), (3, .inl a3)]) [3, 4] rfl rfl ?_
      exact pz_Rn_k (y := 49) rfl rfl rfl rfl rfl rfl rfl rfl (pz_cok_v rfl rfl pz_S155) K
theorem pz_g54_134 {a3 : Int}  (K : (-2147483648 ≤ a3 + 2 ∧ a3 + 2 ≤ 2147483647) ∧ pz_Rn (d + 1) 54 (16, [], [(0, .inr (.inr (some 155))), (3, .inl (a3 + 2))], pz_hp n0 mi ml mr c s, true) Q) : pz_Rn (d + 1) 54 (134, [], [(0, .inr (.inr (some 155))), (3, .inl a3)], pz_hp n0 mi ml mr c s, true) Q := by
  obtain ⟨k1, K⟩ := K
  refine pz_j2 [] [(3, .inl (a3 + 2)), (0, .inr (.inr (some 155)))] 137 rfl rfl rfl rfl (pz_a2 (pz_ok_in k1) rfl) ?_
  refine pz_j1 [] 272 rfl rfl rfl rfl rfl ?_
  refine pz_j1 [] 16 rfl rfl rfl rfl rfl ?_
  refine pz_Rn_sub (L := [(0, .inr (.inr (some 155))), (3, .inl (a3 + 2))]) [1, 0] rfl rfl ?_
  exact K
theorem pz_g54_190 {a3 : Int} {a8 : Int} {a9 : Int} {t0 : Int}  (K : ((t0 ≠ 0 → pz_Rn (d + 1) 54 (16, [], [(0, .inr (.inr (some 155))), (3, .inl a3)], pz_hp n0 mi ml mr c s, true) Q) ∧ (t0 = 0 → pz_Rn d 51 (0, [], [(0, .inr (.inr (some 150))), (1, .inl a8)], pz_hp n0 mi ml mr c s, true) (pz_K (d + 1) 54 200 [.inr (.inr (some 155))] [(0, .inr (.inr (some 155))), (3, .inl a3), (8, .inl a8), (9, .inl a9)] Q true)))) : pz_Rn (d + 1) 54 (190, [.inl t0], [(0, .inr (.inr (some 155))), (3, .inl a3), (8, .inl a8), (9, .inl a9)], pz_hp n0 mi ml mr c s, true) Q := by
  refine pz_j1 [] (bif pz_cp .ne t0 0 then 231 else 193) rfl rfl rfl rfl rfl ?_
  refine pz_Rn_if pz_c1_ne pz_c0_ne ⟨fun b1 => ?_, fun b1 => ?_⟩
  · replace K := K.1 b1
    refine pz_j1 [] 272 rfl rfl rfl rfl rfl ?_
    refine pz_j1 [] 16 rfl rfl rfl rfl rfl ?_
    refine pz_Rn_sub (L := [(0, .inr (.inr (some 155))), (3, .inl a3)]) [0, 1] rfl rfl ?_
    exact K
  · replace K := K.2 b1
    refine pz_j1 [.inr (.inr (some 155))] 194 rfl rfl rfl rfl rfl ?_
    refine pz_j1 [.inr (.inr (some 155)), .inr (.inr (some 155))] 195 rfl rfl rfl rfl rfl ?_
    refine pz_j1 [.inr (.inr (some 150)), .inr (.inr (some 155))] 198 rfl rfl rfl rfl (pz_a2 rfl pz_S155) ?_
    refine pz_j1 [.inl a8, .inr (.inr (some 150)), .inr (.inr (some 155))] 200 rfl rfl rfl rfl rfl ?_
    exact pz_Rn_k (y := 50) rfl rfl rfl rfl rfl rfl rfl rfl (pz_cok_v rfl rfl pz_S150) K
theorem pz_g54_203 {a3 : Int} {a8 : Int} {a9 : Int} {t1 : Int}  (K : pz_Rn d 53 (0, [], [(0, .inr (.inr (some 155))), (1, .inl t1), (2, .inl a9)], pz_hp n0 mi ml mr c s, true) (pz_K (d + 1) 54 205 [] [(0, .inr (.inr (some 155))), (3, .inl a3), (8, .inl a8), (9, .inl a9)] Q true)) : pz_Rn (d + 1) 54 (203, [.inl t1, .inr (.inr (some 155))], [(0, .inr (.inr (some 155))), (3, .inl a3), (8, .inl a8), (9, .inl a9)], pz_hp n0 mi ml mr c s, true) Q := by
  refine pz_j1 [.inl a9, .inl t1, .inr (.inr (some 155))] 205 rfl rfl rfl rfl rfl ?_
  exact pz_Rn_k (y := 52) rfl rfl rfl rfl rfl rfl rfl rfl (pz_cok_v rfl rfl pz_S155) K
theorem pz_g54_208 {a3 : Int} {a8 : Int} {a9 : Int} {t0 : Int}  (K : ((t0 = 0 → pz_Rn d 51 (0, [], [(0, .inr (.inr (some 150))), (1, .inl a8)], pz_hp n0 mi ml mr c s, true) (pz_K (d + 1) 54 223 [.inr (.inr (some 150))] [(0, .inr (.inr (some 155))), (3, .inl a3), (9, .inl a9)] Q true)) ∧ (t0 ≠ 0 → Q (.inl (some (.inl 0))) (pz_hp n0 mi ml mr c s)))) : pz_Rn (d + 1) 54 (208, [.inl t0], [(0, .inr (.inr (some 155))), (3, .inl a3), (8, .inl a8), (9, .inl a9)], pz_hp n0 mi ml mr c s, true) Q := by
  refine pz_j1 [] (bif pz_cp .eq t0 0 then 213 else 211) rfl rfl rfl rfl rfl ?_
  refine pz_Rn_if pz_c1_eq pz_c0_eq ⟨fun b1 => ?_, fun b1 => ?_⟩
  · replace K := K.1 b1
    refine pz_j1 [.inr (.inr (some 155))] 214 rfl rfl rfl rfl rfl ?_
    refine pz_j1 [.inr (.inr (some 150))] 217 rfl rfl rfl rfl (pz_a2 rfl pz_S155) ?_
    refine pz_j1 [.inr (.inr (some 155)), .inr (.inr (some 150))] 218 rfl rfl rfl rfl rfl ?_
    refine pz_j1 [.inr (.inr (some 150)), .inr (.inr (some 150))] 221 rfl rfl rfl rfl (pz_a2 rfl pz_S155) ?_
    refine pz_j1 [.inl a8, .inr (.inr (some 150)), .inr (.inr (some 150))] 223 rfl rfl rfl rfl rfl ?_
    refine pz_Rn_sub (L := [(0, .inr (.inr (some 155))), (3, .inl a3), (9, .inl a9)]) [0, 1, 3] rfl rfl ?_
    exact pz_Rn_k (y := 50) rfl rfl rfl rfl rfl rfl rfl rfl (pz_cok_v rfl rfl pz_S150) K
  · replace K := K.2 b1
    refine pz_j1 [.inl 0] 212 rfl rfl rfl rfl rfl ?_
    exact pz_Rn_ret rfl rfl rfl rfl K
theorem pz_g54_226 {a3 : Int} {a9 : Int} {t1 : Int}  (K : pz_Rn d 45 (0, [], [(0, .inr (.inr (some 150))), (1, .inl t1), (2, .inl a9)], pz_hp n0 mi ml mr c s, true) (pz_K (d + 1) 54 228 [] [(0, .inr (.inr (some 155))), (3, .inl a3)] Q true)) : pz_Rn (d + 1) 54 (226, [.inl t1, .inr (.inr (some 150))], [(0, .inr (.inr (some 155))), (3, .inl a3), (9, .inl a9)], pz_hp n0 mi ml mr c s, true) Q := by
  refine pz_j1 [.inl a9, .inl t1, .inr (.inr (some 150))] 228 rfl rfl rfl rfl rfl ?_
  refine pz_Rn_sub (L := [(0, .inr (.inr (some 155))), (3, .inl a3)]) [0, 1] rfl rfl ?_
  exact pz_Rn_k (y := 44) rfl rfl rfl rfl rfl rfl rfl rfl (pz_cok_v rfl rfl pz_S150) K
theorem pz_g54_231 {a3 : Int}  (K : pz_Rn (d + 1) 54 (16, [], [(0, .inr (.inr (some 155))), (3, .inl a3)], pz_hp n0 mi ml mr c s, true) Q) : pz_Rn (d + 1) 54 (231, [], [(0, .inr (.inr (some 155))), (3, .inl a3)], pz_hp n0 mi ml mr c s, true) Q := by
  refine pz_j1 [] 272 rfl rfl rfl rfl rfl ?_
  refine pz_j1 [] 16 rfl rfl rfl rfl rfl ?_
  exact K
-- 55 RelationStream$Question.matchTerms(LRelationStream$Node;)Z
theorem pz_g55_0 {a1 : Option Nat}  (K : ∃ q1, a1 = some q1 ∧ pz_nd q1 ∧ pz_Rn d 33 (0, [], [(0, .inr (.inr (some 149))), (1, .inr (.inr (some (q1 + 1))))], pz_hp n0 mi ml mr c s, true) (pz_K (d + 1) 55 8 [] [(0, .inr (.inr (some 13))), (1, .inr (.inr (some q1)))] Q true)) : pz_Rn (d + 1) 55 (0, [], [(0, .inr (.inr (some 13))), (1, .inr (.inr a1))], pz_hp n0 mi ml mr c s, true) Q := by
  refine pz_j1 [.inr (.inr (some 13))] 1 rfl rfl rfl rfl rfl ?_
  refine pz_j1 [.inr (.inr (some 149))] 4 rfl rfl rfl rfl (pz_a2 rfl pz_S13) ?_
  refine pz_j1 [.inr (.inr a1), .inr (.inr (some 149))] 5 rfl rfl rfl rfl rfl ?_
  obtain ⟨q1, eq1, nq1, K⟩ := K
  rewrite [eq1]
  refine pz_j1 [.inr (.inr (pz_ov mr q1 5)), .inr (.inr (some 149))] 8 rfl rfl rfl rfl (pz_a2 rfl (pz_nd_is nq1)) ?_
  rewrite [pz_ov_n5 nq1]
  exact pz_Rn_k (y := 32) rfl rfl rfl rfl rfl rfl rfl rfl (pz_cok_v rfl rfl pz_S149) K
theorem pz_g55_11 {a1 : Option Nat}  (K : ∃ q1, a1 = some q1 ∧ pz_nd q1 ∧ pz_Rn d 47 (0, [], [(0, .inr (.inr (some 150))), (1, .inl (mi (q1 + 1) 0))], pz_hp n0 mi ml mr c s, true) (pz_K (d + 1) 55 22 [] [(0, .inr (.inr (some 13))), (1, .inr (.inr (some q1)))] Q true)) : pz_Rn (d + 1) 55 (11, [], [(0, .inr (.inr (some 13))), (1, .inr (.inr a1))], pz_hp n0 mi ml mr c s, true) Q := by
  refine pz_j1 [.inr (.inr (some 13))] 12 rfl rfl rfl rfl rfl ?_
  refine pz_j1 [.inr (.inr (some 150))] 15 rfl rfl rfl rfl (pz_a2 rfl pz_S13) ?_
  refine pz_j1 [.inr (.inr a1), .inr (.inr (some 150))] 16 rfl rfl rfl rfl rfl ?_
  obtain ⟨q1, eq1, nq1, K⟩ := K
  rewrite [eq1]
  refine pz_j1 [.inr (.inr (pz_ov mr q1 5)), .inr (.inr (some 150))] 19 rfl rfl rfl rfl (pz_a2 rfl (pz_nd_is nq1)) ?_
  rewrite [pz_ov_n5 nq1]
  refine pz_j1 [.inl (mi (q1 + 1) 0), .inr (.inr (some 150))] 22 rfl rfl rfl rfl (pz_a2 rfl (pz_sd_is (pz_nd_sd nq1))) ?_
  exact pz_Rn_k (y := 46) rfl rfl rfl rfl rfl rfl rfl rfl (pz_cok_v rfl rfl pz_S150) K
theorem pz_g55_25 {a1 : Option Nat}  (K : ∃ q1, a1 = some q1 ∧ pz_nd q1 ∧ (0 ≤ mi q1 3 ∧ mi q1 3 < 40) ∧ pz_Rn d 44 (0, [], [(0, .inl (mi q1 4)), (1, .inl (mi 8 ((mi q1 3).toNat)))], pz_hp n0 mi ml mr c s, true) (pz_K (d + 1) 55 45 [.inr (.inr (some 155))] [(0, .inr (.inr (some 13))), (1, .inr (.inr (some q1)))] Q true)) : pz_Rn (d + 1) 55 (25, [], [(0, .inr (.inr (some 13))), (1, .inr (.inr a1))], pz_hp n0 mi ml mr c s, true) Q := by
  refine pz_j1 [.inr (.inr (some 13))] 26 rfl rfl rfl rfl rfl ?_
  refine pz_j1 [.inr (.inr (some 155))] 29 rfl rfl rfl rfl (pz_a2 rfl pz_S13) ?_
  refine pz_j1 [.inr (.inr a1), .inr (.inr (some 155))] 30 rfl rfl rfl rfl rfl ?_
  obtain ⟨q1, eq1, nq1, K⟩ := K
  rewrite [eq1]
  refine pz_j1 [.inl (mi q1 4), .inr (.inr (some 155))] 33 rfl rfl rfl rfl (pz_a2 rfl (pz_nd_is nq1)) ?_
  refine pz_j1 [.inr (.inr (some 13)), .inl (mi q1 4), .inr (.inr (some 155))] 34 rfl rfl rfl rfl rfl ?_
  refine pz_j1 [.inr (.inr (some 6)), .inl (mi q1 4), .inr (.inr (some 155))] 37 rfl rfl rfl rfl (pz_a2 rfl pz_S13) ?_
  refine pz_j1 [.inr (.inr (some 8)), .inl (mi q1 4), .inr (.inr (some 155))] 40 rfl rfl rfl rfl (pz_a2 rfl pz_S6) ?_
  refine pz_j1 [.inr (.inr (some q1)), .inr (.inr (some 8)), .inl (mi q1 4), .inr (.inr (some 155))] 41 rfl rfl rfl rfl rfl ?_
  refine pz_j1 [.inl (mi q1 3), .inr (.inr (some 8)), .inl (mi q1 4), .inr (.inr (some 155))] 44 rfl rfl rfl rfl (pz_a2 rfl (pz_nd_is nq1)) ?_
  obtain ⟨k2, K⟩ := K
  refine pz_j1 [.inl (mi 8 ((mi q1 3).toNat)), .inl (mi q1 4), .inr (.inr (some 155))] 45 rfl rfl rfl rfl (pz_a2 rfl (pz_ok_ixs pz_S8 k2)) ?_
  exact pz_Rn_k (y := 43) rfl rfl rfl rfl rfl rfl rfl rfl rfl K
theorem pz_g55_48 {a1 : Option Nat} {t1 : Int}  (K : ∃ q1, a1 = some q1 ∧ pz_nd q1 ∧ (0 ≤ mi q1 3 ∧ mi q1 3 < 40) ∧ pz_Rn d 44 (0, [], [(0, .inl (mi q1 4)), (1, .inl (mi 9 ((mi q1 3).toNat)))], pz_hp n0 mi ml mr c s, true) (pz_K (d + 1) 55 64 [.inl t1, .inr (.inr (some 155))] [(0, .inr (.inr (some 13)))] Q true)) : pz_Rn (d + 1) 55 (48, [.inl t1, .inr (.inr (some 155))], [(0, .inr (.inr (some 13))), (1, .inr (.inr a1))], pz_hp n0 mi ml mr c s, true) Q := by
  refine pz_j1 [.inr (.inr a1), .inl t1, .inr (.inr (some 155))] 49 rfl rfl rfl rfl rfl ?_
  obtain ⟨q1, eq1, nq1, K⟩ := K
  rewrite [eq1]
  refine pz_j1 [.inl (mi q1 4), .inl t1, .inr (.inr (some 155))] 52 rfl rfl rfl rfl (pz_a2 rfl (pz_nd_is nq1)) ?_
  refine pz_j1 [.inr (.inr (some 13)), .inl (mi q1 4), .inl t1, .inr (.inr (some 155))] 53 rfl rfl rfl rfl rfl ?_
  refine pz_j1 [.inr (.inr (some 6)), .inl (mi q1 4), .inl t1, .inr (.inr (some 155))] 56 rfl rfl rfl rfl (pz_a2 rfl pz_S13) ?_
  refine pz_j1 [.inr (.inr (some 9)), .inl (mi q1 4), .inl t1, .inr (.inr (some 155))] 59 rfl rfl rfl rfl (pz_a2 rfl pz_S6) ?_
  refine pz_j1 [.inr (.inr (some q1)), .inr (.inr (some 9)), .inl (mi q1 4), .inl t1, .inr (.inr (some 155))] 60 rfl rfl rfl rfl rfl ?_
  refine pz_j1 [.inl (mi q1 3), .inr (.inr (some 9)), .inl (mi q1 4), .inl t1, .inr (.inr (some 155))] 63 rfl rfl rfl rfl (pz_a2 rfl (pz_nd_is nq1)) ?_
  obtain ⟨k2, K⟩ := K
  refine pz_j1 [.inl (mi 9 ((mi q1 3).toNat)), .inl (mi q1 4), .inl t1, .inr (.inr (some 155))] 64 rfl rfl rfl rfl (pz_a2 rfl (pz_ok_ixs pz_S9 k2)) ?_
  refine pz_Rn_sub (L := [(0, .inr (.inr (some 13)))]) [0] rfl rfl ?_
  exact pz_Rn_k (y := 43) rfl rfl rfl rfl rfl rfl rfl rfl rfl K
theorem pz_g55_67 {t1 : Int} {t2 : Int}  (K : pz_Rn d 54 (0, [], [(0, .inr (.inr (some 155))), (1, .inl t1), (2, .inl t2)], pz_hp n0 mi ml mr c s, true) (pz_K (d + 1) 55 67 [] [(0, .inr (.inr (some 13)))] Q true)) : pz_Rn (d + 1) 55 (67, [.inl t2, .inl t1, .inr (.inr (some 155))], [(0, .inr (.inr (some 13)))], pz_hp n0 mi ml mr c s, true) Q := by
  exact pz_Rn_k (y := 53) rfl rfl rfl rfl rfl rfl rfl rfl (pz_cok_v rfl rfl pz_S155) K
theorem pz_g55_70 {t0 : Int}  (K : (t0 = 0 ∨ t0 = 1) ∧ Q (.inl (some (.inl t0))) (pz_hp n0 (pz_up mi 149 0 (mi 150 6)) ml mr c s)) : pz_Rn (d + 1) 55 (70, [.inl t0], [(0, .inr (.inr (some 13)))], pz_hp n0 mi ml mr c s, true) Q := by
  refine pz_j2 [] [(2, .inl t0), (0, .inr (.inr (some 13)))] 71 rfl rfl rfl rfl rfl ?_
  refine pz_j1 [.inr (.inr (some 13))] 72 rfl rfl rfl rfl rfl ?_
  refine pz_j1 [.inr (.inr (some 149))] 75 rfl rfl rfl rfl (pz_a2 rfl pz_S13) ?_
  refine pz_j1 [.inr (.inr (some 13)), .inr (.inr (some 149))] 76 rfl rfl rfl rfl rfl ?_
  refine pz_j1 [.inr (.inr (some 150)), .inr (.inr (some 149))] 79 rfl rfl rfl rfl (pz_a2 rfl pz_S13) ?_
  refine pz_j1 [.inl (mi 150 6), .inr (.inr (some 149))] 82 rfl rfl rfl rfl (pz_a2 rfl pz_S150) ?_
  refine pz_j3 [] [(2, .inl t0), (0, .inr (.inr (some 13)))] (pz_hp n0 (pz_up mi 149 0 (mi 150 6)) ml mr c s) 85 rfl rfl rfl rfl (pz_a2 rfl (pz_a2 pz_S149 (pz_a2 rfl rfl))) ?_
  refine pz_j1 [.inl t0] 86 rfl rfl rfl rfl rfl ?_
  obtain ⟨k1, K⟩ := K
  exact pz_Rn_ret rfl rfl rfl (pz_a2 rfl (pz_ok_zz k1)) K
-- 56 RelationStream$Matcher.isOver()Z
theorem pz_g56_0   (K : ((500 < mi 155 5 → Q (.inl (some (.inl 1))) (pz_hp n0 mi ml mr c s)) ∧ (mi 155 5 ≤ 500 → pz_Rn d 48 (0, [], [(0, .inr (.inr (some 150)))], pz_hp n0 mi ml mr c s, true) (pz_K (d + 1) 56 14 [] [] Q true)))) : pz_Rn (d + 1) 56 (0, [], [(0, .inr (.inr (some 155)))], pz_hp n0 mi ml mr c s, true) Q := by
  refine pz_j1 [.inr (.inr (some 155))] 1 rfl rfl rfl rfl rfl ?_
  refine pz_j1 [.inl (mi 155 5)] 4 rfl rfl rfl rfl (pz_a2 rfl pz_S155) ?_
  refine pz_j1 [.inl 500, .inl (mi 155 5)] 7 rfl rfl rfl rfl rfl ?_
  refine pz_j1 [] (bif pz_cp .gt (mi 155 5) 500 then 20 else 10) rfl rfl rfl rfl rfl ?_
  refine pz_Rn_if pz_c1_gt pz_c0_gt ⟨fun b1 => ?_, fun b1 => ?_⟩
  · replace K := K.1 b1
    refine pz_j1 [.inl 1] 21 rfl rfl rfl rfl rfl ?_
    refine pz_j1 [.inl 1] 25 rfl rfl rfl rfl rfl ?_
    exact pz_Rn_ret rfl rfl rfl rfl K
  · replace K := K.2 b1
    refine pz_j1 [.inr (.inr (some 155))] 11 rfl rfl rfl rfl rfl ?_
    refine pz_j1 [.inr (.inr (some 150))] 14 rfl rfl rfl rfl (pz_a2 rfl pz_S155) ?_
    refine pz_Rn_sub (L := []) [] rfl rfl ?_
    exact pz_Rn_k (y := 47) rfl rfl rfl rfl rfl rfl rfl rfl (pz_cok_v rfl rfl pz_S150) K
theorem pz_g56_17 {t0 : Int}  (K : ((t0 = 0 → Q (.inl (some (.inl 0))) (pz_hp n0 mi ml mr c s)) ∧ (t0 ≠ 0 → Q (.inl (some (.inl 1))) (pz_hp n0 mi ml mr c s)))) : pz_Rn (d + 1) 56 (17, [.inl t0], [], pz_hp n0 mi ml mr c s, true) Q := by
  refine pz_j1 [] (bif pz_cp .eq t0 0 then 24 else 20) rfl rfl rfl rfl rfl ?_
  refine pz_Rn_if pz_c1_eq pz_c0_eq ⟨fun b1 => ?_, fun b1 => ?_⟩
  · replace K := K.1 b1
    refine pz_j1 [.inl 0] 25 rfl rfl rfl rfl rfl ?_
    exact pz_Rn_ret rfl rfl rfl rfl K
  · replace K := K.2 b1
    refine pz_j1 [.inl 1] 21 rfl rfl rfl rfl rfl ?_
    refine pz_j1 [.inl 1] 25 rfl rfl rfl rfl rfl ?_
    exact pz_Rn_ret rfl rfl rfl rfl K
-- 57 RelationStream$State.hasCondition(I)Z
theorem pz_g57_0 {p0 : Nat} {a1 : Int} (np0 : pz_sd p0) (K : ((64 ≤ a1 → ((pz_lc (((Int64.toUInt64 (ml p0 2) >>> ((Int32.ofInt a1).toInt64.toUInt64 &&& Int64.toUInt64 63)).toInt64) &&& (Int64.ofNat 1)) (Int64.ofNat 0) = 0 → Q (.inl (some (.inl 0))) (pz_hp n0 mi ml mr c s)) ∧ (pz_lc (((Int64.toUInt64 (ml p0 2) >>> ((Int32.ofInt a1).toInt64.toUInt64 &&& Int64.toUInt64 63)).toInt64) &&& (Int64.ofNat 1)) (Int64.ofNat 0) ≠ 0 → Q (.inl (some (.inl 1))) (pz_hp n0 mi ml mr c s)))) ∧ (a1 < 64 → ((pz_lc (((Int64.toUInt64 (ml p0 1) >>> ((Int32.ofInt a1).toInt64.toUInt64 &&& Int64.toUInt64 63)).toInt64) &&& (Int64.ofNat 1)) (Int64.ofNat 0) = 0 → Q (.inl (some (.inl 0))) (pz_hp n0 mi ml mr c s)) ∧ (pz_lc (((Int64.toUInt64 (ml p0 1) >>> ((Int32.ofInt a1).toInt64.toUInt64 &&& Int64.toUInt64 63)).toInt64) &&& (Int64.ofNat 1)) (Int64.ofNat 0) ≠ 0 → Q (.inl (some (.inl 1))) (pz_hp n0 mi ml mr c s)))))) : pz_Rn d 57 (0, [], [(0, .inr (.inr (some p0))), (1, .inl a1)], pz_hp n0 mi ml mr c s, true) Q := by
  refine pz_j1 [.inl a1] 1 rfl rfl rfl rfl rfl ?_
  refine pz_j1 [.inl 64, .inl a1] 3 rfl rfl rfl rfl rfl ?_
  refine pz_j1 [] (bif pz_cp .ge a1 64 then 13 else 6) rfl rfl rfl rfl rfl ?_
  refine pz_Rn_if pz_c1_ge pz_c0_ge ⟨fun b1 => ?_, fun b1 => ?_⟩
  · replace K := K.1 b1
    refine pz_j1 [.inr (.inr (some p0))] 14 rfl rfl rfl rfl rfl ?_
    refine pz_j1 [.inr (.inl (ml p0 2))] 17 rfl rfl rfl rfl (pz_a2 rfl (pz_sd_is np0)) ?_
    refine pz_j1 [.inl a1, .inr (.inl (ml p0 2))] 18 rfl rfl rfl rfl rfl ?_
    refine pz_j1 [.inr (.inl ((Int64.toUInt64 (ml p0 2) >>> ((Int32.ofInt a1).toInt64.toUInt64 &&& Int64.toUInt64 63)).toInt64))] 19 rfl rfl rfl rfl rfl ?_
    refine pz_j1 [.inr (.inl (Int64.ofNat 1)), .inr (.inl ((Int64.toUInt64 (ml p0 2) >>> ((Int32.ofInt a1).toInt64.toUInt64 &&& Int64.toUInt64 63)).toInt64))] 20 rfl rfl rfl rfl rfl ?_
    refine pz_j1 [.inr (.inl (((Int64.toUInt64 (ml p0 2) >>> ((Int32.ofInt a1).toInt64.toUInt64 &&& Int64.toUInt64 63)).toInt64) &&& (Int64.ofNat 1)))] 21 rfl rfl rfl rfl rfl ?_
    refine pz_j1 [.inr (.inl (Int64.ofNat 0)), .inr (.inl (((Int64.toUInt64 (ml p0 2) >>> ((Int32.ofInt a1).toInt64.toUInt64 &&& Int64.toUInt64 63)).toInt64) &&& (Int64.ofNat 1)))] 22 rfl rfl rfl rfl rfl ?_
    refine pz_j1 [.inl (pz_lc (((Int64.toUInt64 (ml p0 2) >>> ((Int32.ofInt a1).toInt64.toUInt64 &&& Int64.toUInt64 63)).toInt64) &&& (Int64.ofNat 1)) (Int64.ofNat 0))] 23 rfl rfl rfl rfl rfl ?_
    refine pz_j1 [] (bif pz_cp .eq (pz_lc (((Int64.toUInt64 (ml p0 2) >>> ((Int32.ofInt a1).toInt64.toUInt64 &&& Int64.toUInt64 63)).toInt64) &&& (Int64.ofNat 1)) (Int64.ofNat 0)) 0 then 30 else 26) rfl rfl rfl rfl rfl ?_
    refine pz_Rn_if pz_c1_eq pz_c0_eq ⟨fun b2 => ?_, fun b2 => ?_⟩
    · replace K := K.1 b2
      refine pz_j1 [.inl 0] 31 rfl rfl rfl rfl rfl ?_
      exact pz_Rn_ret rfl rfl rfl rfl K
    · replace K := K.2 b2
      refine pz_j1 [.inl 1] 27 rfl rfl rfl rfl rfl ?_
      refine pz_j1 [.inl 1] 31 rfl rfl rfl rfl rfl ?_
      exact pz_Rn_ret rfl rfl rfl rfl K
  · replace K := K.2 b1
    refine pz_j1 [.inr (.inr (some p0))] 7 rfl rfl rfl rfl rfl ?_
    refine pz_j1 [.inr (.inl (ml p0 1))] 10 rfl rfl rfl rfl (pz_a2 rfl (pz_sd_is np0)) ?_
    refine pz_j1 [.inr (.inl (ml p0 1))] 17 rfl rfl rfl rfl rfl ?_
    refine pz_j1 [.inl a1, .inr (.inl (ml p0 1))] 18 rfl rfl rfl rfl rfl ?_
    refine pz_j1 [.inr (.inl ((Int64.toUInt64 (ml p0 1) >>> ((Int32.ofInt a1).toInt64.toUInt64 &&& Int64.toUInt64 63)).toInt64))] 19 rfl rfl rfl rfl rfl ?_
    refine pz_j1 [.inr (.inl (Int64.ofNat 1)), .inr (.inl ((Int64.toUInt64 (ml p0 1) >>> ((Int32.ofInt a1).toInt64.toUInt64 &&& Int64.toUInt64 63)).toInt64))] 20 rfl rfl rfl rfl rfl ?_
    refine pz_j1 [.inr (.inl (((Int64.toUInt64 (ml p0 1) >>> ((Int32.ofInt a1).toInt64.toUInt64 &&& Int64.toUInt64 63)).toInt64) &&& (Int64.ofNat 1)))] 21 rfl rfl rfl rfl rfl ?_
    refine pz_j1 [.inr (.inl (Int64.ofNat 0)), .inr (.inl (((Int64.toUInt64 (ml p0 1) >>> ((Int32.ofInt a1).toInt64.toUInt64 &&& Int64.toUInt64 63)).toInt64) &&& (Int64.ofNat 1)))] 22 rfl rfl rfl rfl rfl ?_
    refine pz_j1 [.inl (pz_lc (((Int64.toUInt64 (ml p0 1) >>> ((Int32.ofInt a1).toInt64.toUInt64 &&& Int64.toUInt64 63)).toInt64) &&& (Int64.ofNat 1)) (Int64.ofNat 0))] 23 rfl rfl rfl rfl rfl ?_
    refine pz_j1 [] (bif pz_cp .eq (pz_lc (((Int64.toUInt64 (ml p0 1) >>> ((Int32.ofInt a1).toInt64.toUInt64 &&& Int64.toUInt64 63)).toInt64) &&& (Int64.ofNat 1)) (Int64.ofNat 0)) 0 then 30 else 26) rfl rfl rfl rfl rfl ?_
    refine pz_Rn_if pz_c1_eq pz_c0_eq ⟨fun b3 => ?_, fun b3 => ?_⟩
    · replace K := K.1 b3
      refine pz_j1 [.inl 0] 31 rfl rfl rfl rfl rfl ?_
      exact pz_Rn_ret rfl rfl rfl rfl K
    · replace K := K.2 b3
      refine pz_j1 [.inl 1] 27 rfl rfl rfl rfl rfl ?_
      refine pz_j1 [.inl 1] 31 rfl rfl rfl rfl rfl ?_
      exact pz_Rn_ret rfl rfl rfl rfl K
-- 58 RelationStream$Bindings.goBack(II)V
theorem pz_g58_0 {a1 : Int} {a2 : Int}  (K : pz_Rn d 58 (2, [], [(0, .inr (.inr (some 150))), (1, .inl a1), (3, .inl a2)], pz_hp n0 mi ml mr c s, true) Q) : pz_Rn d 58 (0, [], [(0, .inr (.inr (some 150))), (1, .inl a1), (2, .inl a2)], pz_hp n0 mi ml mr c s, true) Q := by
  refine pz_j1 [.inl a2] 1 rfl rfl rfl rfl rfl ?_
  refine pz_j2 [] [(3, .inl a2), (0, .inr (.inr (some 150))), (1, .inl a1), (2, .inl a2)] 2 rfl rfl rfl rfl rfl ?_
  refine pz_Rn_sub (L := [(0, .inr (.inr (some 150))), (1, .inl a1), (3, .inl a2)]) [1, 2, 0] rfl rfl ?_
  exact K
theorem pz_g58_2 {a1 : Int} {a3 : Int}  (K : ((mi 150 5 ≤ a3 → Q (.inl none) (pz_hp n0 (pz_up mi 150 6 a1) ml mr c s)) ∧ (a3 < mi 150 5 → (0 ≤ a3 ∧ a3 < 1001) ∧ (0 ≤ mi 151 ((a3).toNat) ∧ mi 151 ((a3).toNat) < 246) ∧ (-2147483648 ≤ a3 + 1 ∧ a3 + 1 ≤ 2147483647) ∧ pz_Rn d 58 (2, [], [(0, .inr (.inr (some 150))), (1, .inl a1), (3, .inl (a3 + 1))], pz_hp n0 (pz_up mi 154 ((mi 151 ((a3).toNat)).toNat) (-1)) ml mr c s, true) Q))) : pz_Rn d 58 (2, [], [(0, .inr (.inr (some 150))), (1, .inl a1), (3, .inl a3)], pz_hp n0 mi ml mr c s, true) Q := by
  refine pz_j1 [.inl a3] 3 rfl rfl rfl rfl rfl ?_
  refine pz_j1 [.inr (.inr (some 150)), .inl a3] 4 rfl rfl rfl rfl rfl ?_
  refine pz_j1 [.inl (mi 150 5), .inl a3] 7 rfl rfl rfl rfl (pz_a2 rfl pz_S150) ?_
  refine pz_j1 [] (bif pz_cp .ge a3 (mi 150 5) then 28 else 10) rfl rfl rfl rfl rfl ?_
  refine pz_Rn_if pz_c1_ge pz_c0_ge ⟨fun b1 => ?_, fun b1 => ?_⟩
  · replace K := K.1 b1
    refine pz_j1 [.inr (.inr (some 150))] 29 rfl rfl rfl rfl rfl ?_
    refine pz_j1 [.inl a1, .inr (.inr (some 150))] 30 rfl rfl rfl rfl rfl ?_
    refine pz_j3 [] [(0, .inr (.inr (some 150))), (1, .inl a1), (3, .inl a3)] (pz_hp n0 (pz_up mi 150 6 a1) ml mr c s) 33 rfl rfl rfl rfl (pz_a2 rfl (pz_a2 pz_S150 (pz_a2 rfl rfl))) ?_
    exact pz_Rn_ret rfl rfl rfl rfl K
  · replace K := K.2 b1
    refine pz_j1 [.inr (.inr (some 150))] 11 rfl rfl rfl rfl rfl ?_
    refine pz_j1 [.inr (.inr (some 154))] 14 rfl rfl rfl rfl (pz_a2 rfl pz_S150) ?_
    refine pz_j1 [.inr (.inr (some 150)), .inr (.inr (some 154))] 15 rfl rfl rfl rfl rfl ?_
    refine pz_j1 [.inr (.inr (some 151)), .inr (.inr (some 154))] 18 rfl rfl rfl rfl (pz_a2 rfl pz_S150) ?_
    refine pz_j1 [.inl a3, .inr (.inr (some 151)), .inr (.inr (some 154))] 19 rfl rfl rfl rfl rfl ?_
    obtain ⟨k2, K⟩ := K
    refine pz_j1 [.inl (mi 151 ((a3).toNat)), .inr (.inr (some 154))] 20 rfl rfl rfl rfl (pz_a2 rfl (pz_ok_ixs pz_S151 k2)) ?_
    refine pz_j1 [.inl (-1), .inl (mi 151 ((a3).toNat)), .inr (.inr (some 154))] 21 rfl rfl rfl rfl rfl ?_
    obtain ⟨k3, K⟩ := K
    refine pz_j3 [] [(0, .inr (.inr (some 150))), (1, .inl a1), (3, .inl a3)] (pz_hp n0 (pz_up mi 154 ((mi 151 ((a3).toNat)).toNat) (-1)) ml mr c s) 22 rfl rfl rfl rfl (pz_a2 rfl (pz_ok_ix pz_S154 k3)) ?_
    obtain ⟨k4, K⟩ := K
    refine pz_j2 [] [(3, .inl (a3 + 1)), (0, .inr (.inr (some 150))), (1, .inl a1)] 25 rfl rfl rfl rfl (pz_a2 (pz_ok_in k4) rfl) ?_
    refine pz_j1 [] 2 rfl rfl rfl rfl rfl ?_
    refine pz_Rn_sub (L := [(0, .inr (.inr (some 150))), (1, .inl a1), (3, .inl (a3 + 1))]) [1, 2, 0] rfl rfl ?_
    exact K
-- 59 RelationStream$Matcher.judge(II)I
theorem pz_g59_0 {a1 : Int} {a2 : Int}  (K : ∀ x1 : Int, x1 = mi 150 6 → ∀ x2 : Int, x2 = mi 150 5 → pz_Rn d 54 (0, [], [(0, .inr (.inr (some 155))), (1, .inl a1), (2, .inl a2)], pz_hp n0 mi ml mr c s, true) (pz_K (d + 1) 59 20 [] [(0, .inr (.inr (some 155))), (3, .inl x1), (4, .inl x2)] Q true)) : pz_Rn (d + 1) 59 (0, [], [(0, .inr (.inr (some 155))), (1, .inl a1), (2, .inl a2)], pz_hp n0 mi ml mr c s, true) Q := by
  refine pz_j1 [.inr (.inr (some 155))] 1 rfl rfl rfl rfl rfl ?_
  refine pz_j1 [.inr (.inr (some 150))] 4 rfl rfl rfl rfl (pz_a2 rfl pz_S155) ?_
  refine pz_j1 [.inl (mi 150 6)] 7 rfl rfl rfl rfl (pz_a2 rfl pz_S150) ?_
  obtain ⟨x1, hx1⟩ : ∃ x : Int, x = mi 150 6 := ⟨_, rfl⟩
  rewrite [← hx1]
  replace K := K x1 hx1
  refine pz_j2 [] [(3, .inl x1), (0, .inr (.inr (some 155))), (1, .inl a1), (2, .inl a2)] 8 rfl rfl rfl rfl rfl ?_
  refine pz_j1 [.inr (.inr (some 155))] 9 rfl rfl rfl rfl rfl ?_
  refine pz_j1 [.inr (.inr (some 150))] 12 rfl rfl rfl rfl (pz_a2 rfl pz_S155) ?_
  refine pz_j1 [.inl (mi 150 5)] 15 rfl rfl rfl rfl (pz_a2 rfl pz_S150) ?_
  obtain ⟨x2, hx2⟩ : ∃ x : Int, x = mi 150 5 := ⟨_, rfl⟩
  rewrite [← hx2]
  replace K := K x2 hx2
  refine pz_j2 [] [(4, .inl x2), (3, .inl x1), (0, .inr (.inr (some 155))), (1, .inl a1), (2, .inl a2)] 17 rfl rfl rfl rfl rfl ?_
  refine pz_j1 [.inr (.inr (some 155))] 18 rfl rfl rfl rfl rfl ?_
  refine pz_j1 [.inl a1, .inr (.inr (some 155))] 19 rfl rfl rfl rfl rfl ?_
  refine pz_j1 [.inl a2, .inl a1, .inr (.inr (some 155))] 20 rfl rfl rfl rfl rfl ?_
  refine pz_Rn_sub (L := [(0, .inr (.inr (some 155))), (3, .inl x1), (4, .inl x2)]) [2, 1, 0] rfl rfl ?_
  exact pz_Rn_k (y := 53) rfl rfl rfl rfl rfl rfl rfl rfl (pz_cok_v rfl rfl pz_S155) K
theorem pz_g59_23 {a3 : Int} {a4 : Int} {t0 : Int}  (K : ((mi 150 5 ≠ a4 → pz_Rn d 58 (0, [], [(0, .inr (.inr (some 150))), (1, .inl a3), (2, .inl a4)], pz_hp n0 mi ml mr c s, true) (pz_K (d + 1) 59 51 [] [(5, .inl t0), (6, .inl 0)] Q true)) ∧ (mi 150 5 = a4 → pz_Rn d 58 (0, [], [(0, .inr (.inr (some 150))), (1, .inl a3), (2, .inl a4)], pz_hp n0 mi ml mr c s, true) (pz_K (d + 1) 59 51 [] [(5, .inl t0), (6, .inl 1)] Q true)))) : pz_Rn (d + 1) 59 (23, [.inl t0], [(0, .inr (.inr (some 155))), (3, .inl a3), (4, .inl a4)], pz_hp n0 mi ml mr c s, true) Q := by
  refine pz_j2 [] [(5, .inl t0), (0, .inr (.inr (some 155))), (3, .inl a3), (4, .inl a4)] 25 rfl rfl rfl rfl rfl ?_
  refine pz_j1 [.inr (.inr (some 155))] 26 rfl rfl rfl rfl rfl ?_
  refine pz_j1 [.inr (.inr (some 150))] 29 rfl rfl rfl rfl (pz_a2 rfl pz_S155) ?_
  refine pz_j1 [.inl (mi 150 5)] 32 rfl rfl rfl rfl (pz_a2 rfl pz_S150) ?_
  refine pz_j1 [.inl a4, .inl (mi 150 5)] 34 rfl rfl rfl rfl rfl ?_
  refine pz_j1 [] (bif pz_cp .ne (mi 150 5) a4 then 41 else 37) rfl rfl rfl rfl rfl ?_
  refine pz_Rn_if pz_c1_ne pz_c0_ne ⟨fun b1 => ?_, fun b1 => ?_⟩
  · replace K := K.1 b1
    refine pz_j1 [.inl 0] 42 rfl rfl rfl rfl rfl ?_
    refine pz_j2 [] [(6, .inl 0), (5, .inl t0), (0, .inr (.inr (some 155))), (3, .inl a3), (4, .inl a4)] 44 rfl rfl rfl rfl rfl ?_
    refine pz_j1 [.inr (.inr (some 155))] 45 rfl rfl rfl rfl rfl ?_
    refine pz_j1 [.inr (.inr (some 150))] 48 rfl rfl rfl rfl (pz_a2 rfl pz_S155) ?_
    refine pz_j1 [.inl a3, .inr (.inr (some 150))] 49 rfl rfl rfl rfl rfl ?_
    refine pz_j1 [.inl a4, .inl a3, .inr (.inr (some 150))] 51 rfl rfl rfl rfl rfl ?_
    refine pz_Rn_sub (L := [(5, .inl t0), (6, .inl 0)]) [1, 0] rfl rfl ?_
    exact pz_Rn_k (y := 57) rfl rfl rfl rfl rfl rfl rfl rfl (pz_cok_v rfl rfl pz_S150) K
  · replace K := K.2 b1
    refine pz_j1 [.inl 1] 38 rfl rfl rfl rfl rfl ?_
    refine pz_j1 [.inl 1] 42 rfl rfl rfl rfl rfl ?_
    refine pz_j2 [] [(6, .inl 1), (5, .inl t0), (0, .inr (.inr (some 155))), (3, .inl a3), (4, .inl a4)] 44 rfl rfl rfl rfl rfl ?_
    refine pz_j1 [.inr (.inr (some 155))] 45 rfl rfl rfl rfl rfl ?_
    refine pz_j1 [.inr (.inr (some 150))] 48 rfl rfl rfl rfl (pz_a2 rfl pz_S155) ?_
    refine pz_j1 [.inl a3, .inr (.inr (some 150))] 49 rfl rfl rfl rfl rfl ?_
    refine pz_j1 [.inl a4, .inl a3, .inr (.inr (some 150))] 51 rfl rfl rfl rfl rfl ?_
    refine pz_Rn_sub (L := [(5, .inl t0), (6, .inl 1)]) [1, 0] rfl rfl ?_
    exact pz_Rn_k (y := 57) rfl rfl rfl rfl rfl rfl rfl rfl (pz_cok_v rfl rfl pz_S150) K
theorem pz_g59_54 {a5 : Int} {a6 : Int}  (K : ((a5 ≠ 0 → ((a6 = 0 → Q (.inl (some (.inl 2))) (pz_hp n0 mi ml mr c s)) ∧ (a6 ≠ 0 → Q (.inl (some (.inl 0))) (pz_hp n0 mi ml mr c s)))) ∧ (a5 = 0 → Q (.inl (some (.inl 1))) (pz_hp n0 mi ml mr c s)))) : pz_Rn (d + 1) 59 (54, [], [(5, .inl a5), (6, .inl a6)], pz_hp n0 mi ml mr c s, true) Q := by
  refine pz_j1 [.inl a5] 56 rfl rfl rfl rfl rfl ?_
  refine pz_j1 [] (bif pz_cp .ne a5 0 then 61 else 59) rfl rfl rfl rfl rfl ?_
  refine pz_Rn_if pz_c1_ne pz_c0_ne ⟨fun b1 => ?_, fun b1 => ?_⟩
  · replace K := K.1 b1
    refine pz_j1 [.inl a6] 63 rfl rfl rfl rfl rfl ?_
    refine pz_j1 [] (bif pz_cp .eq a6 0 then 70 else 66) rfl rfl rfl rfl rfl ?_
    refine pz_Rn_if pz_c1_eq pz_c0_eq ⟨fun b2 => ?_, fun b2 => ?_⟩
    · replace K := K.1 b2
      refine pz_j1 [.inl 2] 71 rfl rfl rfl rfl rfl ?_
      exact pz_Rn_ret rfl rfl rfl rfl K
    · replace K := K.2 b2
      refine pz_j1 [.inl 0] 67 rfl rfl rfl rfl rfl ?_
      refine pz_j1 [.inl 0] 71 rfl rfl rfl rfl rfl ?_
      exact pz_Rn_ret rfl rfl rfl rfl K
  · replace K := K.2 b1
    refine pz_j1 [.inl 1] 60 rfl rfl rfl rfl rfl ?_
    exact pz_Rn_ret rfl rfl rfl rfl K
-- 60 RelationStream$State.dropCondition(I)V
theorem pz_g60_0 {p0 : Nat} {a1 : Int} (np0 : pz_sd p0) (K : ((64 ≤ a1 → Q (.inl none) (pz_hp n0 mi (pz_up ml p0 2 ((ml p0 2) &&& (((Int64.ofNat 1) <<< ((Int32.ofInt a1).toInt64 &&& 63)) ^^^ (-1 : Int64)))) mr c s)) ∧ (a1 < 64 → Q (.inl none) (pz_hp n0 mi (pz_up ml p0 1 ((ml p0 1) &&& (((Int64.ofNat 1) <<< ((Int32.ofInt a1).toInt64 &&& 63)) ^^^ (-1 : Int64)))) mr c s)))) : pz_Rn d 60 (0, [], [(0, .inr (.inr (some p0))), (1, .inl a1)], pz_hp n0 mi ml mr c s, true) Q := by
  refine pz_j1 [.inl a1] 1 rfl rfl rfl rfl rfl ?_
  refine pz_j1 [.inl 64, .inl a1] 3 rfl rfl rfl rfl rfl ?_
  refine pz_j1 [] (bif pz_cp .ge a1 64 then 25 else 6) rfl rfl rfl rfl rfl ?_
  refine pz_Rn_if pz_c1_ge pz_c0_ge ⟨fun b1 => ?_, fun b1 => ?_⟩
  · replace K := K.1 b1
    refine pz_j1 [.inr (.inr (some p0))] 26 rfl rfl rfl rfl rfl ?_
    refine pz_j1 [.inr (.inr (some p0)), .inr (.inr (some p0))] 27 rfl rfl rfl rfl rfl ?_
    refine pz_j1 [.inr (.inl (ml p0 2)), .inr (.inr (some p0))] 30 rfl rfl rfl rfl (pz_a2 rfl (pz_sd_is np0)) ?_
    refine pz_j1 [.inr (.inl (Int64.ofNat 1)), .inr (.inl (ml p0 2)), .inr (.inr (some p0))] 31 rfl rfl rfl rfl rfl ?_
    refine pz_j1 [.inl a1, .inr (.inl (Int64.ofNat 1)), .inr (.inl (ml p0 2)), .inr (.inr (some p0))] 32 rfl rfl rfl rfl rfl ?_
    refine pz_j1 [.inr (.inl ((Int64.ofNat 1) <<< ((Int32.ofInt a1).toInt64 &&& 63))), .inr (.inl (ml p0 2)), .inr (.inr (some p0))] 33 rfl rfl rfl rfl rfl ?_
    refine pz_j1 [.inr (.inl (-1 : Int64)), .inr (.inl ((Int64.ofNat 1) <<< ((Int32.ofInt a1).toInt64 &&& 63))), .inr (.inl (ml p0 2)), .inr (.inr (some p0))] 36 rfl rfl rfl rfl rfl ?_
    refine pz_j1 [.inr (.inl (((Int64.ofNat 1) <<< ((Int32.ofInt a1).toInt64 &&& 63)) ^^^ (-1 : Int64))), .inr (.inl (ml p0 2)), .inr (.inr (some p0))] 37 rfl rfl rfl rfl rfl ?_
    refine pz_j1 [.inr (.inl ((ml p0 2) &&& (((Int64.ofNat 1) <<< ((Int32.ofInt a1).toInt64 &&& 63)) ^^^ (-1 : Int64)))), .inr (.inr (some p0))] 38 rfl rfl rfl rfl rfl ?_
    refine pz_j3 [] [(0, .inr (.inr (some p0))), (1, .inl a1)] (pz_hp n0 mi (pz_up ml p0 2 ((ml p0 2) &&& (((Int64.ofNat 1) <<< ((Int32.ofInt a1).toInt64 &&& 63)) ^^^ (-1 : Int64)))) mr c s) 41 rfl rfl rfl rfl (pz_a2 rfl (pz_a2 (pz_sd_is np0) (pz_a2 rfl rfl))) ?_
    exact pz_Rn_ret rfl rfl rfl rfl K
  · replace K := K.2 b1
    refine pz_j1 [.inr (.inr (some p0))] 7 rfl rfl rfl rfl rfl ?_
    refine pz_j1 [.inr (.inr (some p0)), .inr (.inr (some p0))] 8 rfl rfl rfl rfl rfl ?_
    refine pz_j1 [.inr (.inl (ml p0 1)), .inr (.inr (some p0))] 11 rfl rfl rfl rfl (pz_a2 rfl (pz_sd_is np0)) ?_
    refine pz_j1 [.inr (.inl (Int64.ofNat 1)), .inr (.inl (ml p0 1)), .inr (.inr (some p0))] 12 rfl rfl rfl rfl rfl ?_
    refine pz_j1 [.inl a1, .inr (.inl (Int64.ofNat 1)), .inr (.inl (ml p0 1)), .inr (.inr (some p0))] 13 rfl rfl rfl rfl rfl ?_
    refine pz_j1 [.inr (.inl ((Int64.ofNat 1) <<< ((Int32.ofInt a1).toInt64 &&& 63))), .inr (.inl (ml p0 1)), .inr (.inr (some p0))] 14 rfl rfl rfl rfl rfl ?_
    refine pz_j1 [.inr (.inl (-1 : Int64)), .inr (.inl ((Int64.ofNat 1) <<< ((Int32.ofInt a1).toInt64 &&& 63))), .inr (.inl (ml p0 1)), .inr (.inr (some p0))] 17 rfl rfl rfl rfl rfl ?_
    refine pz_j1 [.inr (.inl (((Int64.ofNat 1) <<< ((Int32.ofInt a1).toInt64 &&& 63)) ^^^ (-1 : Int64))), .inr (.inl (ml p0 1)), .inr (.inr (some p0))] 18 rfl rfl rfl rfl rfl ?_
    refine pz_j1 [.inr (.inl ((ml p0 1) &&& (((Int64.ofNat 1) <<< ((Int32.ofInt a1).toInt64 &&& 63)) ^^^ (-1 : Int64)))), .inr (.inr (some p0))] 19 rfl rfl rfl rfl rfl ?_
    refine pz_j3 [] [(0, .inr (.inr (some p0))), (1, .inl a1)] (pz_hp n0 mi (pz_up ml p0 1 ((ml p0 1) &&& (((Int64.ofNat 1) <<< ((Int32.ofInt a1).toInt64 &&& 63)) ^^^ (-1 : Int64)))) mr c s) 22 rfl rfl rfl rfl (pz_a2 rfl (pz_a2 (pz_sd_is np0) (pz_a2 rfl rfl))) ?_
    refine pz_j1 [] 41 rfl rfl rfl rfl rfl ?_
    exact pz_Rn_ret rfl rfl rfl rfl K
-- 61 RelationStream$Question.keepConditions()Z
theorem pz_g61_0   (K : pz_Rn (d + 1) 61 (2, [], [(0, .inr (.inr (some 13))), (1, .inl 0)], pz_hp n0 mi ml mr c s, true) Q) : pz_Rn (d + 1) 61 (0, [], [(0, .inr (.inr (some 13)))], pz_hp n0 mi ml mr c s, true) Q := by
  refine pz_j1 [.inl 0] 1 rfl rfl rfl rfl rfl ?_
  refine pz_j2 [] [(1, .inl 0), (0, .inr (.inr (some 13)))] 2 rfl rfl rfl rfl rfl ?_
  refine pz_Rn_sub (L := [(0, .inr (.inr (some 13))), (1, .inl 0)]) [1, 0] rfl rfl ?_
  exact K
theorem pz_g61_2 {a1 : Int}  (K : ((mi 13 11 ≤ a1 → Q (.inl (some (.inl 1))) (pz_hp n0 mi ml mr c s)) ∧ (a1 < mi 13 11 → pz_Rn d 56 (0, [], [(0, .inr (.inr (some 155)))], pz_hp n0 mi ml mr c s, true) (pz_K (d + 1) 61 14 [] [(0, .inr (.inr (some 13))), (1, .inl a1)] Q true)))) : pz_Rn (d + 1) 61 (2, [], [(0, .inr (.inr (some 13))), (1, .inl a1)], pz_hp n0 mi ml mr c s, true) Q := by
  refine pz_j1 [.inl a1] 3 rfl rfl rfl rfl rfl ?_
  refine pz_j1 [.inr (.inr (some 13)), .inl a1] 4 rfl rfl rfl rfl rfl ?_
  refine pz_j1 [.inl (mi 13 11), .inl a1] 7 rfl rfl rfl rfl (pz_a2 rfl pz_S13) ?_
  refine pz_j1 [] (bif pz_cp .ge a1 (mi 13 11) then 76 else 10) rfl rfl rfl rfl rfl ?_
  refine pz_Rn_if pz_c1_ge pz_c0_ge ⟨fun b1 => ?_, fun b1 => ?_⟩
  · replace K := K.1 b1
    refine pz_j1 [.inl 1] 77 rfl rfl rfl rfl rfl ?_
    exact pz_Rn_ret rfl rfl rfl rfl K
  · replace K := K.2 b1
    refine pz_j1 [.inr (.inr (some 13))] 11 rfl rfl rfl rfl rfl ?_
    refine pz_j1 [.inr (.inr (some 155))] 14 rfl rfl rfl rfl (pz_a2 rfl pz_S13) ?_
    exact pz_Rn_k (y := 55) rfl rfl rfl rfl rfl rfl rfl rfl (pz_cok_v rfl rfl pz_S155) K
theorem pz_g61_17 {a1 : Int} {t0 : Int}  (K : ((t0 ≠ 0 → Q (.inl (some (.inl 1))) (pz_hp n0 mi ml mr c s)) ∧ (t0 = 0 → pz_Rn d 57 (0, [], [(0, .inr (.inr (some 149))), (1, .inl a1)], pz_hp n0 mi ml mr c s, true) (pz_K (d + 1) 61 25 [] [(0, .inr (.inr (some 13))), (1, .inl a1)] Q true)))) : pz_Rn (d + 1) 61 (17, [.inl t0], [(0, .inr (.inr (some 13))), (1, .inl a1)], pz_hp n0 mi ml mr c s, true) Q := by
  refine pz_j1 [] (bif pz_cp .ne t0 0 then 76 else 20) rfl rfl rfl rfl rfl ?_
  refine pz_Rn_if pz_c1_ne pz_c0_ne ⟨fun b1 => ?_, fun b1 => ?_⟩
  · replace K := K.1 b1
    refine pz_j1 [.inl 1] 77 rfl rfl rfl rfl rfl ?_
    exact pz_Rn_ret rfl rfl rfl rfl K
  · replace K := K.2 b1
    refine pz_j1 [.inr (.inr (some 13))] 21 rfl rfl rfl rfl rfl ?_
    refine pz_j1 [.inr (.inr (some 149))] 24 rfl rfl rfl rfl (pz_a2 rfl pz_S13) ?_
    refine pz_j1 [.inl a1, .inr (.inr (some 149))] 25 rfl rfl rfl rfl rfl ?_
    exact pz_Rn_k (y := 56) rfl rfl rfl rfl rfl rfl rfl rfl (pz_cok_v rfl rfl pz_S149) K
theorem pz_g61_28 {a1 : Int} {t0 : Int}  (K : ((t0 = 0 → (-2147483648 ≤ a1 + 1 ∧ a1 + 1 ≤ 2147483647) ∧ pz_Rn (d + 1) 61 (2, [], [(0, .inr (.inr (some 13))), (1, .inl (a1 + 1))], pz_hp n0 mi ml mr c s, true) Q) ∧ (t0 ≠ 0 → (0 ≤ a1 ∧ a1 < 121) ∧ (0 ≤ a1 ∧ a1 < 121) ∧ pz_Rn d 59 (0, [], [(0, .inr (.inr (some 155))), (1, .inl (mi 146 ((a1).toNat))), (2, .inl (mi 147 ((a1).toNat)))], pz_hp n0 mi ml mr c s, true) (pz_K (d + 1) 61 47 [] [(0, .inr (.inr (some 13))), (1, .inl a1)] Q true)))) : pz_Rn (d + 1) 61 (28, [.inl t0], [(0, .inr (.inr (some 13))), (1, .inl a1)], pz_hp n0 mi ml mr c s, true) Q := by
  refine pz_j1 [] (bif pz_cp .eq t0 0 then 70 else 31) rfl rfl rfl rfl rfl ?_
  refine pz_Rn_if pz_c1_eq pz_c0_eq ⟨fun b1 => ?_, fun b1 => ?_⟩
  · replace K := K.1 b1
    obtain ⟨k2, K⟩ := K
    refine pz_j2 [] [(1, .inl (a1 + 1)), (0, .inr (.inr (some 13)))] 73 rfl rfl rfl rfl (pz_a2 (pz_ok_in k2) rfl) ?_
    refine pz_j1 [] 2 rfl rfl rfl rfl rfl ?_
    refine pz_Rn_sub (L := [(0, .inr (.inr (some 13))), (1, .inl (a1 + 1))]) [1, 0] rfl rfl ?_
    exact K
  · replace K := K.2 b1
    refine pz_j1 [.inr (.inr (some 13))] 32 rfl rfl rfl rfl rfl ?_
    refine pz_j1 [.inr (.inr (some 155))] 35 rfl rfl rfl rfl (pz_a2 rfl pz_S13) ?_
    refine pz_j1 [.inr (.inr (some 13)), .inr (.inr (some 155))] 36 rfl rfl rfl rfl rfl ?_
    refine pz_j1 [.inr (.inr (some 146)), .inr (.inr (some 155))] 39 rfl rfl rfl rfl (pz_a2 rfl pz_S13) ?_
    refine pz_j1 [.inl a1, .inr (.inr (some 146)), .inr (.inr (some 155))] 40 rfl rfl rfl rfl rfl ?_
    obtain ⟨k3, K⟩ := K
    refine pz_j1 [.inl (mi 146 ((a1).toNat)), .inr (.inr (some 155))] 41 rfl rfl rfl rfl (pz_a2 rfl (pz_ok_ixs pz_S146 k3)) ?_
    refine pz_j1 [.inr (.inr (some 13)), .inl (mi 146 ((a1).toNat)), .inr (.inr (some 155))] 42 rfl rfl rfl rfl rfl ?_
    refine pz_j1 [.inr (.inr (some 147)), .inl (mi 146 ((a1).toNat)), .inr (.inr (some 155))] 45 rfl rfl rfl rfl (pz_a2 rfl pz_S13) ?_
    refine pz_j1 [.inl a1, .inr (.inr (some 147)), .inl (mi 146 ((a1).toNat)), .inr (.inr (some 155))] 46 rfl rfl rfl rfl rfl ?_
    obtain ⟨k4, K⟩ := K
    refine pz_j1 [.inl (mi 147 ((a1).toNat)), .inl (mi 146 ((a1).toNat)), .inr (.inr (some 155))] 47 rfl rfl rfl rfl (pz_a2 rfl (pz_ok_ixs pz_S147 k4)) ?_
    exact pz_Rn_k (y := 58) rfl rfl rfl rfl rfl rfl rfl rfl (pz_cok_v rfl rfl pz_S155) K
theorem pz_g61_50 {a1 : Int} {t0 : Int}  (K : ((t0 ≠ 0 → ((t0 ≠ 1 → (-2147483648 ≤ a1 + 1 ∧ a1 + 1 ≤ 2147483647) ∧ pz_Rn (d + 1) 61 (2, [], [(0, .inr (.inr (some 13))), (1, .inl (a1 + 1))], pz_hp n0 mi ml mr c s, true) Q) ∧ (t0 = 1 → pz_Rn d 60 (0, [], [(0, .inr (.inr (some 149))), (1, .inl a1)], pz_hp n0 mi ml mr c s, true) (pz_K (d + 1) 61 67 [] [(0, .inr (.inr (some 13))), (1, .inl a1)] Q true)))) ∧ (t0 = 0 → Q (.inl (some (.inl 0))) (pz_hp n0 mi ml mr c s)))) : pz_Rn (d + 1) 61 (50, [.inl t0], [(0, .inr (.inr (some 13))), (1, .inl a1)], pz_hp n0 mi ml mr c s, true) Q := by
  refine pz_j2 [] [(2, .inl t0), (0, .inr (.inr (some 13))), (1, .inl a1)] 51 rfl rfl rfl rfl rfl ?_
  refine pz_j1 [.inl t0] 52 rfl rfl rfl rfl rfl ?_
  refine pz_j1 [] (bif pz_cp .ne t0 0 then 57 else 55) rfl rfl rfl rfl rfl ?_
  refine pz_Rn_if pz_c1_ne pz_c0_ne ⟨fun b1 => ?_, fun b1 => ?_⟩
  · replace K := K.1 b1
    refine pz_j1 [.inl t0] 58 rfl rfl rfl rfl rfl ?_
    refine pz_j1 [.inl 1, .inl t0] 59 rfl rfl rfl rfl rfl ?_
    refine pz_j1 [] (bif pz_cp .ne t0 1 then 70 else 62) rfl rfl rfl rfl rfl ?_
    refine pz_Rn_if pz_c1_ne pz_c0_ne ⟨fun b2 => ?_, fun b2 => ?_⟩
    · replace K := K.1 b2
      obtain ⟨k3, K⟩ := K
      refine pz_j2 [] [(1, .inl (a1 + 1)), (2, .inl t0), (0, .inr (.inr (some 13)))] 73 rfl rfl rfl rfl (pz_a2 (pz_ok_in k3) rfl) ?_
      refine pz_j1 [] 2 rfl rfl rfl rfl rfl ?_
      refine pz_Rn_sub (L := [(0, .inr (.inr (some 13))), (1, .inl (a1 + 1))]) [2, 0] rfl rfl ?_
      exact K
    · replace K := K.2 b2
      refine pz_j1 [.inr (.inr (some 13))] 63 rfl rfl rfl rfl rfl ?_
      refine pz_j1 [.inr (.inr (some 149))] 66 rfl rfl rfl rfl (pz_a2 rfl pz_S13) ?_
      refine pz_j1 [.inl a1, .inr (.inr (some 149))] 67 rfl rfl rfl rfl rfl ?_
      refine pz_Rn_sub (L := [(0, .inr (.inr (some 13))), (1, .inl a1)]) [1, 2] rfl rfl ?_
      exact pz_Rn_k (y := 59) rfl rfl rfl rfl rfl rfl rfl rfl (pz_cok_v rfl rfl pz_S149) K
  · replace K := K.2 b1
    refine pz_j1 [.inl 0] 56 rfl rfl rfl rfl rfl ?_
    exact pz_Rn_ret rfl rfl rfl rfl K
theorem pz_g61_70 {a1 : Int}  (K : (-2147483648 ≤ a1 + 1 ∧ a1 + 1 ≤ 2147483647) ∧ pz_Rn (d + 1) 61 (2, [], [(0, .inr (.inr (some 13))), (1, .inl (a1 + 1))], pz_hp n0 mi ml mr c s, true) Q) : pz_Rn (d + 1) 61 (70, [], [(0, .inr (.inr (some 13))), (1, .inl a1)], pz_hp n0 mi ml mr c s, true) Q := by
  obtain ⟨k1, K⟩ := K
  refine pz_j2 [] [(1, .inl (a1 + 1)), (0, .inr (.inr (some 13)))] 73 rfl rfl rfl rfl (pz_a2 (pz_ok_in k1) rfl) ?_
  refine pz_j1 [] 2 rfl rfl rfl rfl rfl ?_
  refine pz_Rn_sub (L := [(0, .inr (.inr (some 13))), (1, .inl (a1 + 1))]) [1, 0] rfl rfl ?_
  exact K
-- 62 RelationStream$State.addCondition(I)V
theorem pz_g62_0 {p0 : Nat} {a1 : Int} (np0 : pz_sd p0) (K : ((64 ≤ a1 → Q (.inl none) (pz_hp n0 mi (pz_up ml p0 2 ((ml p0 2) ||| ((Int64.ofNat 1) <<< ((Int32.ofInt a1).toInt64 &&& 63)))) mr c s)) ∧ (a1 < 64 → Q (.inl none) (pz_hp n0 mi (pz_up ml p0 1 ((ml p0 1) ||| ((Int64.ofNat 1) <<< ((Int32.ofInt a1).toInt64 &&& 63)))) mr c s)))) : pz_Rn d 62 (0, [], [(0, .inr (.inr (some p0))), (1, .inl a1)], pz_hp n0 mi ml mr c s, true) Q := by
  refine pz_j1 [.inl a1] 1 rfl rfl rfl rfl rfl ?_
  refine pz_j1 [.inl 64, .inl a1] 3 rfl rfl rfl rfl rfl ?_
  refine pz_j1 [] (bif pz_cp .ge a1 64 then 21 else 6) rfl rfl rfl rfl rfl ?_
  refine pz_Rn_if pz_c1_ge pz_c0_ge ⟨fun b1 => ?_, fun b1 => ?_⟩
  · replace K := K.1 b1
    refine pz_j1 [.inr (.inr (some p0))] 22 rfl rfl rfl rfl rfl ?_
    refine pz_j1 [.inr (.inr (some p0)), .inr (.inr (some p0))] 23 rfl rfl rfl rfl rfl ?_
    refine pz_j1 [.inr (.inl (ml p0 2)), .inr (.inr (some p0))] 26 rfl rfl rfl rfl (pz_a2 rfl (pz_sd_is np0)) ?_
    refine pz_j1 [.inr (.inl (Int64.ofNat 1)), .inr (.inl (ml p0 2)), .inr (.inr (some p0))] 27 rfl rfl rfl rfl rfl ?_
    refine pz_j1 [.inl a1, .inr (.inl (Int64.ofNat 1)), .inr (.inl (ml p0 2)), .inr (.inr (some p0))] 28 rfl rfl rfl rfl rfl ?_
    refine pz_j1 [.inr (.inl ((Int64.ofNat 1) <<< ((Int32.ofInt a1).toInt64 &&& 63))), .inr (.inl (ml p0 2)), .inr (.inr (some p0))] 29 rfl rfl rfl rfl rfl ?_
    refine pz_j1 [.inr (.inl ((ml p0 2) ||| ((Int64.ofNat 1) <<< ((Int32.ofInt a1).toInt64 &&& 63)))), .inr (.inr (some p0))] 30 rfl rfl rfl rfl rfl ?_
    refine pz_j3 [] [(0, .inr (.inr (some p0))), (1, .inl a1)] (pz_hp n0 mi (pz_up ml p0 2 ((ml p0 2) ||| ((Int64.ofNat 1) <<< ((Int32.ofInt a1).toInt64 &&& 63)))) mr c s) 33 rfl rfl rfl rfl (pz_a2 rfl (pz_a2 (pz_sd_is np0) (pz_a2 rfl rfl))) ?_
    exact pz_Rn_ret rfl rfl rfl rfl K
  · replace K := K.2 b1
    refine pz_j1 [.inr (.inr (some p0))] 7 rfl rfl rfl rfl rfl ?_
    refine pz_j1 [.inr (.inr (some p0)), .inr (.inr (some p0))] 8 rfl rfl rfl rfl rfl ?_
    refine pz_j1 [.inr (.inl (ml p0 1)), .inr (.inr (some p0))] 11 rfl rfl rfl rfl (pz_a2 rfl (pz_sd_is np0)) ?_
    refine pz_j1 [.inr (.inl (Int64.ofNat 1)), .inr (.inl (ml p0 1)), .inr (.inr (some p0))] 12 rfl rfl rfl rfl rfl ?_
    refine pz_j1 [.inl a1, .inr (.inl (Int64.ofNat 1)), .inr (.inl (ml p0 1)), .inr (.inr (some p0))] 13 rfl rfl rfl rfl rfl ?_
    refine pz_j1 [.inr (.inl ((Int64.ofNat 1) <<< ((Int32.ofInt a1).toInt64 &&& 63))), .inr (.inl (ml p0 1)), .inr (.inr (some p0))] 14 rfl rfl rfl rfl rfl ?_
    refine pz_j1 [.inr (.inl ((ml p0 1) ||| ((Int64.ofNat 1) <<< ((Int32.ofInt a1).toInt64 &&& 63)))), .inr (.inr (some p0))] 15 rfl rfl rfl rfl rfl ?_
    refine pz_j3 [] [(0, .inr (.inr (some p0))), (1, .inl a1)] (pz_hp n0 mi (pz_up ml p0 1 ((ml p0 1) ||| ((Int64.ofNat 1) <<< ((Int32.ofInt a1).toInt64 &&& 63)))) mr c s) 18 rfl rfl rfl rfl (pz_a2 rfl (pz_a2 (pz_sd_is np0) (pz_a2 rfl rfl))) ?_
    refine pz_j1 [] 33 rfl rfl rfl rfl rfl ?_
    exact pz_Rn_ret rfl rfl rfl rfl K
-- 63 RelationStream$Question.setApart(LRelationStream$Node;)Z
theorem pz_g63_0 {a1 : Option Nat}  (K : ∃ q1, a1 = some q1 ∧ pz_nd q1 ∧ (0 ≤ mi q1 3 ∧ mi q1 3 < 40) ∧ pz_Rn d 44 (0, [], [(0, .inl (mi q1 4)), (1, .inl (mi 8 ((mi q1 3).toNat)))], pz_hp n0 mi ml mr c s, true) (pz_K (d + 1) 63 16 [] [(0, .inr (.inr (some 13))), (1, .inr (.inr (some q1)))] Q true)) : pz_Rn (d + 1) 63 (0, [], [(0, .inr (.inr (some 13))), (1, .inr (.inr a1))], pz_hp n0 mi ml mr c s, true) Q := by
  refine pz_j1 [.inr (.inr a1)] 1 rfl rfl rfl rfl rfl ?_
  obtain ⟨q1, eq1, nq1, K⟩ := K
  rewrite [eq1]
  refine pz_j1 [.inl (mi q1 4)] 4 rfl rfl rfl rfl (pz_a2 rfl (pz_nd_is nq1)) ?_
  refine pz_j1 [.inr (.inr (some 13)), .inl (mi q1 4)] 5 rfl rfl rfl rfl rfl ?_
  refine pz_j1 [.inr (.inr (some 6)), .inl (mi q1 4)] 8 rfl rfl rfl rfl (pz_a2 rfl pz_S13) ?_
  refine pz_j1 [.inr (.inr (some 8)), .inl (mi q1 4)] 11 rfl rfl rfl rfl (pz_a2 rfl pz_S6) ?_
  refine pz_j1 [.inr (.inr (some q1)), .inr (.inr (some 8)), .inl (mi q1 4)] 12 rfl rfl rfl rfl rfl ?_
  refine pz_j1 [.inl (mi q1 3), .inr (.inr (some 8)), .inl (mi q1 4)] 15 rfl rfl rfl rfl (pz_a2 rfl (pz_nd_is nq1)) ?_
  obtain ⟨k2, K⟩ := K
  refine pz_j1 [.inl (mi 8 ((mi q1 3).toNat)), .inl (mi q1 4)] 16 rfl rfl rfl rfl (pz_a2 rfl (pz_ok_ixs pz_S8 k2)) ?_
  exact pz_Rn_k (y := 43) rfl rfl rfl rfl rfl rfl rfl rfl rfl K
theorem pz_g63_19 {a1 : Option Nat} {t0 : Int}  (K : ∃ q1, a1 = some q1 ∧ pz_nd q1 ∧ (0 ≤ mi q1 3 ∧ mi q1 3 < 40) ∧ pz_Rn d 44 (0, [], [(0, .inl (mi q1 4)), (1, .inl (mi 9 ((mi q1 3).toNat)))], pz_hp n0 mi ml mr c s, true) (pz_K (d + 1) 63 36 [] [(0, .inr (.inr (some 13))), (1, .inr (.inr (some q1))), (2, .inl t0)] Q true)) : pz_Rn (d + 1) 63 (19, [.inl t0], [(0, .inr (.inr (some 13))), (1, .inr (.inr a1))], pz_hp n0 mi ml mr c s, true) Q := by
  refine pz_j2 [] [(2, .inl t0), (0, .inr (.inr (some 13))), (1, .inr (.inr a1))] 20 rfl rfl rfl rfl rfl ?_
  refine pz_j1 [.inr (.inr a1)] 21 rfl rfl rfl rfl rfl ?_
  obtain ⟨q1, eq1, nq1, K⟩ := K
  rewrite [eq1]
  refine pz_j1 [.inl (mi q1 4)] 24 rfl rfl rfl rfl (pz_a2 rfl (pz_nd_is nq1)) ?_
  refine pz_j1 [.inr (.inr (some 13)), .inl (mi q1 4)] 25 rfl rfl rfl rfl rfl ?_
  refine pz_j1 [.inr (.inr (some 6)), .inl (mi q1 4)] 28 rfl rfl rfl rfl (pz_a2 rfl pz_S13) ?_
  refine pz_j1 [.inr (.inr (some 9)), .inl (mi q1 4)] 31 rfl rfl rfl rfl (pz_a2 rfl pz_S6) ?_
  refine pz_j1 [.inr (.inr (some q1)), .inr (.inr (some 9)), .inl (mi q1 4)] 32 rfl rfl rfl rfl rfl ?_
  refine pz_j1 [.inl (mi q1 3), .inr (.inr (some 9)), .inl (mi q1 4)] 35 rfl rfl rfl rfl (pz_a2 rfl (pz_nd_is nq1)) ?_
  obtain ⟨k2, K⟩ := K
  refine pz_j1 [.inl (mi 9 ((mi q1 3).toNat)), .inl (mi q1 4)] 36 rfl rfl rfl rfl (pz_a2 rfl (pz_ok_ixs pz_S9 k2)) ?_
  refine pz_Rn_sub (L := [(0, .inr (.inr (some 13))), (1, .inr (.inr (some q1))), (2, .inl t0)]) [1, 2, 0] rfl rfl ?_
  exact pz_Rn_k (y := 43) rfl rfl rfl rfl rfl rfl rfl rfl rfl K
theorem pz_g63_39 {a1 : Option Nat} {a2 : Int} {t0 : Int}  (K : ∃ q1, a1 = some q1 ∧ pz_nd q1 ∧ pz_Rn d 33 (0, [], [(0, .inr (.inr (some 149))), (1, .inr (.inr (some (q1 + 1))))], pz_hp n0 mi ml mr c s, true) (pz_K (d + 1) 63 48 [] [(0, .inr (.inr (some 13))), (1, .inr (.inr (some q1))), (2, .inl a2), (3, .inl t0)] Q true)) : pz_Rn (d + 1) 63 (39, [.inl t0], [(0, .inr (.inr (some 13))), (1, .inr (.inr a1)), (2, .inl a2)], pz_hp n0 mi ml mr c s, true) Q := by
  refine pz_j2 [] [(3, .inl t0), (0, .inr (.inr (some 13))), (1, .inr (.inr a1)), (2, .inl a2)] 40 rfl rfl rfl rfl rfl ?_
  refine pz_j1 [.inr (.inr (some 13))] 41 rfl rfl rfl rfl rfl ?_
  refine pz_j1 [.inr (.inr (some 149))] 44 rfl rfl rfl rfl (pz_a2 rfl pz_S13) ?_
  refine pz_j1 [.inr (.inr a1), .inr (.inr (some 149))] 45 rfl rfl rfl rfl rfl ?_
  obtain ⟨q1, eq1, nq1, K⟩ := K
  rewrite [eq1]
  refine pz_j1 [.inr (.inr (pz_ov mr q1 5)), .inr (.inr (some 149))] 48 rfl rfl rfl rfl (pz_a2 rfl (pz_nd_is nq1)) ?_
  rewrite [pz_ov_n5 nq1]
  refine pz_Rn_sub (L := [(0, .inr (.inr (some 13))), (1, .inr (.inr (some q1))), (2, .inl a2), (3, .inl t0)]) [1, 2, 3, 0] rfl rfl ?_
  exact pz_Rn_k (y := 32) rfl rfl rfl rfl rfl rfl rfl rfl (pz_cok_v rfl rfl pz_S149) K
theorem pz_g63_51 {a1 : Option Nat} {a2 : Int} {a3 : Int}  (K : ∃ q1, a1 = some q1 ∧ pz_nd q1 ∧ pz_Rn d 47 (0, [], [(0, .inr (.inr (some 150))), (1, .inl (mi (q1 + 1) 0))], pz_hp n0 mi ml mr c s, true) (pz_K (d + 1) 63 62 [] [(0, .inr (.inr (some 13))), (2, .inl a2), (3, .inl a3)] Q true)) : pz_Rn (d + 1) 63 (51, [], [(0, .inr (.inr (some 13))), (1, .inr (.inr a1)), (2, .inl a2), (3, .inl a3)], pz_hp n0 mi ml mr c s, true) Q := by
  refine pz_j1 [.inr (.inr (some 13))] 52 rfl rfl rfl rfl rfl ?_
  refine pz_j1 [.inr (.inr (some 150))] 55 rfl rfl rfl rfl (pz_a2 rfl pz_S13) ?_
  refine pz_j1 [.inr (.inr a1), .inr (.inr (some 150))] 56 rfl rfl rfl rfl rfl ?_
  obtain ⟨q1, eq1, nq1, K⟩ := K
  rewrite [eq1]
  refine pz_j1 [.inr (.inr (pz_ov mr q1 5)), .inr (.inr (some 150))] 59 rfl rfl rfl rfl (pz_a2 rfl (pz_nd_is nq1)) ?_
  rewrite [pz_ov_n5 nq1]
  refine pz_j1 [.inl (mi (q1 + 1) 0), .inr (.inr (some 150))] 62 rfl rfl rfl rfl (pz_a2 rfl (pz_sd_is (pz_nd_sd nq1))) ?_
  refine pz_Rn_sub (L := [(0, .inr (.inr (some 13))), (2, .inl a2), (3, .inl a3)]) [0, 2, 3] rfl rfl ?_
  exact pz_Rn_k (y := 46) rfl rfl rfl rfl rfl rfl rfl rfl (pz_cok_v rfl rfl pz_S150) K
theorem pz_g63_65 {a2 : Int} {a3 : Int}  (K : pz_Rn d 59 (0, [], [(0, .inr (.inr (some 155))), (1, .inl a2), (2, .inl a3)], pz_hp n0 mi ml mr c s, true) (pz_K (d + 1) 63 71 [] [(0, .inr (.inr (some 13))), (2, .inl a2), (3, .inl a3)] Q true)) : pz_Rn (d + 1) 63 (65, [], [(0, .inr (.inr (some 13))), (2, .inl a2), (3, .inl a3)], pz_hp n0 mi ml mr c s, true) Q := by
  refine pz_j1 [.inr (.inr (some 13))] 66 rfl rfl rfl rfl rfl ?_
  refine pz_j1 [.inr (.inr (some 155))] 69 rfl rfl rfl rfl (pz_a2 rfl pz_S13) ?_
  refine pz_j1 [.inl a2, .inr (.inr (some 155))] 70 rfl rfl rfl rfl rfl ?_
  refine pz_j1 [.inl a3, .inl a2, .inr (.inr (some 155))] 71 rfl rfl rfl rfl rfl ?_
  exact pz_Rn_k (y := 58) rfl rfl rfl rfl rfl rfl rfl rfl (pz_cok_v rfl rfl pz_S155) K
theorem pz_g63_74 {a2 : Int} {a3 : Int} {t0 : Int}  (K : ((t0 ≠ 2 → ((t0 = 0 → Q (.inl (some (.inl 0))) (pz_hp n0 mi ml mr c s)) ∧ (t0 ≠ 0 → Q (.inl (some (.inl 1))) (pz_hp n0 mi ml mr c s)))) ∧ (t0 = 2 → ((120 < mi 13 11 → Q (.inl (some (.inl 1))) (pz_hp n0 mi ml mr c s)) ∧ (mi 13 11 ≤ 120 → (0 ≤ mi 13 11 ∧ mi 13 11 < 121) ∧ (0 ≤ mi 13 11 ∧ mi 13 11 < 121) ∧ pz_Rn d 62 (0, [], [(0, .inr (.inr (some 149))), (1, .inl (mi 13 11))], pz_hp n0 (pz_up (pz_up mi 146 ((mi 13 11).toNat) a2) 147 ((mi 13 11).toNat) a3) ml mr c s, true) (pz_K (d + 1) 63 119 [] [(0, .inr (.inr (some 13))), (4, .inl t0)] Q true)))))) : pz_Rn (d + 1) 63 (74, [.inl t0], [(0, .inr (.inr (some 13))), (2, .inl a2), (3, .inl a3)], pz_hp n0 mi ml mr c s, true) Q := by
  refine pz_j2 [] [(4, .inl t0), (0, .inr (.inr (some 13))), (2, .inl a2), (3, .inl a3)] 76 rfl rfl rfl rfl rfl ?_
  refine pz_j1 [.inl t0] 78 rfl rfl rfl rfl rfl ?_
  refine pz_j1 [.inl 2, .inl t0] 79 rfl rfl rfl rfl rfl ?_
  refine pz_j1 [] (bif pz_cp .ne t0 2 then 132 else 82) rfl rfl rfl rfl rfl ?_
  refine pz_Rn_if pz_c1_ne pz_c0_ne ⟨fun b1 => ?_, fun b1 => ?_⟩
  · replace K := K.1 b1
    refine pz_j1 [.inl t0] 134 rfl rfl rfl rfl rfl ?_
    refine pz_j1 [] (bif pz_cp .eq t0 0 then 141 else 137) rfl rfl rfl rfl rfl ?_
    refine pz_Rn_if pz_c1_eq pz_c0_eq ⟨fun b2 => ?_, fun b2 => ?_⟩
    · replace K := K.1 b2
      refine pz_j1 [.inl 0] 142 rfl rfl rfl rfl rfl ?_
      exact pz_Rn_ret rfl rfl rfl rfl K
    · replace K := K.2 b2
      refine pz_j1 [.inl 1] 138 rfl rfl rfl rfl rfl ?_
      refine pz_j1 [.inl 1] 142 rfl rfl rfl rfl rfl ?_
      exact pz_Rn_ret rfl rfl rfl rfl K
  · replace K := K.2 b1
    refine pz_j1 [.inr (.inr (some 13))] 83 rfl rfl rfl rfl rfl ?_
    refine pz_j1 [.inl (mi 13 11)] 86 rfl rfl rfl rfl (pz_a2 rfl pz_S13) ?_
    refine pz_j1 [.inl 120, .inl (mi 13 11)] 88 rfl rfl rfl rfl rfl ?_
    refine pz_j1 [] (bif pz_cp .gt (mi 13 11) 120 then 132 else 91) rfl rfl rfl rfl rfl ?_
    refine pz_Rn_if pz_c1_gt pz_c0_gt ⟨fun b3 => ?_, fun b3 => ?_⟩
    · replace K := K.1 b3
      refine pz_j1 [.inl t0] 134 rfl rfl rfl rfl rfl ?_
      refine pz_j1 [] (bif pz_cp .eq t0 0 then 141 else 137) rfl rfl rfl rfl rfl ?_
      refine pz_Rn_if pz_c1_eq pz_c0_eq ⟨fun b4 => absurd b4 (by omega), fun _ => ?_⟩
      refine pz_j1 [.inl 1] 138 rfl rfl rfl rfl rfl ?_
      refine pz_j1 [.inl 1] 142 rfl rfl rfl rfl rfl ?_
      exact pz_Rn_ret rfl rfl rfl rfl K
    · replace K := K.2 b3
      refine pz_j1 [.inr (.inr (some 13))] 92 rfl rfl rfl rfl rfl ?_
      refine pz_j1 [.inr (.inr (some 146))] 95 rfl rfl rfl rfl (pz_a2 rfl pz_S13) ?_
      refine pz_j1 [.inr (.inr (some 13)), .inr (.inr (some 146))] 96 rfl rfl rfl rfl rfl ?_
      refine pz_j1 [.inl (mi 13 11), .inr (.inr (some 146))] 99 rfl rfl rfl rfl (pz_a2 rfl pz_S13) ?_
      refine pz_j1 [.inl a2, .inl (mi 13 11), .inr (.inr (some 146))] 100 rfl rfl rfl rfl rfl ?_
      obtain ⟨k5, K⟩ := K
      refine pz_j3 [] [(4, .inl t0), (0, .inr (.inr (some 13))), (2, .inl a2), (3, .inl a3)] (pz_hp n0 (pz_up mi 146 ((mi 13 11).toNat) a2) ml mr c s) 101 rfl rfl rfl rfl (pz_a2 rfl (pz_ok_ix pz_S146 k5)) ?_
      refine pz_j1 [.inr (.inr (some 13))] 102 rfl rfl rfl rfl rfl ?_
      refine pz_j1 [.inr (.inr (some 147))] 105 rfl rfl rfl rfl (pz_a2 rfl pz_S13) ?_
      refine pz_j1 [.inr (.inr (some 13)), .inr (.inr (some 147))] 106 rfl rfl rfl rfl rfl ?_
      refine pz_j1 [.inl (mi 13 11), .inr (.inr (some 147))] 109 rfl rfl rfl rfl (pz_a2 rfl pz_S13) ?_
      refine pz_j1 [.inl a3, .inl (mi 13 11), .inr (.inr (some 147))] 110 rfl rfl rfl rfl rfl ?_
      obtain ⟨k6, K⟩ := K
      refine pz_j3 [] [(4, .inl t0), (0, .inr (.inr (some 13))), (2, .inl a2), (3, .inl a3)] (pz_hp n0 (pz_up (pz_up mi 146 ((mi 13 11).toNat) a2) 147 ((mi 13 11).toNat) a3) ml mr c s) 111 rfl rfl rfl rfl (pz_a2 rfl (pz_ok_ix pz_S147 k6)) ?_
      refine pz_j1 [.inr (.inr (some 13))] 112 rfl rfl rfl rfl rfl ?_
      refine pz_j1 [.inr (.inr (some 149))] 115 rfl rfl rfl rfl (pz_a2 rfl pz_S13) ?_
      refine pz_j1 [.inr (.inr (some 13)), .inr (.inr (some 149))] 116 rfl rfl rfl rfl rfl ?_
      refine pz_j1 [.inl (mi 13 11), .inr (.inr (some 149))] 119 rfl rfl rfl rfl (pz_a2 rfl pz_S13) ?_
      refine pz_Rn_sub (L := [(0, .inr (.inr (some 13))), (4, .inl t0)]) [1, 0] rfl rfl ?_
      exact pz_Rn_k (y := 61) rfl rfl rfl rfl rfl rfl rfl rfl (pz_cok_v rfl rfl pz_S149) K
theorem pz_g63_122 {a4 : Int}  (K : (-2147483648 ≤ (mi 13 11) + 1 ∧ (mi 13 11) + 1 ≤ 2147483647) ∧ ((a4 = 0 → Q (.inl (some (.inl 0))) (pz_hp n0 (pz_up mi 13 11 ((mi 13 11) + 1)) ml mr c s)) ∧ (a4 ≠ 0 → Q (.inl (some (.inl 1))) (pz_hp n0 (pz_up mi 13 11 ((mi 13 11) + 1)) ml mr c s)))) : pz_Rn (d + 1) 63 (122, [], [(0, .inr (.inr (some 13))), (4, .inl a4)], pz_hp n0 mi ml mr c s, true) Q := by
  refine pz_j1 [.inr (.inr (some 13))] 123 rfl rfl rfl rfl rfl ?_
  refine pz_j1 [.inr (.inr (some 13)), .inr (.inr (some 13))] 124 rfl rfl rfl rfl rfl ?_
  refine pz_j1 [.inl (mi 13 11), .inr (.inr (some 13))] 127 rfl rfl rfl rfl (pz_a2 rfl pz_S13) ?_
  refine pz_j1 [.inl 1, .inl (mi 13 11), .inr (.inr (some 13))] 128 rfl rfl rfl rfl rfl ?_
  obtain ⟨k1, K⟩ := K
  refine pz_j1 [.inl ((mi 13 11) + 1), .inr (.inr (some 13))] 129 rfl rfl rfl rfl (pz_ok_in k1) ?_
  refine pz_j3 [] [(0, .inr (.inr (some 13))), (4, .inl a4)] (pz_hp n0 (pz_up mi 13 11 ((mi 13 11) + 1)) ml mr c s) 132 rfl rfl rfl rfl (pz_a2 rfl (pz_a2 pz_S13 (pz_a2 rfl rfl))) ?_
  refine pz_j1 [.inl a4] 134 rfl rfl rfl rfl rfl ?_
  refine pz_j1 [] (bif pz_cp .eq a4 0 then 141 else 137) rfl rfl rfl rfl rfl ?_
  refine pz_Rn_if pz_c1_eq pz_c0_eq ⟨fun b2 => ?_, fun b2 => ?_⟩
  · replace K := K.1 b2
    refine pz_j1 [.inl 0] 142 rfl rfl rfl rfl rfl ?_
    exact pz_Rn_ret rfl rfl rfl rfl K
  · replace K := K.2 b2
    refine pz_j1 [.inl 1] 138 rfl rfl rfl rfl rfl ?_
    refine pz_j1 [.inl 1] 142 rfl rfl rfl rfl rfl ?_
    exact pz_Rn_ret rfl rfl rfl rfl K
-- 64 RelationStream$Question.stepTask(LRelationStream$Node;)LRelationStream$Node;
theorem pz_g64_0 {a1 : Option Nat}  (K : ∃ q1, a1 = some q1 ∧ pz_nd q1 ∧ (0 ≤ mi q1 3 ∧ mi q1 3 < 40) ∧ ∀ x3 : Int, x3 = mi 7 ((mi q1 3).toNat) → ((x3 = 0 → pz_Rn d 55 (0, [], [(0, .inr (.inr (some 13))), (1, .inr (.inr (some q1)))], pz_hp n0 mi ml mr c s, true) (pz_K (d + 1) 64 69 [.inr (.inr (some 13))] [(0, .inr (.inr (some 13))), (1, .inr (.inr (some q1)))] Q true)) ∧ (x3 = 1 → pz_Rn d 63 (0, [], [(0, .inr (.inr (some 13))), (1, .inr (.inr (some q1)))], pz_hp n0 mi ml mr c s, true) (pz_K (d + 1) 64 96 [.inr (.inr (some 13))] [(0, .inr (.inr (some 13))), (1, .inr (.inr (some q1)))] Q true)) ∧ (x3 = 2 → pz_Rn d 42 (0, [], [(0, .inr (.inr (some 13))), (1, .inr (.inr (some q1)))], pz_hp n0 mi ml mr c s, true) (pz_K (d + 1) 64 56 [] [] Q true)) ∧ (x3 = 3 → pz_Rn d 41 (0, [], [(0, .inr (.inr (some 13))), (1, .inr (.inr (some q1)))], pz_hp n0 mi ml mr c s, true) (pz_K (d + 1) 64 50 [] [] Q true)) ∧ (x3 = 4 → pz_Rn d 46 (0, [], [(0, .inr (.inr (some 13))), (1, .inr (.inr (some q1)))], pz_hp n0 mi ml mr c s, true) (pz_K (d + 1) 64 62 [] [] Q true)) ∧ (x3 < 0 ∨ 4 < x3 → pz_Rn d 63 (0, [], [(0, .inr (.inr (some 13))), (1, .inr (.inr (some q1)))], pz_hp n0 mi ml mr c s, true) (pz_K (d + 1) 64 96 [.inr (.inr (some 13))] [(0, .inr (.inr (some 13))), (1, .inr (.inr (some q1)))] Q true)))) : pz_Rn (d + 1) 64 (0, [], [(0, .inr (.inr (some 13))), (1, .inr (.inr a1))], pz_hp n0 mi ml mr c s, true) Q := by
  refine pz_j1 [.inr (.inr (some 13))] 1 rfl rfl rfl rfl rfl ?_
  refine pz_j1 [.inr (.inr (some 6))] 4 rfl rfl rfl rfl (pz_a2 rfl pz_S13) ?_
  refine pz_j1 [.inr (.inr (some 7))] 7 rfl rfl rfl rfl (pz_a2 rfl pz_S6) ?_
  refine pz_j1 [.inr (.inr a1), .inr (.inr (some 7))] 8 rfl rfl rfl rfl rfl ?_
  obtain ⟨q1, eq1, nq1, K⟩ := K
  rewrite [eq1]
  refine pz_j1 [.inl (mi q1 3), .inr (.inr (some 7))] 11 rfl rfl rfl rfl (pz_a2 rfl (pz_nd_is nq1)) ?_
  obtain ⟨k2, K⟩ := K
  refine pz_j1 [.inl (mi 7 ((mi q1 3).toNat))] 12 rfl rfl rfl rfl (pz_a2 rfl (pz_ok_ixs pz_S7 k2)) ?_
  obtain ⟨x3, hx3⟩ : ∃ x : Int, x = mi 7 ((mi q1 3).toNat) := ⟨_, rfl⟩
  rewrite [← hx3]
  replace K := K x3 hx3
  by_cases b4 : x3 = 0
  · replace K := K.1 b4
    refine pz_j_sw b4 ?_
    refine pz_j1 [] 66 rfl rfl rfl rfl rfl ?_
    refine pz_j1 [.inr (.inr (some 13))] 67 rfl rfl rfl rfl rfl ?_
    refine pz_j1 [.inr (.inr (some 13)), .inr (.inr (some 13))] 68 rfl rfl rfl rfl rfl ?_
    refine pz_j1 [.inr (.inr (some q1)), .inr (.inr (some 13)), .inr (.inr (some 13))] 69 rfl rfl rfl rfl rfl ?_
    exact pz_Rn_k (y := 54) rfl rfl rfl rfl rfl rfl rfl rfl (pz_cok_v rfl rfl pz_S13) K
  by_cases b5 : x3 = 1
  · replace K := K.2.1 b5
    refine pz_j_sw b5 ?_
    refine pz_j1 [] 93 rfl rfl rfl rfl rfl ?_
    refine pz_j1 [.inr (.inr (some 13))] 94 rfl rfl rfl rfl rfl ?_
    refine pz_j1 [.inr (.inr (some 13)), .inr (.inr (some 13))] 95 rfl rfl rfl rfl rfl ?_
    refine pz_j1 [.inr (.inr (some q1)), .inr (.inr (some 13)), .inr (.inr (some 13))] 96 rfl rfl rfl rfl rfl ?_
    exact pz_Rn_k (y := 62) rfl rfl rfl rfl rfl rfl rfl rfl (pz_cok_v rfl rfl pz_S13) K
  by_cases b6 : x3 = 2
  · replace K := K.2.2.1 b6
    refine pz_j_sw b6 ?_
    refine pz_j1 [] 54 rfl rfl rfl rfl rfl ?_
    refine pz_j1 [.inr (.inr (some 13))] 55 rfl rfl rfl rfl rfl ?_
    refine pz_j1 [.inr (.inr (some q1)), .inr (.inr (some 13))] 56 rfl rfl rfl rfl rfl ?_
    refine pz_Rn_sub (L := []) [] rfl rfl ?_
    exact pz_Rn_k (y := 41) rfl rfl rfl rfl rfl rfl rfl rfl (pz_cok_v rfl rfl pz_S13) K
  by_cases b7 : x3 = 3
  · replace K := K.2.2.2.1 b7
    refine pz_j_sw b7 ?_
    refine pz_j1 [] 48 rfl rfl rfl rfl rfl ?_
    refine pz_j1 [.inr (.inr (some 13))] 49 rfl rfl rfl rfl rfl ?_
    refine pz_j1 [.inr (.inr (some q1)), .inr (.inr (some 13))] 50 rfl rfl rfl rfl rfl ?_
    refine pz_Rn_sub (L := []) [] rfl rfl ?_
    exact pz_Rn_k (y := 40) rfl rfl rfl rfl rfl rfl rfl rfl (pz_cok_v rfl rfl pz_S13) K
  by_cases b8 : x3 = 4
  · replace K := K.2.2.2.2.1 b8
    refine pz_j_sw b8 ?_
    refine pz_j1 [] 60 rfl rfl rfl rfl rfl ?_
    refine pz_j1 [.inr (.inr (some 13))] 61 rfl rfl rfl rfl rfl ?_
    refine pz_j1 [.inr (.inr (some q1)), .inr (.inr (some 13))] 62 rfl rfl rfl rfl rfl ?_
    refine pz_Rn_sub (L := []) [] rfl rfl ?_
    exact pz_Rn_k (y := 45) rfl rfl rfl rfl rfl rfl rfl rfl (pz_cok_v rfl rfl pz_S13) K
  have b9 : x3 < 0 ∨ 4 < x3 := by omega
  replace K := K.2.2.2.2.2 b9
  refine pz_j_df 93 rfl b9 rfl rfl ?_
  refine pz_j1 [.inr (.inr (some 13))] 94 rfl rfl rfl rfl rfl ?_
  refine pz_j1 [.inr (.inr (some 13)), .inr (.inr (some 13))] 95 rfl rfl rfl rfl rfl ?_
  refine pz_j1 [.inr (.inr (some q1)), .inr (.inr (some 13)), .inr (.inr (some 13))] 96 rfl rfl rfl rfl rfl ?_
  exact pz_Rn_k (y := 62) rfl rfl rfl rfl rfl rfl rfl rfl (pz_cok_v rfl rfl pz_S13) K
theorem pz_g64_53 {t0 : Option Nat}  (K : Q (.inl (some (.inr (.inr t0)))) (pz_hp n0 mi ml mr c s)) : pz_Rn (d + 1) 64 (53, [.inr (.inr t0)], [], pz_hp n0 mi ml mr c s, true) Q := by
  exact pz_Rn_ret rfl rfl rfl rfl K
theorem pz_g64_59 {t0 : Option Nat}  (K : Q (.inl (some (.inr (.inr t0)))) (pz_hp n0 mi ml mr c s)) : pz_Rn (d + 1) 64 (59, [.inr (.inr t0)], [], pz_hp n0 mi ml mr c s, true) Q := by
  exact pz_Rn_ret rfl rfl rfl rfl K
theorem pz_g64_65 {t0 : Option Nat}  (K : Q (.inl (some (.inr (.inr t0)))) (pz_hp n0 mi ml mr c s)) : pz_Rn (d + 1) 64 (65, [.inr (.inr t0)], [], pz_hp n0 mi ml mr c s, true) Q := by
  exact pz_Rn_ret rfl rfl rfl rfl K
theorem pz_g64_72 {a1 : Option Nat} {t1 : Int}  (K : ((t1 = 0 → pz_Rn d 43 (0, [], [(0, .inr (.inr (some 14))), (1, .inr (.inr a1))], pz_hp n0 (pz_up mi 13 14 0) ml mr c s, true) (pz_K (d + 1) 64 107 [] [] Q true)) ∧ (t1 ≠ 0 → pz_Rn d 61 (0, [], [(0, .inr (.inr (some 13)))], pz_hp n0 mi ml mr c s, true) (pz_K (d + 1) 64 76 [.inr (.inr (some 13))] [(0, .inr (.inr (some 13))), (1, .inr (.inr a1))] Q true)))) : pz_Rn (d + 1) 64 (72, [.inl t1, .inr (.inr (some 13))], [(0, .inr (.inr (some 13))), (1, .inr (.inr a1))], pz_hp n0 mi ml mr c s, true) Q := by
  refine pz_j1 [.inr (.inr (some 13))] (bif pz_cp .eq t1 0 then 86 else 75) rfl rfl rfl rfl rfl ?_
  refine pz_Rn_if pz_c1_eq pz_c0_eq ⟨fun b1 => ?_, fun b1 => ?_⟩
  · replace K := K.1 b1
    refine pz_j1 [.inl 0, .inr (.inr (some 13))] 87 rfl rfl rfl rfl rfl ?_
    refine pz_j3 [] [(0, .inr (.inr (some 13))), (1, .inr (.inr a1))] (pz_hp n0 (pz_up mi 13 14 0) ml mr c s) 90 rfl rfl rfl rfl (pz_a2 rfl (pz_a2 pz_S13 (pz_a2 rfl rfl))) ?_
    refine pz_j1 [] 102 rfl rfl rfl rfl rfl ?_
    refine pz_j1 [.inr (.inr (some 13))] 103 rfl rfl rfl rfl rfl ?_
    refine pz_j1 [.inr (.inr (some 14))] 106 rfl rfl rfl rfl (pz_a2 rfl pz_S13) ?_
    refine pz_j1 [.inr (.inr a1), .inr (.inr (some 14))] 107 rfl rfl rfl rfl rfl ?_
    refine pz_Rn_sub (L := []) [] rfl rfl ?_
    exact pz_Rn_k (y := 42) rfl rfl rfl rfl rfl rfl rfl rfl (pz_cok_v rfl rfl pz_S14) K
  · replace K := K.2 b1
    refine pz_j1 [.inr (.inr (some 13)), .inr (.inr (some 13))] 76 rfl rfl rfl rfl rfl ?_
    exact pz_Rn_k (y := 60) rfl rfl rfl rfl rfl rfl rfl rfl (pz_cok_v rfl rfl pz_S13) K
theorem pz_g64_79 {a1 : Option Nat} {t1 : Int}  (K : ((t1 = 0 → pz_Rn d 43 (0, [], [(0, .inr (.inr (some 14))), (1, .inr (.inr a1))], pz_hp n0 (pz_up mi 13 14 0) ml mr c s, true) (pz_K (d + 1) 64 107 [] [] Q true)) ∧ (t1 ≠ 0 → pz_Rn d 43 (0, [], [(0, .inr (.inr (some 14))), (1, .inr (.inr a1))], pz_hp n0 (pz_up mi 13 14 1) ml mr c s, true) (pz_K (d + 1) 64 107 [] [] Q true)))) : pz_Rn (d + 1) 64 (79, [.inl t1, .inr (.inr (some 13))], [(0, .inr (.inr (some 13))), (1, .inr (.inr a1))], pz_hp n0 mi ml mr c s, true) Q := by
  refine pz_j1 [.inr (.inr (some 13))] (bif pz_cp .eq t1 0 then 86 else 82) rfl rfl rfl rfl rfl ?_
  refine pz_Rn_if pz_c1_eq pz_c0_eq ⟨fun b1 => ?_, fun b1 => ?_⟩
  · replace K := K.1 b1
    refine pz_j1 [.inl 0, .inr (.inr (some 13))] 87 rfl rfl rfl rfl rfl ?_
    refine pz_j3 [] [(0, .inr (.inr (some 13))), (1, .inr (.inr a1))] (pz_hp n0 (pz_up mi 13 14 0) ml mr c s) 90 rfl rfl rfl rfl (pz_a2 rfl (pz_a2 pz_S13 (pz_a2 rfl rfl))) ?_
    refine pz_j1 [] 102 rfl rfl rfl rfl rfl ?_
    refine pz_j1 [.inr (.inr (some 13))] 103 rfl rfl rfl rfl rfl ?_
    refine pz_j1 [.inr (.inr (some 14))] 106 rfl rfl rfl rfl (pz_a2 rfl pz_S13) ?_
    refine pz_j1 [.inr (.inr a1), .inr (.inr (some 14))] 107 rfl rfl rfl rfl rfl ?_
    refine pz_Rn_sub (L := []) [] rfl rfl ?_
    exact pz_Rn_k (y := 42) rfl rfl rfl rfl rfl rfl rfl rfl (pz_cok_v rfl rfl pz_S14) K
  · replace K := K.2 b1
    refine pz_j1 [.inl 1, .inr (.inr (some 13))] 83 rfl rfl rfl rfl rfl ?_
    refine pz_j1 [.inl 1, .inr (.inr (some 13))] 87 rfl rfl rfl rfl rfl ?_
    refine pz_j3 [] [(0, .inr (.inr (some 13))), (1, .inr (.inr a1))] (pz_hp n0 (pz_up mi 13 14 1) ml mr c s) 90 rfl rfl rfl rfl (pz_a2 rfl (pz_a2 pz_S13 (pz_a2 rfl rfl))) ?_
    refine pz_j1 [] 102 rfl rfl rfl rfl rfl ?_
    refine pz_j1 [.inr (.inr (some 13))] 103 rfl rfl rfl rfl rfl ?_
    refine pz_j1 [.inr (.inr (some 14))] 106 rfl rfl rfl rfl (pz_a2 rfl pz_S13) ?_
    refine pz_j1 [.inr (.inr a1), .inr (.inr (some 14))] 107 rfl rfl rfl rfl rfl ?_
    refine pz_Rn_sub (L := []) [] rfl rfl ?_
    exact pz_Rn_k (y := 42) rfl rfl rfl rfl rfl rfl rfl rfl (pz_cok_v rfl rfl pz_S14) K
theorem pz_g64_99 {a1 : Option Nat} {t1 : Int}  (K : (t1 = 0 ∨ t1 = 1) ∧ pz_Rn d 43 (0, [], [(0, .inr (.inr (some 14))), (1, .inr (.inr a1))], pz_hp n0 (pz_up mi 13 14 t1) ml mr c s, true) (pz_K (d + 1) 64 107 [] [] Q true)) : pz_Rn (d + 1) 64 (99, [.inl t1, .inr (.inr (some 13))], [(0, .inr (.inr (some 13))), (1, .inr (.inr a1))], pz_hp n0 mi ml mr c s, true) Q := by
  obtain ⟨k1, K⟩ := K
  refine pz_j3 [] [(0, .inr (.inr (some 13))), (1, .inr (.inr a1))] (pz_hp n0 (pz_up mi 13 14 t1) ml mr c s) 102 rfl rfl rfl rfl (pz_a2 rfl (pz_a2 pz_S13 (pz_a2 (pz_ok_zz k1) rfl))) ?_
  refine pz_j1 [.inr (.inr (some 13))] 103 rfl rfl rfl rfl rfl ?_
  refine pz_j1 [.inr (.inr (some 14))] 106 rfl rfl rfl rfl (pz_a2 rfl pz_S13) ?_
  refine pz_j1 [.inr (.inr a1), .inr (.inr (some 14))] 107 rfl rfl rfl rfl rfl ?_
  refine pz_Rn_sub (L := []) [] rfl rfl ?_
  exact pz_Rn_k (y := 42) rfl rfl rfl rfl rfl rfl rfl rfl (pz_cok_v rfl rfl pz_S14) K
theorem pz_g64_110   (K : Q (.inl (some (.inr (.inr none)))) (pz_hp n0 mi ml mr c s)) : pz_Rn (d + 1) 64 (110, [], [], pz_hp n0 mi ml mr c s, true) Q := by
  refine pz_j1 [.inr (.inr none)] 111 rfl rfl rfl rfl rfl ?_
  exact pz_Rn_ret rfl rfl rfl rfl K
end pzgc
