/-! Segments of methods, by wip/whole/gen/seg.py: from an entry, a loop's head or behind a call to the next stop. -/
section pzgg
variable {d n0 : Nat} {mi : Nat → Nat → Int} {ml : Nat → Nat → Int64} {mr : Nat → Nat → Option Nat} {c s : Nat} {Q : pz_O → pz_H → Prop}
-- 6 RelationStreamLaw.atom(LRelationStream;I[J)I
theorem pz_g6_0 {a1 : Int}  (K : pz_Rn d 5 (0, [], [(0, .inr (.inr (some 1))), (1, .inl a1)], pz_hp n0 mi ml mr c s, true) (pz_K (d + 1) 6 4 [.inl 0, .inr (.inr (some 195))] [] Q true)) : pz_Rn (d + 1) 6 (0, [], [(0, .inr (.inr (some 1))), (1, .inl a1), (2, .inr (.inr (some 195)))], pz_hp n0 mi ml mr c s, true) Q := by
  refine pz_j1 [.inr (.inr (some 195))] 1 rfl rfl rfl rfl rfl ?_
  refine pz_j1 [.inl 0, .inr (.inr (some 195))] 2 rfl rfl rfl rfl rfl ?_
  refine pz_j1 [.inr (.inr (some 1)), .inl 0, .inr (.inr (some 195))] 3 rfl rfl rfl rfl rfl ?_
  refine pz_j1 [.inl a1, .inr (.inr (some 1)), .inl 0, .inr (.inr (some 195))] 4 rfl rfl rfl rfl rfl ?_
  refine pz_Rn_sub (L := []) [] rfl rfl ?_
  exact pz_Rn_k (y := 4) rfl rfl rfl rfl rfl rfl rfl rfl (pz_cok_v rfl rfl pz_S1) K
theorem pz_g6_7 {t1 : Int} {t2 : Int}  (K : (0 ≤ t1 ∧ t1 < 1) ∧ Q (.inl (some (.inl 0))) (pz_hp n0 mi (pz_up ml 195 ((t1).toNat) ((Int32.ofInt t2).toInt64)) mr c s)) : pz_Rn (d + 1) 6 (7, [.inl t2, .inl t1, .inr (.inr (some 195))], [], pz_hp n0 mi ml mr c s, true) Q := by
  refine pz_j1 [.inr (.inl ((Int32.ofInt t2).toInt64)), .inl t1, .inr (.inr (some 195))] 8 rfl rfl rfl rfl rfl ?_
  obtain ⟨k1, K⟩ := K
  refine pz_j3 [] [] (pz_hp n0 mi (pz_up ml 195 ((t1).toNat) ((Int32.ofInt t2).toInt64)) mr c s) 9 rfl rfl rfl rfl (pz_a2 rfl (pz_ok_ix pz_S195 k1)) ?_
  refine pz_j1 [] 18 rfl rfl rfl rfl rfl ?_
  refine pz_j1 [.inl 0] 19 rfl rfl rfl rfl rfl ?_
  exact pz_Rn_ret rfl rfl rfl rfl K
-- 8 RelationStreamLaw.place(LRelationStream;I[J)I
theorem pz_g8_0 {a1 : Int}  (K : pz_Rn d 7 (0, [], [(0, .inr (.inr (some 1))), (1, .inl a1)], pz_hp n0 mi ml mr c s, true) (pz_K (d + 1) 8 4 [.inl 0, .inr (.inr (some 195))] [] Q true)) : pz_Rn (d + 1) 8 (0, [], [(0, .inr (.inr (some 1))), (1, .inl a1), (2, .inr (.inr (some 195)))], pz_hp n0 mi ml mr c s, true) Q := by
  refine pz_j1 [.inr (.inr (some 195))] 1 rfl rfl rfl rfl rfl ?_
  refine pz_j1 [.inl 0, .inr (.inr (some 195))] 2 rfl rfl rfl rfl rfl ?_
  refine pz_j1 [.inr (.inr (some 1)), .inl 0, .inr (.inr (some 195))] 3 rfl rfl rfl rfl rfl ?_
  refine pz_j1 [.inl a1, .inr (.inr (some 1)), .inl 0, .inr (.inr (some 195))] 4 rfl rfl rfl rfl rfl ?_
  refine pz_Rn_sub (L := []) [] rfl rfl ?_
  exact pz_Rn_k (y := 6) rfl rfl rfl rfl rfl rfl rfl rfl (pz_cok_v rfl rfl pz_S1) K
theorem pz_g8_7 {t1 : Int} {t2 : Int}  (K : (0 ≤ t1 ∧ t1 < 1) ∧ Q (.inl (some (.inl 0))) (pz_hp n0 mi (pz_up ml 195 ((t1).toNat) ((Int32.ofInt t2).toInt64)) mr c s)) : pz_Rn (d + 1) 8 (7, [.inl t2, .inl t1, .inr (.inr (some 195))], [], pz_hp n0 mi ml mr c s, true) Q := by
  refine pz_j1 [.inr (.inl ((Int32.ofInt t2).toInt64)), .inl t1, .inr (.inr (some 195))] 8 rfl rfl rfl rfl rfl ?_
  obtain ⟨k1, K⟩ := K
  refine pz_j3 [] [] (pz_hp n0 mi (pz_up ml 195 ((t1).toNat) ((Int32.ofInt t2).toInt64)) mr c s) 9 rfl rfl rfl rfl (pz_a2 rfl (pz_ok_ix pz_S195 k1)) ?_
  refine pz_j1 [] 18 rfl rfl rfl rfl rfl ?_
  refine pz_j1 [.inl 0] 19 rfl rfl rfl rfl rfl ?_
  exact pz_Rn_ret rfl rfl rfl rfl K
-- 11 RelationStreamLaw.pair(LRelationStream;II[J)I
theorem pz_g11_0 {a1 : Int} {a2 : Int}  (K : pz_Rn d 10 (0, [], [(0, .inr (.inr (some 1))), (1, .inl a1), (2, .inl a2)], pz_hp n0 mi ml mr c s, true) (pz_K (d + 1) 11 5 [.inl 0, .inr (.inr (some 195))] [] Q true)) : pz_Rn (d + 1) 11 (0, [], [(0, .inr (.inr (some 1))), (1, .inl a1), (2, .inl a2), (3, .inr (.inr (some 195)))], pz_hp n0 mi ml mr c s, true) Q := by
  refine pz_j1 [.inr (.inr (some 195))] 1 rfl rfl rfl rfl rfl ?_
  refine pz_j1 [.inl 0, .inr (.inr (some 195))] 2 rfl rfl rfl rfl rfl ?_
  refine pz_j1 [.inr (.inr (some 1)), .inl 0, .inr (.inr (some 195))] 3 rfl rfl rfl rfl rfl ?_
  refine pz_j1 [.inl a1, .inr (.inr (some 1)), .inl 0, .inr (.inr (some 195))] 4 rfl rfl rfl rfl rfl ?_
  refine pz_j1 [.inl a2, .inl a1, .inr (.inr (some 1)), .inl 0, .inr (.inr (some 195))] 5 rfl rfl rfl rfl rfl ?_
  refine pz_Rn_sub (L := []) [] rfl rfl ?_
  exact pz_Rn_k (y := 9) rfl rfl rfl rfl rfl rfl rfl rfl (pz_cok_v rfl rfl pz_S1) K
theorem pz_g11_8 {t1 : Int} {t2 : Int}  (K : (0 ≤ t1 ∧ t1 < 1) ∧ Q (.inl (some (.inl 0))) (pz_hp n0 mi (pz_up ml 195 ((t1).toNat) ((Int32.ofInt t2).toInt64)) mr c s)) : pz_Rn (d + 1) 11 (8, [.inl t2, .inl t1, .inr (.inr (some 195))], [], pz_hp n0 mi ml mr c s, true) Q := by
  refine pz_j1 [.inr (.inl ((Int32.ofInt t2).toInt64)), .inl t1, .inr (.inr (some 195))] 9 rfl rfl rfl rfl rfl ?_
  obtain ⟨k1, K⟩ := K
  refine pz_j3 [] [] (pz_hp n0 mi (pz_up ml 195 ((t1).toNat) ((Int32.ofInt t2).toInt64)) mr c s) 10 rfl rfl rfl rfl (pz_a2 rfl (pz_ok_ix pz_S195 k1)) ?_
  refine pz_j1 [] 21 rfl rfl rfl rfl rfl ?_
  refine pz_j1 [.inl 0] 22 rfl rfl rfl rfl rfl ?_
  exact pz_Rn_ret rfl rfl rfl rfl K
-- 14 RelationStreamLaw.relate(LRelationStream;ZII[J)I
theorem pz_g14_0 {a1 : Int} {a2 : Int} {a3 : Int}  (K : pz_Rn d 13 (0, [], [(0, .inr (.inr (some 1))), (1, .inl a1), (2, .inl a2), (3, .inl a3)], pz_hp n0 mi ml mr c s, true) (pz_K (d + 1) 14 7 [.inl 0, .inr (.inr (some 195))] [] Q true)) : pz_Rn (d + 1) 14 (0, [], [(0, .inr (.inr (some 1))), (1, .inl a1), (2, .inl a2), (3, .inl a3), (4, .inr (.inr (some 195)))], pz_hp n0 mi ml mr c s, true) Q := by
  refine pz_j1 [.inr (.inr (some 195))] 2 rfl rfl rfl rfl rfl ?_
  refine pz_j1 [.inl 0, .inr (.inr (some 195))] 3 rfl rfl rfl rfl rfl ?_
  refine pz_j1 [.inr (.inr (some 1)), .inl 0, .inr (.inr (some 195))] 4 rfl rfl rfl rfl rfl ?_
  refine pz_j1 [.inl a1, .inr (.inr (some 1)), .inl 0, .inr (.inr (some 195))] 5 rfl rfl rfl rfl rfl ?_
  refine pz_j1 [.inl a2, .inl a1, .inr (.inr (some 1)), .inl 0, .inr (.inr (some 195))] 6 rfl rfl rfl rfl rfl ?_
  refine pz_j1 [.inl a3, .inl a2, .inl a1, .inr (.inr (some 1)), .inl 0, .inr (.inr (some 195))] 7 rfl rfl rfl rfl rfl ?_
  refine pz_Rn_sub (L := []) [] rfl rfl ?_
  exact pz_Rn_k (y := 12) rfl rfl rfl rfl rfl rfl rfl rfl (pz_cok_v rfl rfl pz_S1) K
theorem pz_g14_10 {t1 : Int} {t2 : Int}  (K : (0 ≤ t1 ∧ t1 < 1) ∧ Q (.inl (some (.inl 0))) (pz_hp n0 mi (pz_up ml 195 ((t1).toNat) ((Int32.ofInt t2).toInt64)) mr c s)) : pz_Rn (d + 1) 14 (10, [.inl t2, .inl t1, .inr (.inr (some 195))], [], pz_hp n0 mi ml mr c s, true) Q := by
  refine pz_j1 [.inr (.inl ((Int32.ofInt t2).toInt64)), .inl t1, .inr (.inr (some 195))] 11 rfl rfl rfl rfl rfl ?_
  obtain ⟨k1, K⟩ := K
  refine pz_j3 [] [] (pz_hp n0 mi (pz_up ml 195 ((t1).toNat) ((Int32.ofInt t2).toInt64)) mr c s) 12 rfl rfl rfl rfl (pz_a2 rfl (pz_ok_ix pz_S195 k1)) ?_
  refine pz_j1 [] 23 rfl rfl rfl rfl rfl ?_
  refine pz_j1 [.inl 0] 24 rfl rfl rfl rfl rfl ?_
  exact pz_Rn_ret rfl rfl rfl rfl K
-- 17 RelationStreamLaw.combine(LRelationStream;ZII[J)I
theorem pz_g17_0 {a1 : Int} {a2 : Int} {a3 : Int}  (K : pz_Rn d 16 (0, [], [(0, .inr (.inr (some 1))), (1, .inl a1), (2, .inl a2), (3, .inl a3)], pz_hp n0 mi ml mr c s, true) (pz_K (d + 1) 17 7 [.inl 0, .inr (.inr (some 195))] [] Q true)) : pz_Rn (d + 1) 17 (0, [], [(0, .inr (.inr (some 1))), (1, .inl a1), (2, .inl a2), (3, .inl a3), (4, .inr (.inr (some 195)))], pz_hp n0 mi ml mr c s, true) Q := by
  refine pz_j1 [.inr (.inr (some 195))] 2 rfl rfl rfl rfl rfl ?_
  refine pz_j1 [.inl 0, .inr (.inr (some 195))] 3 rfl rfl rfl rfl rfl ?_
  refine pz_j1 [.inr (.inr (some 1)), .inl 0, .inr (.inr (some 195))] 4 rfl rfl rfl rfl rfl ?_
  refine pz_j1 [.inl a1, .inr (.inr (some 1)), .inl 0, .inr (.inr (some 195))] 5 rfl rfl rfl rfl rfl ?_
  refine pz_j1 [.inl a2, .inl a1, .inr (.inr (some 1)), .inl 0, .inr (.inr (some 195))] 6 rfl rfl rfl rfl rfl ?_
  refine pz_j1 [.inl a3, .inl a2, .inl a1, .inr (.inr (some 1)), .inl 0, .inr (.inr (some 195))] 7 rfl rfl rfl rfl rfl ?_
  refine pz_Rn_sub (L := []) [] rfl rfl ?_
  exact pz_Rn_k (y := 15) rfl rfl rfl rfl rfl rfl rfl rfl (pz_cok_v rfl rfl pz_S1) K
theorem pz_g17_10 {t1 : Int} {t2 : Int}  (K : (0 ≤ t1 ∧ t1 < 1) ∧ Q (.inl (some (.inl 0))) (pz_hp n0 mi (pz_up ml 195 ((t1).toNat) ((Int32.ofInt t2).toInt64)) mr c s)) : pz_Rn (d + 1) 17 (10, [.inl t2, .inl t1, .inr (.inr (some 195))], [], pz_hp n0 mi ml mr c s, true) Q := by
  refine pz_j1 [.inr (.inl ((Int32.ofInt t2).toInt64)), .inl t1, .inr (.inr (some 195))] 11 rfl rfl rfl rfl rfl ?_
  obtain ⟨k1, K⟩ := K
  refine pz_j3 [] [] (pz_hp n0 mi (pz_up ml 195 ((t1).toNat) ((Int32.ofInt t2).toInt64)) mr c s) 12 rfl rfl rfl rfl (pz_a2 rfl (pz_ok_ix pz_S195 k1)) ?_
  refine pz_j1 [] 23 rfl rfl rfl rfl rfl ?_
  refine pz_j1 [.inl 0] 24 rfl rfl rfl rfl rfl ?_
  exact pz_Rn_ret rfl rfl rfl rfl K
-- 21 RelationStreamLaw.call(LRelationStream;IIII[J)I
theorem pz_g21_0 {a1 : Int} {a2 : Int} {a3 : Int} {a4 : Int}  (K : pz_Rn d 20 (0, [], [(0, .inr (.inr (some 1))), (1, .inl a1), (2, .inl a2), (3, .inl a3), (4, .inl a4)], pz_hp n0 mi ml mr c s, true) (pz_K (d + 1) 21 9 [.inl 0, .inr (.inr (some 195))] [] Q true)) : pz_Rn (d + 1) 21 (0, [], [(0, .inr (.inr (some 1))), (1, .inl a1), (2, .inl a2), (3, .inl a3), (4, .inl a4), (5, .inr (.inr (some 195)))], pz_hp n0 mi ml mr c s, true) Q := by
  refine pz_j1 [.inr (.inr (some 195))] 2 rfl rfl rfl rfl rfl ?_
  refine pz_j1 [.inl 0, .inr (.inr (some 195))] 3 rfl rfl rfl rfl rfl ?_
  refine pz_j1 [.inr (.inr (some 1)), .inl 0, .inr (.inr (some 195))] 4 rfl rfl rfl rfl rfl ?_
  refine pz_j1 [.inl a1, .inr (.inr (some 1)), .inl 0, .inr (.inr (some 195))] 5 rfl rfl rfl rfl rfl ?_
  refine pz_j1 [.inl a2, .inl a1, .inr (.inr (some 1)), .inl 0, .inr (.inr (some 195))] 6 rfl rfl rfl rfl rfl ?_
  refine pz_j1 [.inl a3, .inl a2, .inl a1, .inr (.inr (some 1)), .inl 0, .inr (.inr (some 195))] 7 rfl rfl rfl rfl rfl ?_
  refine pz_j1 [.inl a4, .inl a3, .inl a2, .inl a1, .inr (.inr (some 1)), .inl 0, .inr (.inr (some 195))] 9 rfl rfl rfl rfl rfl ?_
  refine pz_Rn_sub (L := []) [] rfl rfl ?_
  exact pz_Rn_k (y := 19) rfl rfl rfl rfl rfl rfl rfl rfl (pz_cok_v rfl rfl pz_S1) K
theorem pz_g21_12 {t1 : Int} {t2 : Int}  (K : (0 ≤ t1 ∧ t1 < 1) ∧ Q (.inl (some (.inl 0))) (pz_hp n0 mi (pz_up ml 195 ((t1).toNat) ((Int32.ofInt t2).toInt64)) mr c s)) : pz_Rn (d + 1) 21 (12, [.inl t2, .inl t1, .inr (.inr (some 195))], [], pz_hp n0 mi ml mr c s, true) Q := by
  refine pz_j1 [.inr (.inl ((Int32.ofInt t2).toInt64)), .inl t1, .inr (.inr (some 195))] 13 rfl rfl rfl rfl rfl ?_
  obtain ⟨k1, K⟩ := K
  refine pz_j3 [] [] (pz_hp n0 mi (pz_up ml 195 ((t1).toNat) ((Int32.ofInt t2).toInt64)) mr c s) 14 rfl rfl rfl rfl (pz_a2 rfl (pz_ok_ix pz_S195 k1)) ?_
  refine pz_j1 [] 25 rfl rfl rfl rfl rfl ?_
  refine pz_j1 [.inl 0] 26 rfl rfl rfl rfl rfl ?_
  exact pz_Rn_ret rfl rfl rfl rfl K
-- 23 RelationStreamLaw.define(LRelationStream;II)I
theorem pz_g23_0 {a1 : Int} {a2 : Int}  (K : pz_Rn d 22 (0, [], [(0, .inr (.inr (some 1))), (1, .inl a1), (2, .inl a2)], pz_hp n0 mi ml mr c s, true) (pz_K (d + 1) 23 3 [] [] Q true)) : pz_Rn (d + 1) 23 (0, [], [(0, .inr (.inr (some 1))), (1, .inl a1), (2, .inl a2)], pz_hp n0 mi ml mr c s, true) Q := by
  refine pz_j1 [.inr (.inr (some 1))] 1 rfl rfl rfl rfl rfl ?_
  refine pz_j1 [.inl a1, .inr (.inr (some 1))] 2 rfl rfl rfl rfl rfl ?_
  refine pz_j1 [.inl a2, .inl a1, .inr (.inr (some 1))] 3 rfl rfl rfl rfl rfl ?_
  refine pz_Rn_sub (L := []) [] rfl rfl ?_
  exact pz_Rn_k (y := 21) rfl rfl rfl rfl rfl rfl rfl rfl (pz_cok_v rfl rfl pz_S1) K
theorem pz_g23_6   (K : Q (.inl (some (.inl 0))) (pz_hp n0 mi ml mr c s)) : pz_Rn (d + 1) 23 (6, [], [], pz_hp n0 mi ml mr c s, true) Q := by
  refine pz_j1 [] 12 rfl rfl rfl rfl rfl ?_
  refine pz_j1 [.inl 0] 13 rfl rfl rfl rfl rfl ?_
  exact pz_Rn_ret rfl rfl rfl rfl K
-- 38 RelationStreamLaw.ask(LRelationStream;I)I
theorem pz_g38_0 {a1 : Int}  (K : pz_Rn d 37 (0, [], [(0, .inr (.inr (some 1))), (1, .inl a1)], pz_hp n0 mi ml mr c s, true) (pz_K (d + 1) 38 2 [] [] Q true)) : pz_Rn (d + 1) 38 (0, [], [(0, .inr (.inr (some 1))), (1, .inl a1)], pz_hp n0 mi ml mr c s, true) Q := by
  refine pz_j1 [.inr (.inr (some 1))] 1 rfl rfl rfl rfl rfl ?_
  refine pz_j1 [.inl a1, .inr (.inr (some 1))] 2 rfl rfl rfl rfl rfl ?_
  refine pz_Rn_sub (L := []) [] rfl rfl ?_
  exact pz_Rn_k (y := 36) rfl rfl rfl rfl rfl rfl rfl rfl (pz_cok_v rfl rfl pz_S1) K
theorem pz_g38_5   (K : Q (.inl (some (.inl 0))) (pz_hp n0 mi ml mr c s)) : pz_Rn (d + 1) 38 (5, [], [], pz_hp n0 mi ml mr c s, true) Q := by
  refine pz_j1 [] 11 rfl rfl rfl rfl rfl ?_
  refine pz_j1 [.inl 0] 12 rfl rfl rfl rfl rfl ?_
  exact pz_Rn_ret rfl rfl rfl rfl K
-- 81 RelationStreamLaw.run(LRelationStream;IZ[J)I
theorem pz_g81_0 {a1 : Int} {a2 : Int}  (K : pz_Rn d 80 (0, [], [(0, .inr (.inr (some 1))), (1, .inl a1), (2, .inl a2)], pz_hp n0 mi ml mr c s, true) (pz_K (d + 1) 81 5 [.inl 0, .inr (.inr (some 195))] [] Q true)) : pz_Rn (d + 1) 81 (0, [], [(0, .inr (.inr (some 1))), (1, .inl a1), (2, .inl a2), (3, .inr (.inr (some 195)))], pz_hp n0 mi ml mr c s, true) Q := by
  refine pz_j1 [.inr (.inr (some 195))] 1 rfl rfl rfl rfl rfl ?_
  refine pz_j1 [.inl 0, .inr (.inr (some 195))] 2 rfl rfl rfl rfl rfl ?_
  refine pz_j1 [.inr (.inr (some 1)), .inl 0, .inr (.inr (some 195))] 3 rfl rfl rfl rfl rfl ?_
  refine pz_j1 [.inl a1, .inr (.inr (some 1)), .inl 0, .inr (.inr (some 195))] 4 rfl rfl rfl rfl rfl ?_
  refine pz_j1 [.inl a2, .inl a1, .inr (.inr (some 1)), .inl 0, .inr (.inr (some 195))] 5 rfl rfl rfl rfl rfl ?_
  refine pz_Rn_sub (L := []) [] rfl rfl ?_
  exact pz_Rn_k (y := 79) rfl rfl rfl rfl rfl rfl rfl rfl (pz_cok_v rfl rfl pz_S1) K
theorem pz_g81_8 {t1 : Int} {t2 : Int}  (K : (0 ≤ t1 ∧ t1 < 1) ∧ Q (.inl (some (.inl 0))) (pz_hp n0 mi (pz_up ml 195 ((t1).toNat) ((Int32.ofInt t2).toInt64)) mr c s)) : pz_Rn (d + 1) 81 (8, [.inl t2, .inl t1, .inr (.inr (some 195))], [], pz_hp n0 mi ml mr c s, true) Q := by
  refine pz_j1 [.inr (.inl ((Int32.ofInt t2).toInt64)), .inl t1, .inr (.inr (some 195))] 9 rfl rfl rfl rfl rfl ?_
  obtain ⟨k1, K⟩ := K
  refine pz_j3 [] [] (pz_hp n0 mi (pz_up ml 195 ((t1).toNat) ((Int32.ofInt t2).toInt64)) mr c s) 10 rfl rfl rfl rfl (pz_a2 rfl (pz_ok_ix pz_S195 k1)) ?_
  refine pz_j1 [] 21 rfl rfl rfl rfl rfl ?_
  refine pz_j1 [.inl 0] 22 rfl rfl rfl rfl rfl ?_
  exact pz_Rn_ret rfl rfl rfl rfl K
-- 84 RelationStreamLaw.count(LRelationStream;I[J)I
theorem pz_g84_0 {a1 : Int}  (K : pz_Rn d 83 (0, [], [(0, .inr (.inr (some 1))), (1, .inl a1)], pz_hp n0 mi ml mr c s, true) (pz_K (d + 1) 84 4 [.inl 0, .inr (.inr (some 195))] [] Q true)) : pz_Rn (d + 1) 84 (0, [], [(0, .inr (.inr (some 1))), (1, .inl a1), (2, .inr (.inr (some 195)))], pz_hp n0 mi ml mr c s, true) Q := by
  refine pz_j1 [.inr (.inr (some 195))] 1 rfl rfl rfl rfl rfl ?_
  refine pz_j1 [.inl 0, .inr (.inr (some 195))] 2 rfl rfl rfl rfl rfl ?_
  refine pz_j1 [.inr (.inr (some 1)), .inl 0, .inr (.inr (some 195))] 3 rfl rfl rfl rfl rfl ?_
  refine pz_j1 [.inl a1, .inr (.inr (some 1)), .inl 0, .inr (.inr (some 195))] 4 rfl rfl rfl rfl rfl ?_
  refine pz_Rn_sub (L := []) [] rfl rfl ?_
  exact pz_Rn_k (y := 82) rfl rfl rfl rfl rfl rfl rfl rfl (pz_cok_v rfl rfl pz_S1) K
theorem pz_g84_7 {t1 : Int} {t2 : Int}  (K : (0 ≤ t1 ∧ t1 < 1) ∧ Q (.inl (some (.inl 0))) (pz_hp n0 mi (pz_up ml 195 ((t1).toNat) ((Int32.ofInt t2).toInt64)) mr c s)) : pz_Rn (d + 1) 84 (7, [.inl t2, .inl t1, .inr (.inr (some 195))], [], pz_hp n0 mi ml mr c s, true) Q := by
  refine pz_j1 [.inr (.inl ((Int32.ofInt t2).toInt64)), .inl t1, .inr (.inr (some 195))] 8 rfl rfl rfl rfl rfl ?_
  obtain ⟨k1, K⟩ := K
  refine pz_j3 [] [] (pz_hp n0 mi (pz_up ml 195 ((t1).toNat) ((Int32.ofInt t2).toInt64)) mr c s) 9 rfl rfl rfl rfl (pz_a2 rfl (pz_ok_ix pz_S195 k1)) ?_
  refine pz_j1 [] 15 rfl rfl rfl rfl rfl ?_
  refine pz_j1 [.inl 0] 16 rfl rfl rfl rfl rfl ?_
  exact pz_Rn_ret rfl rfl rfl rfl K
-- 88 RelationStreamLaw.text(LRelationStream;III[J)I
theorem pz_g88_0 {a1 : Int} {a2 : Int} {a3 : Int}  (K : pz_Rn d 87 (0, [], [(0, .inr (.inr (some 1))), (1, .inl a1), (2, .inl a2), (3, .inl a3)], pz_hp n0 mi ml mr c s, true) (pz_K (d + 1) 88 7 [.inl 0, .inr (.inr (some 195))] [] Q true)) : pz_Rn (d + 1) 88 (0, [], [(0, .inr (.inr (some 1))), (1, .inl a1), (2, .inl a2), (3, .inl a3), (4, .inr (.inr (some 195)))], pz_hp n0 mi ml mr c s, true) Q := by
  refine pz_j1 [.inr (.inr (some 195))] 2 rfl rfl rfl rfl rfl ?_
  refine pz_j1 [.inl 0, .inr (.inr (some 195))] 3 rfl rfl rfl rfl rfl ?_
  refine pz_j1 [.inr (.inr (some 1)), .inl 0, .inr (.inr (some 195))] 4 rfl rfl rfl rfl rfl ?_
  refine pz_j1 [.inl a1, .inr (.inr (some 1)), .inl 0, .inr (.inr (some 195))] 5 rfl rfl rfl rfl rfl ?_
  refine pz_j1 [.inl a2, .inl a1, .inr (.inr (some 1)), .inl 0, .inr (.inr (some 195))] 6 rfl rfl rfl rfl rfl ?_
  refine pz_j1 [.inl a3, .inl a2, .inl a1, .inr (.inr (some 1)), .inl 0, .inr (.inr (some 195))] 7 rfl rfl rfl rfl rfl ?_
  refine pz_Rn_sub (L := []) [] rfl rfl ?_
  exact pz_Rn_k (y := 86) rfl rfl rfl rfl rfl rfl rfl rfl (pz_cok_v rfl rfl pz_S1) K
theorem pz_g88_10 {t1 : Int} {t2 : Int}  (K : (0 ≤ t1 ∧ t1 < 1) ∧ Q (.inl (some (.inl 0))) (pz_hp n0 mi (pz_up ml 195 ((t1).toNat) ((Int32.ofInt t2).toInt64)) mr c s)) : pz_Rn (d + 1) 88 (10, [.inl t2, .inl t1, .inr (.inr (some 195))], [], pz_hp n0 mi ml mr c s, true) Q := by
  refine pz_j1 [.inr (.inl ((Int32.ofInt t2).toInt64)), .inl t1, .inr (.inr (some 195))] 11 rfl rfl rfl rfl rfl ?_
  obtain ⟨k1, K⟩ := K
  refine pz_j3 [] [] (pz_hp n0 mi (pz_up ml 195 ((t1).toNat) ((Int32.ofInt t2).toInt64)) mr c s) 12 rfl rfl rfl rfl (pz_a2 rfl (pz_ok_ix pz_S195 k1)) ?_
  refine pz_j1 [] 19 rfl rfl rfl rfl rfl ?_
  refine pz_j1 [.inl 0] 20 rfl rfl rfl rfl rfl ?_
  exact pz_Rn_ret rfl rfl rfl rfl K
-- 90 RelationStreamLaw.conditions(LRelationStream;I[J)I
theorem pz_g90_0 {a1 : Int}  (K : pz_Rn d 89 (0, [], [(0, .inr (.inr (some 1))), (1, .inl a1)], pz_hp n0 mi ml mr c s, true) (pz_K (d + 1) 90 4 [.inl 0, .inr (.inr (some 195))] [] Q true)) : pz_Rn (d + 1) 90 (0, [], [(0, .inr (.inr (some 1))), (1, .inl a1), (2, .inr (.inr (some 195)))], pz_hp n0 mi ml mr c s, true) Q := by
  refine pz_j1 [.inr (.inr (some 195))] 1 rfl rfl rfl rfl rfl ?_
  refine pz_j1 [.inl 0, .inr (.inr (some 195))] 2 rfl rfl rfl rfl rfl ?_
  refine pz_j1 [.inr (.inr (some 1)), .inl 0, .inr (.inr (some 195))] 3 rfl rfl rfl rfl rfl ?_
  refine pz_j1 [.inl a1, .inr (.inr (some 1)), .inl 0, .inr (.inr (some 195))] 4 rfl rfl rfl rfl rfl ?_
  refine pz_Rn_sub (L := []) [] rfl rfl ?_
  exact pz_Rn_k (y := 88) rfl rfl rfl rfl rfl rfl rfl rfl (pz_cok_v rfl rfl pz_S1) K
theorem pz_g90_7 {t1 : Int} {t2 : Int}  (K : (0 ≤ t1 ∧ t1 < 1) ∧ Q (.inl (some (.inl 0))) (pz_hp n0 mi (pz_up ml 195 ((t1).toNat) ((Int32.ofInt t2).toInt64)) mr c s)) : pz_Rn (d + 1) 90 (7, [.inl t2, .inl t1, .inr (.inr (some 195))], [], pz_hp n0 mi ml mr c s, true) Q := by
  refine pz_j1 [.inr (.inl ((Int32.ofInt t2).toInt64)), .inl t1, .inr (.inr (some 195))] 8 rfl rfl rfl rfl rfl ?_
  obtain ⟨k1, K⟩ := K
  refine pz_j3 [] [] (pz_hp n0 mi (pz_up ml 195 ((t1).toNat) ((Int32.ofInt t2).toInt64)) mr c s) 9 rfl rfl rfl rfl (pz_a2 rfl (pz_ok_ix pz_S195 k1)) ?_
  refine pz_j1 [] 15 rfl rfl rfl rfl rfl ?_
  refine pz_j1 [.inl 0] 16 rfl rfl rfl rfl rfl ?_
  exact pz_Rn_ret rfl rfl rfl rfl K
-- 148 RelationStreamLaw.law([I)Z
set_option maxRecDepth 8000 in
theorem pz_g148_20   (K : pz_Rn (d + 1) 148 (23, [], [(0, .inr (.inr (some 0))), (1, .inr (.inr (some 1))), (2, .inr (.inr (some 165))), (3, .inr (.inr (some 195))), (4, .inl 0)], pz_hp n0 mi ml mr c s, true) Q) : pz_Rn (d + 1) 148 (20, [], [(0, .inr (.inr (some 0))), (1, .inr (.inr (some 1))), (2, .inr (.inr (some 165))), (3, .inr (.inr (some 195)))], pz_hp n0 mi ml mr c s, true) Q := by
  refine pz_j1 [.inl 0] 21 rfl rfl rfl rfl rfl ?_
  refine pz_j2 [] [(4, .inl 0), (0, .inr (.inr (some 0))), (1, .inr (.inr (some 1))), (2, .inr (.inr (some 165))), (3, .inr (.inr (some 195)))] 23 rfl rfl rfl rfl rfl ?_
  refine pz_Rn_sub (L := [(0, .inr (.inr (some 0))), (1, .inr (.inr (some 1))), (2, .inr (.inr (some 165))), (3, .inr (.inr (some 195))), (4, .inl 0)]) [1, 2, 3, 4, 0] rfl rfl ?_
  exact K
set_option maxRecDepth 8000 in
theorem pz_g148_23 {a4 : Int}  (K : n0 ≤ 1000000 ∧ (-2147483648 ≤ (n0 : Int) - 5 ∧ (n0 : Int) - 5 ≤ 2147483647) ∧ (((n0 : Int) - 5 < a4 → Q (.inl (some (.inl 1))) (pz_hp n0 mi ml mr c s)) ∧ (a4 ≤ (n0 : Int) - 5 → (0 ≤ a4 ∧ a4 < n0) ∧ ∀ x5 : Int, x5 = pz_i32 (fun x y => x &&& y) (mi 0 ((a4).toNat)) 15 → ((x5 = 0 → (-2147483648 ≤ a4 + 1 ∧ a4 + 1 ≤ 2147483647) ∧ (0 ≤ a4 + 1 ∧ a4 + 1 < n0) ∧ pz_Rn d 6 (0, [], [(0, .inr (.inr (some 1))), (1, .inl (mi 0 ((a4 + 1).toNat))), (2, .inr (.inr (some 195)))], pz_hp n0 mi ml mr c s, true) (pz_K (d + 1) 148 112 [] [(0, .inr (.inr (some 0))), (1, .inr (.inr (some 1))), (2, .inr (.inr (some 165))), (3, .inr (.inr (some 195))), (4, .inl a4)] Q false)) ∧ (x5 = 1 → (-2147483648 ≤ a4 + 1 ∧ a4 + 1 ≤ 2147483647) ∧ (0 ≤ a4 + 1 ∧ a4 + 1 < n0) ∧ pz_Rn d 8 (0, [], [(0, .inr (.inr (some 1))), (1, .inl (mi 0 ((a4 + 1).toNat))), (2, .inr (.inr (some 195)))], pz_hp n0 mi ml mr c s, true) (pz_K (d + 1) 148 168 [] [(0, .inr (.inr (some 0))), (1, .inr (.inr (some 1))), (2, .inr (.inr (some 165))), (3, .inr (.inr (some 195))), (4, .inl a4)] Q false)) ∧ (x5 = 2 → (-2147483648 ≤ a4 + 1 ∧ a4 + 1 ≤ 2147483647) ∧ (0 ≤ a4 + 1 ∧ a4 + 1 < n0) ∧ (-2147483648 ≤ a4 + 2 ∧ a4 + 2 ≤ 2147483647) ∧ (0 ≤ a4 + 2 ∧ a4 + 2 < n0) ∧ pz_Rn d 11 (0, [], [(0, .inr (.inr (some 1))), (1, .inl (mi 0 ((a4 + 1).toNat))), (2, .inl (mi 0 ((a4 + 2).toNat))), (3, .inr (.inr (some 195)))], pz_hp n0 mi ml mr c s, true) (pz_K (d + 1) 148 230 [] [(0, .inr (.inr (some 0))), (1, .inr (.inr (some 1))), (2, .inr (.inr (some 165))), (3, .inr (.inr (some 195))), (4, .inl a4)] Q false)) ∧ (x5 = 3 → (-2147483648 ≤ a4 + 1 ∧ a4 + 1 ≤ 2147483647) ∧ (0 ≤ a4 + 1 ∧ a4 + 1 < n0) ∧ ((mi 0 ((a4 + 1).toNat) = 0 → (-2147483648 ≤ a4 + 2 ∧ a4 + 2 ≤ 2147483647) ∧ (0 ≤ a4 + 2 ∧ a4 + 2 < n0) ∧ (-2147483648 ≤ a4 + 3 ∧ a4 + 3 ≤ 2147483647) ∧ (0 ≤ a4 + 3 ∧ a4 + 3 < n0) ∧ pz_Rn d 14 (0, [], [(0, .inr (.inr (some 1))), (1, .inl 0), (2, .inl (mi 0 ((a4 + 2).toNat))), (3, .inl (mi 0 ((a4 + 3).toNat))), (4, .inr (.inr (some 195)))], pz_hp n0 mi ml mr c s, true) (pz_K (d + 1) 148 312 [] [(0, .inr (.inr (some 0))), (1, .inr (.inr (some 1))), (2, .inr (.inr (some 165))), (3, .inr (.inr (some 195))), (4, .inl a4)] Q false)) ∧ (mi 0 ((a4 + 1).toNat) ≠ 0 → (-2147483648 ≤ a4 + 2 ∧ a4 + 2 ≤ 2147483647) ∧ (0 ≤ a4 + 2 ∧ a4 + 2 < n0) ∧ (-2147483648 ≤ a4 + 3 ∧ a4 + 3 ≤ 2147483647) ∧ (0 ≤ a4 + 3 ∧ a4 + 3 < n0) ∧ pz_Rn d 14 (0, [], [(0, .inr (.inr (some 1))), (1, .inl 1), (2, .inl (mi 0 ((a4 + 2).toNat))), (3, .inl (mi 0 ((a4 + 3).toNat))), (4, .inr (.inr (some 195)))], pz_hp n0 mi ml mr c s, true) (pz_K (d + 1) 148 312 [] [(0, .inr (.inr (some 0))), (1, .inr (.inr (some 1))), (2, .inr (.inr (some 165))), (3, .inr (.inr (some 195))), (4, .inl a4)] Q false)))) ∧ (x5 = 4 → (-2147483648 ≤ a4 + 1 ∧ a4 + 1 ≤ 2147483647) ∧ (0 ≤ a4 + 1 ∧ a4 + 1 < n0) ∧ ((mi 0 ((a4 + 1).toNat) = 0 → (-2147483648 ≤ a4 + 2 ∧ a4 + 2 ≤ 2147483647) ∧ (0 ≤ a4 + 2 ∧ a4 + 2 < n0) ∧ (-2147483648 ≤ a4 + 3 ∧ a4 + 3 ≤ 2147483647) ∧ (0 ≤ a4 + 3 ∧ a4 + 3 < n0) ∧ pz_Rn d 17 (0, [], [(0, .inr (.inr (some 1))), (1, .inl 0), (2, .inl (mi 0 ((a4 + 2).toNat))), (3, .inl (mi 0 ((a4 + 3).toNat))), (4, .inr (.inr (some 195)))], pz_hp n0 mi ml mr c s, true) (pz_K (d + 1) 148 408 [] [(0, .inr (.inr (some 0))), (1, .inr (.inr (some 1))), (2, .inr (.inr (some 165))), (3, .inr (.inr (some 195))), (4, .inl a4)] Q false)) ∧ (mi 0 ((a4 + 1).toNat) ≠ 0 → (-2147483648 ≤ a4 + 2 ∧ a4 + 2 ≤ 2147483647) ∧ (0 ≤ a4 + 2 ∧ a4 + 2 < n0) ∧ (-2147483648 ≤ a4 + 3 ∧ a4 + 3 ≤ 2147483647) ∧ (0 ≤ a4 + 3 ∧ a4 + 3 < n0) ∧ pz_Rn d 17 (0, [], [(0, .inr (.inr (some 1))), (1, .inl 1), (2, .inl (mi 0 ((a4 + 2).toNat))), (3, .inl (mi 0 ((a4 + 3).toNat))), (4, .inr (.inr (some 195)))], pz_hp n0 mi ml mr c s, true) (pz_K (d + 1) 148 408 [] [(0, .inr (.inr (some 0))), (1, .inr (.inr (some 1))), (2, .inr (.inr (some 165))), (3, .inr (.inr (some 195))), (4, .inl a4)] Q false)))) ∧ (x5 = 5 → (-2147483648 ≤ a4 + 1 ∧ a4 + 1 ≤ 2147483647) ∧ (0 ≤ a4 + 1 ∧ a4 + 1 < n0) ∧ (-2147483648 ≤ a4 + 2 ∧ a4 + 2 ≤ 2147483647) ∧ (0 ≤ a4 + 2 ∧ a4 + 2 < n0) ∧ (-2147483648 ≤ a4 + 3 ∧ a4 + 3 ≤ 2147483647) ∧ (0 ≤ a4 + 3 ∧ a4 + 3 < n0) ∧ (-2147483648 ≤ a4 + 4 ∧ a4 + 4 ≤ 2147483647) ∧ (0 ≤ a4 + 4 ∧ a4 + 4 < n0) ∧ pz_Rn d 21 (0, [], [(0, .inr (.inr (some 1))), (1, .inl (mi 0 ((a4 + 1).toNat))), (2, .inl (mi 0 ((a4 + 2).toNat))), (3, .inl (mi 0 ((a4 + 3).toNat))), (4, .inl (mi 0 ((a4 + 4).toNat))), (5, .inr (.inr (some 195)))], pz_hp n0 mi ml mr c s, true) (pz_K (d + 1) 148 502 [] [(0, .inr (.inr (some 0))), (1, .inr (.inr (some 1))), (2, .inr (.inr (some 165))), (3, .inr (.inr (some 195))), (4, .inl a4)] Q false)) ∧ (x5 = 6 → (-2147483648 ≤ a4 + 1 ∧ a4 + 1 ≤ 2147483647) ∧ (0 ≤ a4 + 1 ∧ a4 + 1 < n0) ∧ (-2147483648 ≤ a4 + 2 ∧ a4 + 2 ≤ 2147483647) ∧ (0 ≤ a4 + 2 ∧ a4 + 2 < n0) ∧ pz_Rn d 23 (0, [], [(0, .inr (.inr (some 1))), (1, .inl (mi 0 ((a4 + 1).toNat))), (2, .inl (mi 0 ((a4 + 2).toNat)))], pz_hp n0 mi ml mr c s, true) (pz_K (d + 1) 148 581 [] [(0, .inr (.inr (some 0))), (1, .inr (.inr (some 1))), (2, .inr (.inr (some 165))), (3, .inr (.inr (some 195))), (4, .inl a4)] Q false)) ∧ (x5 = 7 → (-2147483648 ≤ a4 + 1 ∧ a4 + 1 ≤ 2147483647) ∧ (0 ≤ a4 + 1 ∧ a4 + 1 < n0) ∧ pz_Rn d 38 (0, [], [(0, .inr (.inr (some 1))), (1, .inl (mi 0 ((a4 + 1).toNat)))], pz_hp n0 mi ml mr c s, true) (pz_K (d + 1) 148 623 [] [(0, .inr (.inr (some 0))), (1, .inr (.inr (some 1))), (2, .inr (.inr (some 165))), (3, .inr (.inr (some 195))), (4, .inl a4)] Q false)) ∧ (x5 = 8 → (-2147483648 ≤ a4 + 1 ∧ a4 + 1 ≤ 2147483647) ∧ (0 ≤ a4 + 1 ∧ a4 + 1 < n0) ∧ (-2147483648 ≤ a4 + 2 ∧ a4 + 2 ≤ 2147483647) ∧ (0 ≤ a4 + 2 ∧ a4 + 2 < n0) ∧ ((mi 0 ((a4 + 2).toNat) = 0 → pz_Rn d 81 (0, [], [(0, .inr (.inr (some 1))), (1, .inl (mi 0 ((a4 + 1).toNat))), (2, .inl 0), (3, .inr (.inr (some 195)))], pz_hp n0 mi ml mr c s, true) (pz_K (d + 1) 148 674 [] [(0, .inr (.inr (some 0))), (1, .inr (.inr (some 1))), (2, .inr (.inr (some 165))), (3, .inr (.inr (some 195))), (4, .inl a4)] Q false)) ∧ (mi 0 ((a4 + 2).toNat) ≠ 0 → pz_Rn d 81 (0, [], [(0, .inr (.inr (some 1))), (1, .inl (mi 0 ((a4 + 1).toNat))), (2, .inl 1), (3, .inr (.inr (some 195)))], pz_hp n0 mi ml mr c s, true) (pz_K (d + 1) 148 674 [] [(0, .inr (.inr (some 0))), (1, .inr (.inr (some 1))), (2, .inr (.inr (some 165))), (3, .inr (.inr (some 195))), (4, .inl a4)] Q false)))) ∧ (x5 = 9 → pz_Rn d 142 (0, [], [(0, .inr (.inr (some 1)))], pz_hp n0 mi ml mr c s, true) (pz_K (d + 1) 148 737 [] [(0, .inr (.inr (some 0))), (1, .inr (.inr (some 1))), (2, .inr (.inr (some 165))), (3, .inr (.inr (some 195))), (4, .inl a4)] Q true)) ∧ (x5 = 10 → (-2147483648 ≤ a4 + 1 ∧ a4 + 1 ≤ 2147483647) ∧ (0 ≤ a4 + 1 ∧ a4 + 1 < n0) ∧ pz_Rn d 84 (0, [], [(0, .inr (.inr (some 1))), (1, .inl (mi 0 ((a4 + 1).toNat))), (2, .inr (.inr (some 195)))], pz_hp n0 mi ml mr c s, true) (pz_K (d + 1) 148 757 [] [(0, .inr (.inr (some 0))), (1, .inr (.inr (some 1))), (2, .inr (.inr (some 165))), (3, .inr (.inr (some 195))), (4, .inl a4)] Q false)) ∧ (x5 = 11 → (-2147483648 ≤ a4 + 1 ∧ a4 + 1 ≤ 2147483647) ∧ (0 ≤ a4 + 1 ∧ a4 + 1 < n0) ∧ (-2147483648 ≤ a4 + 2 ∧ a4 + 2 ≤ 2147483647) ∧ (0 ≤ a4 + 2 ∧ a4 + 2 < n0) ∧ (-2147483648 ≤ a4 + 3 ∧ a4 + 3 ≤ 2147483647) ∧ (0 ≤ a4 + 3 ∧ a4 + 3 < n0) ∧ pz_Rn d 88 (0, [], [(0, .inr (.inr (some 1))), (1, .inl (mi 0 ((a4 + 1).toNat))), (2, .inl (mi 0 ((a4 + 2).toNat))), (3, .inl (mi 0 ((a4 + 3).toNat))), (4, .inr (.inr (some 195)))], pz_hp n0 mi ml mr c s, true) (pz_K (d + 1) 148 825 [] [(0, .inr (.inr (some 0))), (1, .inr (.inr (some 1))), (2, .inr (.inr (some 165))), (3, .inr (.inr (some 195))), (4, .inl a4)] Q false)) ∧ (x5 = 12 → (-2147483648 ≤ a4 + 1 ∧ a4 + 1 ≤ 2147483647) ∧ (0 ≤ a4 + 1 ∧ a4 + 1 < n0) ∧ pz_Rn d 90 (0, [], [(0, .inr (.inr (some 1))), (1, .inl (mi 0 ((a4 + 1).toNat))), (2, .inr (.inr (some 195)))], pz_hp n0 mi ml mr c s, true) (pz_K (d + 1) 148 893 [] [(0, .inr (.inr (some 0))), (1, .inr (.inr (some 1))), (2, .inr (.inr (some 165))), (3, .inr (.inr (some 195))), (4, .inl a4)] Q false)) ∧ (x5 < 0 ∨ 12 < x5 → (-2147483648 ≤ a4 + 5 ∧ a4 + 5 ≤ 2147483647) ∧ pz_Rn (d + 1) 148 (23, [], [(0, .inr (.inr (some 0))), (1, .inr (.inr (some 1))), (2, .inr (.inr (some 165))), (3, .inr (.inr (some 195))), (4, .inl (a4 + 5))], pz_hp n0 mi ml mr c s, true) Q))))) : pz_Rn (d + 1) 148 (23, [], [(0, .inr (.inr (some 0))), (1, .inr (.inr (some 1))), (2, .inr (.inr (some 165))), (3, .inr (.inr (some 195))), (4, .inl a4)], pz_hp n0 mi ml mr c s, true) Q := by
  refine pz_j1 [.inl a4] 25 rfl rfl rfl rfl rfl ?_
  refine pz_j1 [.inr (.inr (some 0)), .inl a4] 26 rfl rfl rfl rfl rfl ?_
  obtain ⟨k1, K⟩ := K
  refine pz_j1 [.inl (n0 : Int), .inl a4] 27 rfl rfl rfl rfl (pz_a2 rfl (pz_a2 rfl (pz_a2 rfl (decide_eq_true k1)))) ?_
  refine pz_j1 [.inl 5, .inl (n0 : Int), .inl a4] 28 rfl rfl rfl rfl rfl ?_
  obtain ⟨k2, K⟩ := K
  refine pz_j1 [.inl ((n0 : Int) - 5), .inl a4] 29 rfl rfl rfl rfl (pz_ok_in k2) ?_
  refine pz_j1 [] (bif pz_cp .gt a4 ((n0 : Int) - 5) then 947 else 32) rfl rfl rfl rfl rfl ?_
  refine pz_Rn_if pz_c1_gt pz_c0_gt ⟨fun b3 => ?_, fun b3 => ?_⟩
  · replace K := K.1 b3
    refine pz_j1 [.inl 1] 948 rfl rfl rfl rfl rfl ?_
    exact pz_Rn_ret rfl rfl rfl rfl K
  · replace K := K.2 b3
    refine pz_j1 [.inr (.inr (some 0))] 33 rfl rfl rfl rfl rfl ?_
    refine pz_j1 [.inl a4, .inr (.inr (some 0))] 35 rfl rfl rfl rfl rfl ?_
    obtain ⟨k4, K⟩ := K
    refine pz_j1 [.inl (mi 0 ((a4).toNat))] 36 rfl rfl rfl rfl (pz_a2 rfl (pz_ok_ixx pz_S0 k4)) ?_
    refine pz_j1 [.inl 15, .inl (mi 0 ((a4).toNat))] 38 rfl rfl rfl rfl rfl ?_
    refine pz_j1 [.inl (pz_i32 (fun x y => x &&& y) (mi 0 ((a4).toNat)) 15)] 39 rfl rfl rfl rfl rfl ?_
    obtain ⟨x5, hx5⟩ : ∃ x : Int, x = pz_i32 (fun x y => x &&& y) (mi 0 ((a4).toNat)) 15 := ⟨_, rfl⟩
    rewrite [← hx5]
    replace K := K x5 hx5
    by_cases b6 : x5 = 0
    · replace K := K.1 b6
      refine pz_j_sw b6 ?_
      refine pz_j1 [] 104 rfl rfl rfl rfl rfl ?_
      refine pz_j1 [.inr (.inr (some 1))] 105 rfl rfl rfl rfl rfl ?_
      refine pz_j1 [.inr (.inr (some 0)), .inr (.inr (some 1))] 106 rfl rfl rfl rfl rfl ?_
      refine pz_j1 [.inl a4, .inr (.inr (some 0)), .inr (.inr (some 1))] 108 rfl rfl rfl rfl rfl ?_
      refine pz_j1 [.inl 1, .inl a4, .inr (.inr (some 0)), .inr (.inr (some 1))] 109 rfl rfl rfl rfl rfl ?_
      obtain ⟨k7, K⟩ := K
      refine pz_j1 [.inl (a4 + 1), .inr (.inr (some 0)), .inr (.inr (some 1))] 110 rfl rfl rfl rfl (pz_ok_in k7) ?_
      obtain ⟨k8, K⟩ := K
      refine pz_j1 [.inl (mi 0 ((a4 + 1).toNat)), .inr (.inr (some 1))] 111 rfl rfl rfl rfl (pz_a2 rfl (pz_ok_ixx pz_S0 k8)) ?_
      refine pz_j1 [.inr (.inr (some 195)), .inl (mi 0 ((a4 + 1).toNat)), .inr (.inr (some 1))] 112 rfl rfl rfl rfl rfl ?_
      exact pz_Rn_k (y := 5) rfl rfl rfl rfl rfl rfl rfl rfl rfl K
    by_cases b9 : x5 = 1
    · replace K := K.2.1 b9
      refine pz_j_sw b9 ?_
      refine pz_j1 [] 160 rfl rfl rfl rfl rfl ?_
      refine pz_j1 [.inr (.inr (some 1))] 161 rfl rfl rfl rfl rfl ?_
      refine pz_j1 [.inr (.inr (some 0)), .inr (.inr (some 1))] 162 rfl rfl rfl rfl rfl ?_
      refine pz_j1 [.inl a4, .inr (.inr (some 0)), .inr (.inr (some 1))] 164 rfl rfl rfl rfl rfl ?_
      refine pz_j1 [.inl 1, .inl a4, .inr (.inr (some 0)), .inr (.inr (some 1))] 165 rfl rfl rfl rfl rfl ?_
      obtain ⟨k10, K⟩ := K
      refine pz_j1 [.inl (a4 + 1), .inr (.inr (some 0)), .inr (.inr (some 1))] 166 rfl rfl rfl rfl (pz_ok_in k10) ?_
      obtain ⟨k11, K⟩ := K
      refine pz_j1 [.inl (mi 0 ((a4 + 1).toNat)), .inr (.inr (some 1))] 167 rfl rfl rfl rfl (pz_a2 rfl (pz_ok_ixx pz_S0 k11)) ?_
      refine pz_j1 [.inr (.inr (some 195)), .inl (mi 0 ((a4 + 1).toNat)), .inr (.inr (some 1))] 168 rfl rfl rfl rfl rfl ?_
      exact pz_Rn_k (y := 7) rfl rfl rfl rfl rfl rfl rfl rfl rfl K
    by_cases b12 : x5 = 2
    · replace K := K.2.2.1 b12
      refine pz_j_sw b12 ?_
      refine pz_j1 [] 216 rfl rfl rfl rfl rfl ?_
      refine pz_j1 [.inr (.inr (some 1))] 217 rfl rfl rfl rfl rfl ?_
      refine pz_j1 [.inr (.inr (some 0)), .inr (.inr (some 1))] 218 rfl rfl rfl rfl rfl ?_
      refine pz_j1 [.inl a4, .inr (.inr (some 0)), .inr (.inr (some 1))] 220 rfl rfl rfl rfl rfl ?_
      refine pz_j1 [.inl 1, .inl a4, .inr (.inr (some 0)), .inr (.inr (some 1))] 221 rfl rfl rfl rfl rfl ?_
      obtain ⟨k13, K⟩ := K
      refine pz_j1 [.inl (a4 + 1), .inr (.inr (some 0)), .inr (.inr (some 1))] 222 rfl rfl rfl rfl (pz_ok_in k13) ?_
      obtain ⟨k14, K⟩ := K
      refine pz_j1 [.inl (mi 0 ((a4 + 1).toNat)), .inr (.inr (some 1))] 223 rfl rfl rfl rfl (pz_a2 rfl (pz_ok_ixx pz_S0 k14)) ?_
      refine pz_j1 [.inr (.inr (some 0)), .inl (mi 0 ((a4 + 1).toNat)), .inr (.inr (some 1))] 224 rfl rfl rfl rfl rfl ?_
      refine pz_j1 [.inl a4, .inr (.inr (some 0)), .inl (mi 0 ((a4 + 1).toNat)), .inr (.inr (some 1))] 226 rfl rfl rfl rfl rfl ?_
      refine pz_j1 [.inl 2, .inl a4, .inr (.inr (some 0)), .inl (mi 0 ((a4 + 1).toNat)), .inr (.inr (some 1))] 227 rfl rfl rfl rfl rfl ?_
      obtain ⟨k15, K⟩ := K
      refine pz_j1 [.inl (a4 + 2), .inr (.inr (some 0)), .inl (mi 0 ((a4 + 1).toNat)), .inr (.inr (some 1))] 228 rfl rfl rfl rfl (pz_ok_in k15) ?_
      obtain ⟨k16, K⟩ := K
      refine pz_j1 [.inl (mi 0 ((a4 + 2).toNat)), .inl (mi 0 ((a4 + 1).toNat)), .inr (.inr (some 1))] 229 rfl rfl rfl rfl (pz_a2 rfl (pz_ok_ixx pz_S0 k16)) ?_
      refine pz_j1 [.inr (.inr (some 195)), .inl (mi 0 ((a4 + 2).toNat)), .inl (mi 0 ((a4 + 1).toNat)), .inr (.inr (some 1))] 230 rfl rfl rfl rfl rfl ?_
      exact pz_Rn_k (y := 10) rfl rfl rfl rfl rfl rfl rfl rfl rfl K
    by_cases b17 : x5 = 3
    · replace K := K.2.2.2.1 b17
      refine pz_j_sw b17 ?_
      refine pz_j1 [] 284 rfl rfl rfl rfl rfl ?_
      refine pz_j1 [.inr (.inr (some 1))] 285 rfl rfl rfl rfl rfl ?_
      refine pz_j1 [.inr (.inr (some 0)), .inr (.inr (some 1))] 286 rfl rfl rfl rfl rfl ?_
      refine pz_j1 [.inl a4, .inr (.inr (some 0)), .inr (.inr (some 1))] 288 rfl rfl rfl rfl rfl ?_
      refine pz_j1 [.inl 1, .inl a4, .inr (.inr (some 0)), .inr (.inr (some 1))] 289 rfl rfl rfl rfl rfl ?_
      obtain ⟨k18, K⟩ := K
      refine pz_j1 [.inl (a4 + 1), .inr (.inr (some 0)), .inr (.inr (some 1))] 290 rfl rfl rfl rfl (pz_ok_in k18) ?_
      obtain ⟨k19, K⟩ := K
      refine pz_j1 [.inl (mi 0 ((a4 + 1).toNat)), .inr (.inr (some 1))] 291 rfl rfl rfl rfl (pz_a2 rfl (pz_ok_ixx pz_S0 k19)) ?_
      refine pz_j1 [.inr (.inr (some 1))] (bif pz_cp .eq (mi 0 ((a4 + 1).toNat)) 0 then 298 else 294) rfl rfl rfl rfl rfl ?_
      refine pz_Rn_if pz_c1_eq pz_c0_eq ⟨fun b20 => ?_, fun b20 => ?_⟩
      · replace K := K.1 b20
        refine pz_j1 [.inl 0, .inr (.inr (some 1))] 299 rfl rfl rfl rfl rfl ?_
        refine pz_j1 [.inr (.inr (some 0)), .inl 0, .inr (.inr (some 1))] 300 rfl rfl rfl rfl rfl ?_
        refine pz_j1 [.inl a4, .inr (.inr (some 0)), .inl 0, .inr (.inr (some 1))] 302 rfl rfl rfl rfl rfl ?_
        refine pz_j1 [.inl 2, .inl a4, .inr (.inr (some 0)), .inl 0, .inr (.inr (some 1))] 303 rfl rfl rfl rfl rfl ?_
        obtain ⟨k21, K⟩ := K
        refine pz_j1 [.inl (a4 + 2), .inr (.inr (some 0)), .inl 0, .inr (.inr (some 1))] 304 rfl rfl rfl rfl (pz_ok_in k21) ?_
        obtain ⟨k22, K⟩ := K
        refine pz_j1 [.inl (mi 0 ((a4 + 2).toNat)), .inl 0, .inr (.inr (some 1))] 305 rfl rfl rfl rfl (pz_a2 rfl (pz_ok_ixx pz_S0 k22)) ?_
        refine pz_j1 [.inr (.inr (some 0)), .inl (mi 0 ((a4 + 2).toNat)), .inl 0, .inr (.inr (some 1))] 306 rfl rfl rfl rfl rfl ?_
        refine pz_j1 [.inl a4, .inr (.inr (some 0)), .inl (mi 0 ((a4 + 2).toNat)), .inl 0, .inr (.inr (some 1))] 308 rfl rfl rfl rfl rfl ?_
        refine pz_j1 [.inl 3, .inl a4, .inr (.inr (some 0)), .inl (mi 0 ((a4 + 2).toNat)), .inl 0, .inr (.inr (some 1))] 309 rfl rfl rfl rfl rfl ?_
        obtain ⟨k23, K⟩ := K
        refine pz_j1 [.inl (a4 + 3), .inr (.inr (some 0)), .inl (mi 0 ((a4 + 2).toNat)), .inl 0, .inr (.inr (some 1))] 310 rfl rfl rfl rfl (pz_ok_in k23) ?_
        obtain ⟨k24, K⟩ := K
        refine pz_j1 [.inl (mi 0 ((a4 + 3).toNat)), .inl (mi 0 ((a4 + 2).toNat)), .inl 0, .inr (.inr (some 1))] 311 rfl rfl rfl rfl (pz_a2 rfl (pz_ok_ixx pz_S0 k24)) ?_
        refine pz_j1 [.inr (.inr (some 195)), .inl (mi 0 ((a4 + 3).toNat)), .inl (mi 0 ((a4 + 2).toNat)), .inl 0, .inr (.inr (some 1))] 312 rfl rfl rfl rfl rfl ?_
        exact pz_Rn_k (y := 13) rfl rfl rfl rfl rfl rfl rfl rfl rfl K
      · replace K := K.2 b20
        refine pz_j1 [.inl 1, .inr (.inr (some 1))] 295 rfl rfl rfl rfl rfl ?_
        refine pz_j1 [.inl 1, .inr (.inr (some 1))] 299 rfl rfl rfl rfl rfl ?_
        refine pz_j1 [.inr (.inr (some 0)), .inl 1, .inr (.inr (some 1))] 300 rfl rfl rfl rfl rfl ?_
        refine pz_j1 [.inl a4, .inr (.inr (some 0)), .inl 1, .inr (.inr (some 1))] 302 rfl rfl rfl rfl rfl ?_
        refine pz_j1 [.inl 2, .inl a4, .inr (.inr (some 0)), .inl 1, .inr (.inr (some 1))] 303 rfl rfl rfl rfl rfl ?_
        obtain ⟨k25, K⟩ := K
        refine pz_j1 [.inl (a4 + 2), .inr (.inr (some 0)), .inl 1, .inr (.inr (some 1))] 304 rfl rfl rfl rfl (pz_ok_in k25) ?_
        obtain ⟨k26, K⟩ := K
        refine pz_j1 [.inl (mi 0 ((a4 + 2).toNat)), .inl 1, .inr (.inr (some 1))] 305 rfl rfl rfl rfl (pz_a2 rfl (pz_ok_ixx pz_S0 k26)) ?_
        refine pz_j1 [.inr (.inr (some 0)), .inl (mi 0 ((a4 + 2).toNat)), .inl 1, .inr (.inr (some 1))] 306 rfl rfl rfl rfl rfl ?_
        refine pz_j1 [.inl a4, .inr (.inr (some 0)), .inl (mi 0 ((a4 + 2).toNat)), .inl 1, .inr (.inr (some 1))] 308 rfl rfl rfl rfl rfl ?_
        refine pz_j1 [.inl 3, .inl a4, .inr (.inr (some 0)), .inl (mi 0 ((a4 + 2).toNat)), .inl 1, .inr (.inr (some 1))] 309 rfl rfl rfl rfl rfl ?_
        obtain ⟨k27, K⟩ := K
        refine pz_j1 [.inl (a4 + 3), .inr (.inr (some 0)), .inl (mi 0 ((a4 + 2).toNat)), .inl 1, .inr (.inr (some 1))] 310 rfl rfl rfl rfl (pz_ok_in k27) ?_
        obtain ⟨k28, K⟩ := K
        refine pz_j1 [.inl (mi 0 ((a4 + 3).toNat)), .inl (mi 0 ((a4 + 2).toNat)), .inl 1, .inr (.inr (some 1))] 311 rfl rfl rfl rfl (pz_a2 rfl (pz_ok_ixx pz_S0 k28)) ?_
        refine pz_j1 [.inr (.inr (some 195)), .inl (mi 0 ((a4 + 3).toNat)), .inl (mi 0 ((a4 + 2).toNat)), .inl 1, .inr (.inr (some 1))] 312 rfl rfl rfl rfl rfl ?_
        exact pz_Rn_k (y := 13) rfl rfl rfl rfl rfl rfl rfl rfl rfl K
    by_cases b29 : x5 = 4
    · replace K := K.2.2.2.2.1 b29
      refine pz_j_sw b29 ?_
      refine pz_j1 [] 380 rfl rfl rfl rfl rfl ?_
      refine pz_j1 [.inr (.inr (some 1))] 381 rfl rfl rfl rfl rfl ?_
      refine pz_j1 [.inr (.inr (some 0)), .inr (.inr (some 1))] 382 rfl rfl rfl rfl rfl ?_
      refine pz_j1 [.inl a4, .inr (.inr (some 0)), .inr (.inr (some 1))] 384 rfl rfl rfl rfl rfl ?_
      refine pz_j1 [.inl 1, .inl a4, .inr (.inr (some 0)), .inr (.inr (some 1))] 385 rfl rfl rfl rfl rfl ?_
      obtain ⟨k30, K⟩ := K
      refine pz_j1 [.inl (a4 + 1), .inr (.inr (some 0)), .inr (.inr (some 1))] 386 rfl rfl rfl rfl (pz_ok_in k30) ?_
      obtain ⟨k31, K⟩ := K
      refine pz_j1 [.inl (mi 0 ((a4 + 1).toNat)), .inr (.inr (some 1))] 387 rfl rfl rfl rfl (pz_a2 rfl (pz_ok_ixx pz_S0 k31)) ?_
      refine pz_j1 [.inr (.inr (some 1))] (bif pz_cp .eq (mi 0 ((a4 + 1).toNat)) 0 then 394 else 390) rfl rfl rfl rfl rfl ?_
      refine pz_Rn_if pz_c1_eq pz_c0_eq ⟨fun b32 => ?_, fun b32 => ?_⟩
      · replace K := K.1 b32
        refine pz_j1 [.inl 0, .inr (.inr (some 1))] 395 rfl rfl rfl rfl rfl ?_
        refine pz_j1 [.inr (.inr (some 0)), .inl 0, .inr (.inr (some 1))] 396 rfl rfl rfl rfl rfl ?_
        refine pz_j1 [.inl a4, .inr (.inr (some 0)), .inl 0, .inr (.inr (some 1))] 398 rfl rfl rfl rfl rfl ?_
        refine pz_j1 [.inl 2, .inl a4, .inr (.inr (some 0)), .inl 0, .inr (.inr (some 1))] 399 rfl rfl rfl rfl rfl ?_
        obtain ⟨k33, K⟩ := K
        refine pz_j1 [.inl (a4 + 2), .inr (.inr (some 0)), .inl 0, .inr (.inr (some 1))] 400 rfl rfl rfl rfl (pz_ok_in k33) ?_
        obtain ⟨k34, K⟩ := K
        refine pz_j1 [.inl (mi 0 ((a4 + 2).toNat)), .inl 0, .inr (.inr (some 1))] 401 rfl rfl rfl rfl (pz_a2 rfl (pz_ok_ixx pz_S0 k34)) ?_
        refine pz_j1 [.inr (.inr (some 0)), .inl (mi 0 ((a4 + 2).toNat)), .inl 0, .inr (.inr (some 1))] 402 rfl rfl rfl rfl rfl ?_
        refine pz_j1 [.inl a4, .inr (.inr (some 0)), .inl (mi 0 ((a4 + 2).toNat)), .inl 0, .inr (.inr (some 1))] 404 rfl rfl rfl rfl rfl ?_
        refine pz_j1 [.inl 3, .inl a4, .inr (.inr (some 0)), .inl (mi 0 ((a4 + 2).toNat)), .inl 0, .inr (.inr (some 1))] 405 rfl rfl rfl rfl rfl ?_
        obtain ⟨k35, K⟩ := K
        refine pz_j1 [.inl (a4 + 3), .inr (.inr (some 0)), .inl (mi 0 ((a4 + 2).toNat)), .inl 0, .inr (.inr (some 1))] 406 rfl rfl rfl rfl (pz_ok_in k35) ?_
        obtain ⟨k36, K⟩ := K
        refine pz_j1 [.inl (mi 0 ((a4 + 3).toNat)), .inl (mi 0 ((a4 + 2).toNat)), .inl 0, .inr (.inr (some 1))] 407 rfl rfl rfl rfl (pz_a2 rfl (pz_ok_ixx pz_S0 k36)) ?_
        refine pz_j1 [.inr (.inr (some 195)), .inl (mi 0 ((a4 + 3).toNat)), .inl (mi 0 ((a4 + 2).toNat)), .inl 0, .inr (.inr (some 1))] 408 rfl rfl rfl rfl rfl ?_
        exact pz_Rn_k (y := 16) rfl rfl rfl rfl rfl rfl rfl rfl rfl K
      · replace K := K.2 b32
        refine pz_j1 [.inl 1, .inr (.inr (some 1))] 391 rfl rfl rfl rfl rfl ?_
        refine pz_j1 [.inl 1, .inr (.inr (some 1))] 395 rfl rfl rfl rfl rfl ?_
        refine pz_j1 [.inr (.inr (some 0)), .inl 1, .inr (.inr (some 1))] 396 rfl rfl rfl rfl rfl ?_
        refine pz_j1 [.inl a4, .inr (.inr (some 0)), .inl 1, .inr (.inr (some 1))] 398 rfl rfl rfl rfl rfl ?_
        refine pz_j1 [.inl 2, .inl a4, .inr (.inr (some 0)), .inl 1, .inr (.inr (some 1))] 399 rfl rfl rfl rfl rfl ?_
        obtain ⟨k37, K⟩ := K
        refine pz_j1 [.inl (a4 + 2), .inr (.inr (some 0)), .inl 1, .inr (.inr (some 1))] 400 rfl rfl rfl rfl (pz_ok_in k37) ?_
        obtain ⟨k38, K⟩ := K
        refine pz_j1 [.inl (mi 0 ((a4 + 2).toNat)), .inl 1, .inr (.inr (some 1))] 401 rfl rfl rfl rfl (pz_a2 rfl (pz_ok_ixx pz_S0 k38)) ?_
        refine pz_j1 [.inr (.inr (some 0)), .inl (mi 0 ((a4 + 2).toNat)), .inl 1, .inr (.inr (some 1))] 402 rfl rfl rfl rfl rfl ?_
        refine pz_j1 [.inl a4, .inr (.inr (some 0)), .inl (mi 0 ((a4 + 2).toNat)), .inl 1, .inr (.inr (some 1))] 404 rfl rfl rfl rfl rfl ?_
        refine pz_j1 [.inl 3, .inl a4, .inr (.inr (some 0)), .inl (mi 0 ((a4 + 2).toNat)), .inl 1, .inr (.inr (some 1))] 405 rfl rfl rfl rfl rfl ?_
        obtain ⟨k39, K⟩ := K
        refine pz_j1 [.inl (a4 + 3), .inr (.inr (some 0)), .inl (mi 0 ((a4 + 2).toNat)), .inl 1, .inr (.inr (some 1))] 406 rfl rfl rfl rfl (pz_ok_in k39) ?_
        obtain ⟨k40, K⟩ := K
        refine pz_j1 [.inl (mi 0 ((a4 + 3).toNat)), .inl (mi 0 ((a4 + 2).toNat)), .inl 1, .inr (.inr (some 1))] 407 rfl rfl rfl rfl (pz_a2 rfl (pz_ok_ixx pz_S0 k40)) ?_
        refine pz_j1 [.inr (.inr (some 195)), .inl (mi 0 ((a4 + 3).toNat)), .inl (mi 0 ((a4 + 2).toNat)), .inl 1, .inr (.inr (some 1))] 408 rfl rfl rfl rfl rfl ?_
        exact pz_Rn_k (y := 16) rfl rfl rfl rfl rfl rfl rfl rfl rfl K
    by_cases b41 : x5 = 5
    · replace K := K.2.2.2.2.2.1 b41
      refine pz_j_sw b41 ?_
      refine pz_j1 [] 476 rfl rfl rfl rfl rfl ?_
      refine pz_j1 [.inr (.inr (some 1))] 477 rfl rfl rfl rfl rfl ?_
      refine pz_j1 [.inr (.inr (some 0)), .inr (.inr (some 1))] 478 rfl rfl rfl rfl rfl ?_
      refine pz_j1 [.inl a4, .inr (.inr (some 0)), .inr (.inr (some 1))] 480 rfl rfl rfl rfl rfl ?_
      refine pz_j1 [.inl 1, .inl a4, .inr (.inr (some 0)), .inr (.inr (some 1))] 481 rfl rfl rfl rfl rfl ?_
      obtain ⟨k42, K⟩ := K
      refine pz_j1 [.inl (a4 + 1), .inr (.inr (some 0)), .inr (.inr (some 1))] 482 rfl rfl rfl rfl (pz_ok_in k42) ?_
      obtain ⟨k43, K⟩ := K
      refine pz_j1 [.inl (mi 0 ((a4 + 1).toNat)), .inr (.inr (some 1))] 483 rfl rfl rfl rfl (pz_a2 rfl (pz_ok_ixx pz_S0 k43)) ?_
      refine pz_j1 [.inr (.inr (some 0)), .inl (mi 0 ((a4 + 1).toNat)), .inr (.inr (some 1))] 484 rfl rfl rfl rfl rfl ?_
      refine pz_j1 [.inl a4, .inr (.inr (some 0)), .inl (mi 0 ((a4 + 1).toNat)), .inr (.inr (some 1))] 486 rfl rfl rfl rfl rfl ?_
      refine pz_j1 [.inl 2, .inl a4, .inr (.inr (some 0)), .inl (mi 0 ((a4 + 1).toNat)), .inr (.inr (some 1))] 487 rfl rfl rfl rfl rfl ?_
      obtain ⟨k44, K⟩ := K
      refine pz_j1 [.inl (a4 + 2), .inr (.inr (some 0)), .inl (mi 0 ((a4 + 1).toNat)), .inr (.inr (some 1))] 488 rfl rfl rfl rfl (pz_ok_in k44) ?_
      obtain ⟨k45, K⟩ := K
      refine pz_j1 [.inl (mi 0 ((a4 + 2).toNat)), .inl (mi 0 ((a4 + 1).toNat)), .inr (.inr (some 1))] 489 rfl rfl rfl rfl (pz_a2 rfl (pz_ok_ixx pz_S0 k45)) ?_
      refine pz_j1 [.inr (.inr (some 0)), .inl (mi 0 ((a4 + 2).toNat)), .inl (mi 0 ((a4 + 1).toNat)), .inr (.inr (some 1))] 490 rfl rfl rfl rfl rfl ?_
      refine pz_j1 [.inl a4, .inr (.inr (some 0)), .inl (mi 0 ((a4 + 2).toNat)), .inl (mi 0 ((a4 + 1).toNat)), .inr (.inr (some 1))] 492 rfl rfl rfl rfl rfl ?_
      refine pz_j1 [.inl 3, .inl a4, .inr (.inr (some 0)), .inl (mi 0 ((a4 + 2).toNat)), .inl (mi 0 ((a4 + 1).toNat)), .inr (.inr (some 1))] 493 rfl rfl rfl rfl rfl ?_
      obtain ⟨k46, K⟩ := K
      refine pz_j1 [.inl (a4 + 3), .inr (.inr (some 0)), .inl (mi 0 ((a4 + 2).toNat)), .inl (mi 0 ((a4 + 1).toNat)), .inr (.inr (some 1))] 494 rfl rfl rfl rfl (pz_ok_in k46) ?_
      obtain ⟨k47, K⟩ := K
      refine pz_j1 [.inl (mi 0 ((a4 + 3).toNat)), .inl (mi 0 ((a4 + 2).toNat)), .inl (mi 0 ((a4 + 1).toNat)), .inr (.inr (some 1))] 495 rfl rfl rfl rfl (pz_a2 rfl (pz_ok_ixx pz_S0 k47)) ?_
      refine pz_j1 [.inr (.inr (some 0)), .inl (mi 0 ((a4 + 3).toNat)), .inl (mi 0 ((a4 + 2).toNat)), .inl (mi 0 ((a4 + 1).toNat)), .inr (.inr (some 1))] 496 rfl rfl rfl rfl rfl ?_
      refine pz_j1 [.inl a4, .inr (.inr (some 0)), .inl (mi 0 ((a4 + 3).toNat)), .inl (mi 0 ((a4 + 2).toNat)), .inl (mi 0 ((a4 + 1).toNat)), .inr (.inr (some 1))] 498 rfl rfl rfl rfl rfl ?_
      refine pz_j1 [.inl 4, .inl a4, .inr (.inr (some 0)), .inl (mi 0 ((a4 + 3).toNat)), .inl (mi 0 ((a4 + 2).toNat)), .inl (mi 0 ((a4 + 1).toNat)), .inr (.inr (some 1))] 499 rfl rfl rfl rfl rfl ?_
      obtain ⟨k48, K⟩ := K
      refine pz_j1 [.inl (a4 + 4), .inr (.inr (some 0)), .inl (mi 0 ((a4 + 3).toNat)), .inl (mi 0 ((a4 + 2).toNat)), .inl (mi 0 ((a4 + 1).toNat)), .inr (.inr (some 1))] 500 rfl rfl rfl rfl (pz_ok_in k48) ?_
      obtain ⟨k49, K⟩ := K
      refine pz_j1 [.inl (mi 0 ((a4 + 4).toNat)), .inl (mi 0 ((a4 + 3).toNat)), .inl (mi 0 ((a4 + 2).toNat)), .inl (mi 0 ((a4 + 1).toNat)), .inr (.inr (some 1))] 501 rfl rfl rfl rfl (pz_a2 rfl (pz_ok_ixx pz_S0 k49)) ?_
      refine pz_j1 [.inr (.inr (some 195)), .inl (mi 0 ((a4 + 4).toNat)), .inl (mi 0 ((a4 + 3).toNat)), .inl (mi 0 ((a4 + 2).toNat)), .inl (mi 0 ((a4 + 1).toNat)), .inr (.inr (some 1))] 502 rfl rfl rfl rfl rfl ?_
      exact pz_Rn_k (y := 20) rfl rfl rfl rfl rfl rfl rfl rfl rfl K
    by_cases b50 : x5 = 6
    · replace K := K.2.2.2.2.2.2.1 b50
      refine pz_j_sw b50 ?_
      refine pz_j1 [] 568 rfl rfl rfl rfl rfl ?_
      refine pz_j1 [.inr (.inr (some 1))] 569 rfl rfl rfl rfl rfl ?_
      refine pz_j1 [.inr (.inr (some 0)), .inr (.inr (some 1))] 570 rfl rfl rfl rfl rfl ?_
      refine pz_j1 [.inl a4, .inr (.inr (some 0)), .inr (.inr (some 1))] 572 rfl rfl rfl rfl rfl ?_
      refine pz_j1 [.inl 1, .inl a4, .inr (.inr (some 0)), .inr (.inr (some 1))] 573 rfl rfl rfl rfl rfl ?_
      obtain ⟨k51, K⟩ := K
      refine pz_j1 [.inl (a4 + 1), .inr (.inr (some 0)), .inr (.inr (some 1))] 574 rfl rfl rfl rfl (pz_ok_in k51) ?_
      obtain ⟨k52, K⟩ := K
      refine pz_j1 [.inl (mi 0 ((a4 + 1).toNat)), .inr (.inr (some 1))] 575 rfl rfl rfl rfl (pz_a2 rfl (pz_ok_ixx pz_S0 k52)) ?_
      refine pz_j1 [.inr (.inr (some 0)), .inl (mi 0 ((a4 + 1).toNat)), .inr (.inr (some 1))] 576 rfl rfl rfl rfl rfl ?_
      refine pz_j1 [.inl a4, .inr (.inr (some 0)), .inl (mi 0 ((a4 + 1).toNat)), .inr (.inr (some 1))] 578 rfl rfl rfl rfl rfl ?_
      refine pz_j1 [.inl 2, .inl a4, .inr (.inr (some 0)), .inl (mi 0 ((a4 + 1).toNat)), .inr (.inr (some 1))] 579 rfl rfl rfl rfl rfl ?_
      obtain ⟨k53, K⟩ := K
      refine pz_j1 [.inl (a4 + 2), .inr (.inr (some 0)), .inl (mi 0 ((a4 + 1).toNat)), .inr (.inr (some 1))] 580 rfl rfl rfl rfl (pz_ok_in k53) ?_
      obtain ⟨k54, K⟩ := K
      refine pz_j1 [.inl (mi 0 ((a4 + 2).toNat)), .inl (mi 0 ((a4 + 1).toNat)), .inr (.inr (some 1))] 581 rfl rfl rfl rfl (pz_a2 rfl (pz_ok_ixx pz_S0 k54)) ?_
      exact pz_Rn_k (y := 22) rfl rfl rfl rfl rfl rfl rfl rfl rfl K
    by_cases b55 : x5 = 7
    · replace K := K.2.2.2.2.2.2.2.1 b55
      refine pz_j_sw b55 ?_
      refine pz_j1 [] 616 rfl rfl rfl rfl rfl ?_
      refine pz_j1 [.inr (.inr (some 1))] 617 rfl rfl rfl rfl rfl ?_
      refine pz_j1 [.inr (.inr (some 0)), .inr (.inr (some 1))] 618 rfl rfl rfl rfl rfl ?_
      refine pz_j1 [.inl a4, .inr (.inr (some 0)), .inr (.inr (some 1))] 620 rfl rfl rfl rfl rfl ?_
      refine pz_j1 [.inl 1, .inl a4, .inr (.inr (some 0)), .inr (.inr (some 1))] 621 rfl rfl rfl rfl rfl ?_
      obtain ⟨k56, K⟩ := K
      refine pz_j1 [.inl (a4 + 1), .inr (.inr (some 0)), .inr (.inr (some 1))] 622 rfl rfl rfl rfl (pz_ok_in k56) ?_
      obtain ⟨k57, K⟩ := K
      refine pz_j1 [.inl (mi 0 ((a4 + 1).toNat)), .inr (.inr (some 1))] 623 rfl rfl rfl rfl (pz_a2 rfl (pz_ok_ixx pz_S0 k57)) ?_
      exact pz_Rn_k (y := 37) rfl rfl rfl rfl rfl rfl rfl rfl rfl K
    by_cases b58 : x5 = 8
    · replace K := K.2.2.2.2.2.2.2.2.1 b58
      refine pz_j_sw b58 ?_
      refine pz_j1 [] 652 rfl rfl rfl rfl rfl ?_
      refine pz_j1 [.inr (.inr (some 1))] 653 rfl rfl rfl rfl rfl ?_
      refine pz_j1 [.inr (.inr (some 0)), .inr (.inr (some 1))] 654 rfl rfl rfl rfl rfl ?_
      refine pz_j1 [.inl a4, .inr (.inr (some 0)), .inr (.inr (some 1))] 656 rfl rfl rfl rfl rfl ?_
      refine pz_j1 [.inl 1, .inl a4, .inr (.inr (some 0)), .inr (.inr (some 1))] 657 rfl rfl rfl rfl rfl ?_
      obtain ⟨k59, K⟩ := K
      refine pz_j1 [.inl (a4 + 1), .inr (.inr (some 0)), .inr (.inr (some 1))] 658 rfl rfl rfl rfl (pz_ok_in k59) ?_
      obtain ⟨k60, K⟩ := K
      refine pz_j1 [.inl (mi 0 ((a4 + 1).toNat)), .inr (.inr (some 1))] 659 rfl rfl rfl rfl (pz_a2 rfl (pz_ok_ixx pz_S0 k60)) ?_
      refine pz_j1 [.inr (.inr (some 0)), .inl (mi 0 ((a4 + 1).toNat)), .inr (.inr (some 1))] 660 rfl rfl rfl rfl rfl ?_
      refine pz_j1 [.inl a4, .inr (.inr (some 0)), .inl (mi 0 ((a4 + 1).toNat)), .inr (.inr (some 1))] 662 rfl rfl rfl rfl rfl ?_
      refine pz_j1 [.inl 2, .inl a4, .inr (.inr (some 0)), .inl (mi 0 ((a4 + 1).toNat)), .inr (.inr (some 1))] 663 rfl rfl rfl rfl rfl ?_
      obtain ⟨k61, K⟩ := K
      refine pz_j1 [.inl (a4 + 2), .inr (.inr (some 0)), .inl (mi 0 ((a4 + 1).toNat)), .inr (.inr (some 1))] 664 rfl rfl rfl rfl (pz_ok_in k61) ?_
      obtain ⟨k62, K⟩ := K
      refine pz_j1 [.inl (mi 0 ((a4 + 2).toNat)), .inl (mi 0 ((a4 + 1).toNat)), .inr (.inr (some 1))] 665 rfl rfl rfl rfl (pz_a2 rfl (pz_ok_ixx pz_S0 k62)) ?_
      refine pz_j1 [.inl (mi 0 ((a4 + 1).toNat)), .inr (.inr (some 1))] (bif pz_cp .eq (mi 0 ((a4 + 2).toNat)) 0 then 672 else 668) rfl rfl rfl rfl rfl ?_
      refine pz_Rn_if pz_c1_eq pz_c0_eq ⟨fun b63 => ?_, fun b63 => ?_⟩
      · replace K := K.1 b63
        refine pz_j1 [.inl 0, .inl (mi 0 ((a4 + 1).toNat)), .inr (.inr (some 1))] 673 rfl rfl rfl rfl rfl ?_
        refine pz_j1 [.inr (.inr (some 195)), .inl 0, .inl (mi 0 ((a4 + 1).toNat)), .inr (.inr (some 1))] 674 rfl rfl rfl rfl rfl ?_
        exact pz_Rn_k (y := 80) rfl rfl rfl rfl rfl rfl rfl rfl rfl K
      · replace K := K.2 b63
        refine pz_j1 [.inl 1, .inl (mi 0 ((a4 + 1).toNat)), .inr (.inr (some 1))] 669 rfl rfl rfl rfl rfl ?_
        refine pz_j1 [.inl 1, .inl (mi 0 ((a4 + 1).toNat)), .inr (.inr (some 1))] 673 rfl rfl rfl rfl rfl ?_
        refine pz_j1 [.inr (.inr (some 195)), .inl 1, .inl (mi 0 ((a4 + 1).toNat)), .inr (.inr (some 1))] 674 rfl rfl rfl rfl rfl ?_
        exact pz_Rn_k (y := 80) rfl rfl rfl rfl rfl rfl rfl rfl rfl K
    by_cases b64 : x5 = 9
    · replace K := K.2.2.2.2.2.2.2.2.2.1 b64
      refine pz_j_sw b64 ?_
      refine pz_j1 [] 736 rfl rfl rfl rfl rfl ?_
      refine pz_j1 [.inr (.inr (some 1))] 737 rfl rfl rfl rfl rfl ?_
      exact pz_Rn_k (y := 141) rfl rfl rfl rfl rfl rfl rfl rfl (pz_cok_v rfl rfl pz_S1) K
    by_cases b65 : x5 = 10
    · replace K := K.2.2.2.2.2.2.2.2.2.2.1 b65
      refine pz_j_sw b65 ?_
      refine pz_j1 [] 749 rfl rfl rfl rfl rfl ?_
      refine pz_j1 [.inr (.inr (some 1))] 750 rfl rfl rfl rfl rfl ?_
      refine pz_j1 [.inr (.inr (some 0)), .inr (.inr (some 1))] 751 rfl rfl rfl rfl rfl ?_
      refine pz_j1 [.inl a4, .inr (.inr (some 0)), .inr (.inr (some 1))] 753 rfl rfl rfl rfl rfl ?_
      refine pz_j1 [.inl 1, .inl a4, .inr (.inr (some 0)), .inr (.inr (some 1))] 754 rfl rfl rfl rfl rfl ?_
      obtain ⟨k66, K⟩ := K
      refine pz_j1 [.inl (a4 + 1), .inr (.inr (some 0)), .inr (.inr (some 1))] 755 rfl rfl rfl rfl (pz_ok_in k66) ?_
      obtain ⟨k67, K⟩ := K
      refine pz_j1 [.inl (mi 0 ((a4 + 1).toNat)), .inr (.inr (some 1))] 756 rfl rfl rfl rfl (pz_a2 rfl (pz_ok_ixx pz_S0 k67)) ?_
      refine pz_j1 [.inr (.inr (some 195)), .inl (mi 0 ((a4 + 1).toNat)), .inr (.inr (some 1))] 757 rfl rfl rfl rfl rfl ?_
      exact pz_Rn_k (y := 83) rfl rfl rfl rfl rfl rfl rfl rfl rfl K
    by_cases b68 : x5 = 11
    · replace K := K.2.2.2.2.2.2.2.2.2.2.2.1 b68
      refine pz_j_sw b68 ?_
      refine pz_j1 [] 805 rfl rfl rfl rfl rfl ?_
      refine pz_j1 [.inr (.inr (some 1))] 806 rfl rfl rfl rfl rfl ?_
      refine pz_j1 [.inr (.inr (some 0)), .inr (.inr (some 1))] 807 rfl rfl rfl rfl rfl ?_
      refine pz_j1 [.inl a4, .inr (.inr (some 0)), .inr (.inr (some 1))] 809 rfl rfl rfl rfl rfl ?_
      refine pz_j1 [.inl 1, .inl a4, .inr (.inr (some 0)), .inr (.inr (some 1))] 810 rfl rfl rfl rfl rfl ?_
      obtain ⟨k69, K⟩ := K
      refine pz_j1 [.inl (a4 + 1), .inr (.inr (some 0)), .inr (.inr (some 1))] 811 rfl rfl rfl rfl (pz_ok_in k69) ?_
      obtain ⟨k70, K⟩ := K
      refine pz_j1 [.inl (mi 0 ((a4 + 1).toNat)), .inr (.inr (some 1))] 812 rfl rfl rfl rfl (pz_a2 rfl (pz_ok_ixx pz_S0 k70)) ?_
      refine pz_j1 [.inr (.inr (some 0)), .inl (mi 0 ((a4 + 1).toNat)), .inr (.inr (some 1))] 813 rfl rfl rfl rfl rfl ?_
      refine pz_j1 [.inl a4, .inr (.inr (some 0)), .inl (mi 0 ((a4 + 1).toNat)), .inr (.inr (some 1))] 815 rfl rfl rfl rfl rfl ?_
      refine pz_j1 [.inl 2, .inl a4, .inr (.inr (some 0)), .inl (mi 0 ((a4 + 1).toNat)), .inr (.inr (some 1))] 816 rfl rfl rfl rfl rfl ?_
      obtain ⟨k71, K⟩ := K
      refine pz_j1 [.inl (a4 + 2), .inr (.inr (some 0)), .inl (mi 0 ((a4 + 1).toNat)), .inr (.inr (some 1))] 817 rfl rfl rfl rfl (pz_ok_in k71) ?_
      obtain ⟨k72, K⟩ := K
      refine pz_j1 [.inl (mi 0 ((a4 + 2).toNat)), .inl (mi 0 ((a4 + 1).toNat)), .inr (.inr (some 1))] 818 rfl rfl rfl rfl (pz_a2 rfl (pz_ok_ixx pz_S0 k72)) ?_
      refine pz_j1 [.inr (.inr (some 0)), .inl (mi 0 ((a4 + 2).toNat)), .inl (mi 0 ((a4 + 1).toNat)), .inr (.inr (some 1))] 819 rfl rfl rfl rfl rfl ?_
      refine pz_j1 [.inl a4, .inr (.inr (some 0)), .inl (mi 0 ((a4 + 2).toNat)), .inl (mi 0 ((a4 + 1).toNat)), .inr (.inr (some 1))] 821 rfl rfl rfl rfl rfl ?_
      refine pz_j1 [.inl 3, .inl a4, .inr (.inr (some 0)), .inl (mi 0 ((a4 + 2).toNat)), .inl (mi 0 ((a4 + 1).toNat)), .inr (.inr (some 1))] 822 rfl rfl rfl rfl rfl ?_
      obtain ⟨k73, K⟩ := K
      refine pz_j1 [.inl (a4 + 3), .inr (.inr (some 0)), .inl (mi 0 ((a4 + 2).toNat)), .inl (mi 0 ((a4 + 1).toNat)), .inr (.inr (some 1))] 823 rfl rfl rfl rfl (pz_ok_in k73) ?_
      obtain ⟨k74, K⟩ := K
      refine pz_j1 [.inl (mi 0 ((a4 + 3).toNat)), .inl (mi 0 ((a4 + 2).toNat)), .inl (mi 0 ((a4 + 1).toNat)), .inr (.inr (some 1))] 824 rfl rfl rfl rfl (pz_a2 rfl (pz_ok_ixx pz_S0 k74)) ?_
      refine pz_j1 [.inr (.inr (some 195)), .inl (mi 0 ((a4 + 3).toNat)), .inl (mi 0 ((a4 + 2).toNat)), .inl (mi 0 ((a4 + 1).toNat)), .inr (.inr (some 1))] 825 rfl rfl rfl rfl rfl ?_
      exact pz_Rn_k (y := 87) rfl rfl rfl rfl rfl rfl rfl rfl rfl K
    by_cases b75 : x5 = 12
    · replace K := K.2.2.2.2.2.2.2.2.2.2.2.2.1 b75
      refine pz_j_sw b75 ?_
      refine pz_j1 [] 885 rfl rfl rfl rfl rfl ?_
      refine pz_j1 [.inr (.inr (some 1))] 886 rfl rfl rfl rfl rfl ?_
      refine pz_j1 [.inr (.inr (some 0)), .inr (.inr (some 1))] 887 rfl rfl rfl rfl rfl ?_
      refine pz_j1 [.inl a4, .inr (.inr (some 0)), .inr (.inr (some 1))] 889 rfl rfl rfl rfl rfl ?_
      refine pz_j1 [.inl 1, .inl a4, .inr (.inr (some 0)), .inr (.inr (some 1))] 890 rfl rfl rfl rfl rfl ?_
      obtain ⟨k76, K⟩ := K
      refine pz_j1 [.inl (a4 + 1), .inr (.inr (some 0)), .inr (.inr (some 1))] 891 rfl rfl rfl rfl (pz_ok_in k76) ?_
      obtain ⟨k77, K⟩ := K
      refine pz_j1 [.inl (mi 0 ((a4 + 1).toNat)), .inr (.inr (some 1))] 892 rfl rfl rfl rfl (pz_a2 rfl (pz_ok_ixx pz_S0 k77)) ?_
      refine pz_j1 [.inr (.inr (some 195)), .inl (mi 0 ((a4 + 1).toNat)), .inr (.inr (some 1))] 893 rfl rfl rfl rfl rfl ?_
      exact pz_Rn_k (y := 89) rfl rfl rfl rfl rfl rfl rfl rfl rfl K
    have b78 : x5 < 0 ∨ 12 < x5 := by omega
    replace K := K.2.2.2.2.2.2.2.2.2.2.2.2.2 b78
    refine pz_j_df 941 rfl b78 rfl rfl ?_
    obtain ⟨k79, K⟩ := K
    refine pz_j2 [] [(4, .inl (a4 + 5)), (0, .inr (.inr (some 0))), (1, .inr (.inr (some 1))), (2, .inr (.inr (some 165))), (3, .inr (.inr (some 195)))] 944 rfl rfl rfl rfl (pz_a2 (pz_ok_in k79) rfl) ?_
    refine pz_j1 [] 23 rfl rfl rfl rfl rfl ?_
    refine pz_Rn_sub (L := [(0, .inr (.inr (some 0))), (1, .inr (.inr (some 1))), (2, .inr (.inr (some 165))), (3, .inr (.inr (some 195))), (4, .inl (a4 + 5))]) [1, 2, 3, 4, 0] rfl rfl ?_
    exact K
set_option maxRecDepth 8000 in
theorem pz_g148_115 {a4 : Int} {t0 : Int}  (K : (-2147483648 ≤ a4 + 1 ∧ a4 + 1 ≤ 2147483647) ∧ (0 ≤ a4 + 1 ∧ a4 + 1 < n0) ∧ pz_Rn d 101 (0, [], [(0, .inr (.inr (some 165))), (1, .inl (mi 0 ((a4 + 1).toNat)))], pz_hp n0 mi ml mr c s, true) (pz_K (d + 1) 148 124 [] [(0, .inr (.inr (some 0))), (1, .inr (.inr (some 1))), (2, .inr (.inr (some 165))), (3, .inr (.inr (some 195))), (4, .inl a4), (5, .inl t0)] Q true)) : pz_Rn (d + 1) 148 (115, [.inl t0], [(0, .inr (.inr (some 0))), (1, .inr (.inr (some 1))), (2, .inr (.inr (some 165))), (3, .inr (.inr (some 195))), (4, .inl a4)], pz_hp n0 mi ml mr c s, true) Q := by
  refine pz_j2 [] [(5, .inl t0), (0, .inr (.inr (some 0))), (1, .inr (.inr (some 1))), (2, .inr (.inr (some 165))), (3, .inr (.inr (some 195))), (4, .inl a4)] 117 rfl rfl rfl rfl rfl ?_
  refine pz_j1 [.inr (.inr (some 165))] 118 rfl rfl rfl rfl rfl ?_
  refine pz_j1 [.inr (.inr (some 0)), .inr (.inr (some 165))] 119 rfl rfl rfl rfl rfl ?_
  refine pz_j1 [.inl a4, .inr (.inr (some 0)), .inr (.inr (some 165))] 121 rfl rfl rfl rfl rfl ?_
  refine pz_j1 [.inl 1, .inl a4, .inr (.inr (some 0)), .inr (.inr (some 165))] 122 rfl rfl rfl rfl rfl ?_
  obtain ⟨k1, K⟩ := K
  refine pz_j1 [.inl (a4 + 1), .inr (.inr (some 0)), .inr (.inr (some 165))] 123 rfl rfl rfl rfl (pz_ok_in k1) ?_
  obtain ⟨k2, K⟩ := K
  refine pz_j1 [.inl (mi 0 ((a4 + 1).toNat)), .inr (.inr (some 165))] 124 rfl rfl rfl rfl (pz_a2 rfl (pz_ok_ixx pz_S0 k2)) ?_
  refine pz_Rn_sub (L := [(0, .inr (.inr (some 0))), (1, .inr (.inr (some 1))), (2, .inr (.inr (some 165))), (3, .inr (.inr (some 195))), (4, .inl a4), (5, .inl t0)]) [1, 2, 3, 4, 5, 0] rfl rfl ?_
  exact pz_Rn_k (y := 100) rfl rfl rfl rfl rfl rfl rfl rfl (pz_cok_v rfl rfl pz_S165) K
set_option maxRecDepth 8000 in
theorem pz_g148_127 {a4 : Int} {a5 : Int} {t0 : Int}  (K : pz_Rn d 102 (0, [], [(0, .inr (.inr (some 165)))], pz_hp n0 mi ml mr c s, true) (pz_K (d + 1) 148 130 [] [(0, .inr (.inr (some 0))), (1, .inr (.inr (some 1))), (2, .inr (.inr (some 165))), (3, .inr (.inr (some 195))), (4, .inl a4), (5, .inl a5), (6, .inl t0)] Q true)) : pz_Rn (d + 1) 148 (127, [.inl t0], [(0, .inr (.inr (some 0))), (1, .inr (.inr (some 1))), (2, .inr (.inr (some 165))), (3, .inr (.inr (some 195))), (4, .inl a4), (5, .inl a5)], pz_hp n0 mi ml mr c s, true) Q := by
  refine pz_j2 [] [(6, .inl t0), (0, .inr (.inr (some 0))), (1, .inr (.inr (some 1))), (2, .inr (.inr (some 165))), (3, .inr (.inr (some 195))), (4, .inl a4), (5, .inl a5)] 129 rfl rfl rfl rfl rfl ?_
  refine pz_j1 [.inr (.inr (some 165))] 130 rfl rfl rfl rfl rfl ?_
  refine pz_Rn_sub (L := [(0, .inr (.inr (some 0))), (1, .inr (.inr (some 1))), (2, .inr (.inr (some 165))), (3, .inr (.inr (some 195))), (4, .inl a4), (5, .inl a5), (6, .inl t0)]) [1, 2, 3, 4, 5, 6, 0] rfl rfl ?_
  exact pz_Rn_k (y := 101) rfl rfl rfl rfl rfl rfl rfl rfl (pz_cok_v rfl rfl pz_S165) K
set_option maxRecDepth 8000 in
theorem pz_g148_133 {a4 : Int} {a5 : Int} {a6 : Int} {t0 : Int}  (K : ((t0 = a5 → ((a5 ≠ 0 → (-2147483648 ≤ a4 + 5 ∧ a4 + 5 ≤ 2147483647) ∧ pz_Rn (d + 1) 148 (23, [], [(0, .inr (.inr (some 0))), (1, .inr (.inr (some 1))), (2, .inr (.inr (some 165))), (3, .inr (.inr (some 195))), (4, .inl (a4 + 5))], pz_hp n0 mi ml mr c s, true) Q) ∧ (a5 = 0 → ((pz_lc (ml 195 0) ((Int32.ofInt a6).toInt64) = 0 → (-2147483648 ≤ a4 + 5 ∧ a4 + 5 ≤ 2147483647) ∧ pz_Rn (d + 1) 148 (23, [], [(0, .inr (.inr (some 0))), (1, .inr (.inr (some 1))), (2, .inr (.inr (some 165))), (3, .inr (.inr (some 195))), (4, .inl (a4 + 5))], pz_hp n0 mi ml mr c s, true) Q) ∧ (pz_lc (ml 195 0) ((Int32.ofInt a6).toInt64) ≠ 0 → Q (.inl (some (.inl 0))) (pz_hp n0 mi ml mr c s)))))) ∧ (t0 ≠ a5 → Q (.inl (some (.inl 0))) (pz_hp n0 mi ml mr c s)))) : pz_Rn (d + 1) 148 (133, [.inl t0], [(0, .inr (.inr (some 0))), (1, .inr (.inr (some 1))), (2, .inr (.inr (some 165))), (3, .inr (.inr (some 195))), (4, .inl a4), (5, .inl a5), (6, .inl a6)], pz_hp n0 mi ml mr c s, true) Q := by
  refine pz_j1 [.inl a5, .inl t0] 135 rfl rfl rfl rfl rfl ?_
  refine pz_j1 [] (bif pz_cp .eq t0 a5 then 140 else 138) rfl rfl rfl rfl rfl ?_
  refine pz_Rn_if pz_c1_eq pz_c0_eq ⟨fun b1 => ?_, fun b1 => ?_⟩
  · replace K := K.1 b1
    refine pz_j1 [.inl a5] 142 rfl rfl rfl rfl rfl ?_
    refine pz_j1 [] (bif pz_cp .ne a5 0 then 157 else 145) rfl rfl rfl rfl rfl ?_
    refine pz_Rn_if pz_c1_ne pz_c0_ne ⟨fun b2 => ?_, fun b2 => ?_⟩
    · replace K := K.1 b2
      refine pz_j1 [] 941 rfl rfl rfl rfl rfl ?_
      obtain ⟨k3, K⟩ := K
      refine pz_j2 [] [(4, .inl (a4 + 5)), (0, .inr (.inr (some 0))), (1, .inr (.inr (some 1))), (2, .inr (.inr (some 165))), (3, .inr (.inr (some 195))), (5, .inl a5), (6, .inl a6)] 944 rfl rfl rfl rfl (pz_a2 (pz_ok_in k3) rfl) ?_
      refine pz_j1 [] 23 rfl rfl rfl rfl rfl ?_
      refine pz_Rn_sub (L := [(0, .inr (.inr (some 0))), (1, .inr (.inr (some 1))), (2, .inr (.inr (some 165))), (3, .inr (.inr (some 195))), (4, .inl (a4 + 5))]) [1, 2, 3, 4, 0] rfl rfl ?_
      exact K
    · replace K := K.2 b2
      refine pz_j1 [.inr (.inr (some 195))] 146 rfl rfl rfl rfl rfl ?_
      refine pz_j1 [.inl 0, .inr (.inr (some 195))] 147 rfl rfl rfl rfl rfl ?_
      refine pz_j1 [.inr (.inl (ml 195 0))] 148 rfl rfl rfl rfl (pz_a2 rfl (pz_ok_ix pz_S195 ⟨by decide, by decide⟩)) ?_
      refine pz_j1 [.inl a6, .inr (.inl (ml 195 0))] 150 rfl rfl rfl rfl rfl ?_
      refine pz_j1 [.inr (.inl ((Int32.ofInt a6).toInt64)), .inr (.inl (ml 195 0))] 151 rfl rfl rfl rfl rfl ?_
      refine pz_j1 [.inl (pz_lc (ml 195 0) ((Int32.ofInt a6).toInt64))] 152 rfl rfl rfl rfl rfl ?_
      refine pz_j1 [] (bif pz_cp .eq (pz_lc (ml 195 0) ((Int32.ofInt a6).toInt64)) 0 then 157 else 155) rfl rfl rfl rfl rfl ?_
      refine pz_Rn_if pz_c1_eq pz_c0_eq ⟨fun b4 => ?_, fun b4 => ?_⟩
      · replace K := K.1 b4
        refine pz_j1 [] 941 rfl rfl rfl rfl rfl ?_
        obtain ⟨k5, K⟩ := K
        refine pz_j2 [] [(4, .inl (a4 + 5)), (0, .inr (.inr (some 0))), (1, .inr (.inr (some 1))), (2, .inr (.inr (some 165))), (3, .inr (.inr (some 195))), (5, .inl a5), (6, .inl a6)] 944 rfl rfl rfl rfl (pz_a2 (pz_ok_in k5) rfl) ?_
        refine pz_j1 [] 23 rfl rfl rfl rfl rfl ?_
        refine pz_Rn_sub (L := [(0, .inr (.inr (some 0))), (1, .inr (.inr (some 1))), (2, .inr (.inr (some 165))), (3, .inr (.inr (some 195))), (4, .inl (a4 + 5))]) [1, 2, 3, 4, 0] rfl rfl ?_
        exact K
      · replace K := K.2 b4
        refine pz_j1 [.inl 0] 156 rfl rfl rfl rfl rfl ?_
        exact pz_Rn_ret rfl rfl rfl rfl K
  · replace K := K.2 b1
    refine pz_j1 [.inl 0] 139 rfl rfl rfl rfl rfl ?_
    exact pz_Rn_ret rfl rfl rfl rfl K
set_option maxRecDepth 8000 in
theorem pz_g148_171 {a4 : Int} {t0 : Int}  (K : (-2147483648 ≤ a4 + 1 ∧ a4 + 1 ≤ 2147483647) ∧ (0 ≤ a4 + 1 ∧ a4 + 1 < n0) ∧ pz_Rn d 103 (0, [], [(0, .inr (.inr (some 165))), (1, .inl (mi 0 ((a4 + 1).toNat)))], pz_hp n0 mi ml mr c s, true) (pz_K (d + 1) 148 180 [] [(0, .inr (.inr (some 0))), (1, .inr (.inr (some 1))), (2, .inr (.inr (some 165))), (3, .inr (.inr (some 195))), (4, .inl a4), (5, .inl t0)] Q true)) : pz_Rn (d + 1) 148 (171, [.inl t0], [(0, .inr (.inr (some 0))), (1, .inr (.inr (some 1))), (2, .inr (.inr (some 165))), (3, .inr (.inr (some 195))), (4, .inl a4)], pz_hp n0 mi ml mr c s, true) Q := by
  refine pz_j2 [] [(5, .inl t0), (0, .inr (.inr (some 0))), (1, .inr (.inr (some 1))), (2, .inr (.inr (some 165))), (3, .inr (.inr (some 195))), (4, .inl a4)] 173 rfl rfl rfl rfl rfl ?_
  refine pz_j1 [.inr (.inr (some 165))] 174 rfl rfl rfl rfl rfl ?_
  refine pz_j1 [.inr (.inr (some 0)), .inr (.inr (some 165))] 175 rfl rfl rfl rfl rfl ?_
  refine pz_j1 [.inl a4, .inr (.inr (some 0)), .inr (.inr (some 165))] 177 rfl rfl rfl rfl rfl ?_
  refine pz_j1 [.inl 1, .inl a4, .inr (.inr (some 0)), .inr (.inr (some 165))] 178 rfl rfl rfl rfl rfl ?_
  obtain ⟨k1, K⟩ := K
  refine pz_j1 [.inl (a4 + 1), .inr (.inr (some 0)), .inr (.inr (some 165))] 179 rfl rfl rfl rfl (pz_ok_in k1) ?_
  obtain ⟨k2, K⟩ := K
  refine pz_j1 [.inl (mi 0 ((a4 + 1).toNat)), .inr (.inr (some 165))] 180 rfl rfl rfl rfl (pz_a2 rfl (pz_ok_ixx pz_S0 k2)) ?_
  refine pz_Rn_sub (L := [(0, .inr (.inr (some 0))), (1, .inr (.inr (some 1))), (2, .inr (.inr (some 165))), (3, .inr (.inr (some 195))), (4, .inl a4), (5, .inl t0)]) [1, 2, 3, 4, 5, 0] rfl rfl ?_
  exact pz_Rn_k (y := 102) rfl rfl rfl rfl rfl rfl rfl rfl (pz_cok_v rfl rfl pz_S165) K
set_option maxRecDepth 8000 in
theorem pz_g148_183 {a4 : Int} {a5 : Int} {t0 : Int}  (K : pz_Rn d 102 (0, [], [(0, .inr (.inr (some 165)))], pz_hp n0 mi ml mr c s, true) (pz_K (d + 1) 148 186 [] [(0, .inr (.inr (some 0))), (1, .inr (.inr (some 1))), (2, .inr (.inr (some 165))), (3, .inr (.inr (some 195))), (4, .inl a4), (5, .inl a5), (6, .inl t0)] Q true)) : pz_Rn (d + 1) 148 (183, [.inl t0], [(0, .inr (.inr (some 0))), (1, .inr (.inr (some 1))), (2, .inr (.inr (some 165))), (3, .inr (.inr (some 195))), (4, .inl a4), (5, .inl a5)], pz_hp n0 mi ml mr c s, true) Q := by
  refine pz_j2 [] [(6, .inl t0), (0, .inr (.inr (some 0))), (1, .inr (.inr (some 1))), (2, .inr (.inr (some 165))), (3, .inr (.inr (some 195))), (4, .inl a4), (5, .inl a5)] 185 rfl rfl rfl rfl rfl ?_
  refine pz_j1 [.inr (.inr (some 165))] 186 rfl rfl rfl rfl rfl ?_
  refine pz_Rn_sub (L := [(0, .inr (.inr (some 0))), (1, .inr (.inr (some 1))), (2, .inr (.inr (some 165))), (3, .inr (.inr (some 195))), (4, .inl a4), (5, .inl a5), (6, .inl t0)]) [1, 2, 3, 4, 5, 6, 0] rfl rfl ?_
  exact pz_Rn_k (y := 101) rfl rfl rfl rfl rfl rfl rfl rfl (pz_cok_v rfl rfl pz_S165) K
set_option maxRecDepth 8000 in
theorem pz_g148_189 {a4 : Int} {a5 : Int} {a6 : Int} {t0 : Int}  (K : ((t0 = a5 → ((a5 ≠ 0 → (-2147483648 ≤ a4 + 5 ∧ a4 + 5 ≤ 2147483647) ∧ pz_Rn (d + 1) 148 (23, [], [(0, .inr (.inr (some 0))), (1, .inr (.inr (some 1))), (2, .inr (.inr (some 165))), (3, .inr (.inr (some 195))), (4, .inl (a4 + 5))], pz_hp n0 mi ml mr c s, true) Q) ∧ (a5 = 0 → ((pz_lc (ml 195 0) ((Int32.ofInt a6).toInt64) = 0 → (-2147483648 ≤ a4 + 5 ∧ a4 + 5 ≤ 2147483647) ∧ pz_Rn (d + 1) 148 (23, [], [(0, .inr (.inr (some 0))), (1, .inr (.inr (some 1))), (2, .inr (.inr (some 165))), (3, .inr (.inr (some 195))), (4, .inl (a4 + 5))], pz_hp n0 mi ml mr c s, true) Q) ∧ (pz_lc (ml 195 0) ((Int32.ofInt a6).toInt64) ≠ 0 → Q (.inl (some (.inl 0))) (pz_hp n0 mi ml mr c s)))))) ∧ (t0 ≠ a5 → Q (.inl (some (.inl 0))) (pz_hp n0 mi ml mr c s)))) : pz_Rn (d + 1) 148 (189, [.inl t0], [(0, .inr (.inr (some 0))), (1, .inr (.inr (some 1))), (2, .inr (.inr (some 165))), (3, .inr (.inr (some 195))), (4, .inl a4), (5, .inl a5), (6, .inl a6)], pz_hp n0 mi ml mr c s, true) Q := by
  refine pz_j1 [.inl a5, .inl t0] 191 rfl rfl rfl rfl rfl ?_
  refine pz_j1 [] (bif pz_cp .eq t0 a5 then 196 else 194) rfl rfl rfl rfl rfl ?_
  refine pz_Rn_if pz_c1_eq pz_c0_eq ⟨fun b1 => ?_, fun b1 => ?_⟩
  · replace K := K.1 b1
    refine pz_j1 [.inl a5] 198 rfl rfl rfl rfl rfl ?_
    refine pz_j1 [] (bif pz_cp .ne a5 0 then 213 else 201) rfl rfl rfl rfl rfl ?_
    refine pz_Rn_if pz_c1_ne pz_c0_ne ⟨fun b2 => ?_, fun b2 => ?_⟩
    · replace K := K.1 b2
      refine pz_j1 [] 941 rfl rfl rfl rfl rfl ?_
      obtain ⟨k3, K⟩ := K
      refine pz_j2 [] [(4, .inl (a4 + 5)), (0, .inr (.inr (some 0))), (1, .inr (.inr (some 1))), (2, .inr (.inr (some 165))), (3, .inr (.inr (some 195))), (5, .inl a5), (6, .inl a6)] 944 rfl rfl rfl rfl (pz_a2 (pz_ok_in k3) rfl) ?_
      refine pz_j1 [] 23 rfl rfl rfl rfl rfl ?_
      refine pz_Rn_sub (L := [(0, .inr (.inr (some 0))), (1, .inr (.inr (some 1))), (2, .inr (.inr (some 165))), (3, .inr (.inr (some 195))), (4, .inl (a4 + 5))]) [1, 2, 3, 4, 0] rfl rfl ?_
      exact K
    · replace K := K.2 b2
      refine pz_j1 [.inr (.inr (some 195))] 202 rfl rfl rfl rfl rfl ?_
      refine pz_j1 [.inl 0, .inr (.inr (some 195))] 203 rfl rfl rfl rfl rfl ?_
      refine pz_j1 [.inr (.inl (ml 195 0))] 204 rfl rfl rfl rfl (pz_a2 rfl (pz_ok_ix pz_S195 ⟨by decide, by decide⟩)) ?_
      refine pz_j1 [.inl a6, .inr (.inl (ml 195 0))] 206 rfl rfl rfl rfl rfl ?_
      refine pz_j1 [.inr (.inl ((Int32.ofInt a6).toInt64)), .inr (.inl (ml 195 0))] 207 rfl rfl rfl rfl rfl ?_
      refine pz_j1 [.inl (pz_lc (ml 195 0) ((Int32.ofInt a6).toInt64))] 208 rfl rfl rfl rfl rfl ?_
      refine pz_j1 [] (bif pz_cp .eq (pz_lc (ml 195 0) ((Int32.ofInt a6).toInt64)) 0 then 213 else 211) rfl rfl rfl rfl rfl ?_
      refine pz_Rn_if pz_c1_eq pz_c0_eq ⟨fun b4 => ?_, fun b4 => ?_⟩
      · replace K := K.1 b4
        refine pz_j1 [] 941 rfl rfl rfl rfl rfl ?_
        obtain ⟨k5, K⟩ := K
        refine pz_j2 [] [(4, .inl (a4 + 5)), (0, .inr (.inr (some 0))), (1, .inr (.inr (some 1))), (2, .inr (.inr (some 165))), (3, .inr (.inr (some 195))), (5, .inl a5), (6, .inl a6)] 944 rfl rfl rfl rfl (pz_a2 (pz_ok_in k5) rfl) ?_
        refine pz_j1 [] 23 rfl rfl rfl rfl rfl ?_
        refine pz_Rn_sub (L := [(0, .inr (.inr (some 0))), (1, .inr (.inr (some 1))), (2, .inr (.inr (some 165))), (3, .inr (.inr (some 195))), (4, .inl (a4 + 5))]) [1, 2, 3, 4, 0] rfl rfl ?_
        exact K
      · replace K := K.2 b4
        refine pz_j1 [.inl 0] 212 rfl rfl rfl rfl rfl ?_
        exact pz_Rn_ret rfl rfl rfl rfl K
  · replace K := K.2 b1
    refine pz_j1 [.inl 0] 195 rfl rfl rfl rfl rfl ?_
    exact pz_Rn_ret rfl rfl rfl rfl K
set_option maxRecDepth 8000 in
theorem pz_g148_233 {a4 : Int} {t0 : Int}  (K : (-2147483648 ≤ a4 + 1 ∧ a4 + 1 ≤ 2147483647) ∧ (0 ≤ a4 + 1 ∧ a4 + 1 < n0) ∧ (-2147483648 ≤ a4 + 2 ∧ a4 + 2 ≤ 2147483647) ∧ (0 ≤ a4 + 2 ∧ a4 + 2 < n0) ∧ pz_Rn d 105 (0, [], [(0, .inr (.inr (some 165))), (1, .inl (mi 0 ((a4 + 1).toNat))), (2, .inl (mi 0 ((a4 + 2).toNat)))], pz_hp n0 mi ml mr c s, true) (pz_K (d + 1) 148 248 [] [(0, .inr (.inr (some 0))), (1, .inr (.inr (some 1))), (2, .inr (.inr (some 165))), (3, .inr (.inr (some 195))), (4, .inl a4), (5, .inl t0)] Q true)) : pz_Rn (d + 1) 148 (233, [.inl t0], [(0, .inr (.inr (some 0))), (1, .inr (.inr (some 1))), (2, .inr (.inr (some 165))), (3, .inr (.inr (some 195))), (4, .inl a4)], pz_hp n0 mi ml mr c s, true) Q := by
  refine pz_j2 [] [(5, .inl t0), (0, .inr (.inr (some 0))), (1, .inr (.inr (some 1))), (2, .inr (.inr (some 165))), (3, .inr (.inr (some 195))), (4, .inl a4)] 235 rfl rfl rfl rfl rfl ?_
  refine pz_j1 [.inr (.inr (some 165))] 236 rfl rfl rfl rfl rfl ?_
  refine pz_j1 [.inr (.inr (some 0)), .inr (.inr (some 165))] 237 rfl rfl rfl rfl rfl ?_
  refine pz_j1 [.inl a4, .inr (.inr (some 0)), .inr (.inr (some 165))] 239 rfl rfl rfl rfl rfl ?_
  refine pz_j1 [.inl 1, .inl a4, .inr (.inr (some 0)), .inr (.inr (some 165))] 240 rfl rfl rfl rfl rfl ?_
  obtain ⟨k1, K⟩ := K
  refine pz_j1 [.inl (a4 + 1), .inr (.inr (some 0)), .inr (.inr (some 165))] 241 rfl rfl rfl rfl (pz_ok_in k1) ?_
  obtain ⟨k2, K⟩ := K
  refine pz_j1 [.inl (mi 0 ((a4 + 1).toNat)), .inr (.inr (some 165))] 242 rfl rfl rfl rfl (pz_a2 rfl (pz_ok_ixx pz_S0 k2)) ?_
  refine pz_j1 [.inr (.inr (some 0)), .inl (mi 0 ((a4 + 1).toNat)), .inr (.inr (some 165))] 243 rfl rfl rfl rfl rfl ?_
  refine pz_j1 [.inl a4, .inr (.inr (some 0)), .inl (mi 0 ((a4 + 1).toNat)), .inr (.inr (some 165))] 245 rfl rfl rfl rfl rfl ?_
  refine pz_j1 [.inl 2, .inl a4, .inr (.inr (some 0)), .inl (mi 0 ((a4 + 1).toNat)), .inr (.inr (some 165))] 246 rfl rfl rfl rfl rfl ?_
  obtain ⟨k3, K⟩ := K
  refine pz_j1 [.inl (a4 + 2), .inr (.inr (some 0)), .inl (mi 0 ((a4 + 1).toNat)), .inr (.inr (some 165))] 247 rfl rfl rfl rfl (pz_ok_in k3) ?_
  obtain ⟨k4, K⟩ := K
  refine pz_j1 [.inl (mi 0 ((a4 + 2).toNat)), .inl (mi 0 ((a4 + 1).toNat)), .inr (.inr (some 165))] 248 rfl rfl rfl rfl (pz_a2 rfl (pz_ok_ixx pz_S0 k4)) ?_
  refine pz_Rn_sub (L := [(0, .inr (.inr (some 0))), (1, .inr (.inr (some 1))), (2, .inr (.inr (some 165))), (3, .inr (.inr (some 195))), (4, .inl a4), (5, .inl t0)]) [1, 2, 3, 4, 5, 0] rfl rfl ?_
  exact pz_Rn_k (y := 104) rfl rfl rfl rfl rfl rfl rfl rfl (pz_cok_v rfl rfl pz_S165) K
set_option maxRecDepth 8000 in
theorem pz_g148_251 {a4 : Int} {a5 : Int} {t0 : Int}  (K : pz_Rn d 102 (0, [], [(0, .inr (.inr (some 165)))], pz_hp n0 mi ml mr c s, true) (pz_K (d + 1) 148 254 [] [(0, .inr (.inr (some 0))), (1, .inr (.inr (some 1))), (2, .inr (.inr (some 165))), (3, .inr (.inr (some 195))), (4, .inl a4), (5, .inl a5), (6, .inl t0)] Q true)) : pz_Rn (d + 1) 148 (251, [.inl t0], [(0, .inr (.inr (some 0))), (1, .inr (.inr (some 1))), (2, .inr (.inr (some 165))), (3, .inr (.inr (some 195))), (4, .inl a4), (5, .inl a5)], pz_hp n0 mi ml mr c s, true) Q := by
  refine pz_j2 [] [(6, .inl t0), (0, .inr (.inr (some 0))), (1, .inr (.inr (some 1))), (2, .inr (.inr (some 165))), (3, .inr (.inr (some 195))), (4, .inl a4), (5, .inl a5)] 253 rfl rfl rfl rfl rfl ?_
  refine pz_j1 [.inr (.inr (some 165))] 254 rfl rfl rfl rfl rfl ?_
  refine pz_Rn_sub (L := [(0, .inr (.inr (some 0))), (1, .inr (.inr (some 1))), (2, .inr (.inr (some 165))), (3, .inr (.inr (some 195))), (4, .inl a4), (5, .inl a5), (6, .inl t0)]) [1, 2, 3, 4, 5, 6, 0] rfl rfl ?_
  exact pz_Rn_k (y := 101) rfl rfl rfl rfl rfl rfl rfl rfl (pz_cok_v rfl rfl pz_S165) K
set_option maxRecDepth 8000 in
theorem pz_g148_257 {a4 : Int} {a5 : Int} {a6 : Int} {t0 : Int}  (K : ((t0 = a5 → ((a5 ≠ 0 → (-2147483648 ≤ a4 + 5 ∧ a4 + 5 ≤ 2147483647) ∧ pz_Rn (d + 1) 148 (23, [], [(0, .inr (.inr (some 0))), (1, .inr (.inr (some 1))), (2, .inr (.inr (some 165))), (3, .inr (.inr (some 195))), (4, .inl (a4 + 5))], pz_hp n0 mi ml mr c s, true) Q) ∧ (a5 = 0 → ((pz_lc (ml 195 0) ((Int32.ofInt a6).toInt64) = 0 → (-2147483648 ≤ a4 + 5 ∧ a4 + 5 ≤ 2147483647) ∧ pz_Rn (d + 1) 148 (23, [], [(0, .inr (.inr (some 0))), (1, .inr (.inr (some 1))), (2, .inr (.inr (some 165))), (3, .inr (.inr (some 195))), (4, .inl (a4 + 5))], pz_hp n0 mi ml mr c s, true) Q) ∧ (pz_lc (ml 195 0) ((Int32.ofInt a6).toInt64) ≠ 0 → Q (.inl (some (.inl 0))) (pz_hp n0 mi ml mr c s)))))) ∧ (t0 ≠ a5 → Q (.inl (some (.inl 0))) (pz_hp n0 mi ml mr c s)))) : pz_Rn (d + 1) 148 (257, [.inl t0], [(0, .inr (.inr (some 0))), (1, .inr (.inr (some 1))), (2, .inr (.inr (some 165))), (3, .inr (.inr (some 195))), (4, .inl a4), (5, .inl a5), (6, .inl a6)], pz_hp n0 mi ml mr c s, true) Q := by
  refine pz_j1 [.inl a5, .inl t0] 259 rfl rfl rfl rfl rfl ?_
  refine pz_j1 [] (bif pz_cp .eq t0 a5 then 264 else 262) rfl rfl rfl rfl rfl ?_
  refine pz_Rn_if pz_c1_eq pz_c0_eq ⟨fun b1 => ?_, fun b1 => ?_⟩
  · replace K := K.1 b1
    refine pz_j1 [.inl a5] 266 rfl rfl rfl rfl rfl ?_
    refine pz_j1 [] (bif pz_cp .ne a5 0 then 281 else 269) rfl rfl rfl rfl rfl ?_
    refine pz_Rn_if pz_c1_ne pz_c0_ne ⟨fun b2 => ?_, fun b2 => ?_⟩
    · replace K := K.1 b2
      refine pz_j1 [] 941 rfl rfl rfl rfl rfl ?_
      obtain ⟨k3, K⟩ := K
      refine pz_j2 [] [(4, .inl (a4 + 5)), (0, .inr (.inr (some 0))), (1, .inr (.inr (some 1))), (2, .inr (.inr (some 165))), (3, .inr (.inr (some 195))), (5, .inl a5), (6, .inl a6)] 944 rfl rfl rfl rfl (pz_a2 (pz_ok_in k3) rfl) ?_
      refine pz_j1 [] 23 rfl rfl rfl rfl rfl ?_
      refine pz_Rn_sub (L := [(0, .inr (.inr (some 0))), (1, .inr (.inr (some 1))), (2, .inr (.inr (some 165))), (3, .inr (.inr (some 195))), (4, .inl (a4 + 5))]) [1, 2, 3, 4, 0] rfl rfl ?_
      exact K
    · replace K := K.2 b2
      refine pz_j1 [.inr (.inr (some 195))] 270 rfl rfl rfl rfl rfl ?_
      refine pz_j1 [.inl 0, .inr (.inr (some 195))] 271 rfl rfl rfl rfl rfl ?_
      refine pz_j1 [.inr (.inl (ml 195 0))] 272 rfl rfl rfl rfl (pz_a2 rfl (pz_ok_ix pz_S195 ⟨by decide, by decide⟩)) ?_
      refine pz_j1 [.inl a6, .inr (.inl (ml 195 0))] 274 rfl rfl rfl rfl rfl ?_
      refine pz_j1 [.inr (.inl ((Int32.ofInt a6).toInt64)), .inr (.inl (ml 195 0))] 275 rfl rfl rfl rfl rfl ?_
      refine pz_j1 [.inl (pz_lc (ml 195 0) ((Int32.ofInt a6).toInt64))] 276 rfl rfl rfl rfl rfl ?_
      refine pz_j1 [] (bif pz_cp .eq (pz_lc (ml 195 0) ((Int32.ofInt a6).toInt64)) 0 then 281 else 279) rfl rfl rfl rfl rfl ?_
      refine pz_Rn_if pz_c1_eq pz_c0_eq ⟨fun b4 => ?_, fun b4 => ?_⟩
      · replace K := K.1 b4
        refine pz_j1 [] 941 rfl rfl rfl rfl rfl ?_
        obtain ⟨k5, K⟩ := K
        refine pz_j2 [] [(4, .inl (a4 + 5)), (0, .inr (.inr (some 0))), (1, .inr (.inr (some 1))), (2, .inr (.inr (some 165))), (3, .inr (.inr (some 195))), (5, .inl a5), (6, .inl a6)] 944 rfl rfl rfl rfl (pz_a2 (pz_ok_in k5) rfl) ?_
        refine pz_j1 [] 23 rfl rfl rfl rfl rfl ?_
        refine pz_Rn_sub (L := [(0, .inr (.inr (some 0))), (1, .inr (.inr (some 1))), (2, .inr (.inr (some 165))), (3, .inr (.inr (some 195))), (4, .inl (a4 + 5))]) [1, 2, 3, 4, 0] rfl rfl ?_
        exact K
      · replace K := K.2 b4
        refine pz_j1 [.inl 0] 280 rfl rfl rfl rfl rfl ?_
        exact pz_Rn_ret rfl rfl rfl rfl K
  · replace K := K.2 b1
    refine pz_j1 [.inl 0] 263 rfl rfl rfl rfl rfl ?_
    exact pz_Rn_ret rfl rfl rfl rfl K
set_option maxRecDepth 8000 in
theorem pz_g148_315 {a4 : Int} {t0 : Int}  (K : (-2147483648 ≤ a4 + 1 ∧ a4 + 1 ≤ 2147483647) ∧ (0 ≤ a4 + 1 ∧ a4 + 1 < n0) ∧ ((mi 0 ((a4 + 1).toNat) = 0 → (-2147483648 ≤ a4 + 2 ∧ a4 + 2 ≤ 2147483647) ∧ (0 ≤ a4 + 2 ∧ a4 + 2 < n0) ∧ (-2147483648 ≤ a4 + 3 ∧ a4 + 3 ≤ 2147483647) ∧ (0 ≤ a4 + 3 ∧ a4 + 3 < n0) ∧ pz_Rn d 107 (0, [], [(0, .inr (.inr (some 165))), (1, .inl 0), (2, .inl (mi 0 ((a4 + 2).toNat))), (3, .inl (mi 0 ((a4 + 3).toNat)))], pz_hp n0 mi ml mr c s, true) (pz_K (d + 1) 148 344 [] [(0, .inr (.inr (some 0))), (1, .inr (.inr (some 1))), (2, .inr (.inr (some 165))), (3, .inr (.inr (some 195))), (4, .inl a4), (5, .inl t0)] Q true)) ∧ (mi 0 ((a4 + 1).toNat) ≠ 0 → (-2147483648 ≤ a4 + 2 ∧ a4 + 2 ≤ 2147483647) ∧ (0 ≤ a4 + 2 ∧ a4 + 2 < n0) ∧ (-2147483648 ≤ a4 + 3 ∧ a4 + 3 ≤ 2147483647) ∧ (0 ≤ a4 + 3 ∧ a4 + 3 < n0) ∧ pz_Rn d 107 (0, [], [(0, .inr (.inr (some 165))), (1, .inl 1), (2, .inl (mi 0 ((a4 + 2).toNat))), (3, .inl (mi 0 ((a4 + 3).toNat)))], pz_hp n0 mi ml mr c s, true) (pz_K (d + 1) 148 344 [] [(0, .inr (.inr (some 0))), (1, .inr (.inr (some 1))), (2, .inr (.inr (some 165))), (3, .inr (.inr (some 195))), (4, .inl a4), (5, .inl t0)] Q true)))) : pz_Rn (d + 1) 148 (315, [.inl t0], [(0, .inr (.inr (some 0))), (1, .inr (.inr (some 1))), (2, .inr (.inr (some 165))), (3, .inr (.inr (some 195))), (4, .inl a4)], pz_hp n0 mi ml mr c s, true) Q := by
  refine pz_j2 [] [(5, .inl t0), (0, .inr (.inr (some 0))), (1, .inr (.inr (some 1))), (2, .inr (.inr (some 165))), (3, .inr (.inr (some 195))), (4, .inl a4)] 317 rfl rfl rfl rfl rfl ?_
  refine pz_j1 [.inr (.inr (some 165))] 318 rfl rfl rfl rfl rfl ?_
  refine pz_j1 [.inr (.inr (some 0)), .inr (.inr (some 165))] 319 rfl rfl rfl rfl rfl ?_
  refine pz_j1 [.inl a4, .inr (.inr (some 0)), .inr (.inr (some 165))] 321 rfl rfl rfl rfl rfl ?_
  refine pz_j1 [.inl 1, .inl a4, .inr (.inr (some 0)), .inr (.inr (some 165))] 322 rfl rfl rfl rfl rfl ?_
  obtain ⟨k1, K⟩ := K
  refine pz_j1 [.inl (a4 + 1), .inr (.inr (some 0)), .inr (.inr (some 165))] 323 rfl rfl rfl rfl (pz_ok_in k1) ?_
  obtain ⟨k2, K⟩ := K
  refine pz_j1 [.inl (mi 0 ((a4 + 1).toNat)), .inr (.inr (some 165))] 324 rfl rfl rfl rfl (pz_a2 rfl (pz_ok_ixx pz_S0 k2)) ?_
  refine pz_j1 [.inr (.inr (some 165))] (bif pz_cp .eq (mi 0 ((a4 + 1).toNat)) 0 then 331 else 327) rfl rfl rfl rfl rfl ?_
  refine pz_Rn_if pz_c1_eq pz_c0_eq ⟨fun b3 => ?_, fun b3 => ?_⟩
  · replace K := K.1 b3
    refine pz_j1 [.inl 0, .inr (.inr (some 165))] 332 rfl rfl rfl rfl rfl ?_
    refine pz_j1 [.inr (.inr (some 0)), .inl 0, .inr (.inr (some 165))] 333 rfl rfl rfl rfl rfl ?_
    refine pz_j1 [.inl a4, .inr (.inr (some 0)), .inl 0, .inr (.inr (some 165))] 335 rfl rfl rfl rfl rfl ?_
    refine pz_j1 [.inl 2, .inl a4, .inr (.inr (some 0)), .inl 0, .inr (.inr (some 165))] 336 rfl rfl rfl rfl rfl ?_
    obtain ⟨k4, K⟩ := K
    refine pz_j1 [.inl (a4 + 2), .inr (.inr (some 0)), .inl 0, .inr (.inr (some 165))] 337 rfl rfl rfl rfl (pz_ok_in k4) ?_
    obtain ⟨k5, K⟩ := K
    refine pz_j1 [.inl (mi 0 ((a4 + 2).toNat)), .inl 0, .inr (.inr (some 165))] 338 rfl rfl rfl rfl (pz_a2 rfl (pz_ok_ixx pz_S0 k5)) ?_
    refine pz_j1 [.inr (.inr (some 0)), .inl (mi 0 ((a4 + 2).toNat)), .inl 0, .inr (.inr (some 165))] 339 rfl rfl rfl rfl rfl ?_
    refine pz_j1 [.inl a4, .inr (.inr (some 0)), .inl (mi 0 ((a4 + 2).toNat)), .inl 0, .inr (.inr (some 165))] 341 rfl rfl rfl rfl rfl ?_
    refine pz_j1 [.inl 3, .inl a4, .inr (.inr (some 0)), .inl (mi 0 ((a4 + 2).toNat)), .inl 0, .inr (.inr (some 165))] 342 rfl rfl rfl rfl rfl ?_
    obtain ⟨k6, K⟩ := K
    refine pz_j1 [.inl (a4 + 3), .inr (.inr (some 0)), .inl (mi 0 ((a4 + 2).toNat)), .inl 0, .inr (.inr (some 165))] 343 rfl rfl rfl rfl (pz_ok_in k6) ?_
    obtain ⟨k7, K⟩ := K
    refine pz_j1 [.inl (mi 0 ((a4 + 3).toNat)), .inl (mi 0 ((a4 + 2).toNat)), .inl 0, .inr (.inr (some 165))] 344 rfl rfl rfl rfl (pz_a2 rfl (pz_ok_ixx pz_S0 k7)) ?_
    refine pz_Rn_sub (L := [(0, .inr (.inr (some 0))), (1, .inr (.inr (some 1))), (2, .inr (.inr (some 165))), (3, .inr (.inr (some 195))), (4, .inl a4), (5, .inl t0)]) [1, 2, 3, 4, 5, 0] rfl rfl ?_
    exact pz_Rn_k (y := 106) rfl rfl rfl rfl rfl rfl rfl rfl (pz_cok_v rfl rfl pz_S165) K
  · replace K := K.2 b3
    refine pz_j1 [.inl 1, .inr (.inr (some 165))] 328 rfl rfl rfl rfl rfl ?_
    refine pz_j1 [.inl 1, .inr (.inr (some 165))] 332 rfl rfl rfl rfl rfl ?_
    refine pz_j1 [.inr (.inr (some 0)), .inl 1, .inr (.inr (some 165))] 333 rfl rfl rfl rfl rfl ?_
    refine pz_j1 [.inl a4, .inr (.inr (some 0)), .inl 1, .inr (.inr (some 165))] 335 rfl rfl rfl rfl rfl ?_
    refine pz_j1 [.inl 2, .inl a4, .inr (.inr (some 0)), .inl 1, .inr (.inr (some 165))] 336 rfl rfl rfl rfl rfl ?_
    obtain ⟨k8, K⟩ := K
    refine pz_j1 [.inl (a4 + 2), .inr (.inr (some 0)), .inl 1, .inr (.inr (some 165))] 337 rfl rfl rfl rfl (pz_ok_in k8) ?_
    obtain ⟨k9, K⟩ := K
    refine pz_j1 [.inl (mi 0 ((a4 + 2).toNat)), .inl 1, .inr (.inr (some 165))] 338 rfl rfl rfl rfl (pz_a2 rfl (pz_ok_ixx pz_S0 k9)) ?_
    refine pz_j1 [.inr (.inr (some 0)), .inl (mi 0 ((a4 + 2).toNat)), .inl 1, .inr (.inr (some 165))] 339 rfl rfl rfl rfl rfl ?_
    refine pz_j1 [.inl a4, .inr (.inr (some 0)), .inl (mi 0 ((a4 + 2).toNat)), .inl 1, .inr (.inr (some 165))] 341 rfl rfl rfl rfl rfl ?_
    refine pz_j1 [.inl 3, .inl a4, .inr (.inr (some 0)), .inl (mi 0 ((a4 + 2).toNat)), .inl 1, .inr (.inr (some 165))] 342 rfl rfl rfl rfl rfl ?_
    obtain ⟨k10, K⟩ := K
    refine pz_j1 [.inl (a4 + 3), .inr (.inr (some 0)), .inl (mi 0 ((a4 + 2).toNat)), .inl 1, .inr (.inr (some 165))] 343 rfl rfl rfl rfl (pz_ok_in k10) ?_
    obtain ⟨k11, K⟩ := K
    refine pz_j1 [.inl (mi 0 ((a4 + 3).toNat)), .inl (mi 0 ((a4 + 2).toNat)), .inl 1, .inr (.inr (some 165))] 344 rfl rfl rfl rfl (pz_a2 rfl (pz_ok_ixx pz_S0 k11)) ?_
    refine pz_Rn_sub (L := [(0, .inr (.inr (some 0))), (1, .inr (.inr (some 1))), (2, .inr (.inr (some 165))), (3, .inr (.inr (some 195))), (4, .inl a4), (5, .inl t0)]) [1, 2, 3, 4, 5, 0] rfl rfl ?_
    exact pz_Rn_k (y := 106) rfl rfl rfl rfl rfl rfl rfl rfl (pz_cok_v rfl rfl pz_S165) K
set_option maxRecDepth 8000 in
theorem pz_g148_347 {a4 : Int} {a5 : Int} {t0 : Int}  (K : pz_Rn d 102 (0, [], [(0, .inr (.inr (some 165)))], pz_hp n0 mi ml mr c s, true) (pz_K (d + 1) 148 350 [] [(0, .inr (.inr (some 0))), (1, .inr (.inr (some 1))), (2, .inr (.inr (some 165))), (3, .inr (.inr (some 195))), (4, .inl a4), (5, .inl a5), (6, .inl t0)] Q true)) : pz_Rn (d + 1) 148 (347, [.inl t0], [(0, .inr (.inr (some 0))), (1, .inr (.inr (some 1))), (2, .inr (.inr (some 165))), (3, .inr (.inr (some 195))), (4, .inl a4), (5, .inl a5)], pz_hp n0 mi ml mr c s, true) Q := by
  refine pz_j2 [] [(6, .inl t0), (0, .inr (.inr (some 0))), (1, .inr (.inr (some 1))), (2, .inr (.inr (some 165))), (3, .inr (.inr (some 195))), (4, .inl a4), (5, .inl a5)] 349 rfl rfl rfl rfl rfl ?_
  refine pz_j1 [.inr (.inr (some 165))] 350 rfl rfl rfl rfl rfl ?_
  refine pz_Rn_sub (L := [(0, .inr (.inr (some 0))), (1, .inr (.inr (some 1))), (2, .inr (.inr (some 165))), (3, .inr (.inr (some 195))), (4, .inl a4), (5, .inl a5), (6, .inl t0)]) [1, 2, 3, 4, 5, 6, 0] rfl rfl ?_
  exact pz_Rn_k (y := 101) rfl rfl rfl rfl rfl rfl rfl rfl (pz_cok_v rfl rfl pz_S165) K
set_option maxRecDepth 8000 in
theorem pz_g148_353 {a4 : Int} {a5 : Int} {a6 : Int} {t0 : Int}  (K : ((t0 = a5 → ((a5 ≠ 0 → (-2147483648 ≤ a4 + 5 ∧ a4 + 5 ≤ 2147483647) ∧ pz_Rn (d + 1) 148 (23, [], [(0, .inr (.inr (some 0))), (1, .inr (.inr (some 1))), (2, .inr (.inr (some 165))), (3, .inr (.inr (some 195))), (4, .inl (a4 + 5))], pz_hp n0 mi ml mr c s, true) Q) ∧ (a5 = 0 → ((pz_lc (ml 195 0) ((Int32.ofInt a6).toInt64) = 0 → (-2147483648 ≤ a4 + 5 ∧ a4 + 5 ≤ 2147483647) ∧ pz_Rn (d + 1) 148 (23, [], [(0, .inr (.inr (some 0))), (1, .inr (.inr (some 1))), (2, .inr (.inr (some 165))), (3, .inr (.inr (some 195))), (4, .inl (a4 + 5))], pz_hp n0 mi ml mr c s, true) Q) ∧ (pz_lc (ml 195 0) ((Int32.ofInt a6).toInt64) ≠ 0 → Q (.inl (some (.inl 0))) (pz_hp n0 mi ml mr c s)))))) ∧ (t0 ≠ a5 → Q (.inl (some (.inl 0))) (pz_hp n0 mi ml mr c s)))) : pz_Rn (d + 1) 148 (353, [.inl t0], [(0, .inr (.inr (some 0))), (1, .inr (.inr (some 1))), (2, .inr (.inr (some 165))), (3, .inr (.inr (some 195))), (4, .inl a4), (5, .inl a5), (6, .inl a6)], pz_hp n0 mi ml mr c s, true) Q := by
  refine pz_j1 [.inl a5, .inl t0] 355 rfl rfl rfl rfl rfl ?_
  refine pz_j1 [] (bif pz_cp .eq t0 a5 then 360 else 358) rfl rfl rfl rfl rfl ?_
  refine pz_Rn_if pz_c1_eq pz_c0_eq ⟨fun b1 => ?_, fun b1 => ?_⟩
  · replace K := K.1 b1
    refine pz_j1 [.inl a5] 362 rfl rfl rfl rfl rfl ?_
    refine pz_j1 [] (bif pz_cp .ne a5 0 then 377 else 365) rfl rfl rfl rfl rfl ?_
    refine pz_Rn_if pz_c1_ne pz_c0_ne ⟨fun b2 => ?_, fun b2 => ?_⟩
    · replace K := K.1 b2
      refine pz_j1 [] 941 rfl rfl rfl rfl rfl ?_
      obtain ⟨k3, K⟩ := K
      refine pz_j2 [] [(4, .inl (a4 + 5)), (0, .inr (.inr (some 0))), (1, .inr (.inr (some 1))), (2, .inr (.inr (some 165))), (3, .inr (.inr (some 195))), (5, .inl a5), (6, .inl a6)] 944 rfl rfl rfl rfl (pz_a2 (pz_ok_in k3) rfl) ?_
      refine pz_j1 [] 23 rfl rfl rfl rfl rfl ?_
      refine pz_Rn_sub (L := [(0, .inr (.inr (some 0))), (1, .inr (.inr (some 1))), (2, .inr (.inr (some 165))), (3, .inr (.inr (some 195))), (4, .inl (a4 + 5))]) [1, 2, 3, 4, 0] rfl rfl ?_
      exact K
    · replace K := K.2 b2
      refine pz_j1 [.inr (.inr (some 195))] 366 rfl rfl rfl rfl rfl ?_
      refine pz_j1 [.inl 0, .inr (.inr (some 195))] 367 rfl rfl rfl rfl rfl ?_
      refine pz_j1 [.inr (.inl (ml 195 0))] 368 rfl rfl rfl rfl (pz_a2 rfl (pz_ok_ix pz_S195 ⟨by decide, by decide⟩)) ?_
      refine pz_j1 [.inl a6, .inr (.inl (ml 195 0))] 370 rfl rfl rfl rfl rfl ?_
      refine pz_j1 [.inr (.inl ((Int32.ofInt a6).toInt64)), .inr (.inl (ml 195 0))] 371 rfl rfl rfl rfl rfl ?_
      refine pz_j1 [.inl (pz_lc (ml 195 0) ((Int32.ofInt a6).toInt64))] 372 rfl rfl rfl rfl rfl ?_
      refine pz_j1 [] (bif pz_cp .eq (pz_lc (ml 195 0) ((Int32.ofInt a6).toInt64)) 0 then 377 else 375) rfl rfl rfl rfl rfl ?_
      refine pz_Rn_if pz_c1_eq pz_c0_eq ⟨fun b4 => ?_, fun b4 => ?_⟩
      · replace K := K.1 b4
        refine pz_j1 [] 941 rfl rfl rfl rfl rfl ?_
        obtain ⟨k5, K⟩ := K
        refine pz_j2 [] [(4, .inl (a4 + 5)), (0, .inr (.inr (some 0))), (1, .inr (.inr (some 1))), (2, .inr (.inr (some 165))), (3, .inr (.inr (some 195))), (5, .inl a5), (6, .inl a6)] 944 rfl rfl rfl rfl (pz_a2 (pz_ok_in k5) rfl) ?_
        refine pz_j1 [] 23 rfl rfl rfl rfl rfl ?_
        refine pz_Rn_sub (L := [(0, .inr (.inr (some 0))), (1, .inr (.inr (some 1))), (2, .inr (.inr (some 165))), (3, .inr (.inr (some 195))), (4, .inl (a4 + 5))]) [1, 2, 3, 4, 0] rfl rfl ?_
        exact K
      · replace K := K.2 b4
        refine pz_j1 [.inl 0] 376 rfl rfl rfl rfl rfl ?_
        exact pz_Rn_ret rfl rfl rfl rfl K
  · replace K := K.2 b1
    refine pz_j1 [.inl 0] 359 rfl rfl rfl rfl rfl ?_
    exact pz_Rn_ret rfl rfl rfl rfl K
set_option maxRecDepth 8000 in
theorem pz_g148_411 {a4 : Int} {t0 : Int}  (K : (-2147483648 ≤ a4 + 1 ∧ a4 + 1 ≤ 2147483647) ∧ (0 ≤ a4 + 1 ∧ a4 + 1 < n0) ∧ ((mi 0 ((a4 + 1).toNat) = 0 → (-2147483648 ≤ a4 + 2 ∧ a4 + 2 ≤ 2147483647) ∧ (0 ≤ a4 + 2 ∧ a4 + 2 < n0) ∧ (-2147483648 ≤ a4 + 3 ∧ a4 + 3 ≤ 2147483647) ∧ (0 ≤ a4 + 3 ∧ a4 + 3 < n0) ∧ pz_Rn d 109 (0, [], [(0, .inr (.inr (some 165))), (1, .inl 0), (2, .inl (mi 0 ((a4 + 2).toNat))), (3, .inl (mi 0 ((a4 + 3).toNat)))], pz_hp n0 mi ml mr c s, true) (pz_K (d + 1) 148 440 [] [(0, .inr (.inr (some 0))), (1, .inr (.inr (some 1))), (2, .inr (.inr (some 165))), (3, .inr (.inr (some 195))), (4, .inl a4), (5, .inl t0)] Q true)) ∧ (mi 0 ((a4 + 1).toNat) ≠ 0 → (-2147483648 ≤ a4 + 2 ∧ a4 + 2 ≤ 2147483647) ∧ (0 ≤ a4 + 2 ∧ a4 + 2 < n0) ∧ (-2147483648 ≤ a4 + 3 ∧ a4 + 3 ≤ 2147483647) ∧ (0 ≤ a4 + 3 ∧ a4 + 3 < n0) ∧ pz_Rn d 109 (0, [], [(0, .inr (.inr (some 165))), (1, .inl 1), (2, .inl (mi 0 ((a4 + 2).toNat))), (3, .inl (mi 0 ((a4 + 3).toNat)))], pz_hp n0 mi ml mr c s, true) (pz_K (d + 1) 148 440 [] [(0, .inr (.inr (some 0))), (1, .inr (.inr (some 1))), (2, .inr (.inr (some 165))), (3, .inr (.inr (some 195))), (4, .inl a4), (5, .inl t0)] Q true)))) : pz_Rn (d + 1) 148 (411, [.inl t0], [(0, .inr (.inr (some 0))), (1, .inr (.inr (some 1))), (2, .inr (.inr (some 165))), (3, .inr (.inr (some 195))), (4, .inl a4)], pz_hp n0 mi ml mr c s, true) Q := by
  refine pz_j2 [] [(5, .inl t0), (0, .inr (.inr (some 0))), (1, .inr (.inr (some 1))), (2, .inr (.inr (some 165))), (3, .inr (.inr (some 195))), (4, .inl a4)] 413 rfl rfl rfl rfl rfl ?_
  refine pz_j1 [.inr (.inr (some 165))] 414 rfl rfl rfl rfl rfl ?_
  refine pz_j1 [.inr (.inr (some 0)), .inr (.inr (some 165))] 415 rfl rfl rfl rfl rfl ?_
  refine pz_j1 [.inl a4, .inr (.inr (some 0)), .inr (.inr (some 165))] 417 rfl rfl rfl rfl rfl ?_
  refine pz_j1 [.inl 1, .inl a4, .inr (.inr (some 0)), .inr (.inr (some 165))] 418 rfl rfl rfl rfl rfl ?_
  obtain ⟨k1, K⟩ := K
  refine pz_j1 [.inl (a4 + 1), .inr (.inr (some 0)), .inr (.inr (some 165))] 419 rfl rfl rfl rfl (pz_ok_in k1) ?_
  obtain ⟨k2, K⟩ := K
  refine pz_j1 [.inl (mi 0 ((a4 + 1).toNat)), .inr (.inr (some 165))] 420 rfl rfl rfl rfl (pz_a2 rfl (pz_ok_ixx pz_S0 k2)) ?_
  refine pz_j1 [.inr (.inr (some 165))] (bif pz_cp .eq (mi 0 ((a4 + 1).toNat)) 0 then 427 else 423) rfl rfl rfl rfl rfl ?_
  refine pz_Rn_if pz_c1_eq pz_c0_eq ⟨fun b3 => ?_, fun b3 => ?_⟩
  · replace K := K.1 b3
    refine pz_j1 [.inl 0, .inr (.inr (some 165))] 428 rfl rfl rfl rfl rfl ?_
    refine pz_j1 [.inr (.inr (some 0)), .inl 0, .inr (.inr (some 165))] 429 rfl rfl rfl rfl rfl ?_
    refine pz_j1 [.inl a4, .inr (.inr (some 0)), .inl 0, .inr (.inr (some 165))] 431 rfl rfl rfl rfl rfl ?_
    refine pz_j1 [.inl 2, .inl a4, .inr (.inr (some 0)), .inl 0, .inr (.inr (some 165))] 432 rfl rfl rfl rfl rfl ?_
    obtain ⟨k4, K⟩ := K
    refine pz_j1 [.inl (a4 + 2), .inr (.inr (some 0)), .inl 0, .inr (.inr (some 165))] 433 rfl rfl rfl rfl (pz_ok_in k4) ?_
    obtain ⟨k5, K⟩ := K
    refine pz_j1 [.inl (mi 0 ((a4 + 2).toNat)), .inl 0, .inr (.inr (some 165))] 434 rfl rfl rfl rfl (pz_a2 rfl (pz_ok_ixx pz_S0 k5)) ?_
    refine pz_j1 [.inr (.inr (some 0)), .inl (mi 0 ((a4 + 2).toNat)), .inl 0, .inr (.inr (some 165))] 435 rfl rfl rfl rfl rfl ?_
    refine pz_j1 [.inl a4, .inr (.inr (some 0)), .inl (mi 0 ((a4 + 2).toNat)), .inl 0, .inr (.inr (some 165))] 437 rfl rfl rfl rfl rfl ?_
    refine pz_j1 [.inl 3, .inl a4, .inr (.inr (some 0)), .inl (mi 0 ((a4 + 2).toNat)), .inl 0, .inr (.inr (some 165))] 438 rfl rfl rfl rfl rfl ?_
    obtain ⟨k6, K⟩ := K
    refine pz_j1 [.inl (a4 + 3), .inr (.inr (some 0)), .inl (mi 0 ((a4 + 2).toNat)), .inl 0, .inr (.inr (some 165))] 439 rfl rfl rfl rfl (pz_ok_in k6) ?_
    obtain ⟨k7, K⟩ := K
    refine pz_j1 [.inl (mi 0 ((a4 + 3).toNat)), .inl (mi 0 ((a4 + 2).toNat)), .inl 0, .inr (.inr (some 165))] 440 rfl rfl rfl rfl (pz_a2 rfl (pz_ok_ixx pz_S0 k7)) ?_
    refine pz_Rn_sub (L := [(0, .inr (.inr (some 0))), (1, .inr (.inr (some 1))), (2, .inr (.inr (some 165))), (3, .inr (.inr (some 195))), (4, .inl a4), (5, .inl t0)]) [1, 2, 3, 4, 5, 0] rfl rfl ?_
    exact pz_Rn_k (y := 108) rfl rfl rfl rfl rfl rfl rfl rfl (pz_cok_v rfl rfl pz_S165) K
  · replace K := K.2 b3
    refine pz_j1 [.inl 1, .inr (.inr (some 165))] 424 rfl rfl rfl rfl rfl ?_
    refine pz_j1 [.inl 1, .inr (.inr (some 165))] 428 rfl rfl rfl rfl rfl ?_
    refine pz_j1 [.inr (.inr (some 0)), .inl 1, .inr (.inr (some 165))] 429 rfl rfl rfl rfl rfl ?_
    refine pz_j1 [.inl a4, .inr (.inr (some 0)), .inl 1, .inr (.inr (some 165))] 431 rfl rfl rfl rfl rfl ?_
    refine pz_j1 [.inl 2, .inl a4, .inr (.inr (some 0)), .inl 1, .inr (.inr (some 165))] 432 rfl rfl rfl rfl rfl ?_
    obtain ⟨k8, K⟩ := K
    refine pz_j1 [.inl (a4 + 2), .inr (.inr (some 0)), .inl 1, .inr (.inr (some 165))] 433 rfl rfl rfl rfl (pz_ok_in k8) ?_
    obtain ⟨k9, K⟩ := K
    refine pz_j1 [.inl (mi 0 ((a4 + 2).toNat)), .inl 1, .inr (.inr (some 165))] 434 rfl rfl rfl rfl (pz_a2 rfl (pz_ok_ixx pz_S0 k9)) ?_
    refine pz_j1 [.inr (.inr (some 0)), .inl (mi 0 ((a4 + 2).toNat)), .inl 1, .inr (.inr (some 165))] 435 rfl rfl rfl rfl rfl ?_
    refine pz_j1 [.inl a4, .inr (.inr (some 0)), .inl (mi 0 ((a4 + 2).toNat)), .inl 1, .inr (.inr (some 165))] 437 rfl rfl rfl rfl rfl ?_
    refine pz_j1 [.inl 3, .inl a4, .inr (.inr (some 0)), .inl (mi 0 ((a4 + 2).toNat)), .inl 1, .inr (.inr (some 165))] 438 rfl rfl rfl rfl rfl ?_
    obtain ⟨k10, K⟩ := K
    refine pz_j1 [.inl (a4 + 3), .inr (.inr (some 0)), .inl (mi 0 ((a4 + 2).toNat)), .inl 1, .inr (.inr (some 165))] 439 rfl rfl rfl rfl (pz_ok_in k10) ?_
    obtain ⟨k11, K⟩ := K
    refine pz_j1 [.inl (mi 0 ((a4 + 3).toNat)), .inl (mi 0 ((a4 + 2).toNat)), .inl 1, .inr (.inr (some 165))] 440 rfl rfl rfl rfl (pz_a2 rfl (pz_ok_ixx pz_S0 k11)) ?_
    refine pz_Rn_sub (L := [(0, .inr (.inr (some 0))), (1, .inr (.inr (some 1))), (2, .inr (.inr (some 165))), (3, .inr (.inr (some 195))), (4, .inl a4), (5, .inl t0)]) [1, 2, 3, 4, 5, 0] rfl rfl ?_
    exact pz_Rn_k (y := 108) rfl rfl rfl rfl rfl rfl rfl rfl (pz_cok_v rfl rfl pz_S165) K
set_option maxRecDepth 8000 in
theorem pz_g148_443 {a4 : Int} {a5 : Int} {t0 : Int}  (K : pz_Rn d 102 (0, [], [(0, .inr (.inr (some 165)))], pz_hp n0 mi ml mr c s, true) (pz_K (d + 1) 148 446 [] [(0, .inr (.inr (some 0))), (1, .inr (.inr (some 1))), (2, .inr (.inr (some 165))), (3, .inr (.inr (some 195))), (4, .inl a4), (5, .inl a5), (6, .inl t0)] Q true)) : pz_Rn (d + 1) 148 (443, [.inl t0], [(0, .inr (.inr (some 0))), (1, .inr (.inr (some 1))), (2, .inr (.inr (some 165))), (3, .inr (.inr (some 195))), (4, .inl a4), (5, .inl a5)], pz_hp n0 mi ml mr c s, true) Q := by
  refine pz_j2 [] [(6, .inl t0), (0, .inr (.inr (some 0))), (1, .inr (.inr (some 1))), (2, .inr (.inr (some 165))), (3, .inr (.inr (some 195))), (4, .inl a4), (5, .inl a5)] 445 rfl rfl rfl rfl rfl ?_
  refine pz_j1 [.inr (.inr (some 165))] 446 rfl rfl rfl rfl rfl ?_
  refine pz_Rn_sub (L := [(0, .inr (.inr (some 0))), (1, .inr (.inr (some 1))), (2, .inr (.inr (some 165))), (3, .inr (.inr (some 195))), (4, .inl a4), (5, .inl a5), (6, .inl t0)]) [1, 2, 3, 4, 5, 6, 0] rfl rfl ?_
  exact pz_Rn_k (y := 101) rfl rfl rfl rfl rfl rfl rfl rfl (pz_cok_v rfl rfl pz_S165) K
set_option maxRecDepth 8000 in
theorem pz_g148_449 {a4 : Int} {a5 : Int} {a6 : Int} {t0 : Int}  (K : ((t0 = a5 → ((a5 ≠ 0 → (-2147483648 ≤ a4 + 5 ∧ a4 + 5 ≤ 2147483647) ∧ pz_Rn (d + 1) 148 (23, [], [(0, .inr (.inr (some 0))), (1, .inr (.inr (some 1))), (2, .inr (.inr (some 165))), (3, .inr (.inr (some 195))), (4, .inl (a4 + 5))], pz_hp n0 mi ml mr c s, true) Q) ∧ (a5 = 0 → ((pz_lc (ml 195 0) ((Int32.ofInt a6).toInt64) = 0 → (-2147483648 ≤ a4 + 5 ∧ a4 + 5 ≤ 2147483647) ∧ pz_Rn (d + 1) 148 (23, [], [(0, .inr (.inr (some 0))), (1, .inr (.inr (some 1))), (2, .inr (.inr (some 165))), (3, .inr (.inr (some 195))), (4, .inl (a4 + 5))], pz_hp n0 mi ml mr c s, true) Q) ∧ (pz_lc (ml 195 0) ((Int32.ofInt a6).toInt64) ≠ 0 → Q (.inl (some (.inl 0))) (pz_hp n0 mi ml mr c s)))))) ∧ (t0 ≠ a5 → Q (.inl (some (.inl 0))) (pz_hp n0 mi ml mr c s)))) : pz_Rn (d + 1) 148 (449, [.inl t0], [(0, .inr (.inr (some 0))), (1, .inr (.inr (some 1))), (2, .inr (.inr (some 165))), (3, .inr (.inr (some 195))), (4, .inl a4), (5, .inl a5), (6, .inl a6)], pz_hp n0 mi ml mr c s, true) Q := by
  refine pz_j1 [.inl a5, .inl t0] 451 rfl rfl rfl rfl rfl ?_
  refine pz_j1 [] (bif pz_cp .eq t0 a5 then 456 else 454) rfl rfl rfl rfl rfl ?_
  refine pz_Rn_if pz_c1_eq pz_c0_eq ⟨fun b1 => ?_, fun b1 => ?_⟩
  · replace K := K.1 b1
    refine pz_j1 [.inl a5] 458 rfl rfl rfl rfl rfl ?_
    refine pz_j1 [] (bif pz_cp .ne a5 0 then 473 else 461) rfl rfl rfl rfl rfl ?_
    refine pz_Rn_if pz_c1_ne pz_c0_ne ⟨fun b2 => ?_, fun b2 => ?_⟩
    · replace K := K.1 b2
      refine pz_j1 [] 941 rfl rfl rfl rfl rfl ?_
      obtain ⟨k3, K⟩ := K
      refine pz_j2 [] [(4, .inl (a4 + 5)), (0, .inr (.inr (some 0))), (1, .inr (.inr (some 1))), (2, .inr (.inr (some 165))), (3, .inr (.inr (some 195))), (5, .inl a5), (6, .inl a6)] 944 rfl rfl rfl rfl (pz_a2 (pz_ok_in k3) rfl) ?_
      refine pz_j1 [] 23 rfl rfl rfl rfl rfl ?_
      refine pz_Rn_sub (L := [(0, .inr (.inr (some 0))), (1, .inr (.inr (some 1))), (2, .inr (.inr (some 165))), (3, .inr (.inr (some 195))), (4, .inl (a4 + 5))]) [1, 2, 3, 4, 0] rfl rfl ?_
      exact K
    · replace K := K.2 b2
      refine pz_j1 [.inr (.inr (some 195))] 462 rfl rfl rfl rfl rfl ?_
      refine pz_j1 [.inl 0, .inr (.inr (some 195))] 463 rfl rfl rfl rfl rfl ?_
      refine pz_j1 [.inr (.inl (ml 195 0))] 464 rfl rfl rfl rfl (pz_a2 rfl (pz_ok_ix pz_S195 ⟨by decide, by decide⟩)) ?_
      refine pz_j1 [.inl a6, .inr (.inl (ml 195 0))] 466 rfl rfl rfl rfl rfl ?_
      refine pz_j1 [.inr (.inl ((Int32.ofInt a6).toInt64)), .inr (.inl (ml 195 0))] 467 rfl rfl rfl rfl rfl ?_
      refine pz_j1 [.inl (pz_lc (ml 195 0) ((Int32.ofInt a6).toInt64))] 468 rfl rfl rfl rfl rfl ?_
      refine pz_j1 [] (bif pz_cp .eq (pz_lc (ml 195 0) ((Int32.ofInt a6).toInt64)) 0 then 473 else 471) rfl rfl rfl rfl rfl ?_
      refine pz_Rn_if pz_c1_eq pz_c0_eq ⟨fun b4 => ?_, fun b4 => ?_⟩
      · replace K := K.1 b4
        refine pz_j1 [] 941 rfl rfl rfl rfl rfl ?_
        obtain ⟨k5, K⟩ := K
        refine pz_j2 [] [(4, .inl (a4 + 5)), (0, .inr (.inr (some 0))), (1, .inr (.inr (some 1))), (2, .inr (.inr (some 165))), (3, .inr (.inr (some 195))), (5, .inl a5), (6, .inl a6)] 944 rfl rfl rfl rfl (pz_a2 (pz_ok_in k5) rfl) ?_
        refine pz_j1 [] 23 rfl rfl rfl rfl rfl ?_
        refine pz_Rn_sub (L := [(0, .inr (.inr (some 0))), (1, .inr (.inr (some 1))), (2, .inr (.inr (some 165))), (3, .inr (.inr (some 195))), (4, .inl (a4 + 5))]) [1, 2, 3, 4, 0] rfl rfl ?_
        exact K
      · replace K := K.2 b4
        refine pz_j1 [.inl 0] 472 rfl rfl rfl rfl rfl ?_
        exact pz_Rn_ret rfl rfl rfl rfl K
  · replace K := K.2 b1
    refine pz_j1 [.inl 0] 455 rfl rfl rfl rfl rfl ?_
    exact pz_Rn_ret rfl rfl rfl rfl K
set_option maxRecDepth 8000 in
theorem pz_g148_505 {a4 : Int} {t0 : Int}  (K : (-2147483648 ≤ a4 + 1 ∧ a4 + 1 ≤ 2147483647) ∧ (0 ≤ a4 + 1 ∧ a4 + 1 < n0) ∧ (-2147483648 ≤ a4 + 2 ∧ a4 + 2 ≤ 2147483647) ∧ (0 ≤ a4 + 2 ∧ a4 + 2 < n0) ∧ (-2147483648 ≤ a4 + 3 ∧ a4 + 3 ≤ 2147483647) ∧ (0 ≤ a4 + 3 ∧ a4 + 3 < n0) ∧ (-2147483648 ≤ a4 + 4 ∧ a4 + 4 ≤ 2147483647) ∧ (0 ≤ a4 + 4 ∧ a4 + 4 < n0) ∧ pz_Rn d 110 (0, [], [(0, .inr (.inr (some 165))), (1, .inl (mi 0 ((a4 + 1).toNat))), (2, .inl (mi 0 ((a4 + 2).toNat))), (3, .inl (mi 0 ((a4 + 3).toNat))), (4, .inl (mi 0 ((a4 + 4).toNat)))], pz_hp n0 mi ml mr c s, true) (pz_K (d + 1) 148 532 [] [(0, .inr (.inr (some 0))), (1, .inr (.inr (some 1))), (2, .inr (.inr (some 165))), (3, .inr (.inr (some 195))), (4, .inl a4), (5, .inl t0)] Q true)) : pz_Rn (d + 1) 148 (505, [.inl t0], [(0, .inr (.inr (some 0))), (1, .inr (.inr (some 1))), (2, .inr (.inr (some 165))), (3, .inr (.inr (some 195))), (4, .inl a4)], pz_hp n0 mi ml mr c s, true) Q := by
  refine pz_j2 [] [(5, .inl t0), (0, .inr (.inr (some 0))), (1, .inr (.inr (some 1))), (2, .inr (.inr (some 165))), (3, .inr (.inr (some 195))), (4, .inl a4)] 507 rfl rfl rfl rfl rfl ?_
  refine pz_j1 [.inr (.inr (some 165))] 508 rfl rfl rfl rfl rfl ?_
  refine pz_j1 [.inr (.inr (some 0)), .inr (.inr (some 165))] 509 rfl rfl rfl rfl rfl ?_
  refine pz_j1 [.inl a4, .inr (.inr (some 0)), .inr (.inr (some 165))] 511 rfl rfl rfl rfl rfl ?_
  refine pz_j1 [.inl 1, .inl a4, .inr (.inr (some 0)), .inr (.inr (some 165))] 512 rfl rfl rfl rfl rfl ?_
  obtain ⟨k1, K⟩ := K
  refine pz_j1 [.inl (a4 + 1), .inr (.inr (some 0)), .inr (.inr (some 165))] 513 rfl rfl rfl rfl (pz_ok_in k1) ?_
  obtain ⟨k2, K⟩ := K
  refine pz_j1 [.inl (mi 0 ((a4 + 1).toNat)), .inr (.inr (some 165))] 514 rfl rfl rfl rfl (pz_a2 rfl (pz_ok_ixx pz_S0 k2)) ?_
  refine pz_j1 [.inr (.inr (some 0)), .inl (mi 0 ((a4 + 1).toNat)), .inr (.inr (some 165))] 515 rfl rfl rfl rfl rfl ?_
  refine pz_j1 [.inl a4, .inr (.inr (some 0)), .inl (mi 0 ((a4 + 1).toNat)), .inr (.inr (some 165))] 517 rfl rfl rfl rfl rfl ?_
  refine pz_j1 [.inl 2, .inl a4, .inr (.inr (some 0)), .inl (mi 0 ((a4 + 1).toNat)), .inr (.inr (some 165))] 518 rfl rfl rfl rfl rfl ?_
  obtain ⟨k3, K⟩ := K
  refine pz_j1 [.inl (a4 + 2), .inr (.inr (some 0)), .inl (mi 0 ((a4 + 1).toNat)), .inr (.inr (some 165))] 519 rfl rfl rfl rfl (pz_ok_in k3) ?_
  obtain ⟨k4, K⟩ := K
  refine pz_j1 [.inl (mi 0 ((a4 + 2).toNat)), .inl (mi 0 ((a4 + 1).toNat)), .inr (.inr (some 165))] 520 rfl rfl rfl rfl (pz_a2 rfl (pz_ok_ixx pz_S0 k4)) ?_
  refine pz_j1 [.inr (.inr (some 0)), .inl (mi 0 ((a4 + 2).toNat)), .inl (mi 0 ((a4 + 1).toNat)), .inr (.inr (some 165))] 521 rfl rfl rfl rfl rfl ?_
  refine pz_j1 [.inl a4, .inr (.inr (some 0)), .inl (mi 0 ((a4 + 2).toNat)), .inl (mi 0 ((a4 + 1).toNat)), .inr (.inr (some 165))] 523 rfl rfl rfl rfl rfl ?_
  refine pz_j1 [.inl 3, .inl a4, .inr (.inr (some 0)), .inl (mi 0 ((a4 + 2).toNat)), .inl (mi 0 ((a4 + 1).toNat)), .inr (.inr (some 165))] 524 rfl rfl rfl rfl rfl ?_
  obtain ⟨k5, K⟩ := K
  refine pz_j1 [.inl (a4 + 3), .inr (.inr (some 0)), .inl (mi 0 ((a4 + 2).toNat)), .inl (mi 0 ((a4 + 1).toNat)), .inr (.inr (some 165))] 525 rfl rfl rfl rfl (pz_ok_in k5) ?_
  obtain ⟨k6, K⟩ := K
  refine pz_j1 [.inl (mi 0 ((a4 + 3).toNat)), .inl (mi 0 ((a4 + 2).toNat)), .inl (mi 0 ((a4 + 1).toNat)), .inr (.inr (some 165))] 526 rfl rfl rfl rfl (pz_a2 rfl (pz_ok_ixx pz_S0 k6)) ?_
  refine pz_j1 [.inr (.inr (some 0)), .inl (mi 0 ((a4 + 3).toNat)), .inl (mi 0 ((a4 + 2).toNat)), .inl (mi 0 ((a4 + 1).toNat)), .inr (.inr (some 165))] 527 rfl rfl rfl rfl rfl ?_
  refine pz_j1 [.inl a4, .inr (.inr (some 0)), .inl (mi 0 ((a4 + 3).toNat)), .inl (mi 0 ((a4 + 2).toNat)), .inl (mi 0 ((a4 + 1).toNat)), .inr (.inr (some 165))] 529 rfl rfl rfl rfl rfl ?_
  refine pz_j1 [.inl 4, .inl a4, .inr (.inr (some 0)), .inl (mi 0 ((a4 + 3).toNat)), .inl (mi 0 ((a4 + 2).toNat)), .inl (mi 0 ((a4 + 1).toNat)), .inr (.inr (some 165))] 530 rfl rfl rfl rfl rfl ?_
  obtain ⟨k7, K⟩ := K
  refine pz_j1 [.inl (a4 + 4), .inr (.inr (some 0)), .inl (mi 0 ((a4 + 3).toNat)), .inl (mi 0 ((a4 + 2).toNat)), .inl (mi 0 ((a4 + 1).toNat)), .inr (.inr (some 165))] 531 rfl rfl rfl rfl (pz_ok_in k7) ?_
  obtain ⟨k8, K⟩ := K
  refine pz_j1 [.inl (mi 0 ((a4 + 4).toNat)), .inl (mi 0 ((a4 + 3).toNat)), .inl (mi 0 ((a4 + 2).toNat)), .inl (mi 0 ((a4 + 1).toNat)), .inr (.inr (some 165))] 532 rfl rfl rfl rfl (pz_a2 rfl (pz_ok_ixx pz_S0 k8)) ?_
  refine pz_Rn_sub (L := [(0, .inr (.inr (some 0))), (1, .inr (.inr (some 1))), (2, .inr (.inr (some 165))), (3, .inr (.inr (some 195))), (4, .inl a4), (5, .inl t0)]) [1, 2, 3, 4, 5, 0] rfl rfl ?_
  exact pz_Rn_k (y := 109) rfl rfl rfl rfl rfl rfl rfl rfl (pz_cok_v rfl rfl pz_S165) K
set_option maxRecDepth 8000 in
theorem pz_g148_535 {a4 : Int} {a5 : Int} {t0 : Int}  (K : pz_Rn d 102 (0, [], [(0, .inr (.inr (some 165)))], pz_hp n0 mi ml mr c s, true) (pz_K (d + 1) 148 538 [] [(0, .inr (.inr (some 0))), (1, .inr (.inr (some 1))), (2, .inr (.inr (some 165))), (3, .inr (.inr (some 195))), (4, .inl a4), (5, .inl a5), (6, .inl t0)] Q true)) : pz_Rn (d + 1) 148 (535, [.inl t0], [(0, .inr (.inr (some 0))), (1, .inr (.inr (some 1))), (2, .inr (.inr (some 165))), (3, .inr (.inr (some 195))), (4, .inl a4), (5, .inl a5)], pz_hp n0 mi ml mr c s, true) Q := by
  refine pz_j2 [] [(6, .inl t0), (0, .inr (.inr (some 0))), (1, .inr (.inr (some 1))), (2, .inr (.inr (some 165))), (3, .inr (.inr (some 195))), (4, .inl a4), (5, .inl a5)] 537 rfl rfl rfl rfl rfl ?_
  refine pz_j1 [.inr (.inr (some 165))] 538 rfl rfl rfl rfl rfl ?_
  refine pz_Rn_sub (L := [(0, .inr (.inr (some 0))), (1, .inr (.inr (some 1))), (2, .inr (.inr (some 165))), (3, .inr (.inr (some 195))), (4, .inl a4), (5, .inl a5), (6, .inl t0)]) [1, 2, 3, 4, 5, 6, 0] rfl rfl ?_
  exact pz_Rn_k (y := 101) rfl rfl rfl rfl rfl rfl rfl rfl (pz_cok_v rfl rfl pz_S165) K
set_option maxRecDepth 8000 in
theorem pz_g148_541 {a4 : Int} {a5 : Int} {a6 : Int} {t0 : Int}  (K : ((t0 = a5 → ((a5 ≠ 0 → (-2147483648 ≤ a4 + 5 ∧ a4 + 5 ≤ 2147483647) ∧ pz_Rn (d + 1) 148 (23, [], [(0, .inr (.inr (some 0))), (1, .inr (.inr (some 1))), (2, .inr (.inr (some 165))), (3, .inr (.inr (some 195))), (4, .inl (a4 + 5))], pz_hp n0 mi ml mr c s, true) Q) ∧ (a5 = 0 → ((pz_lc (ml 195 0) ((Int32.ofInt a6).toInt64) = 0 → (-2147483648 ≤ a4 + 5 ∧ a4 + 5 ≤ 2147483647) ∧ pz_Rn (d + 1) 148 (23, [], [(0, .inr (.inr (some 0))), (1, .inr (.inr (some 1))), (2, .inr (.inr (some 165))), (3, .inr (.inr (some 195))), (4, .inl (a4 + 5))], pz_hp n0 mi ml mr c s, true) Q) ∧ (pz_lc (ml 195 0) ((Int32.ofInt a6).toInt64) ≠ 0 → Q (.inl (some (.inl 0))) (pz_hp n0 mi ml mr c s)))))) ∧ (t0 ≠ a5 → Q (.inl (some (.inl 0))) (pz_hp n0 mi ml mr c s)))) : pz_Rn (d + 1) 148 (541, [.inl t0], [(0, .inr (.inr (some 0))), (1, .inr (.inr (some 1))), (2, .inr (.inr (some 165))), (3, .inr (.inr (some 195))), (4, .inl a4), (5, .inl a5), (6, .inl a6)], pz_hp n0 mi ml mr c s, true) Q := by
  refine pz_j1 [.inl a5, .inl t0] 543 rfl rfl rfl rfl rfl ?_
  refine pz_j1 [] (bif pz_cp .eq t0 a5 then 548 else 546) rfl rfl rfl rfl rfl ?_
  refine pz_Rn_if pz_c1_eq pz_c0_eq ⟨fun b1 => ?_, fun b1 => ?_⟩
  · replace K := K.1 b1
    refine pz_j1 [.inl a5] 550 rfl rfl rfl rfl rfl ?_
    refine pz_j1 [] (bif pz_cp .ne a5 0 then 565 else 553) rfl rfl rfl rfl rfl ?_
    refine pz_Rn_if pz_c1_ne pz_c0_ne ⟨fun b2 => ?_, fun b2 => ?_⟩
    · replace K := K.1 b2
      refine pz_j1 [] 941 rfl rfl rfl rfl rfl ?_
      obtain ⟨k3, K⟩ := K
      refine pz_j2 [] [(4, .inl (a4 + 5)), (0, .inr (.inr (some 0))), (1, .inr (.inr (some 1))), (2, .inr (.inr (some 165))), (3, .inr (.inr (some 195))), (5, .inl a5), (6, .inl a6)] 944 rfl rfl rfl rfl (pz_a2 (pz_ok_in k3) rfl) ?_
      refine pz_j1 [] 23 rfl rfl rfl rfl rfl ?_
      refine pz_Rn_sub (L := [(0, .inr (.inr (some 0))), (1, .inr (.inr (some 1))), (2, .inr (.inr (some 165))), (3, .inr (.inr (some 195))), (4, .inl (a4 + 5))]) [1, 2, 3, 4, 0] rfl rfl ?_
      exact K
    · replace K := K.2 b2
      refine pz_j1 [.inr (.inr (some 195))] 554 rfl rfl rfl rfl rfl ?_
      refine pz_j1 [.inl 0, .inr (.inr (some 195))] 555 rfl rfl rfl rfl rfl ?_
      refine pz_j1 [.inr (.inl (ml 195 0))] 556 rfl rfl rfl rfl (pz_a2 rfl (pz_ok_ix pz_S195 ⟨by decide, by decide⟩)) ?_
      refine pz_j1 [.inl a6, .inr (.inl (ml 195 0))] 558 rfl rfl rfl rfl rfl ?_
      refine pz_j1 [.inr (.inl ((Int32.ofInt a6).toInt64)), .inr (.inl (ml 195 0))] 559 rfl rfl rfl rfl rfl ?_
      refine pz_j1 [.inl (pz_lc (ml 195 0) ((Int32.ofInt a6).toInt64))] 560 rfl rfl rfl rfl rfl ?_
      refine pz_j1 [] (bif pz_cp .eq (pz_lc (ml 195 0) ((Int32.ofInt a6).toInt64)) 0 then 565 else 563) rfl rfl rfl rfl rfl ?_
      refine pz_Rn_if pz_c1_eq pz_c0_eq ⟨fun b4 => ?_, fun b4 => ?_⟩
      · replace K := K.1 b4
        refine pz_j1 [] 941 rfl rfl rfl rfl rfl ?_
        obtain ⟨k5, K⟩ := K
        refine pz_j2 [] [(4, .inl (a4 + 5)), (0, .inr (.inr (some 0))), (1, .inr (.inr (some 1))), (2, .inr (.inr (some 165))), (3, .inr (.inr (some 195))), (5, .inl a5), (6, .inl a6)] 944 rfl rfl rfl rfl (pz_a2 (pz_ok_in k5) rfl) ?_
        refine pz_j1 [] 23 rfl rfl rfl rfl rfl ?_
        refine pz_Rn_sub (L := [(0, .inr (.inr (some 0))), (1, .inr (.inr (some 1))), (2, .inr (.inr (some 165))), (3, .inr (.inr (some 195))), (4, .inl (a4 + 5))]) [1, 2, 3, 4, 0] rfl rfl ?_
        exact K
      · replace K := K.2 b4
        refine pz_j1 [.inl 0] 564 rfl rfl rfl rfl rfl ?_
        exact pz_Rn_ret rfl rfl rfl rfl K
  · replace K := K.2 b1
    refine pz_j1 [.inl 0] 547 rfl rfl rfl rfl rfl ?_
    exact pz_Rn_ret rfl rfl rfl rfl K
set_option maxRecDepth 8000 in
theorem pz_g148_584 {a4 : Int} {t0 : Int}  (K : (-2147483648 ≤ a4 + 1 ∧ a4 + 1 ≤ 2147483647) ∧ (0 ≤ a4 + 1 ∧ a4 + 1 < n0) ∧ (-2147483648 ≤ a4 + 2 ∧ a4 + 2 ≤ 2147483647) ∧ (0 ≤ a4 + 2 ∧ a4 + 2 < n0) ∧ pz_Rn d 111 (0, [], [(0, .inr (.inr (some 165))), (1, .inl (mi 0 ((a4 + 1).toNat))), (2, .inl (mi 0 ((a4 + 2).toNat)))], pz_hp n0 mi ml mr c s, true) (pz_K (d + 1) 148 599 [] [(0, .inr (.inr (some 0))), (1, .inr (.inr (some 1))), (2, .inr (.inr (some 165))), (3, .inr (.inr (some 195))), (4, .inl a4), (5, .inl t0)] Q true)) : pz_Rn (d + 1) 148 (584, [.inl t0], [(0, .inr (.inr (some 0))), (1, .inr (.inr (some 1))), (2, .inr (.inr (some 165))), (3, .inr (.inr (some 195))), (4, .inl a4)], pz_hp n0 mi ml mr c s, true) Q := by
  refine pz_j2 [] [(5, .inl t0), (0, .inr (.inr (some 0))), (1, .inr (.inr (some 1))), (2, .inr (.inr (some 165))), (3, .inr (.inr (some 195))), (4, .inl a4)] 586 rfl rfl rfl rfl rfl ?_
  refine pz_j1 [.inr (.inr (some 165))] 587 rfl rfl rfl rfl rfl ?_
  refine pz_j1 [.inr (.inr (some 0)), .inr (.inr (some 165))] 588 rfl rfl rfl rfl rfl ?_
  refine pz_j1 [.inl a4, .inr (.inr (some 0)), .inr (.inr (some 165))] 590 rfl rfl rfl rfl rfl ?_
  refine pz_j1 [.inl 1, .inl a4, .inr (.inr (some 0)), .inr (.inr (some 165))] 591 rfl rfl rfl rfl rfl ?_
  obtain ⟨k1, K⟩ := K
  refine pz_j1 [.inl (a4 + 1), .inr (.inr (some 0)), .inr (.inr (some 165))] 592 rfl rfl rfl rfl (pz_ok_in k1) ?_
  obtain ⟨k2, K⟩ := K
  refine pz_j1 [.inl (mi 0 ((a4 + 1).toNat)), .inr (.inr (some 165))] 593 rfl rfl rfl rfl (pz_a2 rfl (pz_ok_ixx pz_S0 k2)) ?_
  refine pz_j1 [.inr (.inr (some 0)), .inl (mi 0 ((a4 + 1).toNat)), .inr (.inr (some 165))] 594 rfl rfl rfl rfl rfl ?_
  refine pz_j1 [.inl a4, .inr (.inr (some 0)), .inl (mi 0 ((a4 + 1).toNat)), .inr (.inr (some 165))] 596 rfl rfl rfl rfl rfl ?_
  refine pz_j1 [.inl 2, .inl a4, .inr (.inr (some 0)), .inl (mi 0 ((a4 + 1).toNat)), .inr (.inr (some 165))] 597 rfl rfl rfl rfl rfl ?_
  obtain ⟨k3, K⟩ := K
  refine pz_j1 [.inl (a4 + 2), .inr (.inr (some 0)), .inl (mi 0 ((a4 + 1).toNat)), .inr (.inr (some 165))] 598 rfl rfl rfl rfl (pz_ok_in k3) ?_
  obtain ⟨k4, K⟩ := K
  refine pz_j1 [.inl (mi 0 ((a4 + 2).toNat)), .inl (mi 0 ((a4 + 1).toNat)), .inr (.inr (some 165))] 599 rfl rfl rfl rfl (pz_a2 rfl (pz_ok_ixx pz_S0 k4)) ?_
  refine pz_Rn_sub (L := [(0, .inr (.inr (some 0))), (1, .inr (.inr (some 1))), (2, .inr (.inr (some 165))), (3, .inr (.inr (some 195))), (4, .inl a4), (5, .inl t0)]) [1, 2, 3, 4, 5, 0] rfl rfl ?_
  exact pz_Rn_k (y := 110) rfl rfl rfl rfl rfl rfl rfl rfl (pz_cok_v rfl rfl pz_S165) K
set_option maxRecDepth 8000 in
theorem pz_g148_602 {a4 : Int} {a5 : Int}  (K : pz_Rn d 102 (0, [], [(0, .inr (.inr (some 165)))], pz_hp n0 mi ml mr c s, true) (pz_K (d + 1) 148 603 [] [(0, .inr (.inr (some 0))), (1, .inr (.inr (some 1))), (2, .inr (.inr (some 165))), (3, .inr (.inr (some 195))), (4, .inl a4), (5, .inl a5)] Q true)) : pz_Rn (d + 1) 148 (602, [], [(0, .inr (.inr (some 0))), (1, .inr (.inr (some 1))), (2, .inr (.inr (some 165))), (3, .inr (.inr (some 195))), (4, .inl a4), (5, .inl a5)], pz_hp n0 mi ml mr c s, true) Q := by
  refine pz_j1 [.inr (.inr (some 165))] 603 rfl rfl rfl rfl rfl ?_
  exact pz_Rn_k (y := 101) rfl rfl rfl rfl rfl rfl rfl rfl (pz_cok_v rfl rfl pz_S165) K
set_option maxRecDepth 8000 in
theorem pz_g148_606 {a4 : Int} {a5 : Int} {t0 : Int}  (K : ((t0 = a5 → (-2147483648 ≤ a4 + 5 ∧ a4 + 5 ≤ 2147483647) ∧ pz_Rn (d + 1) 148 (23, [], [(0, .inr (.inr (some 0))), (1, .inr (.inr (some 1))), (2, .inr (.inr (some 165))), (3, .inr (.inr (some 195))), (4, .inl (a4 + 5))], pz_hp n0 mi ml mr c s, true) Q) ∧ (t0 ≠ a5 → Q (.inl (some (.inl 0))) (pz_hp n0 mi ml mr c s)))) : pz_Rn (d + 1) 148 (606, [.inl t0], [(0, .inr (.inr (some 0))), (1, .inr (.inr (some 1))), (2, .inr (.inr (some 165))), (3, .inr (.inr (some 195))), (4, .inl a4), (5, .inl a5)], pz_hp n0 mi ml mr c s, true) Q := by
  refine pz_j1 [.inl a5, .inl t0] 608 rfl rfl rfl rfl rfl ?_
  refine pz_j1 [] (bif pz_cp .eq t0 a5 then 613 else 611) rfl rfl rfl rfl rfl ?_
  refine pz_Rn_if pz_c1_eq pz_c0_eq ⟨fun b1 => ?_, fun b1 => ?_⟩
  · replace K := K.1 b1
    refine pz_j1 [] 941 rfl rfl rfl rfl rfl ?_
    obtain ⟨k2, K⟩ := K
    refine pz_j2 [] [(4, .inl (a4 + 5)), (0, .inr (.inr (some 0))), (1, .inr (.inr (some 1))), (2, .inr (.inr (some 165))), (3, .inr (.inr (some 195))), (5, .inl a5)] 944 rfl rfl rfl rfl (pz_a2 (pz_ok_in k2) rfl) ?_
    refine pz_j1 [] 23 rfl rfl rfl rfl rfl ?_
    refine pz_Rn_sub (L := [(0, .inr (.inr (some 0))), (1, .inr (.inr (some 1))), (2, .inr (.inr (some 165))), (3, .inr (.inr (some 195))), (4, .inl (a4 + 5))]) [1, 2, 3, 4, 0] rfl rfl ?_
    exact K
  · replace K := K.2 b1
    refine pz_j1 [.inl 0] 612 rfl rfl rfl rfl rfl ?_
    exact pz_Rn_ret rfl rfl rfl rfl K
set_option maxRecDepth 8000 in
theorem pz_g148_626 {a4 : Int} {t0 : Int}  (K : (-2147483648 ≤ a4 + 1 ∧ a4 + 1 ≤ 2147483647) ∧ (0 ≤ a4 + 1 ∧ a4 + 1 < n0) ∧ pz_Rn d 113 (0, [], [(0, .inr (.inr (some 165))), (1, .inl (mi 0 ((a4 + 1).toNat)))], pz_hp n0 mi ml mr c s, true) (pz_K (d + 1) 148 635 [] [(0, .inr (.inr (some 0))), (1, .inr (.inr (some 1))), (2, .inr (.inr (some 165))), (3, .inr (.inr (some 195))), (4, .inl a4), (5, .inl t0)] Q true)) : pz_Rn (d + 1) 148 (626, [.inl t0], [(0, .inr (.inr (some 0))), (1, .inr (.inr (some 1))), (2, .inr (.inr (some 165))), (3, .inr (.inr (some 195))), (4, .inl a4)], pz_hp n0 mi ml mr c s, true) Q := by
  refine pz_j2 [] [(5, .inl t0), (0, .inr (.inr (some 0))), (1, .inr (.inr (some 1))), (2, .inr (.inr (some 165))), (3, .inr (.inr (some 195))), (4, .inl a4)] 628 rfl rfl rfl rfl rfl ?_
  refine pz_j1 [.inr (.inr (some 165))] 629 rfl rfl rfl rfl rfl ?_
  refine pz_j1 [.inr (.inr (some 0)), .inr (.inr (some 165))] 630 rfl rfl rfl rfl rfl ?_
  refine pz_j1 [.inl a4, .inr (.inr (some 0)), .inr (.inr (some 165))] 632 rfl rfl rfl rfl rfl ?_
  refine pz_j1 [.inl 1, .inl a4, .inr (.inr (some 0)), .inr (.inr (some 165))] 633 rfl rfl rfl rfl rfl ?_
  obtain ⟨k1, K⟩ := K
  refine pz_j1 [.inl (a4 + 1), .inr (.inr (some 0)), .inr (.inr (some 165))] 634 rfl rfl rfl rfl (pz_ok_in k1) ?_
  obtain ⟨k2, K⟩ := K
  refine pz_j1 [.inl (mi 0 ((a4 + 1).toNat)), .inr (.inr (some 165))] 635 rfl rfl rfl rfl (pz_a2 rfl (pz_ok_ixx pz_S0 k2)) ?_
  refine pz_Rn_sub (L := [(0, .inr (.inr (some 0))), (1, .inr (.inr (some 1))), (2, .inr (.inr (some 165))), (3, .inr (.inr (some 195))), (4, .inl a4), (5, .inl t0)]) [1, 2, 3, 4, 5, 0] rfl rfl ?_
  exact pz_Rn_k (y := 112) rfl rfl rfl rfl rfl rfl rfl rfl (pz_cok_v rfl rfl pz_S165) K
set_option maxRecDepth 8000 in
theorem pz_g148_638 {a4 : Int} {a5 : Int}  (K : pz_Rn d 102 (0, [], [(0, .inr (.inr (some 165)))], pz_hp n0 mi ml mr c s, true) (pz_K (d + 1) 148 639 [] [(0, .inr (.inr (some 0))), (1, .inr (.inr (some 1))), (2, .inr (.inr (some 165))), (3, .inr (.inr (some 195))), (4, .inl a4), (5, .inl a5)] Q true)) : pz_Rn (d + 1) 148 (638, [], [(0, .inr (.inr (some 0))), (1, .inr (.inr (some 1))), (2, .inr (.inr (some 165))), (3, .inr (.inr (some 195))), (4, .inl a4), (5, .inl a5)], pz_hp n0 mi ml mr c s, true) Q := by
  refine pz_j1 [.inr (.inr (some 165))] 639 rfl rfl rfl rfl rfl ?_
  exact pz_Rn_k (y := 101) rfl rfl rfl rfl rfl rfl rfl rfl (pz_cok_v rfl rfl pz_S165) K
set_option maxRecDepth 8000 in
theorem pz_g148_642 {a4 : Int} {a5 : Int} {t0 : Int}  (K : ((t0 = a5 → (-2147483648 ≤ a4 + 5 ∧ a4 + 5 ≤ 2147483647) ∧ pz_Rn (d + 1) 148 (23, [], [(0, .inr (.inr (some 0))), (1, .inr (.inr (some 1))), (2, .inr (.inr (some 165))), (3, .inr (.inr (some 195))), (4, .inl (a4 + 5))], pz_hp n0 mi ml mr c s, true) Q) ∧ (t0 ≠ a5 → Q (.inl (some (.inl 0))) (pz_hp n0 mi ml mr c s)))) : pz_Rn (d + 1) 148 (642, [.inl t0], [(0, .inr (.inr (some 0))), (1, .inr (.inr (some 1))), (2, .inr (.inr (some 165))), (3, .inr (.inr (some 195))), (4, .inl a4), (5, .inl a5)], pz_hp n0 mi ml mr c s, true) Q := by
  refine pz_j1 [.inl a5, .inl t0] 644 rfl rfl rfl rfl rfl ?_
  refine pz_j1 [] (bif pz_cp .eq t0 a5 then 649 else 647) rfl rfl rfl rfl rfl ?_
  refine pz_Rn_if pz_c1_eq pz_c0_eq ⟨fun b1 => ?_, fun b1 => ?_⟩
  · replace K := K.1 b1
    refine pz_j1 [] 941 rfl rfl rfl rfl rfl ?_
    obtain ⟨k2, K⟩ := K
    refine pz_j2 [] [(4, .inl (a4 + 5)), (0, .inr (.inr (some 0))), (1, .inr (.inr (some 1))), (2, .inr (.inr (some 165))), (3, .inr (.inr (some 195))), (5, .inl a5)] 944 rfl rfl rfl rfl (pz_a2 (pz_ok_in k2) rfl) ?_
    refine pz_j1 [] 23 rfl rfl rfl rfl rfl ?_
    refine pz_Rn_sub (L := [(0, .inr (.inr (some 0))), (1, .inr (.inr (some 1))), (2, .inr (.inr (some 165))), (3, .inr (.inr (some 195))), (4, .inl (a4 + 5))]) [1, 2, 3, 4, 0] rfl rfl ?_
    exact K
  · replace K := K.2 b1
    refine pz_j1 [.inl 0] 648 rfl rfl rfl rfl rfl ?_
    exact pz_Rn_ret rfl rfl rfl rfl K
set_option maxRecDepth 8000 in
theorem pz_g148_677 {a4 : Int} {t0 : Int}  (K : (-2147483648 ≤ a4 + 1 ∧ a4 + 1 ≤ 2147483647) ∧ (0 ≤ a4 + 1 ∧ a4 + 1 < n0) ∧ (-2147483648 ≤ a4 + 2 ∧ a4 + 2 ≤ 2147483647) ∧ (0 ≤ a4 + 2 ∧ a4 + 2 < n0) ∧ ((mi 0 ((a4 + 2).toNat) = 0 → pz_Rn d 141 (0, [], [(0, .inr (.inr (some 165))), (1, .inl (mi 0 ((a4 + 1).toNat))), (2, .inl 0)], pz_hp n0 mi ml mr c s, true) (pz_K (d + 1) 148 700 [] [(0, .inr (.inr (some 0))), (1, .inr (.inr (some 1))), (2, .inr (.inr (some 165))), (3, .inr (.inr (some 195))), (4, .inl a4), (5, .inl t0)] Q true)) ∧ (mi 0 ((a4 + 2).toNat) ≠ 0 → pz_Rn d 141 (0, [], [(0, .inr (.inr (some 165))), (1, .inl (mi 0 ((a4 + 1).toNat))), (2, .inl 1)], pz_hp n0 mi ml mr c s, true) (pz_K (d + 1) 148 700 [] [(0, .inr (.inr (some 0))), (1, .inr (.inr (some 1))), (2, .inr (.inr (some 165))), (3, .inr (.inr (some 195))), (4, .inl a4), (5, .inl t0)] Q true)))) : pz_Rn (d + 1) 148 (677, [.inl t0], [(0, .inr (.inr (some 0))), (1, .inr (.inr (some 1))), (2, .inr (.inr (some 165))), (3, .inr (.inr (some 195))), (4, .inl a4)], pz_hp n0 mi ml mr c s, true) Q := by
  refine pz_j2 [] [(5, .inl t0), (0, .inr (.inr (some 0))), (1, .inr (.inr (some 1))), (2, .inr (.inr (some 165))), (3, .inr (.inr (some 195))), (4, .inl a4)] 679 rfl rfl rfl rfl rfl ?_
  refine pz_j1 [.inr (.inr (some 165))] 680 rfl rfl rfl rfl rfl ?_
  refine pz_j1 [.inr (.inr (some 0)), .inr (.inr (some 165))] 681 rfl rfl rfl rfl rfl ?_
  refine pz_j1 [.inl a4, .inr (.inr (some 0)), .inr (.inr (some 165))] 683 rfl rfl rfl rfl rfl ?_
  refine pz_j1 [.inl 1, .inl a4, .inr (.inr (some 0)), .inr (.inr (some 165))] 684 rfl rfl rfl rfl rfl ?_
  obtain ⟨k1, K⟩ := K
  refine pz_j1 [.inl (a4 + 1), .inr (.inr (some 0)), .inr (.inr (some 165))] 685 rfl rfl rfl rfl (pz_ok_in k1) ?_
  obtain ⟨k2, K⟩ := K
  refine pz_j1 [.inl (mi 0 ((a4 + 1).toNat)), .inr (.inr (some 165))] 686 rfl rfl rfl rfl (pz_a2 rfl (pz_ok_ixx pz_S0 k2)) ?_
  refine pz_j1 [.inr (.inr (some 0)), .inl (mi 0 ((a4 + 1).toNat)), .inr (.inr (some 165))] 687 rfl rfl rfl rfl rfl ?_
  refine pz_j1 [.inl a4, .inr (.inr (some 0)), .inl (mi 0 ((a4 + 1).toNat)), .inr (.inr (some 165))] 689 rfl rfl rfl rfl rfl ?_
  refine pz_j1 [.inl 2, .inl a4, .inr (.inr (some 0)), .inl (mi 0 ((a4 + 1).toNat)), .inr (.inr (some 165))] 690 rfl rfl rfl rfl rfl ?_
  obtain ⟨k3, K⟩ := K
  refine pz_j1 [.inl (a4 + 2), .inr (.inr (some 0)), .inl (mi 0 ((a4 + 1).toNat)), .inr (.inr (some 165))] 691 rfl rfl rfl rfl (pz_ok_in k3) ?_
  obtain ⟨k4, K⟩ := K
  refine pz_j1 [.inl (mi 0 ((a4 + 2).toNat)), .inl (mi 0 ((a4 + 1).toNat)), .inr (.inr (some 165))] 692 rfl rfl rfl rfl (pz_a2 rfl (pz_ok_ixx pz_S0 k4)) ?_
  refine pz_j1 [.inl (mi 0 ((a4 + 1).toNat)), .inr (.inr (some 165))] (bif pz_cp .eq (mi 0 ((a4 + 2).toNat)) 0 then 699 else 695) rfl rfl rfl rfl rfl ?_
  refine pz_Rn_if pz_c1_eq pz_c0_eq ⟨fun b5 => ?_, fun b5 => ?_⟩
  · replace K := K.1 b5
    refine pz_j1 [.inl 0, .inl (mi 0 ((a4 + 1).toNat)), .inr (.inr (some 165))] 700 rfl rfl rfl rfl rfl ?_
    refine pz_Rn_sub (L := [(0, .inr (.inr (some 0))), (1, .inr (.inr (some 1))), (2, .inr (.inr (some 165))), (3, .inr (.inr (some 195))), (4, .inl a4), (5, .inl t0)]) [1, 2, 3, 4, 5, 0] rfl rfl ?_
    exact pz_Rn_k (y := 140) rfl rfl rfl rfl rfl rfl rfl rfl (pz_cok_v rfl rfl pz_S165) K
  · replace K := K.2 b5
    refine pz_j1 [.inl 1, .inl (mi 0 ((a4 + 1).toNat)), .inr (.inr (some 165))] 696 rfl rfl rfl rfl rfl ?_
    refine pz_j1 [.inl 1, .inl (mi 0 ((a4 + 1).toNat)), .inr (.inr (some 165))] 700 rfl rfl rfl rfl rfl ?_
    refine pz_Rn_sub (L := [(0, .inr (.inr (some 0))), (1, .inr (.inr (some 1))), (2, .inr (.inr (some 165))), (3, .inr (.inr (some 195))), (4, .inl a4), (5, .inl t0)]) [1, 2, 3, 4, 5, 0] rfl rfl ?_
    exact pz_Rn_k (y := 140) rfl rfl rfl rfl rfl rfl rfl rfl (pz_cok_v rfl rfl pz_S165) K
set_option maxRecDepth 8000 in
theorem pz_g148_703 {a4 : Int} {a5 : Int} {t0 : Int}  (K : pz_Rn d 102 (0, [], [(0, .inr (.inr (some 165)))], pz_hp n0 mi ml mr c s, true) (pz_K (d + 1) 148 706 [] [(0, .inr (.inr (some 0))), (1, .inr (.inr (some 1))), (2, .inr (.inr (some 165))), (3, .inr (.inr (some 195))), (4, .inl a4), (5, .inl a5), (6, .inl t0)] Q true)) : pz_Rn (d + 1) 148 (703, [.inl t0], [(0, .inr (.inr (some 0))), (1, .inr (.inr (some 1))), (2, .inr (.inr (some 165))), (3, .inr (.inr (some 195))), (4, .inl a4), (5, .inl a5)], pz_hp n0 mi ml mr c s, true) Q := by
  refine pz_j2 [] [(6, .inl t0), (0, .inr (.inr (some 0))), (1, .inr (.inr (some 1))), (2, .inr (.inr (some 165))), (3, .inr (.inr (some 195))), (4, .inl a4), (5, .inl a5)] 705 rfl rfl rfl rfl rfl ?_
  refine pz_j1 [.inr (.inr (some 165))] 706 rfl rfl rfl rfl rfl ?_
  refine pz_Rn_sub (L := [(0, .inr (.inr (some 0))), (1, .inr (.inr (some 1))), (2, .inr (.inr (some 165))), (3, .inr (.inr (some 195))), (4, .inl a4), (5, .inl a5), (6, .inl t0)]) [1, 2, 3, 4, 5, 6, 0] rfl rfl ?_
  exact pz_Rn_k (y := 101) rfl rfl rfl rfl rfl rfl rfl rfl (pz_cok_v rfl rfl pz_S165) K
set_option maxRecDepth 8000 in
theorem pz_g148_709 {a4 : Int} {a5 : Int} {a6 : Int} {t0 : Int}  (K : ((t0 = a5 → ((a5 ≠ 0 → (-2147483648 ≤ a4 + 5 ∧ a4 + 5 ≤ 2147483647) ∧ pz_Rn (d + 1) 148 (23, [], [(0, .inr (.inr (some 0))), (1, .inr (.inr (some 1))), (2, .inr (.inr (some 165))), (3, .inr (.inr (some 195))), (4, .inl (a4 + 5))], pz_hp n0 mi ml mr c s, true) Q) ∧ (a5 = 0 → ((pz_lc (ml 195 0) ((Int32.ofInt a6).toInt64) = 0 → (-2147483648 ≤ a4 + 5 ∧ a4 + 5 ≤ 2147483647) ∧ pz_Rn (d + 1) 148 (23, [], [(0, .inr (.inr (some 0))), (1, .inr (.inr (some 1))), (2, .inr (.inr (some 165))), (3, .inr (.inr (some 195))), (4, .inl (a4 + 5))], pz_hp n0 mi ml mr c s, true) Q) ∧ (pz_lc (ml 195 0) ((Int32.ofInt a6).toInt64) ≠ 0 → Q (.inl (some (.inl 0))) (pz_hp n0 mi ml mr c s)))))) ∧ (t0 ≠ a5 → Q (.inl (some (.inl 0))) (pz_hp n0 mi ml mr c s)))) : pz_Rn (d + 1) 148 (709, [.inl t0], [(0, .inr (.inr (some 0))), (1, .inr (.inr (some 1))), (2, .inr (.inr (some 165))), (3, .inr (.inr (some 195))), (4, .inl a4), (5, .inl a5), (6, .inl a6)], pz_hp n0 mi ml mr c s, true) Q := by
  refine pz_j1 [.inl a5, .inl t0] 711 rfl rfl rfl rfl rfl ?_
  refine pz_j1 [] (bif pz_cp .eq t0 a5 then 716 else 714) rfl rfl rfl rfl rfl ?_
  refine pz_Rn_if pz_c1_eq pz_c0_eq ⟨fun b1 => ?_, fun b1 => ?_⟩
  · replace K := K.1 b1
    refine pz_j1 [.inl a5] 718 rfl rfl rfl rfl rfl ?_
    refine pz_j1 [] (bif pz_cp .ne a5 0 then 733 else 721) rfl rfl rfl rfl rfl ?_
    refine pz_Rn_if pz_c1_ne pz_c0_ne ⟨fun b2 => ?_, fun b2 => ?_⟩
    · replace K := K.1 b2
      refine pz_j1 [] 941 rfl rfl rfl rfl rfl ?_
      obtain ⟨k3, K⟩ := K
      refine pz_j2 [] [(4, .inl (a4 + 5)), (0, .inr (.inr (some 0))), (1, .inr (.inr (some 1))), (2, .inr (.inr (some 165))), (3, .inr (.inr (some 195))), (5, .inl a5), (6, .inl a6)] 944 rfl rfl rfl rfl (pz_a2 (pz_ok_in k3) rfl) ?_
      refine pz_j1 [] 23 rfl rfl rfl rfl rfl ?_
      refine pz_Rn_sub (L := [(0, .inr (.inr (some 0))), (1, .inr (.inr (some 1))), (2, .inr (.inr (some 165))), (3, .inr (.inr (some 195))), (4, .inl (a4 + 5))]) [1, 2, 3, 4, 0] rfl rfl ?_
      exact K
    · replace K := K.2 b2
      refine pz_j1 [.inr (.inr (some 195))] 722 rfl rfl rfl rfl rfl ?_
      refine pz_j1 [.inl 0, .inr (.inr (some 195))] 723 rfl rfl rfl rfl rfl ?_
      refine pz_j1 [.inr (.inl (ml 195 0))] 724 rfl rfl rfl rfl (pz_a2 rfl (pz_ok_ix pz_S195 ⟨by decide, by decide⟩)) ?_
      refine pz_j1 [.inl a6, .inr (.inl (ml 195 0))] 726 rfl rfl rfl rfl rfl ?_
      refine pz_j1 [.inr (.inl ((Int32.ofInt a6).toInt64)), .inr (.inl (ml 195 0))] 727 rfl rfl rfl rfl rfl ?_
      refine pz_j1 [.inl (pz_lc (ml 195 0) ((Int32.ofInt a6).toInt64))] 728 rfl rfl rfl rfl rfl ?_
      refine pz_j1 [] (bif pz_cp .eq (pz_lc (ml 195 0) ((Int32.ofInt a6).toInt64)) 0 then 733 else 731) rfl rfl rfl rfl rfl ?_
      refine pz_Rn_if pz_c1_eq pz_c0_eq ⟨fun b4 => ?_, fun b4 => ?_⟩
      · replace K := K.1 b4
        refine pz_j1 [] 941 rfl rfl rfl rfl rfl ?_
        obtain ⟨k5, K⟩ := K
        refine pz_j2 [] [(4, .inl (a4 + 5)), (0, .inr (.inr (some 0))), (1, .inr (.inr (some 1))), (2, .inr (.inr (some 165))), (3, .inr (.inr (some 195))), (5, .inl a5), (6, .inl a6)] 944 rfl rfl rfl rfl (pz_a2 (pz_ok_in k5) rfl) ?_
        refine pz_j1 [] 23 rfl rfl rfl rfl rfl ?_
        refine pz_Rn_sub (L := [(0, .inr (.inr (some 0))), (1, .inr (.inr (some 1))), (2, .inr (.inr (some 165))), (3, .inr (.inr (some 195))), (4, .inl (a4 + 5))]) [1, 2, 3, 4, 0] rfl rfl ?_
        exact K
      · replace K := K.2 b4
        refine pz_j1 [.inl 0] 732 rfl rfl rfl rfl rfl ?_
        exact pz_Rn_ret rfl rfl rfl rfl K
  · replace K := K.2 b1
    refine pz_j1 [.inl 0] 715 rfl rfl rfl rfl rfl ?_
    exact pz_Rn_ret rfl rfl rfl rfl K
set_option maxRecDepth 8000 in
theorem pz_g148_740 {a4 : Int} {t0 : Int}  (K : pz_Rn d 143 (0, [], [(0, .inr (.inr (some 165)))], pz_hp n0 mi ml mr c s, true) (pz_K (d + 1) 148 741 [.inl t0] [(0, .inr (.inr (some 0))), (1, .inr (.inr (some 1))), (2, .inr (.inr (some 165))), (3, .inr (.inr (some 195))), (4, .inl a4)] Q true)) : pz_Rn (d + 1) 148 (740, [.inl t0], [(0, .inr (.inr (some 0))), (1, .inr (.inr (some 1))), (2, .inr (.inr (some 165))), (3, .inr (.inr (some 195))), (4, .inl a4)], pz_hp n0 mi ml mr c s, true) Q := by
  refine pz_j1 [.inr (.inr (some 165)), .inl t0] 741 rfl rfl rfl rfl rfl ?_
  exact pz_Rn_k (y := 142) rfl rfl rfl rfl rfl rfl rfl rfl (pz_cok_v rfl rfl pz_S165) K
set_option maxRecDepth 8000 in
theorem pz_g148_744 {a4 : Int} {t0 : Int} {t1 : Int}  (K : ((t0 = t1 → (-2147483648 ≤ a4 + 5 ∧ a4 + 5 ≤ 2147483647) ∧ pz_Rn (d + 1) 148 (23, [], [(0, .inr (.inr (some 0))), (1, .inr (.inr (some 1))), (2, .inr (.inr (some 165))), (3, .inr (.inr (some 195))), (4, .inl (a4 + 5))], pz_hp n0 mi ml mr c s, true) Q) ∧ (t0 ≠ t1 → Q (.inl (some (.inl 0))) (pz_hp n0 mi ml mr c s)))) : pz_Rn (d + 1) 148 (744, [.inl t1, .inl t0], [(0, .inr (.inr (some 0))), (1, .inr (.inr (some 1))), (2, .inr (.inr (some 165))), (3, .inr (.inr (some 195))), (4, .inl a4)], pz_hp n0 mi ml mr c s, true) Q := by
  refine pz_j1 [] (bif pz_cp .eq t0 t1 then 941 else 747) rfl rfl rfl rfl rfl ?_
  refine pz_Rn_if pz_c1_eq pz_c0_eq ⟨fun b1 => ?_, fun b1 => ?_⟩
  · replace K := K.1 b1
    obtain ⟨k2, K⟩ := K
    refine pz_j2 [] [(4, .inl (a4 + 5)), (0, .inr (.inr (some 0))), (1, .inr (.inr (some 1))), (2, .inr (.inr (some 165))), (3, .inr (.inr (some 195)))] 944 rfl rfl rfl rfl (pz_a2 (pz_ok_in k2) rfl) ?_
    refine pz_j1 [] 23 rfl rfl rfl rfl rfl ?_
    refine pz_Rn_sub (L := [(0, .inr (.inr (some 0))), (1, .inr (.inr (some 1))), (2, .inr (.inr (some 165))), (3, .inr (.inr (some 195))), (4, .inl (a4 + 5))]) [1, 2, 3, 4, 0] rfl rfl ?_
    exact K
  · replace K := K.2 b1
    refine pz_j1 [.inl 0] 748 rfl rfl rfl rfl rfl ?_
    exact pz_Rn_ret rfl rfl rfl rfl K
set_option maxRecDepth 8000 in
theorem pz_g148_760 {a4 : Int} {t0 : Int}  (K : (-2147483648 ≤ a4 + 1 ∧ a4 + 1 ≤ 2147483647) ∧ (0 ≤ a4 + 1 ∧ a4 + 1 < n0) ∧ pz_Rn d 145 (0, [], [(0, .inr (.inr (some 165))), (1, .inl (mi 0 ((a4 + 1).toNat)))], pz_hp n0 mi ml mr c s, true) (pz_K (d + 1) 148 769 [] [(0, .inr (.inr (some 0))), (1, .inr (.inr (some 1))), (2, .inr (.inr (some 165))), (3, .inr (.inr (some 195))), (4, .inl a4), (5, .inl t0)] Q true)) : pz_Rn (d + 1) 148 (760, [.inl t0], [(0, .inr (.inr (some 0))), (1, .inr (.inr (some 1))), (2, .inr (.inr (some 165))), (3, .inr (.inr (some 195))), (4, .inl a4)], pz_hp n0 mi ml mr c s, true) Q := by
  refine pz_j2 [] [(5, .inl t0), (0, .inr (.inr (some 0))), (1, .inr (.inr (some 1))), (2, .inr (.inr (some 165))), (3, .inr (.inr (some 195))), (4, .inl a4)] 762 rfl rfl rfl rfl rfl ?_
  refine pz_j1 [.inr (.inr (some 165))] 763 rfl rfl rfl rfl rfl ?_
  refine pz_j1 [.inr (.inr (some 0)), .inr (.inr (some 165))] 764 rfl rfl rfl rfl rfl ?_
  refine pz_j1 [.inl a4, .inr (.inr (some 0)), .inr (.inr (some 165))] 766 rfl rfl rfl rfl rfl ?_
  refine pz_j1 [.inl 1, .inl a4, .inr (.inr (some 0)), .inr (.inr (some 165))] 767 rfl rfl rfl rfl rfl ?_
  obtain ⟨k1, K⟩ := K
  refine pz_j1 [.inl (a4 + 1), .inr (.inr (some 0)), .inr (.inr (some 165))] 768 rfl rfl rfl rfl (pz_ok_in k1) ?_
  obtain ⟨k2, K⟩ := K
  refine pz_j1 [.inl (mi 0 ((a4 + 1).toNat)), .inr (.inr (some 165))] 769 rfl rfl rfl rfl (pz_a2 rfl (pz_ok_ixx pz_S0 k2)) ?_
  refine pz_Rn_sub (L := [(0, .inr (.inr (some 0))), (1, .inr (.inr (some 1))), (2, .inr (.inr (some 165))), (3, .inr (.inr (some 195))), (4, .inl a4), (5, .inl t0)]) [1, 2, 3, 4, 5, 0] rfl rfl ?_
  exact pz_Rn_k (y := 144) rfl rfl rfl rfl rfl rfl rfl rfl (pz_cok_v rfl rfl pz_S165) K
set_option maxRecDepth 8000 in
theorem pz_g148_772 {a4 : Int} {a5 : Int} {t0 : Int}  (K : pz_Rn d 102 (0, [], [(0, .inr (.inr (some 165)))], pz_hp n0 mi ml mr c s, true) (pz_K (d + 1) 148 775 [] [(0, .inr (.inr (some 0))), (1, .inr (.inr (some 1))), (2, .inr (.inr (some 165))), (3, .inr (.inr (some 195))), (4, .inl a4), (5, .inl a5), (6, .inl t0)] Q true)) : pz_Rn (d + 1) 148 (772, [.inl t0], [(0, .inr (.inr (some 0))), (1, .inr (.inr (some 1))), (2, .inr (.inr (some 165))), (3, .inr (.inr (some 195))), (4, .inl a4), (5, .inl a5)], pz_hp n0 mi ml mr c s, true) Q := by
  refine pz_j2 [] [(6, .inl t0), (0, .inr (.inr (some 0))), (1, .inr (.inr (some 1))), (2, .inr (.inr (some 165))), (3, .inr (.inr (some 195))), (4, .inl a4), (5, .inl a5)] 774 rfl rfl rfl rfl rfl ?_
  refine pz_j1 [.inr (.inr (some 165))] 775 rfl rfl rfl rfl rfl ?_
  refine pz_Rn_sub (L := [(0, .inr (.inr (some 0))), (1, .inr (.inr (some 1))), (2, .inr (.inr (some 165))), (3, .inr (.inr (some 195))), (4, .inl a4), (5, .inl a5), (6, .inl t0)]) [1, 2, 3, 4, 5, 6, 0] rfl rfl ?_
  exact pz_Rn_k (y := 101) rfl rfl rfl rfl rfl rfl rfl rfl (pz_cok_v rfl rfl pz_S165) K
set_option maxRecDepth 8000 in
theorem pz_g148_778 {a4 : Int} {a5 : Int} {a6 : Int} {t0 : Int}  (K : ((t0 = a5 → ((a5 ≠ 0 → (-2147483648 ≤ a4 + 5 ∧ a4 + 5 ≤ 2147483647) ∧ pz_Rn (d + 1) 148 (23, [], [(0, .inr (.inr (some 0))), (1, .inr (.inr (some 1))), (2, .inr (.inr (some 165))), (3, .inr (.inr (some 195))), (4, .inl (a4 + 5))], pz_hp n0 mi ml mr c s, true) Q) ∧ (a5 = 0 → ((pz_lc (ml 195 0) ((Int32.ofInt a6).toInt64) = 0 → (-2147483648 ≤ a4 + 5 ∧ a4 + 5 ≤ 2147483647) ∧ pz_Rn (d + 1) 148 (23, [], [(0, .inr (.inr (some 0))), (1, .inr (.inr (some 1))), (2, .inr (.inr (some 165))), (3, .inr (.inr (some 195))), (4, .inl (a4 + 5))], pz_hp n0 mi ml mr c s, true) Q) ∧ (pz_lc (ml 195 0) ((Int32.ofInt a6).toInt64) ≠ 0 → Q (.inl (some (.inl 0))) (pz_hp n0 mi ml mr c s)))))) ∧ (t0 ≠ a5 → Q (.inl (some (.inl 0))) (pz_hp n0 mi ml mr c s)))) : pz_Rn (d + 1) 148 (778, [.inl t0], [(0, .inr (.inr (some 0))), (1, .inr (.inr (some 1))), (2, .inr (.inr (some 165))), (3, .inr (.inr (some 195))), (4, .inl a4), (5, .inl a5), (6, .inl a6)], pz_hp n0 mi ml mr c s, true) Q := by
  refine pz_j1 [.inl a5, .inl t0] 780 rfl rfl rfl rfl rfl ?_
  refine pz_j1 [] (bif pz_cp .eq t0 a5 then 785 else 783) rfl rfl rfl rfl rfl ?_
  refine pz_Rn_if pz_c1_eq pz_c0_eq ⟨fun b1 => ?_, fun b1 => ?_⟩
  · replace K := K.1 b1
    refine pz_j1 [.inl a5] 787 rfl rfl rfl rfl rfl ?_
    refine pz_j1 [] (bif pz_cp .ne a5 0 then 802 else 790) rfl rfl rfl rfl rfl ?_
    refine pz_Rn_if pz_c1_ne pz_c0_ne ⟨fun b2 => ?_, fun b2 => ?_⟩
    · replace K := K.1 b2
      refine pz_j1 [] 941 rfl rfl rfl rfl rfl ?_
      obtain ⟨k3, K⟩ := K
      refine pz_j2 [] [(4, .inl (a4 + 5)), (0, .inr (.inr (some 0))), (1, .inr (.inr (some 1))), (2, .inr (.inr (some 165))), (3, .inr (.inr (some 195))), (5, .inl a5), (6, .inl a6)] 944 rfl rfl rfl rfl (pz_a2 (pz_ok_in k3) rfl) ?_
      refine pz_j1 [] 23 rfl rfl rfl rfl rfl ?_
      refine pz_Rn_sub (L := [(0, .inr (.inr (some 0))), (1, .inr (.inr (some 1))), (2, .inr (.inr (some 165))), (3, .inr (.inr (some 195))), (4, .inl (a4 + 5))]) [1, 2, 3, 4, 0] rfl rfl ?_
      exact K
    · replace K := K.2 b2
      refine pz_j1 [.inr (.inr (some 195))] 791 rfl rfl rfl rfl rfl ?_
      refine pz_j1 [.inl 0, .inr (.inr (some 195))] 792 rfl rfl rfl rfl rfl ?_
      refine pz_j1 [.inr (.inl (ml 195 0))] 793 rfl rfl rfl rfl (pz_a2 rfl (pz_ok_ix pz_S195 ⟨by decide, by decide⟩)) ?_
      refine pz_j1 [.inl a6, .inr (.inl (ml 195 0))] 795 rfl rfl rfl rfl rfl ?_
      refine pz_j1 [.inr (.inl ((Int32.ofInt a6).toInt64)), .inr (.inl (ml 195 0))] 796 rfl rfl rfl rfl rfl ?_
      refine pz_j1 [.inl (pz_lc (ml 195 0) ((Int32.ofInt a6).toInt64))] 797 rfl rfl rfl rfl rfl ?_
      refine pz_j1 [] (bif pz_cp .eq (pz_lc (ml 195 0) ((Int32.ofInt a6).toInt64)) 0 then 802 else 800) rfl rfl rfl rfl rfl ?_
      refine pz_Rn_if pz_c1_eq pz_c0_eq ⟨fun b4 => ?_, fun b4 => ?_⟩
      · replace K := K.1 b4
        refine pz_j1 [] 941 rfl rfl rfl rfl rfl ?_
        obtain ⟨k5, K⟩ := K
        refine pz_j2 [] [(4, .inl (a4 + 5)), (0, .inr (.inr (some 0))), (1, .inr (.inr (some 1))), (2, .inr (.inr (some 165))), (3, .inr (.inr (some 195))), (5, .inl a5), (6, .inl a6)] 944 rfl rfl rfl rfl (pz_a2 (pz_ok_in k5) rfl) ?_
        refine pz_j1 [] 23 rfl rfl rfl rfl rfl ?_
        refine pz_Rn_sub (L := [(0, .inr (.inr (some 0))), (1, .inr (.inr (some 1))), (2, .inr (.inr (some 165))), (3, .inr (.inr (some 195))), (4, .inl (a4 + 5))]) [1, 2, 3, 4, 0] rfl rfl ?_
        exact K
      · replace K := K.2 b4
        refine pz_j1 [.inl 0] 801 rfl rfl rfl rfl rfl ?_
        exact pz_Rn_ret rfl rfl rfl rfl K
  · replace K := K.2 b1
    refine pz_j1 [.inl 0] 784 rfl rfl rfl rfl rfl ?_
    exact pz_Rn_ret rfl rfl rfl rfl K
set_option maxRecDepth 8000 in
theorem pz_g148_828 {a4 : Int} {t0 : Int}  (K : (-2147483648 ≤ a4 + 1 ∧ a4 + 1 ≤ 2147483647) ∧ (0 ≤ a4 + 1 ∧ a4 + 1 < n0) ∧ (-2147483648 ≤ a4 + 2 ∧ a4 + 2 ≤ 2147483647) ∧ (0 ≤ a4 + 2 ∧ a4 + 2 < n0) ∧ (-2147483648 ≤ a4 + 3 ∧ a4 + 3 ≤ 2147483647) ∧ (0 ≤ a4 + 3 ∧ a4 + 3 < n0) ∧ pz_Rn d 146 (0, [], [(0, .inr (.inr (some 165))), (1, .inl (mi 0 ((a4 + 1).toNat))), (2, .inl (mi 0 ((a4 + 2).toNat))), (3, .inl (mi 0 ((a4 + 3).toNat)))], pz_hp n0 mi ml mr c s, true) (pz_K (d + 1) 148 849 [] [(0, .inr (.inr (some 0))), (1, .inr (.inr (some 1))), (2, .inr (.inr (some 165))), (3, .inr (.inr (some 195))), (4, .inl a4), (5, .inl t0)] Q true)) : pz_Rn (d + 1) 148 (828, [.inl t0], [(0, .inr (.inr (some 0))), (1, .inr (.inr (some 1))), (2, .inr (.inr (some 165))), (3, .inr (.inr (some 195))), (4, .inl a4)], pz_hp n0 mi ml mr c s, true) Q := by
  refine pz_j2 [] [(5, .inl t0), (0, .inr (.inr (some 0))), (1, .inr (.inr (some 1))), (2, .inr (.inr (some 165))), (3, .inr (.inr (some 195))), (4, .inl a4)] 830 rfl rfl rfl rfl rfl ?_
  refine pz_j1 [.inr (.inr (some 165))] 831 rfl rfl rfl rfl rfl ?_
  refine pz_j1 [.inr (.inr (some 0)), .inr (.inr (some 165))] 832 rfl rfl rfl rfl rfl ?_
  refine pz_j1 [.inl a4, .inr (.inr (some 0)), .inr (.inr (some 165))] 834 rfl rfl rfl rfl rfl ?_
  refine pz_j1 [.inl 1, .inl a4, .inr (.inr (some 0)), .inr (.inr (some 165))] 835 rfl rfl rfl rfl rfl ?_
  obtain ⟨k1, K⟩ := K
  refine pz_j1 [.inl (a4 + 1), .inr (.inr (some 0)), .inr (.inr (some 165))] 836 rfl rfl rfl rfl (pz_ok_in k1) ?_
  obtain ⟨k2, K⟩ := K
  refine pz_j1 [.inl (mi 0 ((a4 + 1).toNat)), .inr (.inr (some 165))] 837 rfl rfl rfl rfl (pz_a2 rfl (pz_ok_ixx pz_S0 k2)) ?_
  refine pz_j1 [.inr (.inr (some 0)), .inl (mi 0 ((a4 + 1).toNat)), .inr (.inr (some 165))] 838 rfl rfl rfl rfl rfl ?_
  refine pz_j1 [.inl a4, .inr (.inr (some 0)), .inl (mi 0 ((a4 + 1).toNat)), .inr (.inr (some 165))] 840 rfl rfl rfl rfl rfl ?_
  refine pz_j1 [.inl 2, .inl a4, .inr (.inr (some 0)), .inl (mi 0 ((a4 + 1).toNat)), .inr (.inr (some 165))] 841 rfl rfl rfl rfl rfl ?_
  obtain ⟨k3, K⟩ := K
  refine pz_j1 [.inl (a4 + 2), .inr (.inr (some 0)), .inl (mi 0 ((a4 + 1).toNat)), .inr (.inr (some 165))] 842 rfl rfl rfl rfl (pz_ok_in k3) ?_
  obtain ⟨k4, K⟩ := K
  refine pz_j1 [.inl (mi 0 ((a4 + 2).toNat)), .inl (mi 0 ((a4 + 1).toNat)), .inr (.inr (some 165))] 843 rfl rfl rfl rfl (pz_a2 rfl (pz_ok_ixx pz_S0 k4)) ?_
  refine pz_j1 [.inr (.inr (some 0)), .inl (mi 0 ((a4 + 2).toNat)), .inl (mi 0 ((a4 + 1).toNat)), .inr (.inr (some 165))] 844 rfl rfl rfl rfl rfl ?_
  refine pz_j1 [.inl a4, .inr (.inr (some 0)), .inl (mi 0 ((a4 + 2).toNat)), .inl (mi 0 ((a4 + 1).toNat)), .inr (.inr (some 165))] 846 rfl rfl rfl rfl rfl ?_
  refine pz_j1 [.inl 3, .inl a4, .inr (.inr (some 0)), .inl (mi 0 ((a4 + 2).toNat)), .inl (mi 0 ((a4 + 1).toNat)), .inr (.inr (some 165))] 847 rfl rfl rfl rfl rfl ?_
  obtain ⟨k5, K⟩ := K
  refine pz_j1 [.inl (a4 + 3), .inr (.inr (some 0)), .inl (mi 0 ((a4 + 2).toNat)), .inl (mi 0 ((a4 + 1).toNat)), .inr (.inr (some 165))] 848 rfl rfl rfl rfl (pz_ok_in k5) ?_
  obtain ⟨k6, K⟩ := K
  refine pz_j1 [.inl (mi 0 ((a4 + 3).toNat)), .inl (mi 0 ((a4 + 2).toNat)), .inl (mi 0 ((a4 + 1).toNat)), .inr (.inr (some 165))] 849 rfl rfl rfl rfl (pz_a2 rfl (pz_ok_ixx pz_S0 k6)) ?_
  refine pz_Rn_sub (L := [(0, .inr (.inr (some 0))), (1, .inr (.inr (some 1))), (2, .inr (.inr (some 165))), (3, .inr (.inr (some 195))), (4, .inl a4), (5, .inl t0)]) [1, 2, 3, 4, 5, 0] rfl rfl ?_
  exact pz_Rn_k (y := 145) rfl rfl rfl rfl rfl rfl rfl rfl (pz_cok_v rfl rfl pz_S165) K
set_option maxRecDepth 8000 in
theorem pz_g148_852 {a4 : Int} {a5 : Int} {t0 : Int}  (K : pz_Rn d 102 (0, [], [(0, .inr (.inr (some 165)))], pz_hp n0 mi ml mr c s, true) (pz_K (d + 1) 148 855 [] [(0, .inr (.inr (some 0))), (1, .inr (.inr (some 1))), (2, .inr (.inr (some 165))), (3, .inr (.inr (some 195))), (4, .inl a4), (5, .inl a5), (6, .inl t0)] Q true)) : pz_Rn (d + 1) 148 (852, [.inl t0], [(0, .inr (.inr (some 0))), (1, .inr (.inr (some 1))), (2, .inr (.inr (some 165))), (3, .inr (.inr (some 195))), (4, .inl a4), (5, .inl a5)], pz_hp n0 mi ml mr c s, true) Q := by
  refine pz_j2 [] [(6, .inl t0), (0, .inr (.inr (some 0))), (1, .inr (.inr (some 1))), (2, .inr (.inr (some 165))), (3, .inr (.inr (some 195))), (4, .inl a4), (5, .inl a5)] 854 rfl rfl rfl rfl rfl ?_
  refine pz_j1 [.inr (.inr (some 165))] 855 rfl rfl rfl rfl rfl ?_
  refine pz_Rn_sub (L := [(0, .inr (.inr (some 0))), (1, .inr (.inr (some 1))), (2, .inr (.inr (some 165))), (3, .inr (.inr (some 195))), (4, .inl a4), (5, .inl a5), (6, .inl t0)]) [1, 2, 3, 4, 5, 6, 0] rfl rfl ?_
  exact pz_Rn_k (y := 101) rfl rfl rfl rfl rfl rfl rfl rfl (pz_cok_v rfl rfl pz_S165) K
set_option maxRecDepth 8000 in
theorem pz_g148_858 {a4 : Int} {a5 : Int} {a6 : Int} {t0 : Int}  (K : ((t0 = a5 → ((a5 ≠ 0 → (-2147483648 ≤ a4 + 5 ∧ a4 + 5 ≤ 2147483647) ∧ pz_Rn (d + 1) 148 (23, [], [(0, .inr (.inr (some 0))), (1, .inr (.inr (some 1))), (2, .inr (.inr (some 165))), (3, .inr (.inr (some 195))), (4, .inl (a4 + 5))], pz_hp n0 mi ml mr c s, true) Q) ∧ (a5 = 0 → ((pz_lc (ml 195 0) ((Int32.ofInt a6).toInt64) = 0 → (-2147483648 ≤ a4 + 5 ∧ a4 + 5 ≤ 2147483647) ∧ pz_Rn (d + 1) 148 (23, [], [(0, .inr (.inr (some 0))), (1, .inr (.inr (some 1))), (2, .inr (.inr (some 165))), (3, .inr (.inr (some 195))), (4, .inl (a4 + 5))], pz_hp n0 mi ml mr c s, true) Q) ∧ (pz_lc (ml 195 0) ((Int32.ofInt a6).toInt64) ≠ 0 → Q (.inl (some (.inl 0))) (pz_hp n0 mi ml mr c s)))))) ∧ (t0 ≠ a5 → Q (.inl (some (.inl 0))) (pz_hp n0 mi ml mr c s)))) : pz_Rn (d + 1) 148 (858, [.inl t0], [(0, .inr (.inr (some 0))), (1, .inr (.inr (some 1))), (2, .inr (.inr (some 165))), (3, .inr (.inr (some 195))), (4, .inl a4), (5, .inl a5), (6, .inl a6)], pz_hp n0 mi ml mr c s, true) Q := by
  refine pz_j1 [.inl a5, .inl t0] 860 rfl rfl rfl rfl rfl ?_
  refine pz_j1 [] (bif pz_cp .eq t0 a5 then 865 else 863) rfl rfl rfl rfl rfl ?_
  refine pz_Rn_if pz_c1_eq pz_c0_eq ⟨fun b1 => ?_, fun b1 => ?_⟩
  · replace K := K.1 b1
    refine pz_j1 [.inl a5] 867 rfl rfl rfl rfl rfl ?_
    refine pz_j1 [] (bif pz_cp .ne a5 0 then 882 else 870) rfl rfl rfl rfl rfl ?_
    refine pz_Rn_if pz_c1_ne pz_c0_ne ⟨fun b2 => ?_, fun b2 => ?_⟩
    · replace K := K.1 b2
      refine pz_j1 [] 941 rfl rfl rfl rfl rfl ?_
      obtain ⟨k3, K⟩ := K
      refine pz_j2 [] [(4, .inl (a4 + 5)), (0, .inr (.inr (some 0))), (1, .inr (.inr (some 1))), (2, .inr (.inr (some 165))), (3, .inr (.inr (some 195))), (5, .inl a5), (6, .inl a6)] 944 rfl rfl rfl rfl (pz_a2 (pz_ok_in k3) rfl) ?_
      refine pz_j1 [] 23 rfl rfl rfl rfl rfl ?_
      refine pz_Rn_sub (L := [(0, .inr (.inr (some 0))), (1, .inr (.inr (some 1))), (2, .inr (.inr (some 165))), (3, .inr (.inr (some 195))), (4, .inl (a4 + 5))]) [1, 2, 3, 4, 0] rfl rfl ?_
      exact K
    · replace K := K.2 b2
      refine pz_j1 [.inr (.inr (some 195))] 871 rfl rfl rfl rfl rfl ?_
      refine pz_j1 [.inl 0, .inr (.inr (some 195))] 872 rfl rfl rfl rfl rfl ?_
      refine pz_j1 [.inr (.inl (ml 195 0))] 873 rfl rfl rfl rfl (pz_a2 rfl (pz_ok_ix pz_S195 ⟨by decide, by decide⟩)) ?_
      refine pz_j1 [.inl a6, .inr (.inl (ml 195 0))] 875 rfl rfl rfl rfl rfl ?_
      refine pz_j1 [.inr (.inl ((Int32.ofInt a6).toInt64)), .inr (.inl (ml 195 0))] 876 rfl rfl rfl rfl rfl ?_
      refine pz_j1 [.inl (pz_lc (ml 195 0) ((Int32.ofInt a6).toInt64))] 877 rfl rfl rfl rfl rfl ?_
      refine pz_j1 [] (bif pz_cp .eq (pz_lc (ml 195 0) ((Int32.ofInt a6).toInt64)) 0 then 882 else 880) rfl rfl rfl rfl rfl ?_
      refine pz_Rn_if pz_c1_eq pz_c0_eq ⟨fun b4 => ?_, fun b4 => ?_⟩
      · replace K := K.1 b4
        refine pz_j1 [] 941 rfl rfl rfl rfl rfl ?_
        obtain ⟨k5, K⟩ := K
        refine pz_j2 [] [(4, .inl (a4 + 5)), (0, .inr (.inr (some 0))), (1, .inr (.inr (some 1))), (2, .inr (.inr (some 165))), (3, .inr (.inr (some 195))), (5, .inl a5), (6, .inl a6)] 944 rfl rfl rfl rfl (pz_a2 (pz_ok_in k5) rfl) ?_
        refine pz_j1 [] 23 rfl rfl rfl rfl rfl ?_
        refine pz_Rn_sub (L := [(0, .inr (.inr (some 0))), (1, .inr (.inr (some 1))), (2, .inr (.inr (some 165))), (3, .inr (.inr (some 195))), (4, .inl (a4 + 5))]) [1, 2, 3, 4, 0] rfl rfl ?_
        exact K
      · replace K := K.2 b4
        refine pz_j1 [.inl 0] 881 rfl rfl rfl rfl rfl ?_
        exact pz_Rn_ret rfl rfl rfl rfl K
  · replace K := K.2 b1
    refine pz_j1 [.inl 0] 864 rfl rfl rfl rfl rfl ?_
    exact pz_Rn_ret rfl rfl rfl rfl K
set_option maxRecDepth 8000 in
theorem pz_g148_896 {a4 : Int} {t0 : Int}  (K : (-2147483648 ≤ a4 + 1 ∧ a4 + 1 ≤ 2147483647) ∧ (0 ≤ a4 + 1 ∧ a4 + 1 < n0) ∧ pz_Rn d 147 (0, [], [(0, .inr (.inr (some 165))), (1, .inl (mi 0 ((a4 + 1).toNat)))], pz_hp n0 mi ml mr c s, true) (pz_K (d + 1) 148 905 [] [(0, .inr (.inr (some 0))), (1, .inr (.inr (some 1))), (2, .inr (.inr (some 165))), (3, .inr (.inr (some 195))), (4, .inl a4), (5, .inl t0)] Q true)) : pz_Rn (d + 1) 148 (896, [.inl t0], [(0, .inr (.inr (some 0))), (1, .inr (.inr (some 1))), (2, .inr (.inr (some 165))), (3, .inr (.inr (some 195))), (4, .inl a4)], pz_hp n0 mi ml mr c s, true) Q := by
  refine pz_j2 [] [(5, .inl t0), (0, .inr (.inr (some 0))), (1, .inr (.inr (some 1))), (2, .inr (.inr (some 165))), (3, .inr (.inr (some 195))), (4, .inl a4)] 898 rfl rfl rfl rfl rfl ?_
  refine pz_j1 [.inr (.inr (some 165))] 899 rfl rfl rfl rfl rfl ?_
  refine pz_j1 [.inr (.inr (some 0)), .inr (.inr (some 165))] 900 rfl rfl rfl rfl rfl ?_
  refine pz_j1 [.inl a4, .inr (.inr (some 0)), .inr (.inr (some 165))] 902 rfl rfl rfl rfl rfl ?_
  refine pz_j1 [.inl 1, .inl a4, .inr (.inr (some 0)), .inr (.inr (some 165))] 903 rfl rfl rfl rfl rfl ?_
  obtain ⟨k1, K⟩ := K
  refine pz_j1 [.inl (a4 + 1), .inr (.inr (some 0)), .inr (.inr (some 165))] 904 rfl rfl rfl rfl (pz_ok_in k1) ?_
  obtain ⟨k2, K⟩ := K
  refine pz_j1 [.inl (mi 0 ((a4 + 1).toNat)), .inr (.inr (some 165))] 905 rfl rfl rfl rfl (pz_a2 rfl (pz_ok_ixx pz_S0 k2)) ?_
  refine pz_Rn_sub (L := [(0, .inr (.inr (some 0))), (1, .inr (.inr (some 1))), (2, .inr (.inr (some 165))), (3, .inr (.inr (some 195))), (4, .inl a4), (5, .inl t0)]) [1, 2, 3, 4, 5, 0] rfl rfl ?_
  exact pz_Rn_k (y := 146) rfl rfl rfl rfl rfl rfl rfl rfl (pz_cok_v rfl rfl pz_S165) K
set_option maxRecDepth 8000 in
theorem pz_g148_908 {a4 : Int} {a5 : Int} {t0 : Int}  (K : pz_Rn d 102 (0, [], [(0, .inr (.inr (some 165)))], pz_hp n0 mi ml mr c s, true) (pz_K (d + 1) 148 911 [] [(0, .inr (.inr (some 0))), (1, .inr (.inr (some 1))), (2, .inr (.inr (some 165))), (3, .inr (.inr (some 195))), (4, .inl a4), (5, .inl a5), (6, .inl t0)] Q true)) : pz_Rn (d + 1) 148 (908, [.inl t0], [(0, .inr (.inr (some 0))), (1, .inr (.inr (some 1))), (2, .inr (.inr (some 165))), (3, .inr (.inr (some 195))), (4, .inl a4), (5, .inl a5)], pz_hp n0 mi ml mr c s, true) Q := by
  refine pz_j2 [] [(6, .inl t0), (0, .inr (.inr (some 0))), (1, .inr (.inr (some 1))), (2, .inr (.inr (some 165))), (3, .inr (.inr (some 195))), (4, .inl a4), (5, .inl a5)] 910 rfl rfl rfl rfl rfl ?_
  refine pz_j1 [.inr (.inr (some 165))] 911 rfl rfl rfl rfl rfl ?_
  refine pz_Rn_sub (L := [(0, .inr (.inr (some 0))), (1, .inr (.inr (some 1))), (2, .inr (.inr (some 165))), (3, .inr (.inr (some 195))), (4, .inl a4), (5, .inl a5), (6, .inl t0)]) [1, 2, 3, 4, 5, 6, 0] rfl rfl ?_
  exact pz_Rn_k (y := 101) rfl rfl rfl rfl rfl rfl rfl rfl (pz_cok_v rfl rfl pz_S165) K
set_option maxRecDepth 8000 in
theorem pz_g148_914 {a4 : Int} {a5 : Int} {a6 : Int} {t0 : Int}  (K : ((t0 = a5 → ((a5 ≠ 0 → (-2147483648 ≤ a4 + 5 ∧ a4 + 5 ≤ 2147483647) ∧ pz_Rn (d + 1) 148 (23, [], [(0, .inr (.inr (some 0))), (1, .inr (.inr (some 1))), (2, .inr (.inr (some 165))), (3, .inr (.inr (some 195))), (4, .inl (a4 + 5))], pz_hp n0 mi ml mr c s, true) Q) ∧ (a5 = 0 → ((pz_lc (ml 195 0) ((Int32.ofInt a6).toInt64) = 0 → (-2147483648 ≤ a4 + 5 ∧ a4 + 5 ≤ 2147483647) ∧ pz_Rn (d + 1) 148 (23, [], [(0, .inr (.inr (some 0))), (1, .inr (.inr (some 1))), (2, .inr (.inr (some 165))), (3, .inr (.inr (some 195))), (4, .inl (a4 + 5))], pz_hp n0 mi ml mr c s, true) Q) ∧ (pz_lc (ml 195 0) ((Int32.ofInt a6).toInt64) ≠ 0 → Q (.inl (some (.inl 0))) (pz_hp n0 mi ml mr c s)))))) ∧ (t0 ≠ a5 → Q (.inl (some (.inl 0))) (pz_hp n0 mi ml mr c s)))) : pz_Rn (d + 1) 148 (914, [.inl t0], [(0, .inr (.inr (some 0))), (1, .inr (.inr (some 1))), (2, .inr (.inr (some 165))), (3, .inr (.inr (some 195))), (4, .inl a4), (5, .inl a5), (6, .inl a6)], pz_hp n0 mi ml mr c s, true) Q := by
  refine pz_j1 [.inl a5, .inl t0] 916 rfl rfl rfl rfl rfl ?_
  refine pz_j1 [] (bif pz_cp .eq t0 a5 then 921 else 919) rfl rfl rfl rfl rfl ?_
  refine pz_Rn_if pz_c1_eq pz_c0_eq ⟨fun b1 => ?_, fun b1 => ?_⟩
  · replace K := K.1 b1
    refine pz_j1 [.inl a5] 923 rfl rfl rfl rfl rfl ?_
    refine pz_j1 [] (bif pz_cp .ne a5 0 then 938 else 926) rfl rfl rfl rfl rfl ?_
    refine pz_Rn_if pz_c1_ne pz_c0_ne ⟨fun b2 => ?_, fun b2 => ?_⟩
    · replace K := K.1 b2
      refine pz_j1 [] 941 rfl rfl rfl rfl rfl ?_
      obtain ⟨k3, K⟩ := K
      refine pz_j2 [] [(4, .inl (a4 + 5)), (0, .inr (.inr (some 0))), (1, .inr (.inr (some 1))), (2, .inr (.inr (some 165))), (3, .inr (.inr (some 195))), (5, .inl a5), (6, .inl a6)] 944 rfl rfl rfl rfl (pz_a2 (pz_ok_in k3) rfl) ?_
      refine pz_j1 [] 23 rfl rfl rfl rfl rfl ?_
      refine pz_Rn_sub (L := [(0, .inr (.inr (some 0))), (1, .inr (.inr (some 1))), (2, .inr (.inr (some 165))), (3, .inr (.inr (some 195))), (4, .inl (a4 + 5))]) [1, 2, 3, 4, 0] rfl rfl ?_
      exact K
    · replace K := K.2 b2
      refine pz_j1 [.inr (.inr (some 195))] 927 rfl rfl rfl rfl rfl ?_
      refine pz_j1 [.inl 0, .inr (.inr (some 195))] 928 rfl rfl rfl rfl rfl ?_
      refine pz_j1 [.inr (.inl (ml 195 0))] 929 rfl rfl rfl rfl (pz_a2 rfl (pz_ok_ix pz_S195 ⟨by decide, by decide⟩)) ?_
      refine pz_j1 [.inl a6, .inr (.inl (ml 195 0))] 931 rfl rfl rfl rfl rfl ?_
      refine pz_j1 [.inr (.inl ((Int32.ofInt a6).toInt64)), .inr (.inl (ml 195 0))] 932 rfl rfl rfl rfl rfl ?_
      refine pz_j1 [.inl (pz_lc (ml 195 0) ((Int32.ofInt a6).toInt64))] 933 rfl rfl rfl rfl rfl ?_
      refine pz_j1 [] (bif pz_cp .eq (pz_lc (ml 195 0) ((Int32.ofInt a6).toInt64)) 0 then 938 else 936) rfl rfl rfl rfl rfl ?_
      refine pz_Rn_if pz_c1_eq pz_c0_eq ⟨fun b4 => ?_, fun b4 => ?_⟩
      · replace K := K.1 b4
        refine pz_j1 [] 941 rfl rfl rfl rfl rfl ?_
        obtain ⟨k5, K⟩ := K
        refine pz_j2 [] [(4, .inl (a4 + 5)), (0, .inr (.inr (some 0))), (1, .inr (.inr (some 1))), (2, .inr (.inr (some 165))), (3, .inr (.inr (some 195))), (5, .inl a5), (6, .inl a6)] 944 rfl rfl rfl rfl (pz_a2 (pz_ok_in k5) rfl) ?_
        refine pz_j1 [] 23 rfl rfl rfl rfl rfl ?_
        refine pz_Rn_sub (L := [(0, .inr (.inr (some 0))), (1, .inr (.inr (some 1))), (2, .inr (.inr (some 165))), (3, .inr (.inr (some 195))), (4, .inl (a4 + 5))]) [1, 2, 3, 4, 0] rfl rfl ?_
        exact K
      · replace K := K.2 b4
        refine pz_j1 [.inl 0] 937 rfl rfl rfl rfl rfl ?_
        exact pz_Rn_ret rfl rfl rfl rfl K
  · replace K := K.2 b1
    refine pz_j1 [.inl 0] 920 rfl rfl rfl rfl rfl ?_
    exact pz_Rn_ret rfl rfl rfl rfl K
end pzgg
