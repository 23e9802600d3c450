/-! Segments of methods, by wip/whole/gen/seg.py: from an entry, a loop's head or behind a call to the next stop. -/
section pzgb
variable {d n0 : Nat} {mi : Nat → Nat → Int} {ml : Nat → Nat → Int64} {mr : Nat → Nat → Option Nat} {c s : Nat} {Q : pz_O → pz_H → Prop}
-- 30 RelationStream$Tree.turn(LRelationStream$Node;I)V
theorem pz_g30_0 {a1 : Option Nat} {a2 : Int}  (K : ∃ q1, a1 = some q1 ∧ pz_nd q1 ∧ (0 ≤ mi q1 0 ∧ mi q1 0 < 4) ∧ (-2147483648 ≤ (mi 16 ((mi q1 0).toNat)) - 1 ∧ (mi 16 ((mi q1 0).toNat)) - 1 ≤ 2147483647) ∧ (0 ≤ mi q1 0 ∧ mi q1 0 < 4) ∧ (0 ≤ a2 ∧ a2 < 4) ∧ (-2147483648 ≤ ((pz_up (pz_up mi 16 ((mi q1 0).toNat) ((mi 16 ((mi q1 0).toNat)) - 1)) q1 0 a2) 16 ((a2).toNat)) + 1 ∧ ((pz_up (pz_up mi 16 ((mi q1 0).toNat) ((mi 16 ((mi q1 0).toNat)) - 1)) q1 0 a2) 16 ((a2).toNat)) + 1 ≤ 2147483647) ∧ (0 ≤ a2 ∧ a2 < 4) ∧ Q (.inl none) (pz_hp n0 (pz_up (pz_up (pz_up mi 16 ((mi q1 0).toNat) ((mi 16 ((mi q1 0).toNat)) - 1)) q1 0 a2) 16 ((a2).toNat) (((pz_up (pz_up mi 16 ((mi q1 0).toNat) ((mi 16 ((mi q1 0).toNat)) - 1)) q1 0 a2) 16 ((a2).toNat)) + 1)) ml mr c s)) : pz_Rn d 30 (0, [], [(0, .inr (.inr (some 14))), (1, .inr (.inr a1)), (2, .inl a2)], pz_hp n0 mi ml mr c s, true) Q := by
  refine pz_j1 [.inr (.inr (some 14))] 1 rfl rfl rfl rfl rfl ?_
  refine pz_j1 [.inr (.inr (some 16))] 4 rfl rfl rfl rfl (pz_a2 rfl pz_S14) ?_
  refine pz_j1 [.inr (.inr a1), .inr (.inr (some 16))] 5 rfl rfl rfl rfl rfl ?_
  obtain ⟨q1, eq1, nq1, K⟩ := K
  rewrite [eq1]
  refine pz_j1 [.inl (mi q1 0), .inr (.inr (some 16))] 8 rfl rfl rfl rfl (pz_a2 rfl (pz_nd_is nq1)) ?_
  refine pz_j1 [.inl (mi q1 0), .inr (.inr (some 16)), .inl (mi q1 0), .inr (.inr (some 16))] 9 rfl rfl rfl rfl rfl ?_
  obtain ⟨k2, K⟩ := K
  refine pz_j1 [.inl (mi 16 ((mi q1 0).toNat)), .inl (mi q1 0), .inr (.inr (some 16))] 10 rfl rfl rfl rfl (pz_a2 rfl (pz_ok_ixs pz_S16 k2)) ?_
  refine pz_j1 [.inl 1, .inl (mi 16 ((mi q1 0).toNat)), .inl (mi q1 0), .inr (.inr (some 16))] 11 rfl rfl rfl rfl rfl ?_
  obtain ⟨k3, K⟩ := K
  refine pz_j1 [.inl ((mi 16 ((mi q1 0).toNat)) - 1), .inl (mi q1 0), .inr (.inr (some 16))] 12 rfl rfl rfl rfl (pz_ok_in k3) ?_
  obtain ⟨k4, K⟩ := K
  refine pz_j3 [] [(0, .inr (.inr (some 14))), (1, .inr (.inr (some q1))), (2, .inl a2)] (pz_hp n0 (pz_up mi 16 ((mi q1 0).toNat) ((mi 16 ((mi q1 0).toNat)) - 1)) ml mr c s) 13 rfl rfl rfl rfl (pz_a2 rfl (pz_ok_ix pz_S16 k4)) ?_
  refine pz_j1 [.inr (.inr (some q1))] 14 rfl rfl rfl rfl rfl ?_
  refine pz_j1 [.inl a2, .inr (.inr (some q1))] 15 rfl rfl rfl rfl rfl ?_
  refine pz_j3 [] [(0, .inr (.inr (some 14))), (1, .inr (.inr (some q1))), (2, .inl a2)] (pz_hp n0 (pz_up (pz_up mi 16 ((mi q1 0).toNat) ((mi 16 ((mi q1 0).toNat)) - 1)) q1 0 a2) ml mr c s) 18 rfl rfl rfl rfl (pz_a2 rfl (pz_a2 (pz_nd_is nq1) (pz_a2 rfl rfl))) ?_
  refine pz_j1 [.inr (.inr (some 14))] 19 rfl rfl rfl rfl rfl ?_
  refine pz_j1 [.inr (.inr (some 16))] 22 rfl rfl rfl rfl (pz_a2 rfl pz_S14) ?_
  refine pz_j1 [.inl a2, .inr (.inr (some 16))] 23 rfl rfl rfl rfl rfl ?_
  refine pz_j1 [.inl a2, .inr (.inr (some 16)), .inl a2, .inr (.inr (some 16))] 24 rfl rfl rfl rfl rfl ?_
  obtain ⟨k5, K⟩ := K
  refine pz_j1 [.inl ((pz_up (pz_up mi 16 ((mi q1 0).toNat) ((mi 16 ((mi q1 0).toNat)) - 1)) q1 0 a2) 16 ((a2).toNat)), .inl a2, .inr (.inr (some 16))] 25 rfl rfl rfl rfl (pz_a2 rfl (pz_ok_ixs pz_S16 k5)) ?_
  refine pz_j1 [.inl 1, .inl ((pz_up (pz_up mi 16 ((mi q1 0).toNat) ((mi 16 ((mi q1 0).toNat)) - 1)) q1 0 a2) 16 ((a2).toNat)), .inl a2, .inr (.inr (some 16))] 26 rfl rfl rfl rfl rfl ?_
  obtain ⟨k6, K⟩ := K
  refine pz_j1 [.inl (((pz_up (pz_up mi 16 ((mi q1 0).toNat) ((mi 16 ((mi q1 0).toNat)) - 1)) q1 0 a2) 16 ((a2).toNat)) + 1), .inl a2, .inr (.inr (some 16))] 27 rfl rfl rfl rfl (pz_ok_in k6) ?_
  obtain ⟨k7, K⟩ := K
  refine pz_j3 [] [(0, .inr (.inr (some 14))), (1, .inr (.inr (some q1))), (2, .inl a2)] (pz_hp n0 (pz_up (pz_up (pz_up mi 16 ((mi q1 0).toNat) ((mi 16 ((mi q1 0).toNat)) - 1)) q1 0 a2) 16 ((a2).toNat) (((pz_up (pz_up mi 16 ((mi q1 0).toNat) ((mi 16 ((mi q1 0).toNat)) - 1)) q1 0 a2) 16 ((a2).toNat)) + 1)) ml mr c s) 28 rfl rfl rfl rfl (pz_a2 rfl (pz_ok_ix pz_S16 k7)) ?_
  exact pz_Rn_ret rfl rfl rfl rfl K
-- 31 RelationStream$Tree.take(I)LRelationStream$Node;
theorem pz_g31_0 {a1 : Int}  (K : ((mr 14 3 ≠ none → ∃ q2, mr 14 3 = some q2 ∧ pz_nd q2 ∧ pz_Rn d 30 (0, [], [(0, .inr (.inr (some 14))), (1, .inr (.inr (some q2))), (2, .inl a1)], pz_hp n0 mi ml (pz_up mr 14 3 (mr q2 2)) c s, true) (pz_K (d + 1) 31 31 [] [(2, .inr (.inr (some q2)))] Q true)) ∧ (mr 14 3 = none → False))) : pz_Rn (d + 1) 31 (0, [], [(0, .inr (.inr (some 14))), (1, .inl a1)], pz_hp n0 mi ml mr c s, true) Q := by
  refine pz_j1 [.inr (.inr (some 14))] 1 rfl rfl rfl rfl rfl ?_
  refine pz_j1 [.inr (.inr (mr 14 3))] 4 rfl rfl rfl rfl (pz_a2 rfl pz_S14) ?_
  refine pz_j2 [] [(2, .inr (.inr (mr 14 3))), (0, .inr (.inr (some 14))), (1, .inl a1)] 5 rfl rfl rfl rfl rfl ?_
  refine pz_j1 [.inr (.inr (mr 14 3))] 6 rfl rfl rfl rfl rfl ?_
  refine pz_j1 [] (bif Option.isSome (mr 14 3) then 20 else 9) rfl rfl rfl rfl rfl ?_
  refine pz_Rn_if pz_s1 pz_s0 ⟨fun b1 => ?_, fun b1 => ?_⟩
  · replace K := K.1 b1
    refine pz_j1 [.inr (.inr (some 14))] 21 rfl rfl rfl rfl rfl ?_
    refine pz_j1 [.inr (.inr (mr 14 3)), .inr (.inr (some 14))] 22 rfl rfl rfl rfl rfl ?_
    obtain ⟨q2, eq2, nq2, K⟩ := K
    rewrite [eq2]
    refine pz_j1 [.inr (.inr (pz_ov mr q2 2)), .inr (.inr (some 14))] 25 rfl rfl rfl rfl (pz_a2 rfl (pz_nd_is nq2)) ?_
    rewrite [pz_ov_nd nq2 (by decide)]
    refine pz_j3 [] [(2, .inr (.inr (some q2))), (0, .inr (.inr (some 14))), (1, .inl a1)] (pz_SH n0, mi, ml, pz_up (pz_ov mr) 14 3 (mr q2 2), c, s) 28 rfl rfl rfl rfl (pz_a2 rfl (pz_a2 pz_S14 (pz_a2 rfl rfl))) ?_
    rewrite [pz_hp_up rfl]
    refine pz_j1 [.inr (.inr (some 14))] 29 rfl rfl rfl rfl rfl ?_
    refine pz_j1 [.inr (.inr (some q2)), .inr (.inr (some 14))] 30 rfl rfl rfl rfl rfl ?_
    refine pz_j1 [.inl a1, .inr (.inr (some q2)), .inr (.inr (some 14))] 31 rfl rfl rfl rfl rfl ?_
    refine pz_Rn_sub (L := [(2, .inr (.inr (some q2)))]) [0] rfl rfl ?_
    exact pz_Rn_k (y := 29) rfl rfl rfl rfl rfl rfl rfl rfl (pz_cok_v rfl rfl pz_S14) K
  · replace K := K.2 b1
    exact K.elim
theorem pz_g31_34 {a2 : Option Nat}  (K : Q (.inl (some (.inr (.inr a2)))) (pz_hp n0 mi ml mr c s)) : pz_Rn (d + 1) 31 (34, [], [(2, .inr (.inr a2))], pz_hp n0 mi ml mr c s, true) Q := by
  refine pz_j1 [.inr (.inr a2)] 35 rfl rfl rfl rfl rfl ?_
  exact pz_Rn_ret rfl rfl rfl rfl K
-- 32 RelationStream$Node.setGoal(II)V
theorem pz_g32_0 {p0 : Nat} {a1 : Int} {a2 : Int} (np0 : pz_nd p0) (K : Q (.inl none) (pz_hp n0 (pz_up (pz_up mi p0 3 a1) p0 4 a2) ml mr c s)) : pz_Rn d 32 (0, [], [(0, .inr (.inr (some p0))), (1, .inl a1), (2, .inl a2)], pz_hp n0 mi ml mr c s, true) Q := by
  refine pz_j1 [.inr (.inr (some p0))] 1 rfl rfl rfl rfl rfl ?_
  refine pz_j1 [.inl a1, .inr (.inr (some p0))] 2 rfl rfl rfl rfl rfl ?_
  refine pz_j3 [] [(0, .inr (.inr (some p0))), (1, .inl a1), (2, .inl a2)] (pz_hp n0 (pz_up mi p0 3 a1) ml mr c s) 5 rfl rfl rfl rfl (pz_a2 rfl (pz_a2 (pz_nd_is np0) (pz_a2 rfl rfl))) ?_
  refine pz_j1 [.inr (.inr (some p0))] 6 rfl rfl rfl rfl rfl ?_
  refine pz_j1 [.inl a2, .inr (.inr (some p0))] 7 rfl rfl rfl rfl rfl ?_
  refine pz_j3 [] [(0, .inr (.inr (some p0))), (1, .inl a1), (2, .inl a2)] (pz_hp n0 (pz_up (pz_up mi p0 3 a1) p0 4 a2) ml mr c s) 10 rfl rfl rfl rfl (pz_a2 rfl (pz_a2 (pz_nd_is np0) (pz_a2 rfl rfl))) ?_
  exact pz_Rn_ret rfl rfl rfl rfl K
-- 33 RelationStream$State.copy(LRelationStream$State;)V
theorem pz_g33_0 {p0 : Nat} {p1 : Nat} (np0 : pz_sd p0) (np1 : pz_sd p1) (K : Q (.inl none) (pz_hp n0 (pz_up mi p0 0 (mi p1 0)) (pz_up (pz_up ml p0 1 (ml p1 1)) p0 2 ((pz_up ml p0 1 (ml p1 1)) p1 2)) mr c s)) : pz_Rn d 33 (0, [], [(0, .inr (.inr (some p0))), (1, .inr (.inr (some p1)))], pz_hp n0 mi ml mr c s, true) Q := by
  refine pz_j1 [.inr (.inr (some p0))] 1 rfl rfl rfl rfl rfl ?_
  refine pz_j1 [.inr (.inr (some p1)), .inr (.inr (some p0))] 2 rfl rfl rfl rfl rfl ?_
  refine pz_j1 [.inl (mi p1 0), .inr (.inr (some p0))] 5 rfl rfl rfl rfl (pz_a2 rfl (pz_sd_is np1)) ?_
  refine pz_j3 [] [(0, .inr (.inr (some p0))), (1, .inr (.inr (some p1)))] (pz_hp n0 (pz_up mi p0 0 (mi p1 0)) ml mr c s) 8 rfl rfl rfl rfl (pz_a2 rfl (pz_a2 (pz_sd_is np0) (pz_a2 rfl rfl))) ?_
  refine pz_j1 [.inr (.inr (some p0))] 9 rfl rfl rfl rfl rfl ?_
  refine pz_j1 [.inr (.inr (some p1)), .inr (.inr (some p0))] 10 rfl rfl rfl rfl rfl ?_
  refine pz_j1 [.inr (.inl (ml p1 1)), .inr (.inr (some p0))] 13 rfl rfl rfl rfl (pz_a2 rfl (pz_sd_is np1)) ?_
  refine pz_j3 [] [(0, .inr (.inr (some p0))), (1, .inr (.inr (some p1)))] (pz_hp n0 (pz_up mi p0 0 (mi p1 0)) (pz_up ml p0 1 (ml p1 1)) mr c s) 16 rfl rfl rfl rfl (pz_a2 rfl (pz_a2 (pz_sd_is np0) (pz_a2 rfl rfl))) ?_
  refine pz_j1 [.inr (.inr (some p0))] 17 rfl rfl rfl rfl rfl ?_
  refine pz_j1 [.inr (.inr (some p1)), .inr (.inr (some p0))] 18 rfl rfl rfl rfl rfl ?_
  refine pz_j1 [.inr (.inl ((pz_up ml p0 1 (ml p1 1)) p1 2)), .inr (.inr (some p0))] 21 rfl rfl rfl rfl (pz_a2 rfl (pz_sd_is np1)) ?_
  refine pz_j3 [] [(0, .inr (.inr (some p0))), (1, .inr (.inr (some p1)))] (pz_hp n0 (pz_up mi p0 0 (mi p1 0)) (pz_up (pz_up ml p0 1 (ml p1 1)) p0 2 ((pz_up ml p0 1 (ml p1 1)) p1 2)) mr c s) 24 rfl rfl rfl rfl (pz_a2 rfl (pz_a2 (pz_sd_is np0) (pz_a2 rfl rfl))) ?_
  exact pz_Rn_ret rfl rfl rfl rfl K
-- 34 RelationStream$Tree.newTask(IILRelationStream$State;)LRelationStream$Node;
theorem pz_g34_0 {a1 : Int} {a2 : Int} {p3 : Nat} (np3 : pz_sd p3) (K : pz_Rn d 31 (0, [], [(0, .inr (.inr (some 14))), (1, .inl 1)], pz_hp n0 mi ml mr c s, true) (pz_K (d + 1) 34 2 [] [(1, .inl a1), (2, .inl a2), (3, .inr (.inr (some p3)))] Q true)) : pz_Rn (d + 1) 34 (0, [], [(0, .inr (.inr (some 14))), (1, .inl a1), (2, .inl a2), (3, .inr (.inr (some p3)))], pz_hp n0 mi ml mr c s, true) Q := by
  refine pz_j1 [.inr (.inr (some 14))] 1 rfl rfl rfl rfl rfl ?_
  refine pz_j1 [.inl 1, .inr (.inr (some 14))] 2 rfl rfl rfl rfl rfl ?_
  refine pz_Rn_sub (L := [(1, .inl a1), (2, .inl a2), (3, .inr (.inr (some p3)))]) [1, 2, 3] rfl rfl ?_
  exact pz_Rn_k (y := 30) rfl rfl rfl rfl rfl rfl rfl rfl (pz_cok_v rfl rfl pz_S14) K
theorem pz_g34_5 {a1 : Int} {a2 : Int} {p3 : Nat} {t0 : Option Nat} (np3 : pz_sd p3) (K : ∃ q1, t0 = some q1 ∧ pz_nd q1 ∧ pz_Rn d 32 (0, [], [(0, .inr (.inr (some q1))), (1, .inl a1), (2, .inl a2)], pz_hp n0 mi ml mr c s, true) (pz_K (d + 1) 34 11 [] [(3, .inr (.inr (some p3))), (4, .inr (.inr (some q1)))] Q true)) : pz_Rn (d + 1) 34 (5, [.inr (.inr t0)], [(1, .inl a1), (2, .inl a2), (3, .inr (.inr (some p3)))], pz_hp n0 mi ml mr c s, true) Q := by
  refine pz_j2 [] [(4, .inr (.inr t0)), (1, .inl a1), (2, .inl a2), (3, .inr (.inr (some p3)))] 7 rfl rfl rfl rfl rfl ?_
  refine pz_j1 [.inr (.inr t0)] 9 rfl rfl rfl rfl rfl ?_
  refine pz_j1 [.inl a1, .inr (.inr t0)] 10 rfl rfl rfl rfl rfl ?_
  refine pz_j1 [.inl a2, .inl a1, .inr (.inr t0)] 11 rfl rfl rfl rfl rfl ?_
  obtain ⟨q1, eq1, nq1, K⟩ := K
  rewrite [eq1]
  refine pz_Rn_sub (L := [(3, .inr (.inr (some p3))), (4, .inr (.inr (some q1)))]) [3, 0] rfl rfl ?_
  exact pz_Rn_k (y := 31) rfl rfl rfl rfl rfl rfl rfl rfl (pz_cok_v rfl rfl (pz_nd_is nq1)) K
theorem pz_g34_14 {p3 : Nat} {a4 : Option Nat} (np3 : pz_sd p3) (K : ∃ q1, a4 = some q1 ∧ pz_nd q1 ∧ pz_Rn d 33 (0, [], [(0, .inr (.inr (some (q1 + 1)))), (1, .inr (.inr (some p3)))], pz_hp n0 mi ml mr c s, true) (pz_K (d + 1) 34 20 [] [(4, .inr (.inr (some q1)))] Q true)) : pz_Rn (d + 1) 34 (14, [], [(3, .inr (.inr (some p3))), (4, .inr (.inr a4))], pz_hp n0 mi ml mr c s, true) Q := by
  refine pz_j1 [.inr (.inr a4)] 16 rfl rfl rfl rfl rfl ?_
  obtain ⟨q1, eq1, nq1, K⟩ := K
  rewrite [eq1]
  refine pz_j1 [.inr (.inr (pz_ov mr q1 5))] 19 rfl rfl rfl rfl (pz_a2 rfl (pz_nd_is nq1)) ?_
  rewrite [pz_ov_n5 nq1]
  refine pz_j1 [.inr (.inr (some p3)), .inr (.inr (some (q1 + 1)))] 20 rfl rfl rfl rfl rfl ?_
  refine pz_Rn_sub (L := [(4, .inr (.inr (some q1)))]) [1] rfl rfl ?_
  exact pz_Rn_k (y := 32) rfl rfl rfl rfl rfl rfl rfl rfl (pz_cok_v rfl rfl (pz_sd_is (pz_nd_sd nq1))) K
theorem pz_g34_23 {a4 : Option Nat}  (K : Q (.inl (some (.inr (.inr a4)))) (pz_hp n0 mi ml mr c s)) : pz_Rn (d + 1) 34 (23, [], [(4, .inr (.inr a4))], pz_hp n0 mi ml mr c s, true) Q := by
  refine pz_j1 [.inr (.inr a4)] 25 rfl rfl rfl rfl rfl ?_
  exact pz_Rn_ret rfl rfl rfl rfl K
-- 35 RelationStream$Question.takeCounts()V
theorem pz_g35_0   (K : Q (.inl none) (pz_hp n0 (pz_up (pz_up (pz_up (pz_up (pz_up (pz_up (pz_up mi 148 0 (mi 159 8)) 148 1 (mi 16 1)) 148 2 (mi 16 2)) 148 3 (mi 16 3)) 148 4 (mi 13 12)) 148 5 (mi 150 5)) 148 6 (mi 13 11)) ml mr c s)) : pz_Rn d 35 (0, [], [(0, .inr (.inr (some 13)))], pz_hp n0 mi ml mr c s, true) Q := by
  refine pz_j1 [.inr (.inr (some 13))] 1 rfl rfl rfl rfl rfl ?_
  refine pz_j1 [.inr (.inr (some 148))] 4 rfl rfl rfl rfl (pz_a2 rfl pz_S13) ?_
  refine pz_j1 [.inl 0, .inr (.inr (some 148))] 5 rfl rfl rfl rfl rfl ?_
  refine pz_j1 [.inr (.inr (some 13)), .inl 0, .inr (.inr (some 148))] 6 rfl rfl rfl rfl rfl ?_
  refine pz_j1 [.inr (.inr (some 159)), .inl 0, .inr (.inr (some 148))] 9 rfl rfl rfl rfl (pz_a2 rfl pz_S13) ?_
  refine pz_j1 [.inl (mi 159 8), .inl 0, .inr (.inr (some 148))] 12 rfl rfl rfl rfl (pz_a2 rfl pz_S159) ?_
  refine pz_j3 [] [(0, .inr (.inr (some 13)))] (pz_hp n0 (pz_up mi 148 0 (mi 159 8)) ml mr c s) 13 rfl rfl rfl rfl (pz_a2 rfl (pz_ok_ix pz_S148 ⟨by decide, by decide⟩)) ?_
  refine pz_j1 [.inr (.inr (some 13))] 14 rfl rfl rfl rfl rfl ?_
  refine pz_j1 [.inr (.inr (some 148))] 17 rfl rfl rfl rfl (pz_a2 rfl pz_S13) ?_
  refine pz_j1 [.inl 1, .inr (.inr (some 148))] 18 rfl rfl rfl rfl rfl ?_
  refine pz_j1 [.inr (.inr (some 13)), .inl 1, .inr (.inr (some 148))] 19 rfl rfl rfl rfl rfl ?_
  refine pz_j1 [.inr (.inr (some 14)), .inl 1, .inr (.inr (some 148))] 22 rfl rfl rfl rfl (pz_a2 rfl pz_S13) ?_
  refine pz_j1 [.inr (.inr (some 16)), .inl 1, .inr (.inr (some 148))] 25 rfl rfl rfl rfl (pz_a2 rfl pz_S14) ?_
  refine pz_j1 [.inl 1, .inr (.inr (some 16)), .inl 1, .inr (.inr (some 148))] 26 rfl rfl rfl rfl rfl ?_
  refine pz_j1 [.inl (mi 16 1), .inl 1, .inr (.inr (some 148))] 27 rfl rfl rfl rfl (pz_a2 rfl (pz_ok_ixs pz_S16 ⟨by decide, by decide⟩)) ?_
  refine pz_j3 [] [(0, .inr (.inr (some 13)))] (pz_hp n0 (pz_up (pz_up mi 148 0 (mi 159 8)) 148 1 (mi 16 1)) ml mr c s) 28 rfl rfl rfl rfl (pz_a2 rfl (pz_ok_ix pz_S148 ⟨by decide, by decide⟩)) ?_
  refine pz_j1 [.inr (.inr (some 13))] 29 rfl rfl rfl rfl rfl ?_
  refine pz_j1 [.inr (.inr (some 148))] 32 rfl rfl rfl rfl (pz_a2 rfl pz_S13) ?_
  refine pz_j1 [.inl 2, .inr (.inr (some 148))] 33 rfl rfl rfl rfl rfl ?_
  refine pz_j1 [.inr (.inr (some 13)), .inl 2, .inr (.inr (some 148))] 34 rfl rfl rfl rfl rfl ?_
  refine pz_j1 [.inr (.inr (some 14)), .inl 2, .inr (.inr (some 148))] 37 rfl rfl rfl rfl (pz_a2 rfl pz_S13) ?_
  refine pz_j1 [.inr (.inr (some 16)), .inl 2, .inr (.inr (some 148))] 40 rfl rfl rfl rfl (pz_a2 rfl pz_S14) ?_
  refine pz_j1 [.inl 2, .inr (.inr (some 16)), .inl 2, .inr (.inr (some 148))] 41 rfl rfl rfl rfl rfl ?_
  refine pz_j1 [.inl (mi 16 2), .inl 2, .inr (.inr (some 148))] 42 rfl rfl rfl rfl (pz_a2 rfl (pz_ok_ixs pz_S16 ⟨by decide, by decide⟩)) ?_
  refine pz_j3 [] [(0, .inr (.inr (some 13)))] (pz_hp n0 (pz_up (pz_up (pz_up mi 148 0 (mi 159 8)) 148 1 (mi 16 1)) 148 2 (mi 16 2)) ml mr c s) 43 rfl rfl rfl rfl (pz_a2 rfl (pz_ok_ix pz_S148 ⟨by decide, by decide⟩)) ?_
  refine pz_j1 [.inr (.inr (some 13))] 44 rfl rfl rfl rfl rfl ?_
  refine pz_j1 [.inr (.inr (some 148))] 47 rfl rfl rfl rfl (pz_a2 rfl pz_S13) ?_
  refine pz_j1 [.inl 3, .inr (.inr (some 148))] 48 rfl rfl rfl rfl rfl ?_
  refine pz_j1 [.inr (.inr (some 13)), .inl 3, .inr (.inr (some 148))] 49 rfl rfl rfl rfl rfl ?_
  refine pz_j1 [.inr (.inr (some 14)), .inl 3, .inr (.inr (some 148))] 52 rfl rfl rfl rfl (pz_a2 rfl pz_S13) ?_
  refine pz_j1 [.inr (.inr (some 16)), .inl 3, .inr (.inr (some 148))] 55 rfl rfl rfl rfl (pz_a2 rfl pz_S14) ?_
  refine pz_j1 [.inl 3, .inr (.inr (some 16)), .inl 3, .inr (.inr (some 148))] 56 rfl rfl rfl rfl rfl ?_
  refine pz_j1 [.inl (mi 16 3), .inl 3, .inr (.inr (some 148))] 57 rfl rfl rfl rfl (pz_a2 rfl (pz_ok_ixs pz_S16 ⟨by decide, by decide⟩)) ?_
  refine pz_j3 [] [(0, .inr (.inr (some 13)))] (pz_hp n0 (pz_up (pz_up (pz_up (pz_up mi 148 0 (mi 159 8)) 148 1 (mi 16 1)) 148 2 (mi 16 2)) 148 3 (mi 16 3)) ml mr c s) 58 rfl rfl rfl rfl (pz_a2 rfl (pz_ok_ix pz_S148 ⟨by decide, by decide⟩)) ?_
  refine pz_j1 [.inr (.inr (some 13))] 59 rfl rfl rfl rfl rfl ?_
  refine pz_j1 [.inr (.inr (some 148))] 62 rfl rfl rfl rfl (pz_a2 rfl pz_S13) ?_
  refine pz_j1 [.inl 4, .inr (.inr (some 148))] 63 rfl rfl rfl rfl rfl ?_
  refine pz_j1 [.inr (.inr (some 13)), .inl 4, .inr (.inr (some 148))] 64 rfl rfl rfl rfl rfl ?_
  refine pz_j1 [.inl (mi 13 12), .inl 4, .inr (.inr (some 148))] 67 rfl rfl rfl rfl (pz_a2 rfl pz_S13) ?_
  refine pz_j3 [] [(0, .inr (.inr (some 13)))] (pz_hp n0 (pz_up (pz_up (pz_up (pz_up (pz_up mi 148 0 (mi 159 8)) 148 1 (mi 16 1)) 148 2 (mi 16 2)) 148 3 (mi 16 3)) 148 4 (mi 13 12)) ml mr c s) 68 rfl rfl rfl rfl (pz_a2 rfl (pz_ok_ix pz_S148 ⟨by decide, by decide⟩)) ?_
  refine pz_j1 [.inr (.inr (some 13))] 69 rfl rfl rfl rfl rfl ?_
  refine pz_j1 [.inr (.inr (some 148))] 72 rfl rfl rfl rfl (pz_a2 rfl pz_S13) ?_
  refine pz_j1 [.inl 5, .inr (.inr (some 148))] 73 rfl rfl rfl rfl rfl ?_
  refine pz_j1 [.inr (.inr (some 13)), .inl 5, .inr (.inr (some 148))] 74 rfl rfl rfl rfl rfl ?_
  refine pz_j1 [.inr (.inr (some 150)), .inl 5, .inr (.inr (some 148))] 77 rfl rfl rfl rfl (pz_a2 rfl pz_S13) ?_
  refine pz_j1 [.inl (mi 150 5), .inl 5, .inr (.inr (some 148))] 80 rfl rfl rfl rfl (pz_a2 rfl pz_S150) ?_
  refine pz_j3 [] [(0, .inr (.inr (some 13)))] (pz_hp n0 (pz_up (pz_up (pz_up (pz_up (pz_up (pz_up mi 148 0 (mi 159 8)) 148 1 (mi 16 1)) 148 2 (mi 16 2)) 148 3 (mi 16 3)) 148 4 (mi 13 12)) 148 5 (mi 150 5)) ml mr c s) 81 rfl rfl rfl rfl (pz_a2 rfl (pz_ok_ix pz_S148 ⟨by decide, by decide⟩)) ?_
  refine pz_j1 [.inr (.inr (some 13))] 82 rfl rfl rfl rfl rfl ?_
  refine pz_j1 [.inr (.inr (some 148))] 85 rfl rfl rfl rfl (pz_a2 rfl pz_S13) ?_
  refine pz_j1 [.inl 6, .inr (.inr (some 148))] 87 rfl rfl rfl rfl rfl ?_
  refine pz_j1 [.inr (.inr (some 13)), .inl 6, .inr (.inr (some 148))] 88 rfl rfl rfl rfl rfl ?_
  refine pz_j1 [.inl (mi 13 11), .inl 6, .inr (.inr (some 148))] 91 rfl rfl rfl rfl (pz_a2 rfl pz_S13) ?_
  refine pz_j3 [] [(0, .inr (.inr (some 13)))] (pz_hp n0 (pz_up (pz_up (pz_up (pz_up (pz_up (pz_up (pz_up mi 148 0 (mi 159 8)) 148 1 (mi 16 1)) 148 2 (mi 16 2)) 148 3 (mi 16 3)) 148 4 (mi 13 12)) 148 5 (mi 150 5)) 148 6 (mi 13 11)) ml mr c s) 92 rfl rfl rfl rfl (pz_a2 rfl (pz_ok_ix pz_S148 ⟨by decide, by decide⟩)) ?_
  exact pz_Rn_ret rfl rfl rfl rfl K
-- 36 RelationStream$Question.start(I)V
theorem pz_g36_0 {a1 : Int}  (K : pz_Rn d 24 (0, [], [(0, .inr (.inr (some 150)))], pz_hp n0 mi ml mr c s, true) (pz_K (d + 1) 36 4 [] [(0, .inr (.inr (some 13))), (1, .inl a1)] Q true)) : pz_Rn (d + 1) 36 (0, [], [(0, .inr (.inr (some 13))), (1, .inl a1)], pz_hp n0 mi ml mr c s, true) Q := by
  refine pz_j1 [.inr (.inr (some 13))] 1 rfl rfl rfl rfl rfl ?_
  refine pz_j1 [.inr (.inr (some 150))] 4 rfl rfl rfl rfl (pz_a2 rfl pz_S13) ?_
  exact pz_Rn_k (y := 23) rfl rfl rfl rfl rfl rfl rfl rfl (pz_cok_v rfl rfl pz_S150) K
theorem pz_g36_7 {a1 : Int}  (K : pz_Rn d 26 (0, [], [(0, .inr (.inr (some 14)))], pz_hp n0 mi ml mr c s, true) (pz_K (d + 1) 36 11 [] [(0, .inr (.inr (some 13))), (1, .inl a1)] Q true)) : pz_Rn (d + 1) 36 (7, [], [(0, .inr (.inr (some 13))), (1, .inl a1)], pz_hp n0 mi ml mr c s, true) Q := by
  refine pz_j1 [.inr (.inr (some 13))] 8 rfl rfl rfl rfl rfl ?_
  refine pz_j1 [.inr (.inr (some 14))] 11 rfl rfl rfl rfl (pz_a2 rfl pz_S13) ?_
  exact pz_Rn_k (y := 25) rfl rfl rfl rfl rfl rfl rfl rfl (pz_cok_v rfl rfl pz_S14) K
theorem pz_g36_14 {a1 : Int}  (K : pz_Rn d 27 (0, [], [(0, .inr (.inr (some 149)))], pz_hp n0 mi ml mr c s, true) (pz_K (d + 1) 36 18 [] [(0, .inr (.inr (some 13))), (1, .inl a1)] Q true)) : pz_Rn (d + 1) 36 (14, [], [(0, .inr (.inr (some 13))), (1, .inl a1)], pz_hp n0 mi ml mr c s, true) Q := by
  refine pz_j1 [.inr (.inr (some 13))] 15 rfl rfl rfl rfl rfl ?_
  refine pz_j1 [.inr (.inr (some 149))] 18 rfl rfl rfl rfl (pz_a2 rfl pz_S13) ?_
  exact pz_Rn_k (y := 26) rfl rfl rfl rfl rfl rfl rfl rfl (pz_cok_v rfl rfl pz_S149) K
theorem pz_g36_21 {a1 : Int}  (K : pz_Rn d 34 (0, [], [(0, .inr (.inr (some 14))), (1, .inl a1), (2, .inl 0), (3, .inr (.inr (some 149)))], pz_hp n0 (pz_up (pz_up (pz_up (pz_up mi 159 8 0) 13 11 0) 13 12 1) 13 14 0) ml mr c s, true) (pz_K (d + 1) 36 58 [.inr (.inr (some 14))] [(0, .inr (.inr (some 13)))] Q true)) : pz_Rn (d + 1) 36 (21, [], [(0, .inr (.inr (some 13))), (1, .inl a1)], pz_hp n0 mi ml mr c s, true) Q := by
  refine pz_j1 [.inr (.inr (some 13))] 22 rfl rfl rfl rfl rfl ?_
  refine pz_j1 [.inr (.inr (some 159))] 25 rfl rfl rfl rfl (pz_a2 rfl pz_S13) ?_
  refine pz_j1 [.inl 0, .inr (.inr (some 159))] 26 rfl rfl rfl rfl rfl ?_
  refine pz_j3 [] [(0, .inr (.inr (some 13))), (1, .inl a1)] (pz_hp n0 (pz_up mi 159 8 0) ml mr c s) 29 rfl rfl rfl rfl (pz_a2 rfl (pz_a2 pz_S159 (pz_a2 rfl rfl))) ?_
  refine pz_j1 [.inr (.inr (some 13))] 30 rfl rfl rfl rfl rfl ?_
  refine pz_j1 [.inl 0, .inr (.inr (some 13))] 31 rfl rfl rfl rfl rfl ?_
  refine pz_j3 [] [(0, .inr (.inr (some 13))), (1, .inl a1)] (pz_hp n0 (pz_up (pz_up mi 159 8 0) 13 11 0) ml mr c s) 34 rfl rfl rfl rfl (pz_a2 rfl (pz_a2 pz_S13 (pz_a2 rfl rfl))) ?_
  refine pz_j1 [.inr (.inr (some 13))] 35 rfl rfl rfl rfl rfl ?_
  refine pz_j1 [.inl 1, .inr (.inr (some 13))] 36 rfl rfl rfl rfl rfl ?_
  refine pz_j3 [] [(0, .inr (.inr (some 13))), (1, .inl a1)] (pz_hp n0 (pz_up (pz_up (pz_up mi 159 8 0) 13 11 0) 13 12 1) ml mr c s) 39 rfl rfl rfl rfl (pz_a2 rfl (pz_a2 pz_S13 (pz_a2 rfl rfl))) ?_
  refine pz_j1 [.inr (.inr (some 13))] 40 rfl rfl rfl rfl rfl ?_
  refine pz_j1 [.inl 0, .inr (.inr (some 13))] 41 rfl rfl rfl rfl rfl ?_
  refine pz_j3 [] [(0, .inr (.inr (some 13))), (1, .inl a1)] (pz_hp n0 (pz_up (pz_up (pz_up (pz_up mi 159 8 0) 13 11 0) 13 12 1) 13 14 0) ml mr c s) 44 rfl rfl rfl rfl (pz_a2 rfl (pz_a2 pz_S13 (pz_a2 rfl rfl))) ?_
  refine pz_j1 [.inr (.inr (some 13))] 45 rfl rfl rfl rfl rfl ?_
  refine pz_j1 [.inr (.inr (some 14))] 48 rfl rfl rfl rfl (pz_a2 rfl pz_S13) ?_
  refine pz_j1 [.inr (.inr (some 13)), .inr (.inr (some 14))] 49 rfl rfl rfl rfl rfl ?_
  refine pz_j1 [.inr (.inr (some 14)), .inr (.inr (some 14))] 52 rfl rfl rfl rfl (pz_a2 rfl pz_S13) ?_
  refine pz_j1 [.inl a1, .inr (.inr (some 14)), .inr (.inr (some 14))] 53 rfl rfl rfl rfl rfl ?_
  refine pz_j1 [.inl 0, .inl a1, .inr (.inr (some 14)), .inr (.inr (some 14))] 54 rfl rfl rfl rfl rfl ?_
  refine pz_j1 [.inr (.inr (some 13)), .inl 0, .inl a1, .inr (.inr (some 14)), .inr (.inr (some 14))] 55 rfl rfl rfl rfl rfl ?_
  refine pz_j1 [.inr (.inr (some 149)), .inl 0, .inl a1, .inr (.inr (some 14)), .inr (.inr (some 14))] 58 rfl rfl rfl rfl (pz_a2 rfl pz_S13) ?_
  refine pz_Rn_sub (L := [(0, .inr (.inr (some 13)))]) [0] rfl rfl ?_
  exact pz_Rn_k (y := 33) rfl rfl rfl rfl rfl rfl rfl rfl (pz_cok_v rfl rfl pz_S14) K
theorem pz_g36_61 {t1 : Option Nat}  (K : pz_Rn d 35 (0, [], [(0, .inr (.inr (some 13)))], pz_hp n0 (pz_up (pz_up mi 13 13 1) 148 7 0) ml (pz_up mr 14 2 t1) c s, true) (pz_K (d + 1) 36 78 [] [] Q true)) : pz_Rn (d + 1) 36 (61, [.inr (.inr t1), .inr (.inr (some 14))], [(0, .inr (.inr (some 13)))], pz_hp n0 mi ml mr c s, true) Q := by
  refine pz_j3 [] [(0, .inr (.inr (some 13)))] (pz_SH n0, mi, ml, pz_up (pz_ov mr) 14 2 t1, c, s) 64 rfl rfl rfl rfl (pz_a2 rfl (pz_a2 pz_S14 (pz_a2 rfl rfl))) ?_
  rewrite [pz_hp_up rfl]
  refine pz_j1 [.inr (.inr (some 13))] 65 rfl rfl rfl rfl rfl ?_
  refine pz_j1 [.inl 1, .inr (.inr (some 13))] 66 rfl rfl rfl rfl rfl ?_
  refine pz_j3 [] [(0, .inr (.inr (some 13)))] (pz_hp n0 (pz_up mi 13 13 1) ml (pz_up mr 14 2 t1) c s) 69 rfl rfl rfl rfl (pz_a2 rfl (pz_a2 pz_S13 (pz_a2 rfl rfl))) ?_
  refine pz_j1 [.inr (.inr (some 13))] 70 rfl rfl rfl rfl rfl ?_
  refine pz_j1 [.inr (.inr (some 148))] 73 rfl rfl rfl rfl (pz_a2 rfl pz_S13) ?_
  refine pz_j1 [.inl 7, .inr (.inr (some 148))] 75 rfl rfl rfl rfl rfl ?_
  refine pz_j1 [.inl 0, .inl 7, .inr (.inr (some 148))] 76 rfl rfl rfl rfl rfl ?_
  refine pz_j3 [] [(0, .inr (.inr (some 13)))] (pz_hp n0 (pz_up (pz_up mi 13 13 1) 148 7 0) ml (pz_up mr 14 2 t1) c s) 77 rfl rfl rfl rfl (pz_a2 rfl (pz_ok_ix pz_S148 ⟨by decide, by decide⟩)) ?_
  refine pz_j1 [.inr (.inr (some 13))] 78 rfl rfl rfl rfl rfl ?_
  refine pz_Rn_sub (L := []) [] rfl rfl ?_
  exact pz_Rn_k (y := 34) rfl rfl rfl rfl rfl rfl rfl rfl (pz_cok_v rfl rfl pz_S13) K
theorem pz_g36_81   (K : Q (.inl none) (pz_hp n0 mi ml mr c s)) : pz_Rn (d + 1) 36 (81, [], [], pz_hp n0 mi ml mr c s, true) Q := by
  exact pz_Rn_ret rfl rfl rfl rfl K
-- 37 RelationStream.ask(I)V
theorem pz_g37_0 {a1 : Int}  (K : pz_Rn d 15 (0, [], [(0, .inr (.inr (some 6))), (1, .inl a1)], pz_hp n0 mi ml mr c s, true) (pz_K (d + 1) 37 5 [] [(0, .inr (.inr (some 1))), (1, .inl a1)] Q true)) : pz_Rn (d + 1) 37 (0, [], [(0, .inr (.inr (some 1))), (1, .inl a1)], pz_hp n0 mi ml mr c s, true) Q := by
  refine pz_j1 [.inr (.inr (some 1))] 1 rfl rfl rfl rfl rfl ?_
  refine pz_j1 [.inr (.inr (some 6))] 4 rfl rfl rfl rfl (pz_a2 rfl pz_S1) ?_
  refine pz_j1 [.inl a1, .inr (.inr (some 6))] 5 rfl rfl rfl rfl rfl ?_
  exact pz_Rn_k (y := 14) rfl rfl rfl rfl rfl rfl rfl rfl (pz_cok_v rfl rfl pz_S6) K
theorem pz_g37_8 {a1 : Int} {t0 : Int}  (K : ((t0 ≠ 0 → pz_Rn d 36 (0, [], [(0, .inr (.inr (some 13))), (1, .inl a1)], pz_hp n0 mi ml mr c s, true) (pz_K (d + 1) 37 16 [] [] Q true)) ∧ (t0 = 0 → Q (.inr 1) (pz_hp n0 mi ml mr (c + 1) (s + 6))))) : pz_Rn (d + 1) 37 (8, [.inl t0], [(0, .inr (.inr (some 1))), (1, .inl a1)], pz_hp n0 mi ml mr c s, true) Q := by
  refine pz_i_thr (y := 0) rfl rfl rfl rfl rfl rfl rfl rfl rfl rfl (fun z => ?_) (fun z => ?_)
  · replace K := K.1 (pz_x1 z)
    refine pz_j1 [.inr (.inr (some 1))] 12 rfl rfl rfl rfl rfl ?_
    refine pz_j1 [.inr (.inr (some 13))] 15 rfl rfl rfl rfl (pz_a2 rfl pz_S1) ?_
    refine pz_j1 [.inl a1, .inr (.inr (some 13))] 16 rfl rfl rfl rfl rfl ?_
    refine pz_Rn_sub (L := []) [] rfl rfl ?_
    exact pz_Rn_k (y := 35) rfl rfl rfl rfl rfl rfl rfl rfl (pz_cok_v rfl rfl pz_S13) K
  · exact K.2 (pz_x0 z)
theorem pz_g37_19   (K : Q (.inl none) (pz_hp n0 mi ml mr c s)) : pz_Rn (d + 1) 37 (19, [], [], pz_hp n0 mi ml mr c s, true) Q := by
  exact pz_Rn_ret rfl rfl rfl rfl K
-- 39 RelationStream$Question.goDown(LRelationStream$Node;)I
theorem pz_g39_0 {a1 : Option Nat}  (K : pz_Rn d 39 (7, [], [(0, .inr (.inr (some 13))), (2, .inl 0)], pz_hp n0 mi ml (pz_up mr 13 10 a1) c s, true) Q) : pz_Rn d 39 (0, [], [(0, .inr (.inr (some 13))), (1, .inr (.inr a1))], pz_hp n0 mi ml mr c s, true) Q := by
  refine pz_j1 [.inl 0] 1 rfl rfl rfl rfl rfl ?_
  refine pz_j2 [] [(2, .inl 0), (0, .inr (.inr (some 13))), (1, .inr (.inr a1))] 2 rfl rfl rfl rfl rfl ?_
  refine pz_j1 [.inr (.inr (some 13))] 3 rfl rfl rfl rfl rfl ?_
  refine pz_j1 [.inr (.inr a1), .inr (.inr (some 13))] 4 rfl rfl rfl rfl rfl ?_
  refine pz_j3 [] [(2, .inl 0), (0, .inr (.inr (some 13))), (1, .inr (.inr a1))] (pz_SH n0, mi, ml, pz_up (pz_ov mr) 13 10 a1, c, s) 7 rfl rfl rfl rfl (pz_a2 rfl (pz_a2 pz_S13 (pz_a2 rfl rfl))) ?_
  rewrite [pz_hp_up rfl]
  refine pz_Rn_sub (L := [(0, .inr (.inr (some 13))), (2, .inl 0)]) [1, 0] rfl rfl ?_
  exact K
theorem pz_g39_7 {a2 : Int}  (K : ∃ q1, mr 13 10 = some q1 ∧ pz_nd q1 ∧ ((mi q1 0 = 1 → Q (.inl (some (.inl a2))) (pz_hp n0 mi ml mr c s)) ∧ (mi q1 0 ≠ 1 → ((mr q1 1 = none → Q (.inl (some (.inl a2))) (pz_hp n0 mi ml mr c s)) ∧ (mr q1 1 ≠ none → ((64 ≤ a2 → Q (.inl (some (.inl a2))) (pz_hp n0 mi ml mr c s)) ∧ (a2 < 64 → (0 ≤ a2 ∧ a2 < 64) ∧ (-2147483648 ≤ a2 + 1 ∧ a2 + 1 ≤ 2147483647) ∧ pz_Rn d 39 (7, [], [(0, .inr (.inr (some 13))), (2, .inl (a2 + 1))], pz_hp n0 mi ml (pz_up (pz_up mr 145 ((a2).toNat) (some q1)) 13 10 ((pz_up mr 145 ((a2).toNat) (some q1)) q1 1)) c s, true) Q))))))) : pz_Rn d 39 (7, [], [(0, .inr (.inr (some 13))), (2, .inl a2)], pz_hp n0 mi ml mr c s, true) Q := by
  refine pz_j1 [.inr (.inr (some 13))] 8 rfl rfl rfl rfl rfl ?_
  refine pz_j1 [.inr (.inr (mr 13 10))] 11 rfl rfl rfl rfl (pz_a2 rfl pz_S13) ?_
  obtain ⟨q1, eq1, nq1, K⟩ := K
  rewrite [eq1]
  refine pz_j1 [.inl (mi q1 0)] 14 rfl rfl rfl rfl (pz_a2 rfl (pz_nd_is nq1)) ?_
  refine pz_j1 [.inl 1, .inl (mi q1 0)] 15 rfl rfl rfl rfl rfl ?_
  refine pz_j1 [] (bif pz_cp .eq (mi q1 0) 1 then 61 else 18) rfl rfl rfl rfl rfl ?_
  refine pz_Rn_if pz_c1_eq pz_c0_eq ⟨fun b2 => ?_, fun b2 => ?_⟩
  · replace K := K.1 b2
    refine pz_j1 [.inl a2] 62 rfl rfl rfl rfl rfl ?_
    exact pz_Rn_ret rfl rfl rfl rfl K
  · replace K := K.2 b2
    refine pz_j1 [.inr (.inr (some 13))] 19 rfl rfl rfl rfl rfl ?_
    refine pz_j1 [.inr (.inr (mr 13 10))] 22 rfl rfl rfl rfl (pz_a2 rfl pz_S13) ?_
    rewrite [eq1]
    refine pz_j1 [.inr (.inr (pz_ov mr q1 1))] 25 rfl rfl rfl rfl (pz_a2 rfl (pz_nd_is nq1)) ?_
    rewrite [pz_ov_nd nq1 (by decide)]
    refine pz_j1 [] (bif Option.isNone (mr q1 1) then 61 else 28) rfl rfl rfl rfl rfl ?_
    refine pz_Rn_if pz_n1 pz_n0 ⟨fun b3 => ?_, fun b3 => ?_⟩
    · replace K := K.1 b3
      refine pz_j1 [.inl a2] 62 rfl rfl rfl rfl rfl ?_
      exact pz_Rn_ret rfl rfl rfl rfl K
    · replace K := K.2 b3
      refine pz_j1 [.inl a2] 29 rfl rfl rfl rfl rfl ?_
      refine pz_j1 [.inl 64, .inl a2] 31 rfl rfl rfl rfl rfl ?_
      refine pz_j1 [] (bif pz_cp .ge a2 64 then 61 else 34) rfl rfl rfl rfl rfl ?_
      refine pz_Rn_if pz_c1_ge pz_c0_ge ⟨fun b4 => ?_, fun b4 => ?_⟩
      · replace K := K.1 b4
        refine pz_j1 [.inl a2] 62 rfl rfl rfl rfl rfl ?_
        exact pz_Rn_ret rfl rfl rfl rfl K
      · replace K := K.2 b4
        refine pz_j1 [.inr (.inr (some 13))] 35 rfl rfl rfl rfl rfl ?_
        refine pz_j1 [.inr (.inr (some 145))] 38 rfl rfl rfl rfl (pz_a2 rfl pz_S13) ?_
        refine pz_j1 [.inl a2, .inr (.inr (some 145))] 39 rfl rfl rfl rfl rfl ?_
        refine pz_j1 [.inr (.inr (some 13)), .inl a2, .inr (.inr (some 145))] 40 rfl rfl rfl rfl rfl ?_
        refine pz_j1 [.inr (.inr (mr 13 10)), .inl a2, .inr (.inr (some 145))] 43 rfl rfl rfl rfl (pz_a2 rfl pz_S13) ?_
        rewrite [eq1]
        obtain ⟨k5, K⟩ := K
        refine pz_j3 [] [(0, .inr (.inr (some 13))), (2, .inl a2)] (pz_SH n0, mi, ml, pz_up (pz_ov mr) 145 ((a2).toNat) (some q1), c, s) 44 rfl rfl rfl rfl (pz_a2 rfl (pz_a2 (pz_ok_ix pz_S145 k5) (pz_nd_is nq1))) ?_
        rewrite [pz_hp_up rfl]
        obtain ⟨k6, K⟩ := K
        refine pz_j2 [] [(2, .inl (a2 + 1)), (0, .inr (.inr (some 13)))] 47 rfl rfl rfl rfl (pz_a2 (pz_ok_in k6) rfl) ?_
        refine pz_j1 [.inr (.inr (some 13))] 48 rfl rfl rfl rfl rfl ?_
        refine pz_j1 [.inr (.inr (some 13)), .inr (.inr (some 13))] 49 rfl rfl rfl rfl rfl ?_
        refine pz_j1 [.inr (.inr (mr 13 10)), .inr (.inr (some 13))] 52 rfl rfl rfl rfl (pz_a2 rfl pz_S13) ?_
        rewrite [eq1]
        refine pz_j1 [.inr (.inr (pz_ov (pz_up mr 145 ((a2).toNat) (some q1)) q1 1)), .inr (.inr (some 13))] 55 rfl rfl rfl rfl (pz_a2 rfl (pz_nd_is nq1)) ?_
        rewrite [pz_ov_nd nq1 (by decide)]
        refine pz_j3 [] [(2, .inl (a2 + 1)), (0, .inr (.inr (some 13)))] (pz_SH n0, mi, ml, pz_up (pz_ov (pz_up mr 145 ((a2).toNat) (some q1))) 13 10 ((pz_up mr 145 ((a2).toNat) (some q1)) q1 1), c, s) 58 rfl rfl rfl rfl (pz_a2 rfl (pz_a2 pz_S13 (pz_a2 rfl rfl))) ?_
        rewrite [pz_hp_up rfl]
        refine pz_j1 [] 7 rfl rfl rfl rfl rfl ?_
        refine pz_Rn_sub (L := [(0, .inr (.inr (some 13))), (2, .inl (a2 + 1))]) [1, 0] rfl rfl ?_
        exact K
-- 40 RelationStream$Tree.turnToSum(LRelationStream$Node;LRelationStream$Node;LRelationStream$Node;)V
theorem pz_g40_0 {a1 : Option Nat} {a2 : Option Nat} {a3 : Option Nat}  (K : pz_Rn d 30 (0, [], [(0, .inr (.inr (some 14))), (1, .inr (.inr a1)), (2, .inl 2)], pz_hp n0 mi ml mr c s, true) (pz_K (d + 1) 40 3 [] [(1, .inr (.inr a1)), (2, .inr (.inr a2)), (3, .inr (.inr a3))] Q true)) : pz_Rn (d + 1) 40 (0, [], [(0, .inr (.inr (some 14))), (1, .inr (.inr a1)), (2, .inr (.inr a2)), (3, .inr (.inr a3))], pz_hp n0 mi ml mr c s, true) Q := by
  refine pz_j1 [.inr (.inr (some 14))] 1 rfl rfl rfl rfl rfl ?_
  refine pz_j1 [.inr (.inr a1), .inr (.inr (some 14))] 2 rfl rfl rfl rfl rfl ?_
  refine pz_j1 [.inl 2, .inr (.inr a1), .inr (.inr (some 14))] 3 rfl rfl rfl rfl rfl ?_
  refine pz_Rn_sub (L := [(1, .inr (.inr a1)), (2, .inr (.inr a2)), (3, .inr (.inr a3))]) [1, 2, 3] rfl rfl ?_
  exact pz_Rn_k (y := 29) rfl rfl rfl rfl rfl rfl rfl rfl (pz_cok_v rfl rfl pz_S14) K
theorem pz_g40_6 {a1 : Option Nat} {a2 : Option Nat} {a3 : Option Nat}  (K : ∃ q1, a1 = some q1 ∧ pz_nd q1 ∧ Q (.inl none) (pz_hp n0 mi ml (pz_up (pz_up mr q1 1 a2) q1 2 a3) c s)) : pz_Rn (d + 1) 40 (6, [], [(1, .inr (.inr a1)), (2, .inr (.inr a2)), (3, .inr (.inr a3))], pz_hp n0 mi ml mr c s, true) Q := by
  refine pz_j1 [.inr (.inr a1)] 7 rfl rfl rfl rfl rfl ?_
  refine pz_j1 [.inr (.inr a2), .inr (.inr a1)] 8 rfl rfl rfl rfl rfl ?_
  obtain ⟨q1, eq1, nq1, K⟩ := K
  rewrite [eq1]
  refine pz_j3 [] [(1, .inr (.inr (some q1))), (2, .inr (.inr a2)), (3, .inr (.inr a3))] (pz_SH n0, mi, ml, pz_up (pz_ov mr) q1 1 a2, c, s) 11 rfl rfl rfl rfl (pz_a2 rfl (pz_a2 (pz_nd_is nq1) (pz_a2 rfl rfl))) ?_
  rewrite [pz_hp_up (pz_nd_lay nq1 (by decide))]
  refine pz_j1 [.inr (.inr (some q1))] 12 rfl rfl rfl rfl rfl ?_
  refine pz_j1 [.inr (.inr a3), .inr (.inr (some q1))] 13 rfl rfl rfl rfl rfl ?_
  refine pz_j3 [] [(1, .inr (.inr (some q1))), (2, .inr (.inr a2)), (3, .inr (.inr a3))] (pz_SH n0, mi, ml, pz_up (pz_ov (pz_up mr q1 1 a2)) q1 2 a3, c, s) 16 rfl rfl rfl rfl (pz_a2 rfl (pz_a2 (pz_nd_is nq1) (pz_a2 rfl rfl))) ?_
  rewrite [pz_hp_up (pz_nd_lay nq1 (by decide))]
  exact pz_Rn_ret rfl rfl rfl rfl K
-- 41 RelationStream$Question.splitTask(LRelationStream$Node;)LRelationStream$Node;
theorem pz_g41_0 {a1 : Option Nat}  (K : ∃ q1, a1 = some q1 ∧ pz_nd q1 ∧ (0 ≤ mi q1 3 ∧ mi q1 3 < 40) ∧ pz_Rn d 34 (0, [], [(0, .inr (.inr (some 14))), (1, .inl (mi 8 ((mi q1 3).toNat))), (2, .inl (mi q1 4)), (3, .inr (.inr (some (q1 + 1))))], pz_hp n0 mi ml mr c s, true) (pz_K (d + 1) 41 24 [] [(0, .inr (.inr (some 13))), (1, .inr (.inr (some q1)))] Q true)) : pz_Rn (d + 1) 41 (0, [], [(0, .inr (.inr (some 13))), (1, .inr (.inr a1))], pz_hp n0 mi ml mr c s, true) Q := by
  refine pz_j1 [.inr (.inr (some 13))] 1 rfl rfl rfl rfl rfl ?_
  refine pz_j1 [.inr (.inr (some 14))] 4 rfl rfl rfl rfl (pz_a2 rfl pz_S13) ?_
  refine pz_j1 [.inr (.inr (some 13)), .inr (.inr (some 14))] 5 rfl rfl rfl rfl rfl ?_
  refine pz_j1 [.inr (.inr (some 6)), .inr (.inr (some 14))] 8 rfl rfl rfl rfl (pz_a2 rfl pz_S13) ?_
  refine pz_j1 [.inr (.inr (some 8)), .inr (.inr (some 14))] 11 rfl rfl rfl rfl (pz_a2 rfl pz_S6) ?_
  refine pz_j1 [.inr (.inr a1), .inr (.inr (some 8)), .inr (.inr (some 14))] 12 rfl rfl rfl rfl rfl ?_
  obtain ⟨q1, eq1, nq1, K⟩ := K
  rewrite [eq1]
  refine pz_j1 [.inl (mi q1 3), .inr (.inr (some 8)), .inr (.inr (some 14))] 15 rfl rfl rfl rfl (pz_a2 rfl (pz_nd_is nq1)) ?_
  obtain ⟨k2, K⟩ := K
  refine pz_j1 [.inl (mi 8 ((mi q1 3).toNat)), .inr (.inr (some 14))] 16 rfl rfl rfl rfl (pz_a2 rfl (pz_ok_ixs pz_S8 k2)) ?_
  refine pz_j1 [.inr (.inr (some q1)), .inl (mi 8 ((mi q1 3).toNat)), .inr (.inr (some 14))] 17 rfl rfl rfl rfl rfl ?_
  refine pz_j1 [.inl (mi q1 4), .inl (mi 8 ((mi q1 3).toNat)), .inr (.inr (some 14))] 20 rfl rfl rfl rfl (pz_a2 rfl (pz_nd_is nq1)) ?_
  refine pz_j1 [.inr (.inr (some q1)), .inl (mi q1 4), .inl (mi 8 ((mi q1 3).toNat)), .inr (.inr (some 14))] 21 rfl rfl rfl rfl rfl ?_
  refine pz_j1 [.inr (.inr (pz_ov mr q1 5)), .inl (mi q1 4), .inl (mi 8 ((mi q1 3).toNat)), .inr (.inr (some 14))] 24 rfl rfl rfl rfl (pz_a2 rfl (pz_nd_is nq1)) ?_
  rewrite [pz_ov_n5 nq1]
  exact pz_Rn_k (y := 33) rfl rfl rfl rfl rfl rfl rfl rfl (pz_cok_v rfl rfl pz_S14) K
theorem pz_g41_27 {a1 : Option Nat} {t0 : Option Nat}  (K : ∃ q1, a1 = some q1 ∧ pz_nd q1 ∧ (0 ≤ mi q1 3 ∧ mi q1 3 < 40) ∧ pz_Rn d 34 (0, [], [(0, .inr (.inr (some 14))), (1, .inl (mi 9 ((mi q1 3).toNat))), (2, .inl (mi q1 4)), (3, .inr (.inr (some (q1 + 1))))], pz_hp n0 mi ml mr c s, true) (pz_K (d + 1) 41 52 [] [(0, .inr (.inr (some 13))), (1, .inr (.inr (some q1))), (2, .inr (.inr t0))] Q true)) : pz_Rn (d + 1) 41 (27, [.inr (.inr t0)], [(0, .inr (.inr (some 13))), (1, .inr (.inr a1))], pz_hp n0 mi ml mr c s, true) Q := by
  refine pz_j2 [] [(2, .inr (.inr t0)), (0, .inr (.inr (some 13))), (1, .inr (.inr a1))] 28 rfl rfl rfl rfl rfl ?_
  refine pz_j1 [.inr (.inr (some 13))] 29 rfl rfl rfl rfl rfl ?_
  refine pz_j1 [.inr (.inr (some 14))] 32 rfl rfl rfl rfl (pz_a2 rfl pz_S13) ?_
  refine pz_j1 [.inr (.inr (some 13)), .inr (.inr (some 14))] 33 rfl rfl rfl rfl rfl ?_
  refine pz_j1 [.inr (.inr (some 6)), .inr (.inr (some 14))] 36 rfl rfl rfl rfl (pz_a2 rfl pz_S13) ?_
  refine pz_j1 [.inr (.inr (some 9)), .inr (.inr (some 14))] 39 rfl rfl rfl rfl (pz_a2 rfl pz_S6) ?_
  refine pz_j1 [.inr (.inr a1), .inr (.inr (some 9)), .inr (.inr (some 14))] 40 rfl rfl rfl rfl rfl ?_
  obtain ⟨q1, eq1, nq1, K⟩ := K
  rewrite [eq1]
  refine pz_j1 [.inl (mi q1 3), .inr (.inr (some 9)), .inr (.inr (some 14))] 43 rfl rfl rfl rfl (pz_a2 rfl (pz_nd_is nq1)) ?_
  obtain ⟨k2, K⟩ := K
  refine pz_j1 [.inl (mi 9 ((mi q1 3).toNat)), .inr (.inr (some 14))] 44 rfl rfl rfl rfl (pz_a2 rfl (pz_ok_ixs pz_S9 k2)) ?_
  refine pz_j1 [.inr (.inr (some q1)), .inl (mi 9 ((mi q1 3).toNat)), .inr (.inr (some 14))] 45 rfl rfl rfl rfl rfl ?_
  refine pz_j1 [.inl (mi q1 4), .inl (mi 9 ((mi q1 3).toNat)), .inr (.inr (some 14))] 48 rfl rfl rfl rfl (pz_a2 rfl (pz_nd_is nq1)) ?_
  refine pz_j1 [.inr (.inr (some q1)), .inl (mi q1 4), .inl (mi 9 ((mi q1 3).toNat)), .inr (.inr (some 14))] 49 rfl rfl rfl rfl rfl ?_
  refine pz_j1 [.inr (.inr (pz_ov mr q1 5)), .inl (mi q1 4), .inl (mi 9 ((mi q1 3).toNat)), .inr (.inr (some 14))] 52 rfl rfl rfl rfl (pz_a2 rfl (pz_nd_is nq1)) ?_
  rewrite [pz_ov_n5 nq1]
  refine pz_Rn_sub (L := [(0, .inr (.inr (some 13))), (1, .inr (.inr (some q1))), (2, .inr (.inr t0))]) [1, 2, 0] rfl rfl ?_
  exact pz_Rn_k (y := 33) rfl rfl rfl rfl rfl rfl rfl rfl (pz_cok_v rfl rfl pz_S14) K
theorem pz_g41_55 {a1 : Option Nat} {a2 : Option Nat} {t0 : Option Nat}  (K : pz_Rn d 40 (0, [], [(0, .inr (.inr (some 14))), (1, .inr (.inr a1)), (2, .inr (.inr a2)), (3, .inr (.inr t0))], pz_hp n0 mi ml mr c s, true) (pz_K (d + 1) 41 63 [] [(1, .inr (.inr a1))] Q true)) : pz_Rn (d + 1) 41 (55, [.inr (.inr t0)], [(0, .inr (.inr (some 13))), (1, .inr (.inr a1)), (2, .inr (.inr a2))], pz_hp n0 mi ml mr c s, true) Q := by
  refine pz_j2 [] [(3, .inr (.inr t0)), (0, .inr (.inr (some 13))), (1, .inr (.inr a1)), (2, .inr (.inr a2))] 56 rfl rfl rfl rfl rfl ?_
  refine pz_j1 [.inr (.inr (some 13))] 57 rfl rfl rfl rfl rfl ?_
  refine pz_j1 [.inr (.inr (some 14))] 60 rfl rfl rfl rfl (pz_a2 rfl pz_S13) ?_
  refine pz_j1 [.inr (.inr a1), .inr (.inr (some 14))] 61 rfl rfl rfl rfl rfl ?_
  refine pz_j1 [.inr (.inr a2), .inr (.inr a1), .inr (.inr (some 14))] 62 rfl rfl rfl rfl rfl ?_
  refine pz_j1 [.inr (.inr t0), .inr (.inr a2), .inr (.inr a1), .inr (.inr (some 14))] 63 rfl rfl rfl rfl rfl ?_
  refine pz_Rn_sub (L := [(1, .inr (.inr a1))]) [2] rfl rfl ?_
  exact pz_Rn_k (y := 39) rfl rfl rfl rfl rfl rfl rfl rfl (pz_cok_v rfl rfl pz_S14) K
theorem pz_g41_66 {a1 : Option Nat}  (K : Q (.inl (some (.inr (.inr a1)))) (pz_hp n0 mi ml mr c s)) : pz_Rn (d + 1) 41 (66, [], [(1, .inr (.inr a1))], pz_hp n0 mi ml mr c s, true) Q := by
  refine pz_j1 [.inr (.inr a1)] 67 rfl rfl rfl rfl rfl ?_
  exact pz_Rn_ret rfl rfl rfl rfl K
-- 42 RelationStream$Question.chainTask(LRelationStream$Node;)LRelationStream$Node;
theorem pz_g42_0 {a1 : Option Nat}  (K : ∃ q1, a1 = some q1 ∧ pz_nd q1 ∧ (0 ≤ mi q1 3 ∧ mi q1 3 < 40) ∧ pz_Rn d 34 (0, [], [(0, .inr (.inr (some 14))), (1, .inl (mi 8 ((mi q1 3).toNat))), (2, .inl (mi q1 4)), (3, .inr (.inr (some (q1 + 1))))], pz_hp n0 mi ml mr c s, true) (pz_K (d + 1) 42 25 [.inr (.inr (some q1))] [(0, .inr (.inr (some 13))), (1, .inr (.inr (some q1)))] Q true)) : pz_Rn (d + 1) 42 (0, [], [(0, .inr (.inr (some 13))), (1, .inr (.inr a1))], pz_hp n0 mi ml mr c s, true) Q := by
  refine pz_j1 [.inr (.inr a1)] 1 rfl rfl rfl rfl rfl ?_
  refine pz_j1 [.inr (.inr (some 13)), .inr (.inr a1)] 2 rfl rfl rfl rfl rfl ?_
  refine pz_j1 [.inr (.inr (some 14)), .inr (.inr a1)] 5 rfl rfl rfl rfl (pz_a2 rfl pz_S13) ?_
  refine pz_j1 [.inr (.inr (some 13)), .inr (.inr (some 14)), .inr (.inr a1)] 6 rfl rfl rfl rfl rfl ?_
  refine pz_j1 [.inr (.inr (some 6)), .inr (.inr (some 14)), .inr (.inr a1)] 9 rfl rfl rfl rfl (pz_a2 rfl pz_S13) ?_
  refine pz_j1 [.inr (.inr (some 8)), .inr (.inr (some 14)), .inr (.inr a1)] 12 rfl rfl rfl rfl (pz_a2 rfl pz_S6) ?_
  refine pz_j1 [.inr (.inr a1), .inr (.inr (some 8)), .inr (.inr (some 14)), .inr (.inr a1)] 13 rfl rfl rfl rfl rfl ?_
  obtain ⟨q1, eq1, nq1, K⟩ := K
  rewrite [eq1]
  refine pz_j1 [.inl (mi q1 3), .inr (.inr (some 8)), .inr (.inr (some 14)), .inr (.inr (some q1))] 16 rfl rfl rfl rfl (pz_a2 rfl (pz_nd_is nq1)) ?_
  obtain ⟨k2, K⟩ := K
  refine pz_j1 [.inl (mi 8 ((mi q1 3).toNat)), .inr (.inr (some 14)), .inr (.inr (some q1))] 17 rfl rfl rfl rfl (pz_a2 rfl (pz_ok_ixs pz_S8 k2)) ?_
  refine pz_j1 [.inr (.inr (some q1)), .inl (mi 8 ((mi q1 3).toNat)), .inr (.inr (some 14)), .inr (.inr (some q1))] 18 rfl rfl rfl rfl rfl ?_
  refine pz_j1 [.inl (mi q1 4), .inl (mi 8 ((mi q1 3).toNat)), .inr (.inr (some 14)), .inr (.inr (some q1))] 21 rfl rfl rfl rfl (pz_a2 rfl (pz_nd_is nq1)) ?_
  refine pz_j1 [.inr (.inr (some q1)), .inl (mi q1 4), .inl (mi 8 ((mi q1 3).toNat)), .inr (.inr (some 14)), .inr (.inr (some q1))] 22 rfl rfl rfl rfl rfl ?_
  refine pz_j1 [.inr (.inr (pz_ov mr q1 5)), .inl (mi q1 4), .inl (mi 8 ((mi q1 3).toNat)), .inr (.inr (some 14)), .inr (.inr (some q1))] 25 rfl rfl rfl rfl (pz_a2 rfl (pz_nd_is nq1)) ?_
  rewrite [pz_ov_n5 nq1]
  exact pz_Rn_k (y := 33) rfl rfl rfl rfl rfl rfl rfl rfl (pz_cok_v rfl rfl pz_S14) K
theorem pz_g42_28 {a1 : Option Nat} {t0 : Option Nat} {t1 : Option Nat}  (K : ∃ q1, t0 = some q1 ∧ pz_nd q1 ∧ pz_Rn d 30 (0, [], [(0, .inr (.inr (some 14))), (1, .inr (.inr a1)), (2, .inl 3)], pz_hp n0 mi ml (pz_up mr q1 1 t1) c s, true) (pz_K (d + 1) 42 37 [] [(0, .inr (.inr (some 13))), (1, .inr (.inr a1))] Q true)) : pz_Rn (d + 1) 42 (28, [.inr (.inr t1), .inr (.inr t0)], [(0, .inr (.inr (some 13))), (1, .inr (.inr a1))], pz_hp n0 mi ml mr c s, true) Q := by
  obtain ⟨q1, eq1, nq1, K⟩ := K
  rewrite [eq1]
  refine pz_j3 [] [(0, .inr (.inr (some 13))), (1, .inr (.inr a1))] (pz_SH n0, mi, ml, pz_up (pz_ov mr) q1 1 t1, c, s) 31 rfl rfl rfl rfl (pz_a2 rfl (pz_a2 (pz_nd_is nq1) (pz_a2 rfl rfl))) ?_
  rewrite [pz_hp_up (pz_nd_lay nq1 (by decide))]
  refine pz_j1 [.inr (.inr (some 13))] 32 rfl rfl rfl rfl rfl ?_
  refine pz_j1 [.inr (.inr (some 14))] 35 rfl rfl rfl rfl (pz_a2 rfl pz_S13) ?_
  refine pz_j1 [.inr (.inr a1), .inr (.inr (some 14))] 36 rfl rfl rfl rfl rfl ?_
  refine pz_j1 [.inl 3, .inr (.inr a1), .inr (.inr (some 14))] 37 rfl rfl rfl rfl rfl ?_
  exact pz_Rn_k (y := 29) rfl rfl rfl rfl rfl rfl rfl rfl (pz_cok_v rfl rfl pz_S14) K
theorem pz_g42_40 {a1 : Option Nat}  (K : ∃ q1, a1 = some q1 ∧ pz_nd q1 ∧ (0 ≤ mi q1 3 ∧ mi q1 3 < 40) ∧ pz_Rn d 32 (0, [], [(0, .inr (.inr (some q1))), (1, .inl (mi 9 ((mi q1 3).toNat))), (2, .inl (mi q1 4))], pz_hp n0 mi ml mr c s, true) (pz_K (d + 1) 42 57 [] [(1, .inr (.inr (some q1)))] Q true)) : pz_Rn (d + 1) 42 (40, [], [(0, .inr (.inr (some 13))), (1, .inr (.inr a1))], pz_hp n0 mi ml mr c s, true) Q := by
  refine pz_j1 [.inr (.inr a1)] 41 rfl rfl rfl rfl rfl ?_
  refine pz_j1 [.inr (.inr (some 13)), .inr (.inr a1)] 42 rfl rfl rfl rfl rfl ?_
  refine pz_j1 [.inr (.inr (some 6)), .inr (.inr a1)] 45 rfl rfl rfl rfl (pz_a2 rfl pz_S13) ?_
  refine pz_j1 [.inr (.inr (some 9)), .inr (.inr a1)] 48 rfl rfl rfl rfl (pz_a2 rfl pz_S6) ?_
  refine pz_j1 [.inr (.inr a1), .inr (.inr (some 9)), .inr (.inr a1)] 49 rfl rfl rfl rfl rfl ?_
  obtain ⟨q1, eq1, nq1, K⟩ := K
  rewrite [eq1]
  refine pz_j1 [.inl (mi q1 3), .inr (.inr (some 9)), .inr (.inr (some q1))] 52 rfl rfl rfl rfl (pz_a2 rfl (pz_nd_is nq1)) ?_
  obtain ⟨k2, K⟩ := K
  refine pz_j1 [.inl (mi 9 ((mi q1 3).toNat)), .inr (.inr (some q1))] 53 rfl rfl rfl rfl (pz_a2 rfl (pz_ok_ixs pz_S9 k2)) ?_
  refine pz_j1 [.inr (.inr (some q1)), .inl (mi 9 ((mi q1 3).toNat)), .inr (.inr (some q1))] 54 rfl rfl rfl rfl rfl ?_
  refine pz_j1 [.inl (mi q1 4), .inl (mi 9 ((mi q1 3).toNat)), .inr (.inr (some q1))] 57 rfl rfl rfl rfl (pz_a2 rfl (pz_nd_is nq1)) ?_
  refine pz_Rn_sub (L := [(1, .inr (.inr (some q1)))]) [1] rfl rfl ?_
  exact pz_Rn_k (y := 31) rfl rfl rfl rfl rfl rfl rfl rfl (pz_cok_v rfl rfl (pz_nd_is nq1)) K
theorem pz_g42_60 {a1 : Option Nat}  (K : Q (.inl (some (.inr (.inr a1)))) (pz_hp n0 mi ml mr c s)) : pz_Rn (d + 1) 42 (60, [], [(1, .inr (.inr a1))], pz_hp n0 mi ml mr c s, true) Q := by
  refine pz_j1 [.inr (.inr a1)] 61 rfl rfl rfl rfl rfl ?_
  exact pz_Rn_ret rfl rfl rfl rfl K
-- 43 RelationStream$Tree.giveBack(LRelationStream$Node;)V
theorem pz_g43_0 {a1 : Option Nat}  (K : pz_Rn d 30 (0, [], [(0, .inr (.inr (some 14))), (1, .inr (.inr a1)), (2, .inl 0)], pz_hp n0 mi ml mr c s, true) (pz_K (d + 1) 43 3 [] [(0, .inr (.inr (some 14))), (1, .inr (.inr a1))] Q true)) : pz_Rn (d + 1) 43 (0, [], [(0, .inr (.inr (some 14))), (1, .inr (.inr a1))], pz_hp n0 mi ml mr c s, true) Q := by
  refine pz_j1 [.inr (.inr (some 14))] 1 rfl rfl rfl rfl rfl ?_
  refine pz_j1 [.inr (.inr a1), .inr (.inr (some 14))] 2 rfl rfl rfl rfl rfl ?_
  refine pz_j1 [.inl 0, .inr (.inr a1), .inr (.inr (some 14))] 3 rfl rfl rfl rfl rfl ?_
  exact pz_Rn_k (y := 29) rfl rfl rfl rfl rfl rfl rfl rfl (pz_cok_v rfl rfl pz_S14) K
theorem pz_g43_6 {a1 : Option Nat}  (K : ∃ q1, a1 = some q1 ∧ pz_nd q1 ∧ Q (.inl none) (pz_hp n0 mi ml (pz_up (pz_up (pz_up mr q1 1 none) q1 2 ((pz_up mr q1 1 none) 14 3)) 14 3 (some q1)) c s)) : pz_Rn (d + 1) 43 (6, [], [(0, .inr (.inr (some 14))), (1, .inr (.inr a1))], pz_hp n0 mi ml mr c s, true) Q := by
  refine pz_j1 [.inr (.inr a1)] 7 rfl rfl rfl rfl rfl ?_
  refine pz_j1 [.inr (.inr none), .inr (.inr a1)] 8 rfl rfl rfl rfl rfl ?_
  obtain ⟨q1, eq1, nq1, K⟩ := K
  rewrite [eq1]
  refine pz_j3 [] [(0, .inr (.inr (some 14))), (1, .inr (.inr (some q1)))] (pz_SH n0, mi, ml, pz_up (pz_ov mr) q1 1 none, c, s) 11 rfl rfl rfl rfl (pz_a2 rfl (pz_a2 (pz_nd_is nq1) (pz_a2 rfl rfl))) ?_
  rewrite [pz_hp_up (pz_nd_lay nq1 (by decide))]
  refine pz_j1 [.inr (.inr (some q1))] 12 rfl rfl rfl rfl rfl ?_
  refine pz_j1 [.inr (.inr (some 14)), .inr (.inr (some q1))] 13 rfl rfl rfl rfl rfl ?_
  refine pz_j1 [.inr (.inr ((pz_up mr q1 1 none) 14 3)), .inr (.inr (some q1))] 16 rfl rfl rfl rfl (pz_a2 rfl pz_S14) ?_
  refine pz_j3 [] [(0, .inr (.inr (some 14))), (1, .inr (.inr (some q1)))] (pz_SH n0, mi, ml, pz_up (pz_ov (pz_up mr q1 1 none)) q1 2 ((pz_up mr q1 1 none) 14 3), c, s) 19 rfl rfl rfl rfl (pz_a2 rfl (pz_a2 (pz_nd_is nq1) (pz_a2 rfl rfl))) ?_
  rewrite [pz_hp_up (pz_nd_lay nq1 (by decide))]
  refine pz_j1 [.inr (.inr (some 14))] 20 rfl rfl rfl rfl rfl ?_
  refine pz_j1 [.inr (.inr (some q1)), .inr (.inr (some 14))] 21 rfl rfl rfl rfl rfl ?_
  refine pz_j3 [] [(0, .inr (.inr (some 14))), (1, .inr (.inr (some q1)))] (pz_SH n0, mi, ml, pz_up (pz_ov (pz_up (pz_up mr q1 1 none) q1 2 ((pz_up mr q1 1 none) 14 3))) 14 3 (some q1), c, s) 24 rfl rfl rfl rfl (pz_a2 rfl (pz_a2 pz_S14 (pz_a2 rfl rfl))) ?_
  rewrite [pz_hp_up rfl]
  exact pz_Rn_ret rfl rfl rfl rfl K
-- 44 RelationStream.spot(II)I
theorem pz_g44_0 {a0 : Int} {a1 : Int}  (K : (-2147483648 ≤ a0 * 41 ∧ a0 * 41 ≤ 2147483647) ∧ (-2147483648 ≤ (a0 * 41) + a1 ∧ (a0 * 41) + a1 ≤ 2147483647) ∧ Q (.inl (some (.inl ((a0 * 41) + a1)))) (pz_hp n0 mi ml mr c s)) : pz_Rn d 44 (0, [], [(0, .inl a0), (1, .inl a1)], pz_hp n0 mi ml mr c s, true) Q := by
  refine pz_j1 [.inl a0] 1 rfl rfl rfl rfl rfl ?_
  refine pz_j1 [.inl 41, .inl a0] 3 rfl rfl rfl rfl rfl ?_
  obtain ⟨k1, K⟩ := K
  refine pz_j1 [.inl (a0 * 41)] 4 rfl rfl rfl rfl (pz_ok_in k1) ?_
  refine pz_j1 [.inl a1, .inl (a0 * 41)] 5 rfl rfl rfl rfl rfl ?_
  obtain ⟨k2, K⟩ := K
  refine pz_j1 [.inl ((a0 * 41) + a1)] 6 rfl rfl rfl rfl (pz_ok_in k2) ?_
  exact pz_Rn_ret rfl rfl rfl rfl K
-- 45 RelationStream$Bindings.bind(II)V
theorem pz_g45_0 {a1 : Int} {a2 : Int}  (K : ((1000 < mi 150 5 → Q (.inl none) (pz_hp n0 mi ml mr c s)) ∧ (mi 150 5 ≤ 1000 → (0 ≤ mi 150 5 ∧ mi 150 5 < 1001) ∧ (0 ≤ mi 150 5 ∧ mi 150 5 < 1001) ∧ (0 ≤ mi 150 5 ∧ mi 150 5 < 1001) ∧ (0 ≤ a1 ∧ a1 < 246) ∧ (-2147483648 ≤ (mi 150 5) + 1 ∧ (mi 150 5) + 1 ≤ 2147483647) ∧ Q (.inl none) (pz_hp n0 (pz_up (pz_up (pz_up (pz_up (pz_up (pz_up mi 151 ((mi 150 5).toNat) a1) 152 ((mi 150 5).toNat) a2) 153 ((mi 150 5).toNat) (mi 150 6)) 154 ((a1).toNat) a2) 150 6 (mi 150 5)) 150 5 ((mi 150 5) + 1)) ml mr c s)))) : pz_Rn d 45 (0, [], [(0, .inr (.inr (some 150))), (1, .inl a1), (2, .inl a2)], pz_hp n0 mi ml mr c s, true) Q := by
  refine pz_j1 [.inr (.inr (some 150))] 1 rfl rfl rfl rfl rfl ?_
  refine pz_j1 [.inl (mi 150 5)] 4 rfl rfl rfl rfl (pz_a2 rfl pz_S150) ?_
  refine pz_j1 [.inl 1000, .inl (mi 150 5)] 7 rfl rfl rfl rfl rfl ?_
  refine pz_j1 [] (bif pz_cp .gt (mi 150 5) 1000 then 68 else 10) rfl rfl rfl rfl rfl ?_
  refine pz_Rn_if pz_c1_gt pz_c0_gt ⟨fun b1 => ?_, fun b1 => ?_⟩
  · replace K := K.1 b1
    exact pz_Rn_ret rfl rfl rfl rfl K
  · replace K := K.2 b1
    refine pz_j1 [.inr (.inr (some 150))] 11 rfl rfl rfl rfl rfl ?_
    refine pz_j1 [.inr (.inr (some 151))] 14 rfl rfl rfl rfl (pz_a2 rfl pz_S150) ?_
    refine pz_j1 [.inr (.inr (some 150)), .inr (.inr (some 151))] 15 rfl rfl rfl rfl rfl ?_
    refine pz_j1 [.inl (mi 150 5), .inr (.inr (some 151))] 18 rfl rfl rfl rfl (pz_a2 rfl pz_S150) ?_
    refine pz_j1 [.inl a1, .inl (mi 150 5), .inr (.inr (some 151))] 19 rfl rfl rfl rfl rfl ?_
    obtain ⟨k2, K⟩ := K
    refine pz_j3 [] [(0, .inr (.inr (some 150))), (1, .inl a1), (2, .inl a2)] (pz_hp n0 (pz_up mi 151 ((mi 150 5).toNat) a1) ml mr c s) 20 rfl rfl rfl rfl (pz_a2 rfl (pz_ok_ix pz_S151 k2)) ?_
    refine pz_j1 [.inr (.inr (some 150))] 21 rfl rfl rfl rfl rfl ?_
    refine pz_j1 [.inr (.inr (some 152))] 24 rfl rfl rfl rfl (pz_a2 rfl pz_S150) ?_
    refine pz_j1 [.inr (.inr (some 150)), .inr (.inr (some 152))] 25 rfl rfl rfl rfl rfl ?_
    refine pz_j1 [.inl (mi 150 5), .inr (.inr (some 152))] 28 rfl rfl rfl rfl (pz_a2 rfl pz_S150) ?_
    refine pz_j1 [.inl a2, .inl (mi 150 5), .inr (.inr (some 152))] 29 rfl rfl rfl rfl rfl ?_
    obtain ⟨k3, K⟩ := K
    refine pz_j3 [] [(0, .inr (.inr (some 150))), (1, .inl a1), (2, .inl a2)] (pz_hp n0 (pz_up (pz_up mi 151 ((mi 150 5).toNat) a1) 152 ((mi 150 5).toNat) a2) ml mr c s) 30 rfl rfl rfl rfl (pz_a2 rfl (pz_ok_ix pz_S152 k3)) ?_
    refine pz_j1 [.inr (.inr (some 150))] 31 rfl rfl rfl rfl rfl ?_
    refine pz_j1 [.inr (.inr (some 153))] 34 rfl rfl rfl rfl (pz_a2 rfl pz_S150) ?_
    refine pz_j1 [.inr (.inr (some 150)), .inr (.inr (some 153))] 35 rfl rfl rfl rfl rfl ?_
    refine pz_j1 [.inl (mi 150 5), .inr (.inr (some 153))] 38 rfl rfl rfl rfl (pz_a2 rfl pz_S150) ?_
    refine pz_j1 [.inr (.inr (some 150)), .inl (mi 150 5), .inr (.inr (some 153))] 39 rfl rfl rfl rfl rfl ?_
    refine pz_j1 [.inl (mi 150 6), .inl (mi 150 5), .inr (.inr (some 153))] 42 rfl rfl rfl rfl (pz_a2 rfl pz_S150) ?_
    obtain ⟨k4, K⟩ := K
    refine pz_j3 [] [(0, .inr (.inr (some 150))), (1, .inl a1), (2, .inl a2)] (pz_hp n0 (pz_up (pz_up (pz_up mi 151 ((mi 150 5).toNat) a1) 152 ((mi 150 5).toNat) a2) 153 ((mi 150 5).toNat) (mi 150 6)) ml mr c s) 43 rfl rfl rfl rfl (pz_a2 rfl (pz_ok_ix pz_S153 k4)) ?_
    refine pz_j1 [.inr (.inr (some 150))] 44 rfl rfl rfl rfl rfl ?_
    refine pz_j1 [.inr (.inr (some 154))] 47 rfl rfl rfl rfl (pz_a2 rfl pz_S150) ?_
    refine pz_j1 [.inl a1, .inr (.inr (some 154))] 48 rfl rfl rfl rfl rfl ?_
    refine pz_j1 [.inl a2, .inl a1, .inr (.inr (some 154))] 49 rfl rfl rfl rfl rfl ?_
    obtain ⟨k5, K⟩ := K
    refine pz_j3 [] [(0, .inr (.inr (some 150))), (1, .inl a1), (2, .inl a2)] (pz_hp n0 (pz_up (pz_up (pz_up (pz_up mi 151 ((mi 150 5).toNat) a1) 152 ((mi 150 5).toNat) a2) 153 ((mi 150 5).toNat) (mi 150 6)) 154 ((a1).toNat) a2) ml mr c s) 50 rfl rfl rfl rfl (pz_a2 rfl (pz_ok_ix pz_S154 k5)) ?_
    refine pz_j1 [.inr (.inr (some 150))] 51 rfl rfl rfl rfl rfl ?_
    refine pz_j1 [.inr (.inr (some 150)), .inr (.inr (some 150))] 52 rfl rfl rfl rfl rfl ?_
    refine pz_j1 [.inl (mi 150 5), .inr (.inr (some 150))] 55 rfl rfl rfl rfl (pz_a2 rfl pz_S150) ?_
    refine pz_j3 [] [(0, .inr (.inr (some 150))), (1, .inl a1), (2, .inl a2)] (pz_hp n0 (pz_up (pz_up (pz_up (pz_up (pz_up mi 151 ((mi 150 5).toNat) a1) 152 ((mi 150 5).toNat) a2) 153 ((mi 150 5).toNat) (mi 150 6)) 154 ((a1).toNat) a2) 150 6 (mi 150 5)) ml mr c s) 58 rfl rfl rfl rfl (pz_a2 rfl (pz_a2 pz_S150 (pz_a2 rfl rfl))) ?_
    refine pz_j1 [.inr (.inr (some 150))] 59 rfl rfl rfl rfl rfl ?_
    refine pz_j1 [.inr (.inr (some 150)), .inr (.inr (some 150))] 60 rfl rfl rfl rfl rfl ?_
    refine pz_j1 [.inl (mi 150 5), .inr (.inr (some 150))] 63 rfl rfl rfl rfl (pz_a2 rfl pz_S150) ?_
    refine pz_j1 [.inl 1, .inl (mi 150 5), .inr (.inr (some 150))] 64 rfl rfl rfl rfl rfl ?_
    obtain ⟨k6, K⟩ := K
    refine pz_j1 [.inl ((mi 150 5) + 1), .inr (.inr (some 150))] 65 rfl rfl rfl rfl (pz_ok_in k6) ?_
    refine pz_j3 [] [(0, .inr (.inr (some 150))), (1, .inl a1), (2, .inl a2)] (pz_hp n0 (pz_up (pz_up (pz_up (pz_up (pz_up (pz_up mi 151 ((mi 150 5).toNat) a1) 152 ((mi 150 5).toNat) a2) 153 ((mi 150 5).toNat) (mi 150 6)) 154 ((a1).toNat) a2) 150 6 (mi 150 5)) 150 5 ((mi 150 5) + 1)) ml mr c s) 68 rfl rfl rfl rfl (pz_a2 rfl (pz_a2 pz_S150 (pz_a2 rfl rfl))) ?_
    exact pz_Rn_ret rfl rfl rfl rfl K
-- 46 RelationStream$Question.enterRelation(LRelationStream$Node;)LRelationStream$Node;
theorem pz_g46_0 {a1 : Option Nat}  (K : ∃ q1, a1 = some q1 ∧ pz_nd q1 ∧ ∀ x2 : Int, x2 = mi q1 3 → (0 ≤ x2 ∧ x2 < 40) ∧ (0 ≤ mi 11 ((x2).toNat) ∧ mi 11 ((x2).toNat) < 4) ∧ ∀ x5 : Int, x5 = mi 12 ((mi 11 ((x2).toNat)).toNat) → ((0 ≤ x5 → ((40 < mi 13 12 → Q (.inl (some (.inr (.inr (some q1))))) (pz_hp n0 mi ml mr c s)) ∧ (mi 13 12 ≤ 40 → (-2147483648 ≤ (mi 13 12) * 6 ∧ (mi 13 12) * 6 ≤ 2147483647) ∧ ∀ x9 : Int, x9 = (mi 13 12) * 6 → (0 ≤ x2 ∧ x2 < 40) ∧ pz_Rn d 44 (0, [], [(0, .inl ((pz_up mi 150 6 (mi (q1 + 1) 0)) q1 4)), (1, .inl (mi 8 ((x2).toNat)))], pz_hp n0 (pz_up mi 150 6 (mi (q1 + 1) 0)) ml mr c s, true) (pz_K (d + 1) 46 88 [.inl x9, .inr (.inr (some 150))] [(0, .inr (.inr (some 13))), (1, .inr (.inr (some q1))), (2, .inl x2), (3, .inl x5), (4, .inl x9)] Q true)))) ∧ (x5 < 0 → pz_Rn d 43 (0, [], [(0, .inr (.inr (some 14))), (1, .inr (.inr (some q1)))], pz_hp n0 mi ml mr c s, true) (pz_K (d + 1) 46 32 [] [] Q true)))) : pz_Rn (d + 1) 46 (0, [], [(0, .inr (.inr (some 13))), (1, .inr (.inr a1))], pz_hp n0 mi ml mr c s, true) Q := by
  refine pz_j1 [.inr (.inr a1)] 1 rfl rfl rfl rfl rfl ?_
  obtain ⟨q1, eq1, nq1, K⟩ := K
  rewrite [eq1]
  refine pz_j1 [.inl (mi q1 3)] 4 rfl rfl rfl rfl (pz_a2 rfl (pz_nd_is nq1)) ?_
  obtain ⟨x2, hx2⟩ : ∃ x : Int, x = mi q1 3 := ⟨_, rfl⟩
  rewrite [← hx2]
  replace K := K x2 hx2
  refine pz_j2 [] [(2, .inl x2), (0, .inr (.inr (some 13))), (1, .inr (.inr (some q1)))] 5 rfl rfl rfl rfl rfl ?_
  refine pz_j1 [.inr (.inr (some 13))] 6 rfl rfl rfl rfl rfl ?_
  refine pz_j1 [.inr (.inr (some 6))] 9 rfl rfl rfl rfl (pz_a2 rfl pz_S13) ?_
  refine pz_j1 [.inr (.inr (some 12))] 12 rfl rfl rfl rfl (pz_a2 rfl pz_S6) ?_
  refine pz_j1 [.inr (.inr (some 13)), .inr (.inr (some 12))] 13 rfl rfl rfl rfl rfl ?_
  refine pz_j1 [.inr (.inr (some 6)), .inr (.inr (some 12))] 16 rfl rfl rfl rfl (pz_a2 rfl pz_S13) ?_
  refine pz_j1 [.inr (.inr (some 11)), .inr (.inr (some 12))] 19 rfl rfl rfl rfl (pz_a2 rfl pz_S6) ?_
  refine pz_j1 [.inl x2, .inr (.inr (some 11)), .inr (.inr (some 12))] 20 rfl rfl rfl rfl rfl ?_
  obtain ⟨k3, K⟩ := K
  refine pz_j1 [.inl (mi 11 ((x2).toNat)), .inr (.inr (some 12))] 21 rfl rfl rfl rfl (pz_a2 rfl (pz_ok_ixs pz_S11 k3)) ?_
  obtain ⟨k4, K⟩ := K
  refine pz_j1 [.inl (mi 12 ((mi 11 ((x2).toNat)).toNat))] 22 rfl rfl rfl rfl (pz_a2 rfl (pz_ok_ixs pz_S12 k4)) ?_
  obtain ⟨x5, hx5⟩ : ∃ x : Int, x = mi 12 ((mi 11 ((x2).toNat)).toNat) := ⟨_, rfl⟩
  rewrite [← hx5]
  replace K := K x5 hx5
  refine pz_j2 [] [(3, .inl x5), (2, .inl x2), (0, .inr (.inr (some 13))), (1, .inr (.inr (some q1)))] 23 rfl rfl rfl rfl rfl ?_
  refine pz_j1 [.inl x5] 24 rfl rfl rfl rfl rfl ?_
  refine pz_j1 [] (bif pz_cp .ge x5 0 then 37 else 27) rfl rfl rfl rfl rfl ?_
  refine pz_Rn_if pz_c1_ge pz_c0_ge ⟨fun b6 => ?_, fun b6 => ?_⟩
  · replace K := K.1 b6
    refine pz_j1 [.inr (.inr (some 13))] 38 rfl rfl rfl rfl rfl ?_
    refine pz_j1 [.inl (mi 13 12)] 41 rfl rfl rfl rfl (pz_a2 rfl pz_S13) ?_
    refine pz_j1 [.inl 40, .inl (mi 13 12)] 43 rfl rfl rfl rfl rfl ?_
    refine pz_j1 [] (bif pz_cp .gt (mi 13 12) 40 then 181 else 46) rfl rfl rfl rfl rfl ?_
    refine pz_Rn_if pz_c1_gt pz_c0_gt ⟨fun b7 => ?_, fun b7 => ?_⟩
    · replace K := K.1 b7
      refine pz_j1 [.inr (.inr (some q1))] 182 rfl rfl rfl rfl rfl ?_
      exact pz_Rn_ret rfl rfl rfl rfl K
    · replace K := K.2 b7
      refine pz_j1 [.inr (.inr (some 13))] 47 rfl rfl rfl rfl rfl ?_
      refine pz_j1 [.inl (mi 13 12)] 50 rfl rfl rfl rfl (pz_a2 rfl pz_S13) ?_
      refine pz_j1 [.inl 6, .inl (mi 13 12)] 52 rfl rfl rfl rfl rfl ?_
      obtain ⟨k8, K⟩ := K
      refine pz_j1 [.inl ((mi 13 12) * 6)] 53 rfl rfl rfl rfl (pz_ok_in k8) ?_
      obtain ⟨x9, hx9⟩ : ∃ x : Int, x = (mi 13 12) * 6 := ⟨_, rfl⟩
      rewrite [← hx9]
      replace K := K x9 hx9
      refine pz_j2 [] [(4, .inl x9), (3, .inl x5), (2, .inl x2), (0, .inr (.inr (some 13))), (1, .inr (.inr (some q1)))] 55 rfl rfl rfl rfl rfl ?_
      refine pz_j1 [.inr (.inr (some 13))] 56 rfl rfl rfl rfl rfl ?_
      refine pz_j1 [.inr (.inr (some 150))] 59 rfl rfl rfl rfl (pz_a2 rfl pz_S13) ?_
      refine pz_j1 [.inr (.inr (some q1)), .inr (.inr (some 150))] 60 rfl rfl rfl rfl rfl ?_
      refine pz_j1 [.inr (.inr (pz_ov mr q1 5)), .inr (.inr (some 150))] 63 rfl rfl rfl rfl (pz_a2 rfl (pz_nd_is nq1)) ?_
      rewrite [pz_ov_n5 nq1]
      refine pz_j1 [.inl (mi (q1 + 1) 0), .inr (.inr (some 150))] 66 rfl rfl rfl rfl (pz_a2 rfl (pz_sd_is (pz_nd_sd nq1))) ?_
      refine pz_j3 [] [(4, .inl x9), (3, .inl x5), (2, .inl x2), (0, .inr (.inr (some 13))), (1, .inr (.inr (some q1)))] (pz_hp n0 (pz_up mi 150 6 (mi (q1 + 1) 0)) ml mr c s) 69 rfl rfl rfl rfl (pz_a2 rfl (pz_a2 pz_S150 (pz_a2 rfl rfl))) ?_
      refine pz_j1 [.inr (.inr (some 13))] 70 rfl rfl rfl rfl rfl ?_
      refine pz_j1 [.inr (.inr (some 150))] 73 rfl rfl rfl rfl (pz_a2 rfl pz_S13) ?_
      refine pz_j1 [.inl x9, .inr (.inr (some 150))] 75 rfl rfl rfl rfl rfl ?_
      refine pz_j1 [.inr (.inr (some q1)), .inl x9, .inr (.inr (some 150))] 76 rfl rfl rfl rfl rfl ?_
      refine pz_j1 [.inl ((pz_up mi 150 6 (mi (q1 + 1) 0)) q1 4), .inl x9, .inr (.inr (some 150))] 79 rfl rfl rfl rfl (pz_a2 rfl (pz_nd_is nq1)) ?_
      refine pz_j1 [.inr (.inr (some 13)), .inl ((pz_up mi 150 6 (mi (q1 + 1) 0)) q1 4), .inl x9, .inr (.inr (some 150))] 80 rfl rfl rfl rfl rfl ?_
      refine pz_j1 [.inr (.inr (some 6)), .inl ((pz_up mi 150 6 (mi (q1 + 1) 0)) q1 4), .inl x9, .inr (.inr (some 150))] 83 rfl rfl rfl rfl (pz_a2 rfl pz_S13) ?_
      refine pz_j1 [.inr (.inr (some 8)), .inl ((pz_up mi 150 6 (mi (q1 + 1) 0)) q1 4), .inl x9, .inr (.inr (some 150))] 86 rfl rfl rfl rfl (pz_a2 rfl pz_S6) ?_
      refine pz_j1 [.inl x2, .inr (.inr (some 8)), .inl ((pz_up mi 150 6 (mi (q1 + 1) 0)) q1 4), .inl x9, .inr (.inr (some 150))] 87 rfl rfl rfl rfl rfl ?_
      obtain ⟨k10, K⟩ := K
      refine pz_j1 [.inl (mi 8 ((x2).toNat)), .inl ((pz_up mi 150 6 (mi (q1 + 1) 0)) q1 4), .inl x9, .inr (.inr (some 150))] 88 rfl rfl rfl rfl (pz_a2 rfl (pz_ok_ixs pz_S8 k10)) ?_
      refine pz_Rn_sub (L := [(0, .inr (.inr (some 13))), (1, .inr (.inr (some q1))), (2, .inl x2), (3, .inl x5), (4, .inl x9)]) [3, 4, 2, 1, 0] rfl rfl ?_
      exact pz_Rn_k (y := 43) rfl rfl rfl rfl rfl rfl rfl rfl rfl K
  · replace K := K.2 b6
    refine pz_j1 [.inr (.inr (some 13))] 28 rfl rfl rfl rfl rfl ?_
    refine pz_j1 [.inr (.inr (some 14))] 31 rfl rfl rfl rfl (pz_a2 rfl pz_S13) ?_
    refine pz_j1 [.inr (.inr (some q1)), .inr (.inr (some 14))] 32 rfl rfl rfl rfl rfl ?_
    refine pz_Rn_sub (L := []) [] rfl rfl ?_
    exact pz_Rn_k (y := 42) rfl rfl rfl rfl rfl rfl rfl rfl (pz_cok_v rfl rfl pz_S14) K
theorem pz_g46_35   (K : Q (.inl (some (.inr (.inr none)))) (pz_hp n0 mi ml mr c s)) : pz_Rn (d + 1) 46 (35, [], [], pz_hp n0 mi ml mr c s, true) Q := by
  refine pz_j1 [.inr (.inr none)] 36 rfl rfl rfl rfl rfl ?_
  exact pz_Rn_ret rfl rfl rfl rfl K
theorem pz_g46_91 {a1 : Option Nat} {a2 : Int} {a3 : Int} {a4 : Int} {t1 : Int} {t2 : Int}  (K : pz_Rn d 45 (0, [], [(0, .inr (.inr (some 150))), (1, .inl t1), (2, .inl t2)], pz_hp n0 mi ml mr c s, true) (pz_K (d + 1) 46 91 [] [(0, .inr (.inr (some 13))), (1, .inr (.inr a1)), (2, .inl a2), (3, .inl a3), (4, .inl a4)] Q true)) : pz_Rn (d + 1) 46 (91, [.inl t2, .inl t1, .inr (.inr (some 150))], [(0, .inr (.inr (some 13))), (1, .inr (.inr a1)), (2, .inl a2), (3, .inl a3), (4, .inl a4)], pz_hp n0 mi ml mr c s, true) Q := by
  exact pz_Rn_k (y := 44) rfl rfl rfl rfl rfl rfl rfl rfl (pz_cok_v rfl rfl pz_S150) K
theorem pz_g46_94 {a1 : Option Nat} {a2 : Int} {a3 : Int} {a4 : Int}  (K : (-2147483648 ≤ a4 + 1 ∧ a4 + 1 ≤ 2147483647) ∧ ∃ q2, a1 = some q2 ∧ pz_nd q2 ∧ (0 ≤ a2 ∧ a2 < 40) ∧ pz_Rn d 44 (0, [], [(0, .inl (mi q2 4)), (1, .inl (mi 9 ((a2).toNat)))], pz_hp n0 mi ml mr c s, true) (pz_K (d + 1) 46 115 [.inl (a4 + 1), .inr (.inr (some 150))] [(0, .inr (.inr (some 13))), (1, .inr (.inr (some q2))), (2, .inl a2), (3, .inl a3), (4, .inl a4)] Q true)) : pz_Rn (d + 1) 46 (94, [], [(0, .inr (.inr (some 13))), (1, .inr (.inr a1)), (2, .inl a2), (3, .inl a3), (4, .inl a4)], pz_hp n0 mi ml mr c s, true) Q := by
  refine pz_j1 [.inr (.inr (some 13))] 95 rfl rfl rfl rfl rfl ?_
  refine pz_j1 [.inr (.inr (some 150))] 98 rfl rfl rfl rfl (pz_a2 rfl pz_S13) ?_
  refine pz_j1 [.inl a4, .inr (.inr (some 150))] 100 rfl rfl rfl rfl rfl ?_
  refine pz_j1 [.inl 1, .inl a4, .inr (.inr (some 150))] 101 rfl rfl rfl rfl rfl ?_
  obtain ⟨k1, K⟩ := K
  refine pz_j1 [.inl (a4 + 1), .inr (.inr (some 150))] 102 rfl rfl rfl rfl (pz_ok_in k1) ?_
  refine pz_j1 [.inr (.inr a1), .inl (a4 + 1), .inr (.inr (some 150))] 103 rfl rfl rfl rfl rfl ?_
  obtain ⟨q2, eq2, nq2, K⟩ := K
  rewrite [eq2]
  refine pz_j1 [.inl (mi q2 4), .inl (a4 + 1), .inr (.inr (some 150))] 106 rfl rfl rfl rfl (pz_a2 rfl (pz_nd_is nq2)) ?_
  refine pz_j1 [.inr (.inr (some 13)), .inl (mi q2 4), .inl (a4 + 1), .inr (.inr (some 150))] 107 rfl rfl rfl rfl rfl ?_
  refine pz_j1 [.inr (.inr (some 6)), .inl (mi q2 4), .inl (a4 + 1), .inr (.inr (some 150))] 110 rfl rfl rfl rfl (pz_a2 rfl pz_S13) ?_
  refine pz_j1 [.inr (.inr (some 9)), .inl (mi q2 4), .inl (a4 + 1), .inr (.inr (some 150))] 113 rfl rfl rfl rfl (pz_a2 rfl pz_S6) ?_
  refine pz_j1 [.inl a2, .inr (.inr (some 9)), .inl (mi q2 4), .inl (a4 + 1), .inr (.inr (some 150))] 114 rfl rfl rfl rfl rfl ?_
  obtain ⟨k3, K⟩ := K
  refine pz_j1 [.inl (mi 9 ((a2).toNat)), .inl (mi q2 4), .inl (a4 + 1), .inr (.inr (some 150))] 115 rfl rfl rfl rfl (pz_a2 rfl (pz_ok_ixs pz_S9 k3)) ?_
  exact pz_Rn_k (y := 43) rfl rfl rfl rfl rfl rfl rfl rfl rfl K
theorem pz_g46_118 {a1 : Option Nat} {a2 : Int} {a3 : Int} {a4 : Int} {t1 : Int} {t2 : Int}  (K : pz_Rn d 45 (0, [], [(0, .inr (.inr (some 150))), (1, .inl t1), (2, .inl t2)], pz_hp n0 mi ml mr c s, true) (pz_K (d + 1) 46 118 [] [(0, .inr (.inr (some 13))), (1, .inr (.inr a1)), (2, .inl a2), (3, .inl a3), (4, .inl a4)] Q true)) : pz_Rn (d + 1) 46 (118, [.inl t2, .inl t1, .inr (.inr (some 150))], [(0, .inr (.inr (some 13))), (1, .inr (.inr a1)), (2, .inl a2), (3, .inl a3), (4, .inl a4)], pz_hp n0 mi ml mr c s, true) Q := by
  exact pz_Rn_k (y := 44) rfl rfl rfl rfl rfl rfl rfl rfl (pz_cok_v rfl rfl pz_S150) K
theorem pz_g46_121 {a1 : Option Nat} {a2 : Int} {a3 : Int} {a4 : Int}  (K : (-2147483648 ≤ a4 + 2 ∧ a4 + 2 ≤ 2147483647) ∧ ∃ q2, a1 = some q2 ∧ pz_nd q2 ∧ (0 ≤ a2 ∧ a2 < 40) ∧ pz_Rn d 44 (0, [], [(0, .inl (mi q2 4)), (1, .inl (mi 10 ((a2).toNat)))], pz_hp n0 mi ml mr c s, true) (pz_K (d + 1) 46 142 [.inl (a4 + 2), .inr (.inr (some 150))] [(0, .inr (.inr (some 13))), (1, .inr (.inr (some q2))), (3, .inl a3)] Q true)) : pz_Rn (d + 1) 46 (121, [], [(0, .inr (.inr (some 13))), (1, .inr (.inr a1)), (2, .inl a2), (3, .inl a3), (4, .inl a4)], pz_hp n0 mi ml mr c s, true) Q := by
  refine pz_j1 [.inr (.inr (some 13))] 122 rfl rfl rfl rfl rfl ?_
  refine pz_j1 [.inr (.inr (some 150))] 125 rfl rfl rfl rfl (pz_a2 rfl pz_S13) ?_
  refine pz_j1 [.inl a4, .inr (.inr (some 150))] 127 rfl rfl rfl rfl rfl ?_
  refine pz_j1 [.inl 2, .inl a4, .inr (.inr (some 150))] 128 rfl rfl rfl rfl rfl ?_
  obtain ⟨k1, K⟩ := K
  refine pz_j1 [.inl (a4 + 2), .inr (.inr (some 150))] 129 rfl rfl rfl rfl (pz_ok_in k1) ?_
  refine pz_j1 [.inr (.inr a1), .inl (a4 + 2), .inr (.inr (some 150))] 130 rfl rfl rfl rfl rfl ?_
  obtain ⟨q2, eq2, nq2, K⟩ := K
  rewrite [eq2]
  refine pz_j1 [.inl (mi q2 4), .inl (a4 + 2), .inr (.inr (some 150))] 133 rfl rfl rfl rfl (pz_a2 rfl (pz_nd_is nq2)) ?_
  refine pz_j1 [.inr (.inr (some 13)), .inl (mi q2 4), .inl (a4 + 2), .inr (.inr (some 150))] 134 rfl rfl rfl rfl rfl ?_
  refine pz_j1 [.inr (.inr (some 6)), .inl (mi q2 4), .inl (a4 + 2), .inr (.inr (some 150))] 137 rfl rfl rfl rfl (pz_a2 rfl pz_S13) ?_
  refine pz_j1 [.inr (.inr (some 10)), .inl (mi q2 4), .inl (a4 + 2), .inr (.inr (some 150))] 140 rfl rfl rfl rfl (pz_a2 rfl pz_S6) ?_
  refine pz_j1 [.inl a2, .inr (.inr (some 10)), .inl (mi q2 4), .inl (a4 + 2), .inr (.inr (some 150))] 141 rfl rfl rfl rfl rfl ?_
  obtain ⟨k3, K⟩ := K
  refine pz_j1 [.inl (mi 10 ((a2).toNat)), .inl (mi q2 4), .inl (a4 + 2), .inr (.inr (some 150))] 142 rfl rfl rfl rfl (pz_a2 rfl (pz_ok_ixs pz_S10 k3)) ?_
  refine pz_Rn_sub (L := [(0, .inr (.inr (some 13))), (1, .inr (.inr (some q2))), (3, .inl a3)]) [0, 1, 3] rfl rfl ?_
  exact pz_Rn_k (y := 43) rfl rfl rfl rfl rfl rfl rfl rfl rfl K
theorem pz_g46_145 {a1 : Option Nat} {a3 : Int} {t1 : Int} {t2 : Int}  (K : pz_Rn d 45 (0, [], [(0, .inr (.inr (some 150))), (1, .inl t1), (2, .inl t2)], pz_hp n0 mi ml mr c s, true) (pz_K (d + 1) 46 145 [] [(0, .inr (.inr (some 13))), (1, .inr (.inr a1)), (3, .inl a3)] Q true)) : pz_Rn (d + 1) 46 (145, [.inl t2, .inl t1, .inr (.inr (some 150))], [(0, .inr (.inr (some 13))), (1, .inr (.inr a1)), (3, .inl a3)], pz_hp n0 mi ml mr c s, true) Q := by
  exact pz_Rn_k (y := 44) rfl rfl rfl rfl rfl rfl rfl rfl (pz_cok_v rfl rfl pz_S150) K
theorem pz_g46_148 {a1 : Option Nat} {a3 : Int}  (K : ∃ q1, a1 = some q1 ∧ pz_nd q1 ∧ pz_Rn d 32 (0, [], [(0, .inr (.inr (some q1))), (1, .inl a3), (2, .inl ((pz_up mi (q1 + 1) 0 (mi 150 6)) 13 12))], pz_hp n0 (pz_up mi (q1 + 1) 0 (mi 150 6)) ml mr c s, true) (pz_K (d + 1) 46 168 [] [(0, .inr (.inr (some 13))), (1, .inr (.inr (some q1)))] Q true)) : pz_Rn (d + 1) 46 (148, [], [(0, .inr (.inr (some 13))), (1, .inr (.inr a1)), (3, .inl a3)], pz_hp n0 mi ml mr c s, true) Q := by
  refine pz_j1 [.inr (.inr a1)] 149 rfl rfl rfl rfl rfl ?_
  obtain ⟨q1, eq1, nq1, K⟩ := K
  rewrite [eq1]
  refine pz_j1 [.inr (.inr (pz_ov mr q1 5))] 152 rfl rfl rfl rfl (pz_a2 rfl (pz_nd_is nq1)) ?_
  rewrite [pz_ov_n5 nq1]
  refine pz_j1 [.inr (.inr (some 13)), .inr (.inr (some (q1 + 1)))] 153 rfl rfl rfl rfl rfl ?_
  refine pz_j1 [.inr (.inr (some 150)), .inr (.inr (some (q1 + 1)))] 156 rfl rfl rfl rfl (pz_a2 rfl pz_S13) ?_
  refine pz_j1 [.inl (mi 150 6), .inr (.inr (some (q1 + 1)))] 159 rfl rfl rfl rfl (pz_a2 rfl pz_S150) ?_
  refine pz_j3 [] [(0, .inr (.inr (some 13))), (1, .inr (.inr (some q1))), (3, .inl a3)] (pz_hp n0 (pz_up mi (q1 + 1) 0 (mi 150 6)) ml mr c s) 162 rfl rfl rfl rfl (pz_a2 rfl (pz_a2 (pz_sd_is (pz_nd_sd nq1)) (pz_a2 rfl rfl))) ?_
  refine pz_j1 [.inr (.inr (some q1))] 163 rfl rfl rfl rfl rfl ?_
  refine pz_j1 [.inl a3, .inr (.inr (some q1))] 164 rfl rfl rfl rfl rfl ?_
  refine pz_j1 [.inr (.inr (some 13)), .inl a3, .inr (.inr (some q1))] 165 rfl rfl rfl rfl rfl ?_
  refine pz_j1 [.inl ((pz_up mi (q1 + 1) 0 (mi 150 6)) 13 12), .inl a3, .inr (.inr (some q1))] 168 rfl rfl rfl rfl (pz_a2 rfl pz_S13) ?_
  refine pz_Rn_sub (L := [(0, .inr (.inr (some 13))), (1, .inr (.inr (some q1)))]) [0, 1] rfl rfl ?_
  exact pz_Rn_k (y := 31) rfl rfl rfl rfl rfl rfl rfl rfl (pz_cok_v rfl rfl (pz_nd_is nq1)) K
theorem pz_g46_171 {a1 : Option Nat}  (K : (-2147483648 ≤ (mi 13 12) + 1 ∧ (mi 13 12) + 1 ≤ 2147483647) ∧ Q (.inl (some (.inr (.inr a1)))) (pz_hp n0 (pz_up mi 13 12 ((mi 13 12) + 1)) ml mr c s)) : pz_Rn (d + 1) 46 (171, [], [(0, .inr (.inr (some 13))), (1, .inr (.inr a1))], pz_hp n0 mi ml mr c s, true) Q := by
  refine pz_j1 [.inr (.inr (some 13))] 172 rfl rfl rfl rfl rfl ?_
  refine pz_j1 [.inr (.inr (some 13)), .inr (.inr (some 13))] 173 rfl rfl rfl rfl rfl ?_
  refine pz_j1 [.inl (mi 13 12), .inr (.inr (some 13))] 176 rfl rfl rfl rfl (pz_a2 rfl pz_S13) ?_
  refine pz_j1 [.inl 1, .inl (mi 13 12), .inr (.inr (some 13))] 177 rfl rfl rfl rfl rfl ?_
  obtain ⟨k1, K⟩ := K
  refine pz_j1 [.inl ((mi 13 12) + 1), .inr (.inr (some 13))] 178 rfl rfl rfl rfl (pz_ok_in k1) ?_
  refine pz_j3 [] [(0, .inr (.inr (some 13))), (1, .inr (.inr a1))] (pz_hp n0 (pz_up mi 13 12 ((mi 13 12) + 1)) ml mr c s) 181 rfl rfl rfl rfl (pz_a2 rfl (pz_a2 pz_S13 (pz_a2 rfl rfl))) ?_
  refine pz_j1 [.inr (.inr a1)] 182 rfl rfl rfl rfl rfl ?_
  exact pz_Rn_ret rfl rfl rfl rfl K
-- 47 RelationStream$Bindings.spreadOut(I)V
theorem pz_g47_0 {a1 : Int}  (K : pz_Rn d 25 (0, [], [(0, .inr (.inr (some 154))), (1, .inl (-1))], pz_hp n0 mi ml mr c s, true) (pz_K (d + 1) 47 5 [] [(0, .inr (.inr (some 150))), (1, .inl a1)] Q true)) : pz_Rn (d + 1) 47 (0, [], [(0, .inr (.inr (some 150))), (1, .inl a1)], pz_hp n0 mi ml mr c s, true) Q := by
  refine pz_j1 [.inr (.inr (some 150))] 1 rfl rfl rfl rfl rfl ?_
  refine pz_j1 [.inr (.inr (some 154))] 4 rfl rfl rfl rfl (pz_a2 rfl pz_S150) ?_
  refine pz_j1 [.inl (-1), .inr (.inr (some 154))] 5 rfl rfl rfl rfl rfl ?_
  exact pz_Rn_k (y := 24) rfl rfl rfl rfl rfl rfl rfl rfl rfl K
theorem pz_g47_8 {a1 : Int}  (K : pz_Rn (d + 1) 47 (17, [], [(0, .inr (.inr (some 150))), (2, .inl a1), (3, .inl 0)], pz_hp n0 (pz_up mi 150 6 a1) ml mr c s, true) Q) : pz_Rn (d + 1) 47 (8, [], [(0, .inr (.inr (some 150))), (1, .inl a1)], pz_hp n0 mi ml mr c s, true) Q := by
  refine pz_j1 [.inr (.inr (some 150))] 9 rfl rfl rfl rfl rfl ?_
  refine pz_j1 [.inl a1, .inr (.inr (some 150))] 10 rfl rfl rfl rfl rfl ?_
  refine pz_j3 [] [(0, .inr (.inr (some 150))), (1, .inl a1)] (pz_hp n0 (pz_up mi 150 6 a1) ml mr c s) 13 rfl rfl rfl rfl (pz_a2 rfl (pz_a2 pz_S150 (pz_a2 rfl rfl))) ?_
  refine pz_j1 [.inl a1] 14 rfl rfl rfl rfl rfl ?_
  refine pz_j2 [] [(2, .inl a1), (0, .inr (.inr (some 150))), (1, .inl a1)] 15 rfl rfl rfl rfl rfl ?_
  refine pz_j1 [.inl 0] 16 rfl rfl rfl rfl rfl ?_
  refine pz_j2 [] [(3, .inl 0), (2, .inl a1), (0, .inr (.inr (some 150))), (1, .inl a1)] 17 rfl rfl rfl rfl rfl ?_
  refine pz_Rn_sub (L := [(0, .inr (.inr (some 150))), (2, .inl a1), (3, .inl 0)]) [2, 1, 0] rfl rfl ?_
  exact K
theorem pz_g47_17 {a2 : Int} {a3 : Int}  (K : ((246 ≤ a3 → Q (.inl none) (pz_hp n0 mi ml mr c s)) ∧ (a3 < 246 → ((a2 < 0 → Q (.inl none) (pz_hp n0 mi ml mr c s)) ∧ (0 ≤ a2 → (0 ≤ a2 ∧ a2 < 1001) ∧ (0 ≤ a2 ∧ a2 < 1001) ∧ (0 ≤ mi 151 ((a2).toNat) ∧ mi 151 ((a2).toNat) < 246) ∧ (0 ≤ a2 ∧ a2 < 1001) ∧ ∀ x7 : Int, x7 = mi 153 ((a2).toNat) → (-2147483648 ≤ a3 + 1 ∧ a3 + 1 ≤ 2147483647) ∧ pz_Rn (d + 1) 47 (17, [], [(0, .inr (.inr (some 150))), (2, .inl x7), (3, .inl (a3 + 1))], pz_hp n0 (pz_up mi 154 ((mi 151 ((a2).toNat)).toNat) (mi 152 ((a2).toNat))) ml mr c s, true) Q))))) : pz_Rn (d + 1) 47 (17, [], [(0, .inr (.inr (some 150))), (2, .inl a2), (3, .inl a3)], pz_hp n0 mi ml mr c s, true) Q := by
  refine pz_j1 [.inl a3] 18 rfl rfl rfl rfl rfl ?_
  refine pz_j1 [.inl 246, .inl a3] 21 rfl rfl rfl rfl rfl ?_
  refine pz_j1 [] (bif pz_cp .ge a3 246 then 58 else 24) rfl rfl rfl rfl rfl ?_
  refine pz_Rn_if pz_c1_ge pz_c0_ge ⟨fun b1 => ?_, fun b1 => ?_⟩
  · replace K := K.1 b1
    exact pz_Rn_ret rfl rfl rfl rfl K
  · replace K := K.2 b1
    refine pz_j1 [.inl a2] 25 rfl rfl rfl rfl rfl ?_
    refine pz_j1 [] (bif pz_cp .lt a2 0 then 58 else 28) rfl rfl rfl rfl rfl ?_
    refine pz_Rn_if pz_c1_lt pz_c0_lt ⟨fun b2 => ?_, fun b2 => ?_⟩
    · replace K := K.1 b2
      exact pz_Rn_ret rfl rfl rfl rfl K
    · replace K := K.2 b2
      refine pz_j1 [.inr (.inr (some 150))] 29 rfl rfl rfl rfl rfl ?_
      refine pz_j1 [.inr (.inr (some 154))] 32 rfl rfl rfl rfl (pz_a2 rfl pz_S150) ?_
      refine pz_j1 [.inr (.inr (some 150)), .inr (.inr (some 154))] 33 rfl rfl rfl rfl rfl ?_
      refine pz_j1 [.inr (.inr (some 151)), .inr (.inr (some 154))] 36 rfl rfl rfl rfl (pz_a2 rfl pz_S150) ?_
      refine pz_j1 [.inl a2, .inr (.inr (some 151)), .inr (.inr (some 154))] 37 rfl rfl rfl rfl rfl ?_
      obtain ⟨k3, K⟩ := K
      refine pz_j1 [.inl (mi 151 ((a2).toNat)), .inr (.inr (some 154))] 38 rfl rfl rfl rfl (pz_a2 rfl (pz_ok_ixs pz_S151 k3)) ?_
      refine pz_j1 [.inr (.inr (some 150)), .inl (mi 151 ((a2).toNat)), .inr (.inr (some 154))] 39 rfl rfl rfl rfl rfl ?_
      refine pz_j1 [.inr (.inr (some 152)), .inl (mi 151 ((a2).toNat)), .inr (.inr (some 154))] 42 rfl rfl rfl rfl (pz_a2 rfl pz_S150) ?_
      refine pz_j1 [.inl a2, .inr (.inr (some 152)), .inl (mi 151 ((a2).toNat)), .inr (.inr (some 154))] 43 rfl rfl rfl rfl rfl ?_
      obtain ⟨k4, K⟩ := K
      refine pz_j1 [.inl (mi 152 ((a2).toNat)), .inl (mi 151 ((a2).toNat)), .inr (.inr (some 154))] 44 rfl rfl rfl rfl (pz_a2 rfl (pz_ok_ixs pz_S152 k4)) ?_
      obtain ⟨k5, K⟩ := K
      refine pz_j3 [] [(0, .inr (.inr (some 150))), (2, .inl a2), (3, .inl a3)] (pz_hp n0 (pz_up mi 154 ((mi 151 ((a2).toNat)).toNat) (mi 152 ((a2).toNat))) ml mr c s) 45 rfl rfl rfl rfl (pz_a2 rfl (pz_ok_ix pz_S154 k5)) ?_
      refine pz_j1 [.inr (.inr (some 150))] 46 rfl rfl rfl rfl rfl ?_
      refine pz_j1 [.inr (.inr (some 153))] 49 rfl rfl rfl rfl (pz_a2 rfl pz_S150) ?_
      refine pz_j1 [.inl a2, .inr (.inr (some 153))] 50 rfl rfl rfl rfl rfl ?_
      obtain ⟨k6, K⟩ := K
      refine pz_j1 [.inl (mi 153 ((a2).toNat))] 51 rfl rfl rfl rfl (pz_a2 rfl (pz_ok_ixs pz_S153 k6)) ?_
      obtain ⟨x7, hx7⟩ : ∃ x : Int, x = mi 153 ((a2).toNat) := ⟨_, rfl⟩
      rewrite [← hx7]
      replace K := K x7 hx7
      refine pz_j2 [] [(2, .inl x7), (0, .inr (.inr (some 150))), (3, .inl a3)] 52 rfl rfl rfl rfl rfl ?_
      obtain ⟨k8, K⟩ := K
      refine pz_j2 [] [(3, .inl (a3 + 1)), (2, .inl x7), (0, .inr (.inr (some 150)))] 55 rfl rfl rfl rfl (pz_a2 (pz_ok_in k8) rfl) ?_
      refine pz_j1 [] 17 rfl rfl rfl rfl rfl ?_
      refine pz_Rn_sub (L := [(0, .inr (.inr (some 150))), (2, .inl x7), (3, .inl (a3 + 1))]) [2, 1, 0] rfl rfl ?_
      exact K
-- 48 RelationStream$Bindings.isOver()Z
theorem pz_g48_0   (K : ((mi 150 5 ≤ 1000 → Q (.inl (some (.inl 0))) (pz_hp n0 mi ml mr c s)) ∧ (1000 < mi 150 5 → Q (.inl (some (.inl 1))) (pz_hp n0 mi ml mr c s)))) : pz_Rn d 48 (0, [], [(0, .inr (.inr (some 150)))], pz_hp n0 mi ml mr c s, true) Q := by
  refine pz_j1 [.inr (.inr (some 150))] 1 rfl rfl rfl rfl rfl ?_
  refine pz_j1 [.inl (mi 150 5)] 4 rfl rfl rfl rfl (pz_a2 rfl pz_S150) ?_
  refine pz_j1 [.inl 1000, .inl (mi 150 5)] 7 rfl rfl rfl rfl rfl ?_
  refine pz_j1 [] (bif pz_cp .le (mi 150 5) 1000 then 14 else 10) rfl rfl rfl rfl rfl ?_
  refine pz_Rn_if pz_c1_le pz_c0_le ⟨fun b1 => ?_, fun b1 => ?_⟩
  · replace K := K.1 b1
    refine pz_j1 [.inl 0] 15 rfl rfl rfl rfl rfl ?_
    exact pz_Rn_ret rfl rfl rfl rfl K
  · replace K := K.2 b1
    refine pz_j1 [.inl 1] 11 rfl rfl rfl rfl rfl ?_
    refine pz_j1 [.inl 1] 15 rfl rfl rfl rfl rfl ?_
    exact pz_Rn_ret rfl rfl rfl rfl K
-- 49 RelationStream$Bindings.find(I)I
theorem pz_g49_0 {a1 : Int}  (K : pz_Rn d 49 (4, [], [(0, .inr (.inr (some 150))), (2, .inl a1), (3, .inl 0)], pz_hp n0 mi ml mr c s, true) Q) : pz_Rn d 49 (0, [], [(0, .inr (.inr (some 150))), (1, .inl a1)], pz_hp n0 mi ml mr c s, true) Q := by
  refine pz_j1 [.inl a1] 1 rfl rfl rfl rfl rfl ?_
  refine pz_j2 [] [(2, .inl a1), (0, .inr (.inr (some 150))), (1, .inl a1)] 2 rfl rfl rfl rfl rfl ?_
  refine pz_j1 [.inl 0] 3 rfl rfl rfl rfl rfl ?_
  refine pz_j2 [] [(3, .inl 0), (2, .inl a1), (0, .inr (.inr (some 150))), (1, .inl a1)] 4 rfl rfl rfl rfl rfl ?_
  refine pz_Rn_sub (L := [(0, .inr (.inr (some 150))), (2, .inl a1), (3, .inl 0)]) [2, 1, 0] rfl rfl ?_
  exact K
theorem pz_g49_4 {a2 : Int} {a3 : Int}  (K : ((246 ≤ a3 → Q (.inl (some (.inl a2))) (pz_hp n0 mi ml mr c s)) ∧ (a3 < 246 → 0 ≤ a2 ∧ ∀ x3 : Int, x3 = a2 % 41 → (0 ≤ x3 ∧ x3 < 41) ∧ ((mi 3 ((x3).toNat) = 1 → 0 ≤ a2 ∧ (-2147483648 ≤ (a2 / 41) * 6 ∧ (a2 / 41) * 6 ≤ 2147483647) ∧ (0 ≤ x3 ∧ x3 < 41) ∧ (-2147483648 ≤ ((a2 / 41) * 6) + (mi 4 ((x3).toNat)) ∧ ((a2 / 41) * 6) + (mi 4 ((x3).toNat)) ≤ 2147483647) ∧ (0 ≤ ((a2 / 41) * 6) + (mi 4 ((x3).toNat)) ∧ ((a2 / 41) * 6) + (mi 4 ((x3).toNat)) < 246) ∧ ∀ x11 : Int, x11 = mi 154 ((((a2 / 41) * 6) + (mi 4 ((x3).toNat))).toNat) → ((0 ≤ x11 → (-2147483648 ≤ a3 + 1 ∧ a3 + 1 ≤ 2147483647) ∧ pz_Rn d 49 (4, [], [(0, .inr (.inr (some 150))), (2, .inl x11), (3, .inl (a3 + 1))], pz_hp n0 mi ml mr c s, true) Q) ∧ (x11 < 0 → Q (.inl (some (.inl a2))) (pz_hp n0 mi ml mr c s)))) ∧ (mi 3 ((x3).toNat) ≠ 1 → Q (.inl (some (.inl a2))) (pz_hp n0 mi ml mr c s)))))) : pz_Rn d 49 (4, [], [(0, .inr (.inr (some 150))), (2, .inl a2), (3, .inl a3)], pz_hp n0 mi ml mr c s, true) Q := by
  refine pz_j1 [.inl a3] 5 rfl rfl rfl rfl rfl ?_
  refine pz_j1 [.inl 246, .inl a3] 8 rfl rfl rfl rfl rfl ?_
  refine pz_j1 [] (bif pz_cp .ge a3 246 then 74 else 11) rfl rfl rfl rfl rfl ?_
  refine pz_Rn_if pz_c1_ge pz_c0_ge ⟨fun b1 => ?_, fun b1 => ?_⟩
  · replace K := K.1 b1
    refine pz_j1 [.inl a2] 75 rfl rfl rfl rfl rfl ?_
    exact pz_Rn_ret rfl rfl rfl rfl K
  · replace K := K.2 b1
    refine pz_j1 [.inl a2] 12 rfl rfl rfl rfl rfl ?_
    refine pz_j1 [.inl 41, .inl a2] 14 rfl rfl rfl rfl rfl ?_
    obtain ⟨k2, K⟩ := K
    refine pz_j1 [.inl (a2 % 41)] 15 rfl rfl rfl rfl (pz_ok_dv ⟨k2, by decide⟩) ?_
    obtain ⟨x3, hx3⟩ : ∃ x : Int, x = a2 % 41 := ⟨_, rfl⟩
    rewrite [← hx3]
    replace K := K x3 hx3
    refine pz_j2 [] [(4, .inl x3), (0, .inr (.inr (some 150))), (2, .inl a2), (3, .inl a3)] 17 rfl rfl rfl rfl rfl ?_
    refine pz_j1 [.inr (.inr (some 150))] 18 rfl rfl rfl rfl rfl ?_
    refine pz_j1 [.inr (.inr (some 2))] 21 rfl rfl rfl rfl (pz_a2 rfl pz_S150) ?_
    refine pz_j1 [.inr (.inr (some 3))] 24 rfl rfl rfl rfl (pz_a2 rfl pz_S2) ?_
    refine pz_j1 [.inl x3, .inr (.inr (some 3))] 26 rfl rfl rfl rfl rfl ?_
    obtain ⟨k4, K⟩ := K
    refine pz_j1 [.inl (mi 3 ((x3).toNat))] 27 rfl rfl rfl rfl (pz_a2 rfl (pz_ok_ixs pz_S3 k4)) ?_
    refine pz_j1 [.inl 1, .inl (mi 3 ((x3).toNat))] 28 rfl rfl rfl rfl rfl ?_
    refine pz_j1 [] (bif pz_cp .eq (mi 3 ((x3).toNat)) 1 then 33 else 31) rfl rfl rfl rfl rfl ?_
    refine pz_Rn_if pz_c1_eq pz_c0_eq ⟨fun b5 => ?_, fun b5 => ?_⟩
    · replace K := K.1 b5
      refine pz_j1 [.inr (.inr (some 150))] 34 rfl rfl rfl rfl rfl ?_
      refine pz_j1 [.inr (.inr (some 154))] 37 rfl rfl rfl rfl (pz_a2 rfl pz_S150) ?_
      refine pz_j1 [.inl a2, .inr (.inr (some 154))] 38 rfl rfl rfl rfl rfl ?_
      refine pz_j1 [.inl 41, .inl a2, .inr (.inr (some 154))] 40 rfl rfl rfl rfl rfl ?_
      obtain ⟨k6, K⟩ := K
      refine pz_j1 [.inl (a2 / 41), .inr (.inr (some 154))] 41 rfl rfl rfl rfl (pz_ok_dv ⟨k6, by decide⟩) ?_
      refine pz_j1 [.inl 6, .inl (a2 / 41), .inr (.inr (some 154))] 43 rfl rfl rfl rfl rfl ?_
      obtain ⟨k7, K⟩ := K
      refine pz_j1 [.inl ((a2 / 41) * 6), .inr (.inr (some 154))] 44 rfl rfl rfl rfl (pz_ok_in k7) ?_
      refine pz_j1 [.inr (.inr (some 150)), .inl ((a2 / 41) * 6), .inr (.inr (some 154))] 45 rfl rfl rfl rfl rfl ?_
      refine pz_j1 [.inr (.inr (some 2)), .inl ((a2 / 41) * 6), .inr (.inr (some 154))] 48 rfl rfl rfl rfl (pz_a2 rfl pz_S150) ?_
      refine pz_j1 [.inr (.inr (some 4)), .inl ((a2 / 41) * 6), .inr (.inr (some 154))] 51 rfl rfl rfl rfl (pz_a2 rfl pz_S2) ?_
      refine pz_j1 [.inl x3, .inr (.inr (some 4)), .inl ((a2 / 41) * 6), .inr (.inr (some 154))] 53 rfl rfl rfl rfl rfl ?_
      obtain ⟨k8, K⟩ := K
      refine pz_j1 [.inl (mi 4 ((x3).toNat)), .inl ((a2 / 41) * 6), .inr (.inr (some 154))] 54 rfl rfl rfl rfl (pz_a2 rfl (pz_ok_ixs pz_S4 k8)) ?_
      obtain ⟨k9, K⟩ := K
      refine pz_j1 [.inl (((a2 / 41) * 6) + (mi 4 ((x3).toNat))), .inr (.inr (some 154))] 55 rfl rfl rfl rfl (pz_ok_in k9) ?_
      obtain ⟨k10, K⟩ := K
      refine pz_j1 [.inl (mi 154 ((((a2 / 41) * 6) + (mi 4 ((x3).toNat))).toNat))] 56 rfl rfl rfl rfl (pz_a2 rfl (pz_ok_ixs pz_S154 k10)) ?_
      obtain ⟨x11, hx11⟩ : ∃ x : Int, x = mi 154 ((((a2 / 41) * 6) + (mi 4 ((x3).toNat))).toNat) := ⟨_, rfl⟩
      rewrite [← hx11]
      replace K := K x11 hx11
      refine pz_j2 [] [(5, .inl x11), (4, .inl x3), (0, .inr (.inr (some 150))), (2, .inl a2), (3, .inl a3)] 58 rfl rfl rfl rfl rfl ?_
      refine pz_j1 [.inl x11] 60 rfl rfl rfl rfl rfl ?_
      refine pz_j1 [] (bif pz_cp .ge x11 0 then 65 else 63) rfl rfl rfl rfl rfl ?_
      refine pz_Rn_if pz_c1_ge pz_c0_ge ⟨fun b12 => ?_, fun b12 => ?_⟩
      · replace K := K.1 b12
        refine pz_j1 [.inl x11] 67 rfl rfl rfl rfl rfl ?_
        refine pz_j2 [] [(2, .inl x11), (5, .inl x11), (4, .inl x3), (0, .inr (.inr (some 150))), (3, .inl a3)] 68 rfl rfl rfl rfl rfl ?_
        obtain ⟨k13, K⟩ := K
        refine pz_j2 [] [(3, .inl (a3 + 1)), (2, .inl x11), (5, .inl x11), (4, .inl x3), (0, .inr (.inr (some 150)))] 71 rfl rfl rfl rfl (pz_a2 (pz_ok_in k13) rfl) ?_
        refine pz_j1 [] 4 rfl rfl rfl rfl rfl ?_
        refine pz_Rn_sub (L := [(0, .inr (.inr (some 150))), (2, .inl x11), (3, .inl (a3 + 1))]) [4, 1, 0] rfl rfl ?_
        exact K
      · replace K := K.2 b12
        refine pz_j1 [.inl a2] 64 rfl rfl rfl rfl rfl ?_
        exact pz_Rn_ret rfl rfl rfl rfl K
    · replace K := K.2 b5
      refine pz_j1 [.inl a2] 32 rfl rfl rfl rfl rfl ?_
      exact pz_Rn_ret rfl rfl rfl rfl K
end pzgb
