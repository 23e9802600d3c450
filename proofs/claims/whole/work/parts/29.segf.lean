/-! Segments of methods, by wip/whole/gen/seg.py: from an entry, a loop's head or behind a call to the next stop. -/
section pzgf
variable {d n0 : Nat} {mi : Nat → Nat → Int} {ml : Nat → Nat → Int64} {mr : Nat → Nat → Option Nat} {c s : Nat} {Q : pz_O → pz_H → Prop}
-- 125 RelationStreamModel.has(II)Z
theorem pz_g125_0 {a1 : Int} {a2 : Int}  (K : ((64 ≤ a2 → (0 ≤ a1 ∧ a1 < 64) ∧ (-2147483648 ≤ a2 - 64 ∧ a2 - 64 ≤ 2147483647) ∧ ((pz_lc (((ml 181 ((a1).toNat)) >>> ((Int32.ofInt (a2 - 64)).toInt64 &&& 63)) &&& (Int64.ofNat 1)) (Int64.ofNat 1) ≠ 0 → Q (.inl (some (.inl 0))) (pz_hp n0 mi ml mr c s)) ∧ (pz_lc (((ml 181 ((a1).toNat)) >>> ((Int32.ofInt (a2 - 64)).toInt64 &&& 63)) &&& (Int64.ofNat 1)) (Int64.ofNat 1) = 0 → Q (.inl (some (.inl 1))) (pz_hp n0 mi ml mr c s)))) ∧ (a2 < 64 → (0 ≤ a1 ∧ a1 < 64) ∧ ((pz_lc (((ml 180 ((a1).toNat)) >>> ((Int32.ofInt a2).toInt64 &&& 63)) &&& (Int64.ofNat 1)) (Int64.ofNat 1) ≠ 0 → Q (.inl (some (.inl 0))) (pz_hp n0 mi ml mr c s)) ∧ (pz_lc (((ml 180 ((a1).toNat)) >>> ((Int32.ofInt a2).toInt64 &&& 63)) &&& (Int64.ofNat 1)) (Int64.ofNat 1) = 0 → Q (.inl (some (.inl 1))) (pz_hp n0 mi ml mr c s)))))) : pz_Rn d 125 (0, [], [(0, .inr (.inr (some 165))), (1, .inl a1), (2, .inl a2)], pz_hp n0 mi ml mr c s, true) Q := by
  refine pz_j1 [.inl a2] 1 rfl rfl rfl rfl rfl ?_
  refine pz_j1 [.inl 64, .inl a2] 3 rfl rfl rfl rfl rfl ?_
  refine pz_j1 [] (bif pz_cp .ge a2 64 then 17 else 6) rfl rfl rfl rfl rfl ?_
  refine pz_Rn_if pz_c1_ge pz_c0_ge ⟨fun b1 => ?_, fun b1 => ?_⟩
  · replace K := K.1 b1
    refine pz_j1 [.inr (.inr (some 165))] 18 rfl rfl rfl rfl rfl ?_
    refine pz_j1 [.inr (.inr (some 181))] 21 rfl rfl rfl rfl (pz_a2 rfl pz_S165) ?_
    refine pz_j1 [.inl a1, .inr (.inr (some 181))] 22 rfl rfl rfl rfl rfl ?_
    obtain ⟨k2, K⟩ := K
    refine pz_j1 [.inr (.inl (ml 181 ((a1).toNat)))] 23 rfl rfl rfl rfl (pz_a2 rfl (pz_ok_ix pz_S181 k2)) ?_
    refine pz_j1 [.inl a2, .inr (.inl (ml 181 ((a1).toNat)))] 24 rfl rfl rfl rfl rfl ?_
    refine pz_j1 [.inl 64, .inl a2, .inr (.inl (ml 181 ((a1).toNat)))] 26 rfl rfl rfl rfl rfl ?_
    obtain ⟨k3, K⟩ := K
    refine pz_j1 [.inl (a2 - 64), .inr (.inl (ml 181 ((a1).toNat)))] 27 rfl rfl rfl rfl (pz_ok_in k3) ?_
    refine pz_j1 [.inr (.inl ((ml 181 ((a1).toNat)) >>> ((Int32.ofInt (a2 - 64)).toInt64 &&& 63)))] 28 rfl rfl rfl rfl rfl ?_
    refine pz_j1 [.inr (.inl (Int64.ofNat 1)), .inr (.inl ((ml 181 ((a1).toNat)) >>> ((Int32.ofInt (a2 - 64)).toInt64 &&& 63)))] 29 rfl rfl rfl rfl rfl ?_
    refine pz_j1 [.inr (.inl (((ml 181 ((a1).toNat)) >>> ((Int32.ofInt (a2 - 64)).toInt64 &&& 63)) &&& (Int64.ofNat 1)))] 30 rfl rfl rfl rfl rfl ?_
    refine pz_j1 [.inr (.inl (Int64.ofNat 1)), .inr (.inl (((ml 181 ((a1).toNat)) >>> ((Int32.ofInt (a2 - 64)).toInt64 &&& 63)) &&& (Int64.ofNat 1)))] 31 rfl rfl rfl rfl rfl ?_
    refine pz_j1 [.inl (pz_lc (((ml 181 ((a1).toNat)) >>> ((Int32.ofInt (a2 - 64)).toInt64 &&& 63)) &&& (Int64.ofNat 1)) (Int64.ofNat 1))] 32 rfl rfl rfl rfl rfl ?_
    refine pz_j1 [] (bif pz_cp .ne (pz_lc (((ml 181 ((a1).toNat)) >>> ((Int32.ofInt (a2 - 64)).toInt64 &&& 63)) &&& (Int64.ofNat 1)) (Int64.ofNat 1)) 0 then 39 else 35) rfl rfl rfl rfl rfl ?_
    refine pz_Rn_if pz_c1_ne pz_c0_ne ⟨fun b4 => ?_, fun b4 => ?_⟩
    · replace K := K.1 b4
      refine pz_j1 [.inl 0] 40 rfl rfl rfl rfl rfl ?_
      exact pz_Rn_ret rfl rfl rfl rfl K
    · replace K := K.2 b4
      refine pz_j1 [.inl 1] 36 rfl rfl rfl rfl rfl ?_
      refine pz_j1 [.inl 1] 40 rfl rfl rfl rfl rfl ?_
      exact pz_Rn_ret rfl rfl rfl rfl K
  · replace K := K.2 b1
    refine pz_j1 [.inr (.inr (some 165))] 7 rfl rfl rfl rfl rfl ?_
    refine pz_j1 [.inr (.inr (some 180))] 10 rfl rfl rfl rfl (pz_a2 rfl pz_S165) ?_
    refine pz_j1 [.inl a1, .inr (.inr (some 180))] 11 rfl rfl rfl rfl rfl ?_
    obtain ⟨k5, K⟩ := K
    refine pz_j1 [.inr (.inl (ml 180 ((a1).toNat)))] 12 rfl rfl rfl rfl (pz_a2 rfl (pz_ok_ix pz_S180 k5)) ?_
    refine pz_j1 [.inl a2, .inr (.inl (ml 180 ((a1).toNat)))] 13 rfl rfl rfl rfl rfl ?_
    refine pz_j1 [.inr (.inl ((ml 180 ((a1).toNat)) >>> ((Int32.ofInt a2).toInt64 &&& 63)))] 14 rfl rfl rfl rfl rfl ?_
    refine pz_j1 [.inr (.inl ((ml 180 ((a1).toNat)) >>> ((Int32.ofInt a2).toInt64 &&& 63)))] 28 rfl rfl rfl rfl rfl ?_
    refine pz_j1 [.inr (.inl (Int64.ofNat 1)), .inr (.inl ((ml 180 ((a1).toNat)) >>> ((Int32.ofInt a2).toInt64 &&& 63)))] 29 rfl rfl rfl rfl rfl ?_
    refine pz_j1 [.inr (.inl (((ml 180 ((a1).toNat)) >>> ((Int32.ofInt a2).toInt64 &&& 63)) &&& (Int64.ofNat 1)))] 30 rfl rfl rfl rfl rfl ?_
    refine pz_j1 [.inr (.inl (Int64.ofNat 1)), .inr (.inl (((ml 180 ((a1).toNat)) >>> ((Int32.ofInt a2).toInt64 &&& 63)) &&& (Int64.ofNat 1)))] 31 rfl rfl rfl rfl rfl ?_
    refine pz_j1 [.inl (pz_lc (((ml 180 ((a1).toNat)) >>> ((Int32.ofInt a2).toInt64 &&& 63)) &&& (Int64.ofNat 1)) (Int64.ofNat 1))] 32 rfl rfl rfl rfl rfl ?_
    refine pz_j1 [] (bif pz_cp .ne (pz_lc (((ml 180 ((a1).toNat)) >>> ((Int32.ofInt a2).toInt64 &&& 63)) &&& (Int64.ofNat 1)) (Int64.ofNat 1)) 0 then 39 else 35) rfl rfl rfl rfl rfl ?_
    refine pz_Rn_if pz_c1_ne pz_c0_ne ⟨fun b6 => ?_, fun b6 => ?_⟩
    · replace K := K.1 b6
      refine pz_j1 [.inl 0] 40 rfl rfl rfl rfl rfl ?_
      exact pz_Rn_ret rfl rfl rfl rfl K
    · replace K := K.2 b6
      refine pz_j1 [.inl 1] 36 rfl rfl rfl rfl rfl ?_
      refine pz_j1 [.inl 1] 40 rfl rfl rfl rfl rfl ?_
      exact pz_Rn_ret rfl rfl rfl rfl K
-- 126 RelationStreamModel.undo(I)V
theorem pz_g126_0 {a1 : Int}  (K : ((mi 165 33 ≤ 0 → Q (.inl none) (pz_hp n0 mi ml mr c s)) ∧ (0 < mi 165 33 → (-2147483648 ≤ (mi 165 33) - 1 ∧ (mi 165 33) - 1 ≤ 2147483647) ∧ (-2147483648 ≤ 240 * a1 ∧ 240 * a1 ≤ 2147483647) ∧ (0 ≤ (mi 165 33) - 1 ∧ (mi 165 33) - 1 < 240) ∧ (-2147483648 ≤ (240 * a1) + (mi 186 (((mi 165 33) - 1).toNat)) ∧ (240 * a1) + (mi 186 (((mi 165 33) - 1).toNat)) ≤ 2147483647) ∧ (-2147483648 ≤ ((240 * a1) + (mi 186 (((mi 165 33) - 1).toNat))) - 3000 ∧ ((240 * a1) + (mi 186 (((mi 165 33) - 1).toNat))) - 3000 ≤ 2147483647) ∧ (0 ≤ ((240 * a1) + (mi 186 (((mi 165 33) - 1).toNat))) - 3000 ∧ ((240 * a1) + (mi 186 (((mi 165 33) - 1).toNat))) - 3000 < 15120) ∧ pz_Rn d 126 (0, [], [(0, .inr (.inr (some 165))), (1, .inl a1)], pz_hp n0 (pz_up (pz_up mi 165 33 ((mi 165 33) - 1)) 182 ((((240 * a1) + (mi 186 (((mi 165 33) - 1).toNat))) - 3000).toNat) 0) ml mr c s, true) Q))) : pz_Rn d 126 (0, [], [(0, .inr (.inr (some 165))), (1, .inl a1)], pz_hp n0 mi ml mr c s, true) Q := by
  refine pz_j1 [.inr (.inr (some 165))] 1 rfl rfl rfl rfl rfl ?_
  refine pz_j1 [.inl (mi 165 33)] 4 rfl rfl rfl rfl (pz_a2 rfl pz_S165) ?_
  refine pz_j1 [] (bif pz_cp .le (mi 165 33) 0 then 45 else 7) rfl rfl rfl rfl rfl ?_
  refine pz_Rn_if pz_c1_le pz_c0_le ⟨fun b1 => ?_, fun b1 => ?_⟩
  · replace K := K.1 b1
    exact pz_Rn_ret rfl rfl rfl rfl K
  · replace K := K.2 b1
    refine pz_j1 [.inr (.inr (some 165))] 8 rfl rfl rfl rfl rfl ?_
    refine pz_j1 [.inr (.inr (some 165)), .inr (.inr (some 165))] 9 rfl rfl rfl rfl rfl ?_
    refine pz_j1 [.inl (mi 165 33), .inr (.inr (some 165))] 12 rfl rfl rfl rfl (pz_a2 rfl pz_S165) ?_
    refine pz_j1 [.inl 1, .inl (mi 165 33), .inr (.inr (some 165))] 13 rfl rfl rfl rfl rfl ?_
    obtain ⟨k2, K⟩ := K
    refine pz_j1 [.inl ((mi 165 33) - 1), .inr (.inr (some 165))] 14 rfl rfl rfl rfl (pz_ok_in k2) ?_
    refine pz_j3 [] [(0, .inr (.inr (some 165))), (1, .inl a1)] (pz_hp n0 (pz_up mi 165 33 ((mi 165 33) - 1)) ml mr c s) 17 rfl rfl rfl rfl (pz_a2 rfl (pz_a2 pz_S165 (pz_a2 rfl rfl))) ?_
    refine pz_j1 [.inr (.inr (some 165))] 18 rfl rfl rfl rfl rfl ?_
    refine pz_j1 [.inr (.inr (some 182))] 21 rfl rfl rfl rfl (pz_a2 rfl pz_S165) ?_
    refine pz_j1 [.inl 240, .inr (.inr (some 182))] 24 rfl rfl rfl rfl rfl ?_
    refine pz_j1 [.inl a1, .inl 240, .inr (.inr (some 182))] 25 rfl rfl rfl rfl rfl ?_
    obtain ⟨k3, K⟩ := K
    refine pz_j1 [.inl (240 * a1), .inr (.inr (some 182))] 26 rfl rfl rfl rfl (pz_ok_in k3) ?_
    refine pz_j1 [.inr (.inr (some 165)), .inl (240 * a1), .inr (.inr (some 182))] 27 rfl rfl rfl rfl rfl ?_
    refine pz_j1 [.inr (.inr (some 186)), .inl (240 * a1), .inr (.inr (some 182))] 30 rfl rfl rfl rfl (pz_a2 rfl pz_S165) ?_
    refine pz_j1 [.inr (.inr (some 165)), .inr (.inr (some 186)), .inl (240 * a1), .inr (.inr (some 182))] 31 rfl rfl rfl rfl rfl ?_
    refine pz_j1 [.inl ((mi 165 33) - 1), .inr (.inr (some 186)), .inl (240 * a1), .inr (.inr (some 182))] 34 rfl rfl rfl rfl (pz_a2 rfl pz_S165) ?_
    obtain ⟨k4, K⟩ := K
    refine pz_j1 [.inl (mi 186 (((mi 165 33) - 1).toNat)), .inl (240 * a1), .inr (.inr (some 182))] 35 rfl rfl rfl rfl (pz_a2 rfl (pz_ok_ixs pz_S186 k4)) ?_
    obtain ⟨k5, K⟩ := K
    refine pz_j1 [.inl ((240 * a1) + (mi 186 (((mi 165 33) - 1).toNat))), .inr (.inr (some 182))] 36 rfl rfl rfl rfl (pz_ok_in k5) ?_
    refine pz_j1 [.inl 3000, .inl ((240 * a1) + (mi 186 (((mi 165 33) - 1).toNat))), .inr (.inr (some 182))] 39 rfl rfl rfl rfl rfl ?_
    obtain ⟨k6, K⟩ := K
    refine pz_j1 [.inl (((240 * a1) + (mi 186 (((mi 165 33) - 1).toNat))) - 3000), .inr (.inr (some 182))] 40 rfl rfl rfl rfl (pz_ok_in k6) ?_
    refine pz_j1 [.inl 0, .inl (((240 * a1) + (mi 186 (((mi 165 33) - 1).toNat))) - 3000), .inr (.inr (some 182))] 41 rfl rfl rfl rfl rfl ?_
    obtain ⟨k7, K⟩ := K
    refine pz_j3 [] [(0, .inr (.inr (some 165))), (1, .inl a1)] (pz_hp n0 (pz_up (pz_up mi 165 33 ((mi 165 33) - 1)) 182 ((((240 * a1) + (mi 186 (((mi 165 33) - 1).toNat))) - 3000).toNat) 0) ml mr c s) 42 rfl rfl rfl rfl (pz_a2 rfl (pz_ok_ix pz_S182 k7)) ?_
    refine pz_j1 [] 0 rfl rfl rfl rfl rfl ?_
    exact K
-- 127 RelationStreamModel.judged(III)I
theorem pz_g127_0 {a1 : Int} {a2 : Int} {a3 : Int}  (K : pz_Rn d 124 (0, [], [(0, .inr (.inr (some 165))), (1, .inl a1), (2, .inl a2), (3, .inl a3)], pz_hp n0 mi ml mr c s, true) (pz_K (d + 1) 127 4 [] [(0, .inr (.inr (some 165))), (1, .inl a1)] Q true)) : pz_Rn (d + 1) 127 (0, [], [(0, .inr (.inr (some 165))), (1, .inl a1), (2, .inl a2), (3, .inl a3)], pz_hp n0 mi ml mr c s, true) Q := by
  refine pz_j1 [.inr (.inr (some 165))] 1 rfl rfl rfl rfl rfl ?_
  refine pz_j1 [.inl a1, .inr (.inr (some 165))] 2 rfl rfl rfl rfl rfl ?_
  refine pz_j1 [.inl a2, .inl a1, .inr (.inr (some 165))] 3 rfl rfl rfl rfl rfl ?_
  refine pz_j1 [.inl a3, .inl a2, .inl a1, .inr (.inr (some 165))] 4 rfl rfl rfl rfl rfl ?_
  refine pz_Rn_sub (L := [(0, .inr (.inr (some 165))), (1, .inl a1)]) [0, 1] rfl rfl ?_
  exact pz_Rn_k (y := 123) rfl rfl rfl rfl rfl rfl rfl rfl (pz_cok_v rfl rfl pz_S165) K
theorem pz_g127_7 {a1 : Int} {t0 : Int}  (K : ((mi 165 33 ≤ 0 → pz_Rn d 126 (0, [], [(0, .inr (.inr (some 165))), (1, .inl a1)], pz_hp n0 mi ml mr c s, true) (pz_K (d + 1) 127 25 [] [(4, .inl t0), (5, .inl 2)] Q true)) ∧ (0 < mi 165 33 → pz_Rn d 126 (0, [], [(0, .inr (.inr (some 165))), (1, .inl a1)], pz_hp n0 mi ml mr c s, true) (pz_K (d + 1) 127 25 [] [(4, .inl t0), (5, .inl 1)] Q true)))) : pz_Rn (d + 1) 127 (7, [.inl t0], [(0, .inr (.inr (some 165))), (1, .inl a1)], pz_hp n0 mi ml mr c s, true) Q := by
  refine pz_j2 [] [(4, .inl t0), (0, .inr (.inr (some 165))), (1, .inl a1)] 9 rfl rfl rfl rfl rfl ?_
  refine pz_j1 [.inr (.inr (some 165))] 10 rfl rfl rfl rfl rfl ?_
  refine pz_j1 [.inl (mi 165 33)] 13 rfl rfl rfl rfl (pz_a2 rfl pz_S165) ?_
  refine pz_j1 [] (bif pz_cp .le (mi 165 33) 0 then 20 else 16) rfl rfl rfl rfl rfl ?_
  refine pz_Rn_if pz_c1_le pz_c0_le ⟨fun b1 => ?_, fun b1 => ?_⟩
  · replace K := K.1 b1
    refine pz_j1 [.inl 2] 21 rfl rfl rfl rfl rfl ?_
    refine pz_j2 [] [(5, .inl 2), (4, .inl t0), (0, .inr (.inr (some 165))), (1, .inl a1)] 23 rfl rfl rfl rfl rfl ?_
    refine pz_j1 [.inr (.inr (some 165))] 24 rfl rfl rfl rfl rfl ?_
    refine pz_j1 [.inl a1, .inr (.inr (some 165))] 25 rfl rfl rfl rfl rfl ?_
    refine pz_Rn_sub (L := [(4, .inl t0), (5, .inl 2)]) [1, 0] rfl rfl ?_
    exact pz_Rn_k (y := 125) rfl rfl rfl rfl rfl rfl rfl rfl (pz_cok_v rfl rfl pz_S165) K
  · replace K := K.2 b1
    refine pz_j1 [.inl 1] 17 rfl rfl rfl rfl rfl ?_
    refine pz_j1 [.inl 1] 21 rfl rfl rfl rfl rfl ?_
    refine pz_j2 [] [(5, .inl 1), (4, .inl t0), (0, .inr (.inr (some 165))), (1, .inl a1)] 23 rfl rfl rfl rfl rfl ?_
    refine pz_j1 [.inr (.inr (some 165))] 24 rfl rfl rfl rfl rfl ?_
    refine pz_j1 [.inl a1, .inr (.inr (some 165))] 25 rfl rfl rfl rfl rfl ?_
    refine pz_Rn_sub (L := [(4, .inl t0), (5, .inl 1)]) [1, 0] rfl rfl ?_
    exact pz_Rn_k (y := 125) rfl rfl rfl rfl rfl rfl rfl rfl (pz_cok_v rfl rfl pz_S165) K
theorem pz_g127_28 {a4 : Int} {a5 : Int}  (K : ((a4 = 0 → Q (.inl (some (.inl 0))) (pz_hp n0 mi ml mr c s)) ∧ (a4 ≠ 0 → Q (.inl (some (.inl a5))) (pz_hp n0 mi ml mr c s)))) : pz_Rn (d + 1) 127 (28, [], [(4, .inl a4), (5, .inl a5)], pz_hp n0 mi ml mr c s, true) Q := by
  refine pz_j1 [.inl a4] 30 rfl rfl rfl rfl rfl ?_
  refine pz_j1 [] (bif pz_cp .eq a4 0 then 38 else 33) rfl rfl rfl rfl rfl ?_
  refine pz_Rn_if pz_c1_eq pz_c0_eq ⟨fun b1 => ?_, fun b1 => ?_⟩
  · replace K := K.1 b1
    refine pz_j1 [.inl 0] 39 rfl rfl rfl rfl rfl ?_
    exact pz_Rn_ret rfl rfl rfl rfl K
  · replace K := K.2 b1
    refine pz_j1 [.inl a5] 35 rfl rfl rfl rfl rfl ?_
    refine pz_j1 [.inl a5] 39 rfl rfl rfl rfl rfl ?_
    exact pz_Rn_ret rfl rfl rfl rfl K
-- 128 RelationStreamModel.setCondition(IIZ)V
theorem pz_g128_0 {a1 : Int} {a2 : Int} {a3 : Int}  (K : ((64 ≤ a2 → (-2147483648 ≤ a2 - 64 ∧ a2 - 64 ≤ 2147483647) ∧ ((a3 = 0 → (0 ≤ a1 ∧ a1 < 64) ∧ (0 ≤ a1 ∧ a1 < 64) ∧ Q (.inl none) (pz_hp n0 mi (pz_up ml 181 ((a1).toNat) ((ml 181 ((a1).toNat)) &&& (((Int64.ofNat 1) <<< ((Int32.ofInt (a2 - 64)).toInt64 &&& 63)) ^^^ (-1 : Int64)))) mr c s)) ∧ (a3 ≠ 0 → (0 ≤ a1 ∧ a1 < 64) ∧ (0 ≤ a1 ∧ a1 < 64) ∧ Q (.inl none) (pz_hp n0 mi (pz_up ml 181 ((a1).toNat) ((ml 181 ((a1).toNat)) ||| ((Int64.ofNat 1) <<< ((Int32.ofInt (a2 - 64)).toInt64 &&& 63)))) mr c s)))) ∧ (a2 < 64 → ((a3 = 0 → (0 ≤ a1 ∧ a1 < 64) ∧ (0 ≤ a1 ∧ a1 < 64) ∧ Q (.inl none) (pz_hp n0 mi (pz_up ml 180 ((a1).toNat) ((ml 180 ((a1).toNat)) &&& (((Int64.ofNat 1) <<< ((Int32.ofInt a2).toInt64 &&& 63)) ^^^ (-1 : Int64)))) mr c s)) ∧ (a3 ≠ 0 → (0 ≤ a1 ∧ a1 < 64) ∧ (0 ≤ a1 ∧ a1 < 64) ∧ Q (.inl none) (pz_hp n0 mi (pz_up ml 180 ((a1).toNat) ((ml 180 ((a1).toNat)) ||| ((Int64.ofNat 1) <<< ((Int32.ofInt a2).toInt64 &&& 63)))) mr c s)))))) : pz_Rn d 128 (0, [], [(0, .inr (.inr (some 165))), (1, .inl a1), (2, .inl a2), (3, .inl a3)], pz_hp n0 mi ml mr c s, true) Q := by
  refine pz_j1 [.inr (.inl (Int64.ofNat 1))] 1 rfl rfl rfl rfl rfl ?_
  refine pz_j1 [.inl a2, .inr (.inl (Int64.ofNat 1))] 2 rfl rfl rfl rfl rfl ?_
  refine pz_j1 [.inl 64, .inl a2, .inr (.inl (Int64.ofNat 1))] 4 rfl rfl rfl rfl rfl ?_
  refine pz_j1 [.inr (.inl (Int64.ofNat 1))] (bif pz_cp .ge a2 64 then 11 else 7) rfl rfl rfl rfl rfl ?_
  refine pz_Rn_if pz_c1_ge pz_c0_ge ⟨fun b1 => ?_, fun b1 => ?_⟩
  · replace K := K.1 b1
    refine pz_j1 [.inl a2, .inr (.inl (Int64.ofNat 1))] 12 rfl rfl rfl rfl rfl ?_
    refine pz_j1 [.inl 64, .inl a2, .inr (.inl (Int64.ofNat 1))] 14 rfl rfl rfl rfl rfl ?_
    obtain ⟨k2, K⟩ := K
    refine pz_j1 [.inl (a2 - 64), .inr (.inl (Int64.ofNat 1))] 15 rfl rfl rfl rfl (pz_ok_in k2) ?_
    refine pz_j1 [.inr (.inl ((Int64.ofNat 1) <<< ((Int32.ofInt (a2 - 64)).toInt64 &&& 63)))] 16 rfl rfl rfl rfl rfl ?_
    refine pz_j2 [] [(4, .inr (.inl ((Int64.ofNat 1) <<< ((Int32.ofInt (a2 - 64)).toInt64 &&& 63)))), (0, .inr (.inr (some 165))), (1, .inl a1), (2, .inl a2), (3, .inl a3)] 18 rfl rfl rfl rfl rfl ?_
    refine pz_j1 [.inl a2] 19 rfl rfl rfl rfl rfl ?_
    refine pz_j1 [.inl 64, .inl a2] 21 rfl rfl rfl rfl rfl ?_
    refine pz_j1 [] (bif pz_cp .ge a2 64 then 62 else 24) rfl rfl rfl rfl rfl ?_
    refine pz_Rn_if pz_c1_ge pz_c0_ge ⟨fun _ => ?_, fun b3 => absurd b3 (by omega)⟩
    refine pz_j1 [.inr (.inr (some 165))] 63 rfl rfl rfl rfl rfl ?_
    refine pz_j1 [.inr (.inr (some 181))] 66 rfl rfl rfl rfl (pz_a2 rfl pz_S165) ?_
    refine pz_j1 [.inl a1, .inr (.inr (some 181))] 67 rfl rfl rfl rfl rfl ?_
    refine pz_j1 [.inl a3, .inl a1, .inr (.inr (some 181))] 68 rfl rfl rfl rfl rfl ?_
    refine pz_j1 [.inl a1, .inr (.inr (some 181))] (bif pz_cp .eq a3 0 then 83 else 71) rfl rfl rfl rfl rfl ?_
    refine pz_Rn_if pz_c1_eq pz_c0_eq ⟨fun b4 => ?_, fun b4 => ?_⟩
    · replace K := K.1 b4
      refine pz_j1 [.inr (.inr (some 165)), .inl a1, .inr (.inr (some 181))] 84 rfl rfl rfl rfl rfl ?_
      refine pz_j1 [.inr (.inr (some 181)), .inl a1, .inr (.inr (some 181))] 87 rfl rfl rfl rfl (pz_a2 rfl pz_S165) ?_
      refine pz_j1 [.inl a1, .inr (.inr (some 181)), .inl a1, .inr (.inr (some 181))] 88 rfl rfl rfl rfl rfl ?_
      obtain ⟨k5, K⟩ := K
      refine pz_j1 [.inr (.inl (ml 181 ((a1).toNat))), .inl a1, .inr (.inr (some 181))] 89 rfl rfl rfl rfl (pz_a2 rfl (pz_ok_ix pz_S181 k5)) ?_
      refine pz_j1 [.inr (.inl ((Int64.ofNat 1) <<< ((Int32.ofInt (a2 - 64)).toInt64 &&& 63))), .inr (.inl (ml 181 ((a1).toNat))), .inl a1, .inr (.inr (some 181))] 91 rfl rfl rfl rfl rfl ?_
      refine pz_j1 [.inr (.inl (-1 : Int64)), .inr (.inl ((Int64.ofNat 1) <<< ((Int32.ofInt (a2 - 64)).toInt64 &&& 63))), .inr (.inl (ml 181 ((a1).toNat))), .inl a1, .inr (.inr (some 181))] 94 rfl rfl rfl rfl rfl ?_
      refine pz_j1 [.inr (.inl (((Int64.ofNat 1) <<< ((Int32.ofInt (a2 - 64)).toInt64 &&& 63)) ^^^ (-1 : Int64))), .inr (.inl (ml 181 ((a1).toNat))), .inl a1, .inr (.inr (some 181))] 95 rfl rfl rfl rfl rfl ?_
      refine pz_j1 [.inr (.inl ((ml 181 ((a1).toNat)) &&& (((Int64.ofNat 1) <<< ((Int32.ofInt (a2 - 64)).toInt64 &&& 63)) ^^^ (-1 : Int64)))), .inl a1, .inr (.inr (some 181))] 96 rfl rfl rfl rfl rfl ?_
      obtain ⟨k6, K⟩ := K
      refine pz_j3 [] [(4, .inr (.inl ((Int64.ofNat 1) <<< ((Int32.ofInt (a2 - 64)).toInt64 &&& 63)))), (0, .inr (.inr (some 165))), (1, .inl a1), (2, .inl a2), (3, .inl a3)] (pz_hp n0 mi (pz_up ml 181 ((a1).toNat) ((ml 181 ((a1).toNat)) &&& (((Int64.ofNat 1) <<< ((Int32.ofInt (a2 - 64)).toInt64 &&& 63)) ^^^ (-1 : Int64)))) mr c s) 97 rfl rfl rfl rfl (pz_a2 rfl (pz_ok_ix pz_S181 k6)) ?_
      exact pz_Rn_ret rfl rfl rfl rfl K
    · replace K := K.2 b4
      refine pz_j1 [.inr (.inr (some 165)), .inl a1, .inr (.inr (some 181))] 72 rfl rfl rfl rfl rfl ?_
      refine pz_j1 [.inr (.inr (some 181)), .inl a1, .inr (.inr (some 181))] 75 rfl rfl rfl rfl (pz_a2 rfl pz_S165) ?_
      refine pz_j1 [.inl a1, .inr (.inr (some 181)), .inl a1, .inr (.inr (some 181))] 76 rfl rfl rfl rfl rfl ?_
      obtain ⟨k7, K⟩ := K
      refine pz_j1 [.inr (.inl (ml 181 ((a1).toNat))), .inl a1, .inr (.inr (some 181))] 77 rfl rfl rfl rfl (pz_a2 rfl (pz_ok_ix pz_S181 k7)) ?_
      refine pz_j1 [.inr (.inl ((Int64.ofNat 1) <<< ((Int32.ofInt (a2 - 64)).toInt64 &&& 63))), .inr (.inl (ml 181 ((a1).toNat))), .inl a1, .inr (.inr (some 181))] 79 rfl rfl rfl rfl rfl ?_
      refine pz_j1 [.inr (.inl ((ml 181 ((a1).toNat)) ||| ((Int64.ofNat 1) <<< ((Int32.ofInt (a2 - 64)).toInt64 &&& 63)))), .inl a1, .inr (.inr (some 181))] 80 rfl rfl rfl rfl rfl ?_
      refine pz_j1 [.inr (.inl ((ml 181 ((a1).toNat)) ||| ((Int64.ofNat 1) <<< ((Int32.ofInt (a2 - 64)).toInt64 &&& 63)))), .inl a1, .inr (.inr (some 181))] 96 rfl rfl rfl rfl rfl ?_
      obtain ⟨k8, K⟩ := K
      refine pz_j3 [] [(4, .inr (.inl ((Int64.ofNat 1) <<< ((Int32.ofInt (a2 - 64)).toInt64 &&& 63)))), (0, .inr (.inr (some 165))), (1, .inl a1), (2, .inl a2), (3, .inl a3)] (pz_hp n0 mi (pz_up ml 181 ((a1).toNat) ((ml 181 ((a1).toNat)) ||| ((Int64.ofNat 1) <<< ((Int32.ofInt (a2 - 64)).toInt64 &&& 63)))) mr c s) 97 rfl rfl rfl rfl (pz_a2 rfl (pz_ok_ix pz_S181 k8)) ?_
      exact pz_Rn_ret rfl rfl rfl rfl K
  · replace K := K.2 b1
    refine pz_j1 [.inl a2, .inr (.inl (Int64.ofNat 1))] 8 rfl rfl rfl rfl rfl ?_
    refine pz_j1 [.inl a2, .inr (.inl (Int64.ofNat 1))] 15 rfl rfl rfl rfl rfl ?_
    refine pz_j1 [.inr (.inl ((Int64.ofNat 1) <<< ((Int32.ofInt a2).toInt64 &&& 63)))] 16 rfl rfl rfl rfl rfl ?_
    refine pz_j2 [] [(4, .inr (.inl ((Int64.ofNat 1) <<< ((Int32.ofInt a2).toInt64 &&& 63)))), (0, .inr (.inr (some 165))), (1, .inl a1), (2, .inl a2), (3, .inl a3)] 18 rfl rfl rfl rfl rfl ?_
    refine pz_j1 [.inl a2] 19 rfl rfl rfl rfl rfl ?_
    refine pz_j1 [.inl 64, .inl a2] 21 rfl rfl rfl rfl rfl ?_
    refine pz_j1 [] (bif pz_cp .ge a2 64 then 62 else 24) rfl rfl rfl rfl rfl ?_
    refine pz_Rn_if pz_c1_ge pz_c0_ge ⟨fun b9 => absurd b9 (by omega), fun _ => ?_⟩
    refine pz_j1 [.inr (.inr (some 165))] 25 rfl rfl rfl rfl rfl ?_
    refine pz_j1 [.inr (.inr (some 180))] 28 rfl rfl rfl rfl (pz_a2 rfl pz_S165) ?_
    refine pz_j1 [.inl a1, .inr (.inr (some 180))] 29 rfl rfl rfl rfl rfl ?_
    refine pz_j1 [.inl a3, .inl a1, .inr (.inr (some 180))] 30 rfl rfl rfl rfl rfl ?_
    refine pz_j1 [.inl a1, .inr (.inr (some 180))] (bif pz_cp .eq a3 0 then 45 else 33) rfl rfl rfl rfl rfl ?_
    refine pz_Rn_if pz_c1_eq pz_c0_eq ⟨fun b10 => ?_, fun b10 => ?_⟩
    · replace K := K.1 b10
      refine pz_j1 [.inr (.inr (some 165)), .inl a1, .inr (.inr (some 180))] 46 rfl rfl rfl rfl rfl ?_
      refine pz_j1 [.inr (.inr (some 180)), .inl a1, .inr (.inr (some 180))] 49 rfl rfl rfl rfl (pz_a2 rfl pz_S165) ?_
      refine pz_j1 [.inl a1, .inr (.inr (some 180)), .inl a1, .inr (.inr (some 180))] 50 rfl rfl rfl rfl rfl ?_
      obtain ⟨k11, K⟩ := K
      refine pz_j1 [.inr (.inl (ml 180 ((a1).toNat))), .inl a1, .inr (.inr (some 180))] 51 rfl rfl rfl rfl (pz_a2 rfl (pz_ok_ix pz_S180 k11)) ?_
      refine pz_j1 [.inr (.inl ((Int64.ofNat 1) <<< ((Int32.ofInt a2).toInt64 &&& 63))), .inr (.inl (ml 180 ((a1).toNat))), .inl a1, .inr (.inr (some 180))] 53 rfl rfl rfl rfl rfl ?_
      refine pz_j1 [.inr (.inl (-1 : Int64)), .inr (.inl ((Int64.ofNat 1) <<< ((Int32.ofInt a2).toInt64 &&& 63))), .inr (.inl (ml 180 ((a1).toNat))), .inl a1, .inr (.inr (some 180))] 56 rfl rfl rfl rfl rfl ?_
      refine pz_j1 [.inr (.inl (((Int64.ofNat 1) <<< ((Int32.ofInt a2).toInt64 &&& 63)) ^^^ (-1 : Int64))), .inr (.inl (ml 180 ((a1).toNat))), .inl a1, .inr (.inr (some 180))] 57 rfl rfl rfl rfl rfl ?_
      refine pz_j1 [.inr (.inl ((ml 180 ((a1).toNat)) &&& (((Int64.ofNat 1) <<< ((Int32.ofInt a2).toInt64 &&& 63)) ^^^ (-1 : Int64)))), .inl a1, .inr (.inr (some 180))] 58 rfl rfl rfl rfl rfl ?_
      obtain ⟨k12, K⟩ := K
      refine pz_j3 [] [(4, .inr (.inl ((Int64.ofNat 1) <<< ((Int32.ofInt a2).toInt64 &&& 63)))), (0, .inr (.inr (some 165))), (1, .inl a1), (2, .inl a2), (3, .inl a3)] (pz_hp n0 mi (pz_up ml 180 ((a1).toNat) ((ml 180 ((a1).toNat)) &&& (((Int64.ofNat 1) <<< ((Int32.ofInt a2).toInt64 &&& 63)) ^^^ (-1 : Int64)))) mr c s) 59 rfl rfl rfl rfl (pz_a2 rfl (pz_ok_ix pz_S180 k12)) ?_
      refine pz_j1 [] 97 rfl rfl rfl rfl rfl ?_
      exact pz_Rn_ret rfl rfl rfl rfl K
    · replace K := K.2 b10
      refine pz_j1 [.inr (.inr (some 165)), .inl a1, .inr (.inr (some 180))] 34 rfl rfl rfl rfl rfl ?_
      refine pz_j1 [.inr (.inr (some 180)), .inl a1, .inr (.inr (some 180))] 37 rfl rfl rfl rfl (pz_a2 rfl pz_S165) ?_
      refine pz_j1 [.inl a1, .inr (.inr (some 180)), .inl a1, .inr (.inr (some 180))] 38 rfl rfl rfl rfl rfl ?_
      obtain ⟨k13, K⟩ := K
      refine pz_j1 [.inr (.inl (ml 180 ((a1).toNat))), .inl a1, .inr (.inr (some 180))] 39 rfl rfl rfl rfl (pz_a2 rfl (pz_ok_ix pz_S180 k13)) ?_
      refine pz_j1 [.inr (.inl ((Int64.ofNat 1) <<< ((Int32.ofInt a2).toInt64 &&& 63))), .inr (.inl (ml 180 ((a1).toNat))), .inl a1, .inr (.inr (some 180))] 41 rfl rfl rfl rfl rfl ?_
      refine pz_j1 [.inr (.inl ((ml 180 ((a1).toNat)) ||| ((Int64.ofNat 1) <<< ((Int32.ofInt a2).toInt64 &&& 63)))), .inl a1, .inr (.inr (some 180))] 42 rfl rfl rfl rfl rfl ?_
      refine pz_j1 [.inr (.inl ((ml 180 ((a1).toNat)) ||| ((Int64.ofNat 1) <<< ((Int32.ofInt a2).toInt64 &&& 63)))), .inl a1, .inr (.inr (some 180))] 58 rfl rfl rfl rfl rfl ?_
      obtain ⟨k14, K⟩ := K
      refine pz_j3 [] [(4, .inr (.inl ((Int64.ofNat 1) <<< ((Int32.ofInt a2).toInt64 &&& 63)))), (0, .inr (.inr (some 165))), (1, .inl a1), (2, .inl a2), (3, .inl a3)] (pz_hp n0 mi (pz_up ml 180 ((a1).toNat) ((ml 180 ((a1).toNat)) ||| ((Int64.ofNat 1) <<< ((Int32.ofInt a2).toInt64 &&& 63)))) mr c s) 59 rfl rfl rfl rfl (pz_a2 rfl (pz_ok_ix pz_S180 k14)) ?_
      refine pz_j1 [] 97 rfl rfl rfl rfl rfl ?_
      exact pz_Rn_ret rfl rfl rfl rfl K
-- 129 RelationStreamModel.same(II)Z
theorem pz_g129_0 {a1 : Int} {a2 : Int}  (K : (0 ≤ a2 ∧ a2 < 40) ∧ (0 ≤ a1 ∧ a1 < 64) ∧ pz_Rn d 114 (0, [], [(0, .inl (mi 170 ((a2).toNat))), (1, .inl (mi 179 ((a1).toNat)))], pz_hp n0 mi ml mr c s, true) (pz_K (d + 1) 129 14 [.inl a1, .inr (.inr (some 165))] [(0, .inr (.inr (some 165))), (1, .inl a1), (2, .inl a2)] Q true)) : pz_Rn (d + 1) 129 (0, [], [(0, .inr (.inr (some 165))), (1, .inl a1), (2, .inl a2)], pz_hp n0 mi ml mr c s, true) Q := by
  refine pz_j1 [.inr (.inr (some 165))] 1 rfl rfl rfl rfl rfl ?_
  refine pz_j1 [.inl a1, .inr (.inr (some 165))] 2 rfl rfl rfl rfl rfl ?_
  refine pz_j1 [.inr (.inr (some 165)), .inl a1, .inr (.inr (some 165))] 3 rfl rfl rfl rfl rfl ?_
  refine pz_j1 [.inr (.inr (some 170)), .inl a1, .inr (.inr (some 165))] 6 rfl rfl rfl rfl (pz_a2 rfl pz_S165) ?_
  refine pz_j1 [.inl a2, .inr (.inr (some 170)), .inl a1, .inr (.inr (some 165))] 7 rfl rfl rfl rfl rfl ?_
  obtain ⟨k1, K⟩ := K
  refine pz_j1 [.inl (mi 170 ((a2).toNat)), .inl a1, .inr (.inr (some 165))] 8 rfl rfl rfl rfl (pz_a2 rfl (pz_ok_ixs pz_S170 k1)) ?_
  refine pz_j1 [.inr (.inr (some 165)), .inl (mi 170 ((a2).toNat)), .inl a1, .inr (.inr (some 165))] 9 rfl rfl rfl rfl rfl ?_
  refine pz_j1 [.inr (.inr (some 179)), .inl (mi 170 ((a2).toNat)), .inl a1, .inr (.inr (some 165))] 12 rfl rfl rfl rfl (pz_a2 rfl pz_S165) ?_
  refine pz_j1 [.inl a1, .inr (.inr (some 179)), .inl (mi 170 ((a2).toNat)), .inl a1, .inr (.inr (some 165))] 13 rfl rfl rfl rfl rfl ?_
  obtain ⟨k2, K⟩ := K
  refine pz_j1 [.inl (mi 179 ((a1).toNat)), .inl (mi 170 ((a2).toNat)), .inl a1, .inr (.inr (some 165))] 14 rfl rfl rfl rfl (pz_a2 rfl (pz_ok_ixs pz_S179 k2)) ?_
  exact pz_Rn_k (y := 113) rfl rfl rfl rfl rfl rfl rfl rfl rfl K
theorem pz_g129_17 {a1 : Int} {a2 : Int} {t1 : Int} {t2 : Int}  (K : (0 ≤ a2 ∧ a2 < 40) ∧ (0 ≤ a1 ∧ a1 < 64) ∧ pz_Rn d 114 (0, [], [(0, .inl (mi 171 ((a2).toNat))), (1, .inl (mi 179 ((a1).toNat)))], pz_hp n0 mi ml mr c s, true) (pz_K (d + 1) 129 29 [.inl t2, .inl t1, .inr (.inr (some 165))] [(0, .inr (.inr (some 165))), (1, .inl a1)] Q true)) : pz_Rn (d + 1) 129 (17, [.inl t2, .inl t1, .inr (.inr (some 165))], [(0, .inr (.inr (some 165))), (1, .inl a1), (2, .inl a2)], pz_hp n0 mi ml mr c s, true) Q := by
  refine pz_j1 [.inr (.inr (some 165)), .inl t2, .inl t1, .inr (.inr (some 165))] 18 rfl rfl rfl rfl rfl ?_
  refine pz_j1 [.inr (.inr (some 171)), .inl t2, .inl t1, .inr (.inr (some 165))] 21 rfl rfl rfl rfl (pz_a2 rfl pz_S165) ?_
  refine pz_j1 [.inl a2, .inr (.inr (some 171)), .inl t2, .inl t1, .inr (.inr (some 165))] 22 rfl rfl rfl rfl rfl ?_
  obtain ⟨k1, K⟩ := K
  refine pz_j1 [.inl (mi 171 ((a2).toNat)), .inl t2, .inl t1, .inr (.inr (some 165))] 23 rfl rfl rfl rfl (pz_a2 rfl (pz_ok_ixs pz_S171 k1)) ?_
  refine pz_j1 [.inr (.inr (some 165)), .inl (mi 171 ((a2).toNat)), .inl t2, .inl t1, .inr (.inr (some 165))] 24 rfl rfl rfl rfl rfl ?_
  refine pz_j1 [.inr (.inr (some 179)), .inl (mi 171 ((a2).toNat)), .inl t2, .inl t1, .inr (.inr (some 165))] 27 rfl rfl rfl rfl (pz_a2 rfl pz_S165) ?_
  refine pz_j1 [.inl a1, .inr (.inr (some 179)), .inl (mi 171 ((a2).toNat)), .inl t2, .inl t1, .inr (.inr (some 165))] 28 rfl rfl rfl rfl rfl ?_
  obtain ⟨k2, K⟩ := K
  refine pz_j1 [.inl (mi 179 ((a1).toNat)), .inl (mi 171 ((a2).toNat)), .inl t2, .inl t1, .inr (.inr (some 165))] 29 rfl rfl rfl rfl (pz_a2 rfl (pz_ok_ixs pz_S179 k2)) ?_
  refine pz_Rn_sub (L := [(0, .inr (.inr (some 165))), (1, .inl a1)]) [0, 1] rfl rfl ?_
  exact pz_Rn_k (y := 113) rfl rfl rfl rfl rfl rfl rfl rfl rfl K
theorem pz_g129_32 {a1 : Int} {t1 : Int} {t2 : Int} {t3 : Int}  (K : pz_Rn d 124 (0, [], [(0, .inr (.inr (some 165))), (1, .inl t1), (2, .inl t2), (3, .inl t3)], pz_hp n0 mi ml mr c s, true) (pz_K (d + 1) 129 32 [] [(0, .inr (.inr (some 165))), (1, .inl a1)] Q true)) : pz_Rn (d + 1) 129 (32, [.inl t3, .inl t2, .inl t1, .inr (.inr (some 165))], [(0, .inr (.inr (some 165))), (1, .inl a1)], pz_hp n0 mi ml mr c s, true) Q := by
  exact pz_Rn_k (y := 123) rfl rfl rfl rfl rfl rfl rfl rfl (pz_cok_v rfl rfl pz_S165) K
theorem pz_g129_35 {a1 : Int} {t0 : Int}  (K : pz_Rn (d + 1) 129 (39, [], [(0, .inr (.inr (some 165))), (1, .inl a1), (3, .inl t0), (4, .inl 0)], pz_hp n0 mi ml mr c s, true) Q) : pz_Rn (d + 1) 129 (35, [.inl t0], [(0, .inr (.inr (some 165))), (1, .inl a1)], pz_hp n0 mi ml mr c s, true) Q := by
  refine pz_j2 [] [(3, .inl t0), (0, .inr (.inr (some 165))), (1, .inl a1)] 36 rfl rfl rfl rfl rfl ?_
  refine pz_j1 [.inl 0] 37 rfl rfl rfl rfl rfl ?_
  refine pz_j2 [] [(4, .inl 0), (3, .inl t0), (0, .inr (.inr (some 165))), (1, .inl a1)] 39 rfl rfl rfl rfl rfl ?_
  refine pz_Rn_sub (L := [(0, .inr (.inr (some 165))), (1, .inl a1), (3, .inl t0), (4, .inl 0)]) [2, 3, 1, 0] rfl rfl ?_
  exact K
theorem pz_g129_39 {a1 : Int} {a3 : Int} {a4 : Int}  (K : ((mi 165 24 ≤ a4 → (a3 = 0 ∨ a3 = 1) ∧ Q (.inl (some (.inl a3))) (pz_hp n0 mi ml mr c s)) ∧ (a4 < mi 165 24 → ((a3 = 0 → (a3 = 0 ∨ a3 = 1) ∧ Q (.inl (some (.inl a3))) (pz_hp n0 mi ml mr c s)) ∧ (a3 ≠ 0 → ((mi 165 31 ≠ 0 → (a3 = 0 ∨ a3 = 1) ∧ Q (.inl (some (.inl a3))) (pz_hp n0 mi ml mr c s)) ∧ (mi 165 31 = 0 → pz_Rn d 125 (0, [], [(0, .inr (.inr (some 165))), (1, .inl a1), (2, .inl a4)], pz_hp n0 mi ml mr c s, true) (pz_K (d + 1) 129 63 [] [(0, .inr (.inr (some 165))), (1, .inl a1), (3, .inl a3), (4, .inl a4)] Q true)))))))) : pz_Rn (d + 1) 129 (39, [], [(0, .inr (.inr (some 165))), (1, .inl a1), (3, .inl a3), (4, .inl a4)], pz_hp n0 mi ml mr c s, true) Q := by
  refine pz_j1 [.inl a4] 41 rfl rfl rfl rfl rfl ?_
  refine pz_j1 [.inr (.inr (some 165)), .inl a4] 42 rfl rfl rfl rfl rfl ?_
  refine pz_j1 [.inl (mi 165 24), .inl a4] 45 rfl rfl rfl rfl (pz_a2 rfl pz_S165) ?_
  refine pz_j1 [] (bif pz_cp .ge a4 (mi 165 24) then 124 else 48) rfl rfl rfl rfl rfl ?_
  refine pz_Rn_if pz_c1_ge pz_c0_ge ⟨fun b1 => ?_, fun b1 => ?_⟩
  · replace K := K.1 b1
    refine pz_j1 [.inl a3] 125 rfl rfl rfl rfl rfl ?_
    obtain ⟨k2, K⟩ := K
    exact pz_Rn_ret rfl rfl rfl (pz_a2 rfl (pz_ok_zz k2)) K
  · replace K := K.2 b1
    refine pz_j1 [.inl a3] 49 rfl rfl rfl rfl rfl ?_
    refine pz_j1 [] (bif pz_cp .eq a3 0 then 124 else 52) rfl rfl rfl rfl rfl ?_
    refine pz_Rn_if pz_c1_eq pz_c0_eq ⟨fun b3 => ?_, fun b3 => ?_⟩
    · replace K := K.1 b3
      refine pz_j1 [.inl a3] 125 rfl rfl rfl rfl rfl ?_
      obtain ⟨k4, K⟩ := K
      exact pz_Rn_ret rfl rfl rfl (pz_a2 rfl (pz_ok_zz k4)) K
    · replace K := K.2 b3
      refine pz_j1 [.inr (.inr (some 165))] 53 rfl rfl rfl rfl rfl ?_
      refine pz_j1 [.inl (mi 165 31)] 56 rfl rfl rfl rfl (pz_a2 rfl pz_S165) ?_
      refine pz_j1 [] (bif pz_cp .ne (mi 165 31) 0 then 124 else 59) rfl rfl rfl rfl rfl ?_
      refine pz_Rn_if pz_c1_ne pz_c0_ne ⟨fun b5 => ?_, fun b5 => ?_⟩
      · replace K := K.1 b5
        refine pz_j1 [.inl a3] 125 rfl rfl rfl rfl rfl ?_
        obtain ⟨k6, K⟩ := K
        exact pz_Rn_ret rfl rfl rfl (pz_a2 rfl (pz_ok_zz k6)) K
      · replace K := K.2 b5
        refine pz_j1 [.inr (.inr (some 165))] 60 rfl rfl rfl rfl rfl ?_
        refine pz_j1 [.inl a1, .inr (.inr (some 165))] 61 rfl rfl rfl rfl rfl ?_
        refine pz_j1 [.inl a4, .inl a1, .inr (.inr (some 165))] 63 rfl rfl rfl rfl rfl ?_
        exact pz_Rn_k (y := 124) rfl rfl rfl rfl rfl rfl rfl rfl (pz_cok_v rfl rfl pz_S165) K
theorem pz_g129_66 {a1 : Int} {a3 : Int} {a4 : Int} {t0 : Int}  (K : ((t0 ≠ 0 → (0 ≤ a4 ∧ a4 < 120) ∧ (0 ≤ a4 ∧ a4 < 120) ∧ pz_Rn d 127 (0, [], [(0, .inr (.inr (some 165))), (1, .inl a1), (2, .inl (mi 184 ((a4).toNat))), (3, .inl (mi 185 ((a4).toNat)))], pz_hp n0 mi ml mr c s, true) (pz_K (d + 1) 129 88 [] [(0, .inr (.inr (some 165))), (1, .inl a1), (4, .inl a4)] Q true)) ∧ (t0 = 0 → (-2147483648 ≤ a4 + 1 ∧ a4 + 1 ≤ 2147483647) ∧ pz_Rn (d + 1) 129 (39, [], [(0, .inr (.inr (some 165))), (1, .inl a1), (3, .inl a3), (4, .inl (a4 + 1))], pz_hp n0 mi ml mr c s, true) Q))) : pz_Rn (d + 1) 129 (66, [.inl t0], [(0, .inr (.inr (some 165))), (1, .inl a1), (3, .inl a3), (4, .inl a4)], pz_hp n0 mi ml mr c s, true) Q := by
  refine pz_j1 [] (bif pz_cp .ne t0 0 then 72 else 69) rfl rfl rfl rfl rfl ?_
  refine pz_Rn_if pz_c1_ne pz_c0_ne ⟨fun b1 => ?_, fun b1 => ?_⟩
  · replace K := K.1 b1
    refine pz_j1 [.inr (.inr (some 165))] 73 rfl rfl rfl rfl rfl ?_
    refine pz_j1 [.inl a1, .inr (.inr (some 165))] 74 rfl rfl rfl rfl rfl ?_
    refine pz_j1 [.inr (.inr (some 165)), .inl a1, .inr (.inr (some 165))] 75 rfl rfl rfl rfl rfl ?_
    refine pz_j1 [.inr (.inr (some 184)), .inl a1, .inr (.inr (some 165))] 78 rfl rfl rfl rfl (pz_a2 rfl pz_S165) ?_
    refine pz_j1 [.inl a4, .inr (.inr (some 184)), .inl a1, .inr (.inr (some 165))] 80 rfl rfl rfl rfl rfl ?_
    obtain ⟨k2, K⟩ := K
    refine pz_j1 [.inl (mi 184 ((a4).toNat)), .inl a1, .inr (.inr (some 165))] 81 rfl rfl rfl rfl (pz_a2 rfl (pz_ok_ixs pz_S184 k2)) ?_
    refine pz_j1 [.inr (.inr (some 165)), .inl (mi 184 ((a4).toNat)), .inl a1, .inr (.inr (some 165))] 82 rfl rfl rfl rfl rfl ?_
    refine pz_j1 [.inr (.inr (some 185)), .inl (mi 184 ((a4).toNat)), .inl a1, .inr (.inr (some 165))] 85 rfl rfl rfl rfl (pz_a2 rfl pz_S165) ?_
    refine pz_j1 [.inl a4, .inr (.inr (some 185)), .inl (mi 184 ((a4).toNat)), .inl a1, .inr (.inr (some 165))] 87 rfl rfl rfl rfl rfl ?_
    obtain ⟨k3, K⟩ := K
    refine pz_j1 [.inl (mi 185 ((a4).toNat)), .inl (mi 184 ((a4).toNat)), .inl a1, .inr (.inr (some 165))] 88 rfl rfl rfl rfl (pz_a2 rfl (pz_ok_ixs pz_S185 k3)) ?_
    refine pz_Rn_sub (L := [(0, .inr (.inr (some 165))), (1, .inl a1), (4, .inl a4)]) [0, 1, 3] rfl rfl ?_
    exact pz_Rn_k (y := 126) rfl rfl rfl rfl rfl rfl rfl rfl (pz_cok_v rfl rfl pz_S165) K
  · replace K := K.2 b1
    refine pz_j1 [] 118 rfl rfl rfl rfl rfl ?_
    obtain ⟨k4, K⟩ := K
    refine pz_j2 [] [(4, .inl (a4 + 1)), (0, .inr (.inr (some 165))), (1, .inl a1), (3, .inl a3)] 121 rfl rfl rfl rfl (pz_a2 (pz_ok_in k4) rfl) ?_
    refine pz_j1 [] 39 rfl rfl rfl rfl rfl ?_
    refine pz_Rn_sub (L := [(0, .inr (.inr (some 165))), (1, .inl a1), (3, .inl a3), (4, .inl (a4 + 1))]) [1, 2, 3, 0] rfl rfl ?_
    exact K
theorem pz_g129_91 {a1 : Int} {a4 : Int} {t0 : Int}  (K : ((t0 = 2 → (-2147483648 ≤ a4 + 1 ∧ a4 + 1 ≤ 2147483647) ∧ pz_Rn (d + 1) 129 (39, [], [(0, .inr (.inr (some 165))), (1, .inl a1), (3, .inl 0), (4, .inl (a4 + 1))], pz_hp n0 mi ml mr c s, true) Q) ∧ (t0 ≠ 2 → ((t0 ≠ 0 → (-2147483648 ≤ a4 + 1 ∧ a4 + 1 ≤ 2147483647) ∧ pz_Rn (d + 1) 129 (39, [], [(0, .inr (.inr (some 165))), (1, .inl a1), (3, .inl 1), (4, .inl (a4 + 1))], pz_hp n0 mi ml mr c s, true) Q) ∧ (t0 = 0 → pz_Rn d 128 (0, [], [(0, .inr (.inr (some 165))), (1, .inl a1), (2, .inl a4), (3, .inl 0)], pz_hp n0 mi ml mr c s, true) (pz_K (d + 1) 129 115 [] [(0, .inr (.inr (some 165))), (1, .inl a1), (3, .inl 1), (4, .inl a4)] Q true)))))) : pz_Rn (d + 1) 129 (91, [.inl t0], [(0, .inr (.inr (some 165))), (1, .inl a1), (4, .inl a4)], pz_hp n0 mi ml mr c s, true) Q := by
  refine pz_j2 [] [(5, .inl t0), (0, .inr (.inr (some 165))), (1, .inl a1), (4, .inl a4)] 93 rfl rfl rfl rfl rfl ?_
  refine pz_j1 [.inl t0] 95 rfl rfl rfl rfl rfl ?_
  refine pz_j1 [.inl 2, .inl t0] 96 rfl rfl rfl rfl rfl ?_
  refine pz_j1 [] (bif pz_cp .eq t0 2 then 103 else 99) rfl rfl rfl rfl rfl ?_
  refine pz_Rn_if pz_c1_eq pz_c0_eq ⟨fun b1 => ?_, fun b1 => ?_⟩
  · replace K := K.1 b1
    refine pz_j1 [.inl 0] 104 rfl rfl rfl rfl rfl ?_
    refine pz_j2 [] [(3, .inl 0), (5, .inl t0), (0, .inr (.inr (some 165))), (1, .inl a1), (4, .inl a4)] 105 rfl rfl rfl rfl rfl ?_
    refine pz_j1 [.inl t0] 107 rfl rfl rfl rfl rfl ?_
    refine pz_j1 [] (bif pz_cp .ne t0 0 then 118 else 110) rfl rfl rfl rfl rfl ?_
    refine pz_Rn_if pz_c1_ne pz_c0_ne ⟨fun _ => ?_, fun b2 => absurd b2 (by omega)⟩
    obtain ⟨k3, K⟩ := K
    refine pz_j2 [] [(4, .inl (a4 + 1)), (3, .inl 0), (5, .inl t0), (0, .inr (.inr (some 165))), (1, .inl a1)] 121 rfl rfl rfl rfl (pz_a2 (pz_ok_in k3) rfl) ?_
    refine pz_j1 [] 39 rfl rfl rfl rfl rfl ?_
    refine pz_Rn_sub (L := [(0, .inr (.inr (some 165))), (1, .inl a1), (3, .inl 0), (4, .inl (a4 + 1))]) [3, 4, 1, 0] rfl rfl ?_
    exact K
  · replace K := K.2 b1
    refine pz_j1 [.inl 1] 100 rfl rfl rfl rfl rfl ?_
    refine pz_j1 [.inl 1] 104 rfl rfl rfl rfl rfl ?_
    refine pz_j2 [] [(3, .inl 1), (5, .inl t0), (0, .inr (.inr (some 165))), (1, .inl a1), (4, .inl a4)] 105 rfl rfl rfl rfl rfl ?_
    refine pz_j1 [.inl t0] 107 rfl rfl rfl rfl rfl ?_
    refine pz_j1 [] (bif pz_cp .ne t0 0 then 118 else 110) rfl rfl rfl rfl rfl ?_
    refine pz_Rn_if pz_c1_ne pz_c0_ne ⟨fun b4 => ?_, fun b4 => ?_⟩
    · replace K := K.1 b4
      obtain ⟨k5, K⟩ := K
      refine pz_j2 [] [(4, .inl (a4 + 1)), (3, .inl 1), (5, .inl t0), (0, .inr (.inr (some 165))), (1, .inl a1)] 121 rfl rfl rfl rfl (pz_a2 (pz_ok_in k5) rfl) ?_
      refine pz_j1 [] 39 rfl rfl rfl rfl rfl ?_
      refine pz_Rn_sub (L := [(0, .inr (.inr (some 165))), (1, .inl a1), (3, .inl 1), (4, .inl (a4 + 1))]) [3, 4, 1, 0] rfl rfl ?_
      exact K
    · replace K := K.2 b4
      refine pz_j1 [.inr (.inr (some 165))] 111 rfl rfl rfl rfl rfl ?_
      refine pz_j1 [.inl a1, .inr (.inr (some 165))] 112 rfl rfl rfl rfl rfl ?_
      refine pz_j1 [.inl a4, .inl a1, .inr (.inr (some 165))] 114 rfl rfl rfl rfl rfl ?_
      refine pz_j1 [.inl 0, .inl a4, .inl a1, .inr (.inr (some 165))] 115 rfl rfl rfl rfl rfl ?_
      refine pz_Rn_sub (L := [(0, .inr (.inr (some 165))), (1, .inl a1), (3, .inl 1), (4, .inl a4)]) [2, 3, 0, 4] rfl rfl ?_
      exact pz_Rn_k (y := 127) rfl rfl rfl rfl rfl rfl rfl rfl (pz_cok_v rfl rfl pz_S165) K
theorem pz_g129_118 {a1 : Int} {a3 : Int} {a4 : Int}  (K : (-2147483648 ≤ a4 + 1 ∧ a4 + 1 ≤ 2147483647) ∧ pz_Rn (d + 1) 129 (39, [], [(0, .inr (.inr (some 165))), (1, .inl a1), (3, .inl a3), (4, .inl (a4 + 1))], pz_hp n0 mi ml mr c s, true) Q) : pz_Rn (d + 1) 129 (118, [], [(0, .inr (.inr (some 165))), (1, .inl a1), (3, .inl a3), (4, .inl a4)], pz_hp n0 mi ml mr c s, true) Q := by
  obtain ⟨k1, K⟩ := K
  refine pz_j2 [] [(4, .inl (a4 + 1)), (0, .inr (.inr (some 165))), (1, .inl a1), (3, .inl a3)] 121 rfl rfl rfl rfl (pz_a2 (pz_ok_in k1) rfl) ?_
  refine pz_j1 [] 39 rfl rfl rfl rfl rfl ?_
  refine pz_Rn_sub (L := [(0, .inr (.inr (some 165))), (1, .inl a1), (3, .inl a3), (4, .inl (a4 + 1))]) [1, 2, 3, 0] rfl rfl ?_
  exact K
-- 130 RelationStreamModel.differ(II)Z
theorem pz_g130_0 {a1 : Int} {a2 : Int}  (K : (0 ≤ a2 ∧ a2 < 40) ∧ (0 ≤ a1 ∧ a1 < 64) ∧ pz_Rn d 114 (0, [], [(0, .inl (mi 170 ((a2).toNat))), (1, .inl (mi 179 ((a1).toNat)))], pz_hp n0 mi ml mr c s, true) (pz_K (d + 1) 130 12 [] [(0, .inr (.inr (some 165))), (1, .inl a1), (2, .inl a2)] Q true)) : pz_Rn (d + 1) 130 (0, [], [(0, .inr (.inr (some 165))), (1, .inl a1), (2, .inl a2)], pz_hp n0 mi ml mr c s, true) Q := by
  refine pz_j1 [.inr (.inr (some 165))] 1 rfl rfl rfl rfl rfl ?_
  refine pz_j1 [.inr (.inr (some 170))] 4 rfl rfl rfl rfl (pz_a2 rfl pz_S165) ?_
  refine pz_j1 [.inl a2, .inr (.inr (some 170))] 5 rfl rfl rfl rfl rfl ?_
  obtain ⟨k1, K⟩ := K
  refine pz_j1 [.inl (mi 170 ((a2).toNat))] 6 rfl rfl rfl rfl (pz_a2 rfl (pz_ok_ixs pz_S170 k1)) ?_
  refine pz_j1 [.inr (.inr (some 165)), .inl (mi 170 ((a2).toNat))] 7 rfl rfl rfl rfl rfl ?_
  refine pz_j1 [.inr (.inr (some 179)), .inl (mi 170 ((a2).toNat))] 10 rfl rfl rfl rfl (pz_a2 rfl pz_S165) ?_
  refine pz_j1 [.inl a1, .inr (.inr (some 179)), .inl (mi 170 ((a2).toNat))] 11 rfl rfl rfl rfl rfl ?_
  obtain ⟨k2, K⟩ := K
  refine pz_j1 [.inl (mi 179 ((a1).toNat)), .inl (mi 170 ((a2).toNat))] 12 rfl rfl rfl rfl (pz_a2 rfl (pz_ok_ixs pz_S179 k2)) ?_
  exact pz_Rn_k (y := 113) rfl rfl rfl rfl rfl rfl rfl rfl rfl K
theorem pz_g130_15 {a1 : Int} {a2 : Int} {t0 : Int}  (K : (0 ≤ a2 ∧ a2 < 40) ∧ (0 ≤ a1 ∧ a1 < 64) ∧ pz_Rn d 114 (0, [], [(0, .inl (mi 171 ((a2).toNat))), (1, .inl (mi 179 ((a1).toNat)))], pz_hp n0 mi ml mr c s, true) (pz_K (d + 1) 130 28 [] [(0, .inr (.inr (some 165))), (1, .inl a1), (3, .inl t0)] Q true)) : pz_Rn (d + 1) 130 (15, [.inl t0], [(0, .inr (.inr (some 165))), (1, .inl a1), (2, .inl a2)], pz_hp n0 mi ml mr c s, true) Q := by
  refine pz_j2 [] [(3, .inl t0), (0, .inr (.inr (some 165))), (1, .inl a1), (2, .inl a2)] 16 rfl rfl rfl rfl rfl ?_
  refine pz_j1 [.inr (.inr (some 165))] 17 rfl rfl rfl rfl rfl ?_
  refine pz_j1 [.inr (.inr (some 171))] 20 rfl rfl rfl rfl (pz_a2 rfl pz_S165) ?_
  refine pz_j1 [.inl a2, .inr (.inr (some 171))] 21 rfl rfl rfl rfl rfl ?_
  obtain ⟨k1, K⟩ := K
  refine pz_j1 [.inl (mi 171 ((a2).toNat))] 22 rfl rfl rfl rfl (pz_a2 rfl (pz_ok_ixs pz_S171 k1)) ?_
  refine pz_j1 [.inr (.inr (some 165)), .inl (mi 171 ((a2).toNat))] 23 rfl rfl rfl rfl rfl ?_
  refine pz_j1 [.inr (.inr (some 179)), .inl (mi 171 ((a2).toNat))] 26 rfl rfl rfl rfl (pz_a2 rfl pz_S165) ?_
  refine pz_j1 [.inl a1, .inr (.inr (some 179)), .inl (mi 171 ((a2).toNat))] 27 rfl rfl rfl rfl rfl ?_
  obtain ⟨k2, K⟩ := K
  refine pz_j1 [.inl (mi 179 ((a1).toNat)), .inl (mi 171 ((a2).toNat))] 28 rfl rfl rfl rfl (pz_a2 rfl (pz_ok_ixs pz_S179 k2)) ?_
  refine pz_Rn_sub (L := [(0, .inr (.inr (some 165))), (1, .inl a1), (3, .inl t0)]) [1, 2, 0] rfl rfl ?_
  exact pz_Rn_k (y := 113) rfl rfl rfl rfl rfl rfl rfl rfl rfl K
theorem pz_g130_31 {a1 : Int} {a3 : Int} {t0 : Int}  (K : pz_Rn d 127 (0, [], [(0, .inr (.inr (some 165))), (1, .inl a1), (2, .inl a3), (3, .inl t0)], pz_hp n0 mi ml mr c s, true) (pz_K (d + 1) 130 38 [] [(0, .inr (.inr (some 165))), (1, .inl a1), (3, .inl a3), (4, .inl t0)] Q true)) : pz_Rn (d + 1) 130 (31, [.inl t0], [(0, .inr (.inr (some 165))), (1, .inl a1), (3, .inl a3)], pz_hp n0 mi ml mr c s, true) Q := by
  refine pz_j2 [] [(4, .inl t0), (0, .inr (.inr (some 165))), (1, .inl a1), (3, .inl a3)] 33 rfl rfl rfl rfl rfl ?_
  refine pz_j1 [.inr (.inr (some 165))] 34 rfl rfl rfl rfl rfl ?_
  refine pz_j1 [.inl a1, .inr (.inr (some 165))] 35 rfl rfl rfl rfl rfl ?_
  refine pz_j1 [.inl a3, .inl a1, .inr (.inr (some 165))] 36 rfl rfl rfl rfl rfl ?_
  refine pz_j1 [.inl t0, .inl a3, .inl a1, .inr (.inr (some 165))] 38 rfl rfl rfl rfl rfl ?_
  refine pz_Rn_sub (L := [(0, .inr (.inr (some 165))), (1, .inl a1), (3, .inl a3), (4, .inl t0)]) [1, 2, 3, 0] rfl rfl ?_
  exact pz_Rn_k (y := 126) rfl rfl rfl rfl rfl rfl rfl rfl (pz_cok_v rfl rfl pz_S165) K
theorem pz_g130_41 {a1 : Int} {a3 : Int} {a4 : Int} {t0 : Int}  (K : ((t0 = 1 → ((mi 165 24 ≠ 120 → (0 ≤ mi 165 24 ∧ mi 165 24 < 120) ∧ (0 ≤ mi 165 24 ∧ mi 165 24 < 120) ∧ pz_Rn d 128 (0, [], [(0, .inr (.inr (some 165))), (1, .inl a1), (2, .inl (mi 165 24)), (3, .inl 1)], pz_hp n0 (pz_up (pz_up mi 184 ((mi 165 24).toNat) a3) 185 ((mi 165 24).toNat) a4) ml mr c s, true) (pz_K (d + 1) 130 104 [] [(0, .inr (.inr (some 165)))] Q true)) ∧ (mi 165 24 = 120 → Q (.inl (some (.inl 0))) (pz_hp n0 (pz_up mi 165 31 1) ml mr c s)))) ∧ (t0 ≠ 1 → ((t0 ≠ 0 → Q (.inl (some (.inl 0))) (pz_hp n0 mi ml mr c s)) ∧ (t0 = 0 → Q (.inl (some (.inl 1))) (pz_hp n0 mi ml mr c s)))))) : pz_Rn (d + 1) 130 (41, [.inl t0], [(0, .inr (.inr (some 165))), (1, .inl a1), (3, .inl a3), (4, .inl a4)], pz_hp n0 mi ml mr c s, true) Q := by
  refine pz_j2 [] [(5, .inl t0), (0, .inr (.inr (some 165))), (1, .inl a1), (3, .inl a3), (4, .inl a4)] 43 rfl rfl rfl rfl rfl ?_
  refine pz_j1 [.inl t0] 45 rfl rfl rfl rfl rfl ?_
  refine pz_j1 [.inl 1, .inl t0] 46 rfl rfl rfl rfl rfl ?_
  refine pz_j1 [] (bif pz_cp .eq t0 1 then 60 else 49) rfl rfl rfl rfl rfl ?_
  refine pz_Rn_if pz_c1_eq pz_c0_eq ⟨fun b1 => ?_, fun b1 => ?_⟩
  · replace K := K.1 b1
    refine pz_j1 [.inr (.inr (some 165))] 61 rfl rfl rfl rfl rfl ?_
    refine pz_j1 [.inl (mi 165 24)] 64 rfl rfl rfl rfl (pz_a2 rfl pz_S165) ?_
    refine pz_j1 [.inl 120, .inl (mi 165 24)] 66 rfl rfl rfl rfl rfl ?_
    refine pz_j1 [] (bif pz_cp .ne (mi 165 24) 120 then 76 else 69) rfl rfl rfl rfl rfl ?_
    refine pz_Rn_if pz_c1_ne pz_c0_ne ⟨fun b2 => ?_, fun b2 => ?_⟩
    · replace K := K.1 b2
      refine pz_j1 [.inr (.inr (some 165))] 77 rfl rfl rfl rfl rfl ?_
      refine pz_j1 [.inr (.inr (some 184))] 80 rfl rfl rfl rfl (pz_a2 rfl pz_S165) ?_
      refine pz_j1 [.inr (.inr (some 165)), .inr (.inr (some 184))] 81 rfl rfl rfl rfl rfl ?_
      refine pz_j1 [.inl (mi 165 24), .inr (.inr (some 184))] 84 rfl rfl rfl rfl (pz_a2 rfl pz_S165) ?_
      refine pz_j1 [.inl a3, .inl (mi 165 24), .inr (.inr (some 184))] 85 rfl rfl rfl rfl rfl ?_
      obtain ⟨k3, K⟩ := K
      refine pz_j3 [] [(5, .inl t0), (0, .inr (.inr (some 165))), (1, .inl a1), (3, .inl a3), (4, .inl a4)] (pz_hp n0 (pz_up mi 184 ((mi 165 24).toNat) a3) ml mr c s) 86 rfl rfl rfl rfl (pz_a2 rfl (pz_ok_ix pz_S184 k3)) ?_
      refine pz_j1 [.inr (.inr (some 165))] 87 rfl rfl rfl rfl rfl ?_
      refine pz_j1 [.inr (.inr (some 185))] 90 rfl rfl rfl rfl (pz_a2 rfl pz_S165) ?_
      refine pz_j1 [.inr (.inr (some 165)), .inr (.inr (some 185))] 91 rfl rfl rfl rfl rfl ?_
      refine pz_j1 [.inl (mi 165 24), .inr (.inr (some 185))] 94 rfl rfl rfl rfl (pz_a2 rfl pz_S165) ?_
      refine pz_j1 [.inl a4, .inl (mi 165 24), .inr (.inr (some 185))] 96 rfl rfl rfl rfl rfl ?_
      obtain ⟨k4, K⟩ := K
      refine pz_j3 [] [(5, .inl t0), (0, .inr (.inr (some 165))), (1, .inl a1), (3, .inl a3), (4, .inl a4)] (pz_hp n0 (pz_up (pz_up mi 184 ((mi 165 24).toNat) a3) 185 ((mi 165 24).toNat) a4) ml mr c s) 97 rfl rfl rfl rfl (pz_a2 rfl (pz_ok_ix pz_S185 k4)) ?_
      refine pz_j1 [.inr (.inr (some 165))] 98 rfl rfl rfl rfl rfl ?_
      refine pz_j1 [.inl a1, .inr (.inr (some 165))] 99 rfl rfl rfl rfl rfl ?_
      refine pz_j1 [.inr (.inr (some 165)), .inl a1, .inr (.inr (some 165))] 100 rfl rfl rfl rfl rfl ?_
      refine pz_j1 [.inl (mi 165 24), .inl a1, .inr (.inr (some 165))] 103 rfl rfl rfl rfl (pz_a2 rfl pz_S165) ?_
      refine pz_j1 [.inl 1, .inl (mi 165 24), .inl a1, .inr (.inr (some 165))] 104 rfl rfl rfl rfl rfl ?_
      refine pz_Rn_sub (L := [(0, .inr (.inr (some 165)))]) [1] rfl rfl ?_
      exact pz_Rn_k (y := 127) rfl rfl rfl rfl rfl rfl rfl rfl (pz_cok_v rfl rfl pz_S165) K
    · replace K := K.2 b2
      refine pz_j1 [.inr (.inr (some 165))] 70 rfl rfl rfl rfl rfl ?_
      refine pz_j1 [.inl 1, .inr (.inr (some 165))] 71 rfl rfl rfl rfl rfl ?_
      refine pz_j3 [] [(5, .inl t0), (0, .inr (.inr (some 165))), (1, .inl a1), (3, .inl a3), (4, .inl a4)] (pz_hp n0 (pz_up mi 165 31 1) ml mr c s) 74 rfl rfl rfl rfl (pz_a2 rfl (pz_a2 pz_S165 (pz_a2 rfl rfl))) ?_
      refine pz_j1 [.inl 0] 75 rfl rfl rfl rfl rfl ?_
      exact pz_Rn_ret rfl rfl rfl rfl K
  · replace K := K.2 b1
    refine pz_j1 [.inl t0] 51 rfl rfl rfl rfl rfl ?_
    refine pz_j1 [] (bif pz_cp .ne t0 0 then 58 else 54) rfl rfl rfl rfl rfl ?_
    refine pz_Rn_if pz_c1_ne pz_c0_ne ⟨fun b5 => ?_, fun b5 => ?_⟩
    · replace K := K.1 b5
      refine pz_j1 [.inl 0] 59 rfl rfl rfl rfl rfl ?_
      exact pz_Rn_ret rfl rfl rfl rfl K
    · replace K := K.2 b5
      refine pz_j1 [.inl 1] 55 rfl rfl rfl rfl rfl ?_
      refine pz_j1 [.inl 1] 59 rfl rfl rfl rfl rfl ?_
      exact pz_Rn_ret rfl rfl rfl rfl K
theorem pz_g130_107   (K : (-2147483648 ≤ (mi 165 24) + 1 ∧ (mi 165 24) + 1 ≤ 2147483647) ∧ Q (.inl (some (.inl 1))) (pz_hp n0 (pz_up mi 165 24 ((mi 165 24) + 1)) ml mr c s)) : pz_Rn (d + 1) 130 (107, [], [(0, .inr (.inr (some 165)))], pz_hp n0 mi ml mr c s, true) Q := by
  refine pz_j1 [.inr (.inr (some 165))] 108 rfl rfl rfl rfl rfl ?_
  refine pz_j1 [.inr (.inr (some 165)), .inr (.inr (some 165))] 109 rfl rfl rfl rfl rfl ?_
  refine pz_j1 [.inl (mi 165 24), .inr (.inr (some 165))] 112 rfl rfl rfl rfl (pz_a2 rfl pz_S165) ?_
  refine pz_j1 [.inl 1, .inl (mi 165 24), .inr (.inr (some 165))] 113 rfl rfl rfl rfl rfl ?_
  obtain ⟨k1, K⟩ := K
  refine pz_j1 [.inl ((mi 165 24) + 1), .inr (.inr (some 165))] 114 rfl rfl rfl rfl (pz_ok_in k1) ?_
  refine pz_j3 [] [(0, .inr (.inr (some 165)))] (pz_hp n0 (pz_up mi 165 24 ((mi 165 24) + 1)) ml mr c s) 117 rfl rfl rfl rfl (pz_a2 rfl (pz_a2 pz_S165 (pz_a2 rfl rfl))) ?_
  refine pz_j1 [.inl 1] 118 rfl rfl rfl rfl rfl ?_
  exact pz_Rn_ret rfl rfl rfl rfl K
-- 131 RelationStreamModel.free(I)V
theorem pz_g131_0 {a1 : Int}  (K : (0 ≤ a1 ∧ a1 < 64) ∧ Q (.inl none) (pz_hp n0 (pz_up (pz_up mi 176 ((a1).toNat) (mi 165 12)) 165 12 a1) ml mr c s)) : pz_Rn d 131 (0, [], [(0, .inr (.inr (some 165))), (1, .inl a1)], pz_hp n0 mi ml mr c s, true) Q := by
  refine pz_j1 [.inr (.inr (some 165))] 1 rfl rfl rfl rfl rfl ?_
  refine pz_j1 [.inr (.inr (some 176))] 4 rfl rfl rfl rfl (pz_a2 rfl pz_S165) ?_
  refine pz_j1 [.inl a1, .inr (.inr (some 176))] 5 rfl rfl rfl rfl rfl ?_
  refine pz_j1 [.inr (.inr (some 165)), .inl a1, .inr (.inr (some 176))] 6 rfl rfl rfl rfl rfl ?_
  refine pz_j1 [.inl (mi 165 12), .inl a1, .inr (.inr (some 176))] 9 rfl rfl rfl rfl (pz_a2 rfl pz_S165) ?_
  obtain ⟨k1, K⟩ := K
  refine pz_j3 [] [(0, .inr (.inr (some 165))), (1, .inl a1)] (pz_hp n0 (pz_up mi 176 ((a1).toNat) (mi 165 12)) ml mr c s) 10 rfl rfl rfl rfl (pz_a2 rfl (pz_ok_ix pz_S176 k1)) ?_
  refine pz_j1 [.inr (.inr (some 165))] 11 rfl rfl rfl rfl rfl ?_
  refine pz_j1 [.inl a1, .inr (.inr (some 165))] 12 rfl rfl rfl rfl rfl ?_
  refine pz_j3 [] [(0, .inr (.inr (some 165))), (1, .inl a1)] (pz_hp n0 (pz_up (pz_up mi 176 ((a1).toNat) (mi 165 12)) 165 12 a1) ml mr c s) 15 rfl rfl rfl rfl (pz_a2 rfl (pz_a2 pz_S165 (pz_a2 rfl rfl))) ?_
  exact pz_Rn_ret rfl rfl rfl rfl K
-- 132 RelationStreamModel.stepCall(II)I
theorem pz_g132_0 {a1 : Int} {a2 : Int}  (K : (0 ≤ a2 ∧ a2 < 40) ∧ (0 ≤ mi 170 ((a2).toNat) ∧ mi 170 ((a2).toNat) < 4) ∧ ∀ x3 : Int, x3 = mi 174 ((mi 170 ((a2).toNat)).toNat) → ((x3 ≠ (-1) → ((mi 165 28 = 40 → Q (.inl (some (.inl a1))) (pz_hp n0 (pz_up mi 165 31 1) ml mr c s)) ∧ (mi 165 28 ≠ 40 → (-2147483648 ≤ (mi 165 29) + 3 ∧ (mi 165 29) + 3 ≤ 2147483647) ∧ (((mi 165 29) + 3 ≤ 1000 → (0 ≤ a1 ∧ a1 < 64) ∧ ∀ x9 : Int, x9 = mi 179 ((a1).toNat) → pz_Rn (d + 1) 132 (63, [], [(0, .inr (.inr (some 165))), (1, .inl a1), (2, .inl a2), (3, .inl x3), (4, .inl x9), (5, .inl 0)], pz_hp n0 mi ml mr c s, true) Q) ∧ (1000 < (mi 165 29) + 3 → Q (.inl (some (.inl a1))) (pz_hp n0 (pz_up mi 165 31 1) ml mr c s)))))) ∧ (x3 = (-1) → pz_Rn d 131 (0, [], [(0, .inr (.inr (some 165))), (1, .inl a1)], pz_hp n0 mi ml mr c s, true) (pz_K (d + 1) 132 19 [] [] Q true)))) : pz_Rn (d + 1) 132 (0, [], [(0, .inr (.inr (some 165))), (1, .inl a1), (2, .inl a2)], pz_hp n0 mi ml mr c s, true) Q := by
  refine pz_j1 [.inr (.inr (some 165))] 1 rfl rfl rfl rfl rfl ?_
  refine pz_j1 [.inr (.inr (some 174))] 4 rfl rfl rfl rfl (pz_a2 rfl pz_S165) ?_
  refine pz_j1 [.inr (.inr (some 165)), .inr (.inr (some 174))] 5 rfl rfl rfl rfl rfl ?_
  refine pz_j1 [.inr (.inr (some 170)), .inr (.inr (some 174))] 8 rfl rfl rfl rfl (pz_a2 rfl pz_S165) ?_
  refine pz_j1 [.inl a2, .inr (.inr (some 170)), .inr (.inr (some 174))] 9 rfl rfl rfl rfl rfl ?_
  obtain ⟨k1, K⟩ := K
  refine pz_j1 [.inl (mi 170 ((a2).toNat)), .inr (.inr (some 174))] 10 rfl rfl rfl rfl (pz_a2 rfl (pz_ok_ixs pz_S170 k1)) ?_
  obtain ⟨k2, K⟩ := K
  refine pz_j1 [.inl (mi 174 ((mi 170 ((a2).toNat)).toNat))] 11 rfl rfl rfl rfl (pz_a2 rfl (pz_ok_ixs pz_S174 k2)) ?_
  obtain ⟨x3, hx3⟩ : ∃ x : Int, x = mi 174 ((mi 170 ((a2).toNat)).toNat) := ⟨_, rfl⟩
  rewrite [← hx3]
  replace K := K x3 hx3
  refine pz_j2 [] [(3, .inl x3), (0, .inr (.inr (some 165))), (1, .inl a1), (2, .inl a2)] 12 rfl rfl rfl rfl rfl ?_
  refine pz_j1 [.inl x3] 13 rfl rfl rfl rfl rfl ?_
  refine pz_j1 [.inl (-1), .inl x3] 14 rfl rfl rfl rfl rfl ?_
  refine pz_j1 [] (bif pz_cp .ne x3 (-1) then 24 else 17) rfl rfl rfl rfl rfl ?_
  refine pz_Rn_if pz_c1_ne pz_c0_ne ⟨fun b4 => ?_, fun b4 => ?_⟩
  · replace K := K.1 b4
    refine pz_j1 [.inr (.inr (some 165))] 25 rfl rfl rfl rfl rfl ?_
    refine pz_j1 [.inl (mi 165 28)] 28 rfl rfl rfl rfl (pz_a2 rfl pz_S165) ?_
    refine pz_j1 [.inl 40, .inl (mi 165 28)] 30 rfl rfl rfl rfl rfl ?_
    refine pz_j1 [] (bif pz_cp .eq (mi 165 28) 40 then 45 else 33) rfl rfl rfl rfl rfl ?_
    refine pz_Rn_if pz_c1_eq pz_c0_eq ⟨fun b5 => ?_, fun b5 => ?_⟩
    · replace K := K.1 b5
      refine pz_j1 [.inr (.inr (some 165))] 46 rfl rfl rfl rfl rfl ?_
      refine pz_j1 [.inl 1, .inr (.inr (some 165))] 47 rfl rfl rfl rfl rfl ?_
      refine pz_j3 [] [(3, .inl x3), (0, .inr (.inr (some 165))), (1, .inl a1), (2, .inl a2)] (pz_hp n0 (pz_up mi 165 31 1) ml mr c s) 50 rfl rfl rfl rfl (pz_a2 rfl (pz_a2 pz_S165 (pz_a2 rfl rfl))) ?_
      refine pz_j1 [.inl a1] 51 rfl rfl rfl rfl rfl ?_
      exact pz_Rn_ret rfl rfl rfl rfl K
    · replace K := K.2 b5
      refine pz_j1 [.inr (.inr (some 165))] 34 rfl rfl rfl rfl rfl ?_
      refine pz_j1 [.inl (mi 165 29)] 37 rfl rfl rfl rfl (pz_a2 rfl pz_S165) ?_
      refine pz_j1 [.inl 3, .inl (mi 165 29)] 38 rfl rfl rfl rfl rfl ?_
      obtain ⟨k6, K⟩ := K
      refine pz_j1 [.inl ((mi 165 29) + 3)] 39 rfl rfl rfl rfl (pz_ok_in k6) ?_
      refine pz_j1 [.inl 1000, .inl ((mi 165 29) + 3)] 42 rfl rfl rfl rfl rfl ?_
      refine pz_j1 [] (bif pz_cp .le ((mi 165 29) + 3) 1000 then 52 else 45) rfl rfl rfl rfl rfl ?_
      refine pz_Rn_if pz_c1_le pz_c0_le ⟨fun b7 => ?_, fun b7 => ?_⟩
      · replace K := K.1 b7
        refine pz_j1 [.inr (.inr (some 165))] 53 rfl rfl rfl rfl rfl ?_
        refine pz_j1 [.inr (.inr (some 179))] 56 rfl rfl rfl rfl (pz_a2 rfl pz_S165) ?_
        refine pz_j1 [.inl a1, .inr (.inr (some 179))] 57 rfl rfl rfl rfl rfl ?_
        obtain ⟨k8, K⟩ := K
        refine pz_j1 [.inl (mi 179 ((a1).toNat))] 58 rfl rfl rfl rfl (pz_a2 rfl (pz_ok_ixs pz_S179 k8)) ?_
        obtain ⟨x9, hx9⟩ : ∃ x : Int, x = mi 179 ((a1).toNat) := ⟨_, rfl⟩
        rewrite [← hx9]
        replace K := K x9 hx9
        refine pz_j2 [] [(4, .inl x9), (3, .inl x3), (0, .inr (.inr (some 165))), (1, .inl a1), (2, .inl a2)] 60 rfl rfl rfl rfl rfl ?_
        refine pz_j1 [.inl 0] 61 rfl rfl rfl rfl rfl ?_
        refine pz_j2 [] [(5, .inl 0), (4, .inl x9), (3, .inl x3), (0, .inr (.inr (some 165))), (1, .inl a1), (2, .inl a2)] 63 rfl rfl rfl rfl rfl ?_
        refine pz_Rn_sub (L := [(0, .inr (.inr (some 165))), (1, .inl a1), (2, .inl a2), (3, .inl x3), (4, .inl x9), (5, .inl 0)]) [3, 4, 5, 2, 1, 0] rfl rfl ?_
        exact K
      · replace K := K.2 b7
        refine pz_j1 [.inr (.inr (some 165))] 46 rfl rfl rfl rfl rfl ?_
        refine pz_j1 [.inl 1, .inr (.inr (some 165))] 47 rfl rfl rfl rfl rfl ?_
        refine pz_j3 [] [(3, .inl x3), (0, .inr (.inr (some 165))), (1, .inl a1), (2, .inl a2)] (pz_hp n0 (pz_up mi 165 31 1) ml mr c s) 50 rfl rfl rfl rfl (pz_a2 rfl (pz_a2 pz_S165 (pz_a2 rfl rfl))) ?_
        refine pz_j1 [.inl a1] 51 rfl rfl rfl rfl rfl ?_
        exact pz_Rn_ret rfl rfl rfl rfl K
  · replace K := K.2 b4
    refine pz_j1 [.inr (.inr (some 165))] 18 rfl rfl rfl rfl rfl ?_
    refine pz_j1 [.inl a1, .inr (.inr (some 165))] 19 rfl rfl rfl rfl rfl ?_
    refine pz_Rn_sub (L := []) [] rfl rfl ?_
    exact pz_Rn_k (y := 130) rfl rfl rfl rfl rfl rfl rfl rfl (pz_cok_v rfl rfl pz_S165) K
theorem pz_g132_22   (K : Q (.inl (some (.inl (-1)))) (pz_hp n0 mi ml mr c s)) : pz_Rn (d + 1) 132 (22, [], [], pz_hp n0 mi ml mr c s, true) Q := by
  refine pz_j1 [.inl (-1)] 23 rfl rfl rfl rfl rfl ?_
  exact pz_Rn_ret rfl rfl rfl rfl K
theorem pz_g132_63 {a1 : Int} {a2 : Int} {a3 : Int} {a4 : Int} {a5 : Int}  (K : ((3 ≤ a5 → (-2147483648 ≤ (mi 165 29) + 3 ∧ (mi 165 29) + 3 ≤ 2147483647) ∧ (0 ≤ a1 ∧ a1 < 64) ∧ (0 ≤ a1 ∧ a1 < 64) ∧ (-2147483648 ≤ (mi 165 28) + 1 ∧ (mi 165 28) + 1 ≤ 2147483647) ∧ Q (.inl (some (.inl a1))) (pz_hp n0 (pz_up (pz_up (pz_up (pz_up mi 165 29 ((mi 165 29) + 3)) 178 ((a1).toNat) a3) 179 ((a1).toNat) (mi 165 28)) 165 28 ((mi 165 28) + 1)) ml mr c s)) ∧ (a5 < 3 → (-2147483648 ≤ 240 * a1 ∧ 240 * a1 ≤ 2147483647) ∧ (-2147483648 ≤ 6 * (mi 165 28) ∧ 6 * (mi 165 28) ≤ 2147483647) ∧ (-2147483648 ≤ (240 * a1) + (6 * (mi 165 28)) ∧ (240 * a1) + (6 * (mi 165 28)) ≤ 2147483647) ∧ (-2147483648 ≤ ((240 * a1) + (6 * (mi 165 28))) + a5 ∧ ((240 * a1) + (6 * (mi 165 28))) + a5 ≤ 2147483647) ∧ ((a5 ≠ 0 → ((a5 ≠ 1 → (0 ≤ a2 ∧ a2 < 40) ∧ pz_Rn d 114 (0, [], [(0, .inl (mi 173 ((a2).toNat))), (1, .inl a4)], pz_hp n0 mi ml mr c s, true) (pz_K (d + 1) 132 126 [.inl (((240 * a1) + (6 * (mi 165 28))) + a5), .inr (.inr (some 182))] [(0, .inr (.inr (some 165))), (1, .inl a1), (2, .inl a2), (3, .inl a3), (4, .inl a4), (5, .inl a5)] Q true)) ∧ (a5 = 1 → (0 ≤ a2 ∧ a2 < 40) ∧ pz_Rn d 114 (0, [], [(0, .inl (mi 172 ((a2).toNat))), (1, .inl a4)], pz_hp n0 mi ml mr c s, true) (pz_K (d + 1) 132 126 [.inl (((240 * a1) + (6 * (mi 165 28))) + a5), .inr (.inr (some 182))] [(0, .inr (.inr (some 165))), (1, .inl a1), (2, .inl a2), (3, .inl a3), (4, .inl a4), (5, .inl a5)] Q true)))) ∧ (a5 = 0 → (0 ≤ a2 ∧ a2 < 40) ∧ pz_Rn d 114 (0, [], [(0, .inl (mi 171 ((a2).toNat))), (1, .inl a4)], pz_hp n0 mi ml mr c s, true) (pz_K (d + 1) 132 126 [.inl (((240 * a1) + (6 * (mi 165 28))) + a5), .inr (.inr (some 182))] [(0, .inr (.inr (some 165))), (1, .inl a1), (2, .inl a2), (3, .inl a3), (4, .inl a4), (5, .inl a5)] Q true)))))) : pz_Rn (d + 1) 132 (63, [], [(0, .inr (.inr (some 165))), (1, .inl a1), (2, .inl a2), (3, .inl a3), (4, .inl a4), (5, .inl a5)], pz_hp n0 mi ml mr c s, true) Q := by
  refine pz_j1 [.inl a5] 65 rfl rfl rfl rfl rfl ?_
  refine pz_j1 [.inl 3, .inl a5] 66 rfl rfl rfl rfl rfl ?_
  refine pz_j1 [] (bif pz_cp .ge a5 3 then 136 else 69) rfl rfl rfl rfl rfl ?_
  refine pz_Rn_if pz_c1_ge pz_c0_ge ⟨fun b1 => ?_, fun b1 => ?_⟩
  · replace K := K.1 b1
    refine pz_j1 [.inr (.inr (some 165))] 137 rfl rfl rfl rfl rfl ?_
    refine pz_j1 [.inr (.inr (some 165)), .inr (.inr (some 165))] 138 rfl rfl rfl rfl rfl ?_
    refine pz_j1 [.inl (mi 165 29), .inr (.inr (some 165))] 141 rfl rfl rfl rfl (pz_a2 rfl pz_S165) ?_
    refine pz_j1 [.inl 3, .inl (mi 165 29), .inr (.inr (some 165))] 142 rfl rfl rfl rfl rfl ?_
    obtain ⟨k2, K⟩ := K
    refine pz_j1 [.inl ((mi 165 29) + 3), .inr (.inr (some 165))] 143 rfl rfl rfl rfl (pz_ok_in k2) ?_
    refine pz_j3 [] [(0, .inr (.inr (some 165))), (1, .inl a1), (2, .inl a2), (3, .inl a3), (4, .inl a4), (5, .inl a5)] (pz_hp n0 (pz_up mi 165 29 ((mi 165 29) + 3)) ml mr c s) 146 rfl rfl rfl rfl (pz_a2 rfl (pz_a2 pz_S165 (pz_a2 rfl rfl))) ?_
    refine pz_j1 [.inr (.inr (some 165))] 147 rfl rfl rfl rfl rfl ?_
    refine pz_j1 [.inr (.inr (some 178))] 150 rfl rfl rfl rfl (pz_a2 rfl pz_S165) ?_
    refine pz_j1 [.inl a1, .inr (.inr (some 178))] 151 rfl rfl rfl rfl rfl ?_
    refine pz_j1 [.inl a3, .inl a1, .inr (.inr (some 178))] 152 rfl rfl rfl rfl rfl ?_
    obtain ⟨k3, K⟩ := K
    refine pz_j3 [] [(0, .inr (.inr (some 165))), (1, .inl a1), (2, .inl a2), (3, .inl a3), (4, .inl a4), (5, .inl a5)] (pz_hp n0 (pz_up (pz_up mi 165 29 ((mi 165 29) + 3)) 178 ((a1).toNat) a3) ml mr c s) 153 rfl rfl rfl rfl (pz_a2 rfl (pz_ok_ix pz_S178 k3)) ?_
    refine pz_j1 [.inr (.inr (some 165))] 154 rfl rfl rfl rfl rfl ?_
    refine pz_j1 [.inr (.inr (some 179))] 157 rfl rfl rfl rfl (pz_a2 rfl pz_S165) ?_
    refine pz_j1 [.inl a1, .inr (.inr (some 179))] 158 rfl rfl rfl rfl rfl ?_
    refine pz_j1 [.inr (.inr (some 165)), .inl a1, .inr (.inr (some 179))] 159 rfl rfl rfl rfl rfl ?_
    refine pz_j1 [.inl (mi 165 28), .inl a1, .inr (.inr (some 179))] 162 rfl rfl rfl rfl (pz_a2 rfl pz_S165) ?_
    obtain ⟨k4, K⟩ := K
    refine pz_j3 [] [(0, .inr (.inr (some 165))), (1, .inl a1), (2, .inl a2), (3, .inl a3), (4, .inl a4), (5, .inl a5)] (pz_hp n0 (pz_up (pz_up (pz_up mi 165 29 ((mi 165 29) + 3)) 178 ((a1).toNat) a3) 179 ((a1).toNat) (mi 165 28)) ml mr c s) 163 rfl rfl rfl rfl (pz_a2 rfl (pz_ok_ix pz_S179 k4)) ?_
    refine pz_j1 [.inr (.inr (some 165))] 164 rfl rfl rfl rfl rfl ?_
    refine pz_j1 [.inr (.inr (some 165)), .inr (.inr (some 165))] 165 rfl rfl rfl rfl rfl ?_
    refine pz_j1 [.inl (mi 165 28), .inr (.inr (some 165))] 168 rfl rfl rfl rfl (pz_a2 rfl pz_S165) ?_
    refine pz_j1 [.inl 1, .inl (mi 165 28), .inr (.inr (some 165))] 169 rfl rfl rfl rfl rfl ?_
    obtain ⟨k5, K⟩ := K
    refine pz_j1 [.inl ((mi 165 28) + 1), .inr (.inr (some 165))] 170 rfl rfl rfl rfl (pz_ok_in k5) ?_
    refine pz_j3 [] [(0, .inr (.inr (some 165))), (1, .inl a1), (2, .inl a2), (3, .inl a3), (4, .inl a4), (5, .inl a5)] (pz_hp n0 (pz_up (pz_up (pz_up (pz_up mi 165 29 ((mi 165 29) + 3)) 178 ((a1).toNat) a3) 179 ((a1).toNat) (mi 165 28)) 165 28 ((mi 165 28) + 1)) ml mr c s) 173 rfl rfl rfl rfl (pz_a2 rfl (pz_a2 pz_S165 (pz_a2 rfl rfl))) ?_
    refine pz_j1 [.inl a1] 174 rfl rfl rfl rfl rfl ?_
    exact pz_Rn_ret rfl rfl rfl rfl K
  · replace K := K.2 b1
    refine pz_j1 [.inr (.inr (some 165))] 70 rfl rfl rfl rfl rfl ?_
    refine pz_j1 [.inr (.inr (some 182))] 73 rfl rfl rfl rfl (pz_a2 rfl pz_S165) ?_
    refine pz_j1 [.inl 240, .inr (.inr (some 182))] 76 rfl rfl rfl rfl rfl ?_
    refine pz_j1 [.inl a1, .inl 240, .inr (.inr (some 182))] 77 rfl rfl rfl rfl rfl ?_
    obtain ⟨k6, K⟩ := K
    refine pz_j1 [.inl (240 * a1), .inr (.inr (some 182))] 78 rfl rfl rfl rfl (pz_ok_in k6) ?_
    refine pz_j1 [.inl 6, .inl (240 * a1), .inr (.inr (some 182))] 80 rfl rfl rfl rfl rfl ?_
    refine pz_j1 [.inr (.inr (some 165)), .inl 6, .inl (240 * a1), .inr (.inr (some 182))] 81 rfl rfl rfl rfl rfl ?_
    refine pz_j1 [.inl (mi 165 28), .inl 6, .inl (240 * a1), .inr (.inr (some 182))] 84 rfl rfl rfl rfl (pz_a2 rfl pz_S165) ?_
    obtain ⟨k7, K⟩ := K
    refine pz_j1 [.inl (6 * (mi 165 28)), .inl (240 * a1), .inr (.inr (some 182))] 85 rfl rfl rfl rfl (pz_ok_in k7) ?_
    obtain ⟨k8, K⟩ := K
    refine pz_j1 [.inl ((240 * a1) + (6 * (mi 165 28))), .inr (.inr (some 182))] 86 rfl rfl rfl rfl (pz_ok_in k8) ?_
    refine pz_j1 [.inl a5, .inl ((240 * a1) + (6 * (mi 165 28))), .inr (.inr (some 182))] 88 rfl rfl rfl rfl rfl ?_
    obtain ⟨k9, K⟩ := K
    refine pz_j1 [.inl (((240 * a1) + (6 * (mi 165 28))) + a5), .inr (.inr (some 182))] 89 rfl rfl rfl rfl (pz_ok_in k9) ?_
    refine pz_j1 [.inl a5, .inl (((240 * a1) + (6 * (mi 165 28))) + a5), .inr (.inr (some 182))] 91 rfl rfl rfl rfl rfl ?_
    refine pz_j1 [.inl (((240 * a1) + (6 * (mi 165 28))) + a5), .inr (.inr (some 182))] (bif pz_cp .ne a5 0 then 103 else 94) rfl rfl rfl rfl rfl ?_
    refine pz_Rn_if pz_c1_ne pz_c0_ne ⟨fun b10 => ?_, fun b10 => ?_⟩
    · replace K := K.1 b10
      refine pz_j1 [.inl a5, .inl (((240 * a1) + (6 * (mi 165 28))) + a5), .inr (.inr (some 182))] 105 rfl rfl rfl rfl rfl ?_
      refine pz_j1 [.inl 1, .inl a5, .inl (((240 * a1) + (6 * (mi 165 28))) + a5), .inr (.inr (some 182))] 106 rfl rfl rfl rfl rfl ?_
      refine pz_j1 [.inl (((240 * a1) + (6 * (mi 165 28))) + a5), .inr (.inr (some 182))] (bif pz_cp .ne a5 1 then 118 else 109) rfl rfl rfl rfl rfl ?_
      refine pz_Rn_if pz_c1_ne pz_c0_ne ⟨fun b11 => ?_, fun b11 => ?_⟩
      · replace K := K.1 b11
        refine pz_j1 [.inr (.inr (some 165)), .inl (((240 * a1) + (6 * (mi 165 28))) + a5), .inr (.inr (some 182))] 119 rfl rfl rfl rfl rfl ?_
        refine pz_j1 [.inr (.inr (some 173)), .inl (((240 * a1) + (6 * (mi 165 28))) + a5), .inr (.inr (some 182))] 122 rfl rfl rfl rfl (pz_a2 rfl pz_S165) ?_
        refine pz_j1 [.inl a2, .inr (.inr (some 173)), .inl (((240 * a1) + (6 * (mi 165 28))) + a5), .inr (.inr (some 182))] 123 rfl rfl rfl rfl rfl ?_
        obtain ⟨k12, K⟩ := K
        refine pz_j1 [.inl (mi 173 ((a2).toNat)), .inl (((240 * a1) + (6 * (mi 165 28))) + a5), .inr (.inr (some 182))] 124 rfl rfl rfl rfl (pz_a2 rfl (pz_ok_ixs pz_S173 k12)) ?_
        refine pz_j1 [.inl a4, .inl (mi 173 ((a2).toNat)), .inl (((240 * a1) + (6 * (mi 165 28))) + a5), .inr (.inr (some 182))] 126 rfl rfl rfl rfl rfl ?_
        exact pz_Rn_k (y := 113) rfl rfl rfl rfl rfl rfl rfl rfl rfl K
      · replace K := K.2 b11
        refine pz_j1 [.inr (.inr (some 165)), .inl (((240 * a1) + (6 * (mi 165 28))) + a5), .inr (.inr (some 182))] 110 rfl rfl rfl rfl rfl ?_
        refine pz_j1 [.inr (.inr (some 172)), .inl (((240 * a1) + (6 * (mi 165 28))) + a5), .inr (.inr (some 182))] 113 rfl rfl rfl rfl (pz_a2 rfl pz_S165) ?_
        refine pz_j1 [.inl a2, .inr (.inr (some 172)), .inl (((240 * a1) + (6 * (mi 165 28))) + a5), .inr (.inr (some 182))] 114 rfl rfl rfl rfl rfl ?_
        obtain ⟨k13, K⟩ := K
        refine pz_j1 [.inl (mi 172 ((a2).toNat)), .inl (((240 * a1) + (6 * (mi 165 28))) + a5), .inr (.inr (some 182))] 115 rfl rfl rfl rfl (pz_a2 rfl (pz_ok_ixs pz_S172 k13)) ?_
        refine pz_j1 [.inl (mi 172 ((a2).toNat)), .inl (((240 * a1) + (6 * (mi 165 28))) + a5), .inr (.inr (some 182))] 124 rfl rfl rfl rfl rfl ?_
        refine pz_j1 [.inl a4, .inl (mi 172 ((a2).toNat)), .inl (((240 * a1) + (6 * (mi 165 28))) + a5), .inr (.inr (some 182))] 126 rfl rfl rfl rfl rfl ?_
        exact pz_Rn_k (y := 113) rfl rfl rfl rfl rfl rfl rfl rfl rfl K
    · replace K := K.2 b10
      refine pz_j1 [.inr (.inr (some 165)), .inl (((240 * a1) + (6 * (mi 165 28))) + a5), .inr (.inr (some 182))] 95 rfl rfl rfl rfl rfl ?_
      refine pz_j1 [.inr (.inr (some 171)), .inl (((240 * a1) + (6 * (mi 165 28))) + a5), .inr (.inr (some 182))] 98 rfl rfl rfl rfl (pz_a2 rfl pz_S165) ?_
      refine pz_j1 [.inl a2, .inr (.inr (some 171)), .inl (((240 * a1) + (6 * (mi 165 28))) + a5), .inr (.inr (some 182))] 99 rfl rfl rfl rfl rfl ?_
      obtain ⟨k14, K⟩ := K
      refine pz_j1 [.inl (mi 171 ((a2).toNat)), .inl (((240 * a1) + (6 * (mi 165 28))) + a5), .inr (.inr (some 182))] 100 rfl rfl rfl rfl (pz_a2 rfl (pz_ok_ixs pz_S171 k14)) ?_
      refine pz_j1 [.inl (mi 171 ((a2).toNat)), .inl (((240 * a1) + (6 * (mi 165 28))) + a5), .inr (.inr (some 182))] 124 rfl rfl rfl rfl rfl ?_
      refine pz_j1 [.inl a4, .inl (mi 171 ((a2).toNat)), .inl (((240 * a1) + (6 * (mi 165 28))) + a5), .inr (.inr (some 182))] 126 rfl rfl rfl rfl rfl ?_
      exact pz_Rn_k (y := 113) rfl rfl rfl rfl rfl rfl rfl rfl rfl K
theorem pz_g132_129 {a1 : Int} {a2 : Int} {a3 : Int} {a4 : Int} {a5 : Int} {t1 : Int} {t2 : Int}  (K : (0 ≤ t1 ∧ t1 < 15120) ∧ (-2147483648 ≤ a5 + 1 ∧ a5 + 1 ≤ 2147483647) ∧ pz_Rn (d + 1) 132 (63, [], [(0, .inr (.inr (some 165))), (1, .inl a1), (2, .inl a2), (3, .inl a3), (4, .inl a4), (5, .inl (a5 + 1))], pz_hp n0 (pz_up mi 182 ((t1).toNat) t2) ml mr c s, true) Q) : pz_Rn (d + 1) 132 (129, [.inl t2, .inl t1, .inr (.inr (some 182))], [(0, .inr (.inr (some 165))), (1, .inl a1), (2, .inl a2), (3, .inl a3), (4, .inl a4), (5, .inl a5)], pz_hp n0 mi ml mr c s, true) Q := by
  obtain ⟨k1, K⟩ := K
  refine pz_j3 [] [(0, .inr (.inr (some 165))), (1, .inl a1), (2, .inl a2), (3, .inl a3), (4, .inl a4), (5, .inl a5)] (pz_hp n0 (pz_up mi 182 ((t1).toNat) t2) ml mr c s) 130 rfl rfl rfl rfl (pz_a2 rfl (pz_ok_ix pz_S182 k1)) ?_
  obtain ⟨k2, K⟩ := K
  refine pz_j2 [] [(5, .inl (a5 + 1)), (0, .inr (.inr (some 165))), (1, .inl a1), (2, .inl a2), (3, .inl a3), (4, .inl a4)] 133 rfl rfl rfl rfl (pz_a2 (pz_ok_in k2) rfl) ?_
  refine pz_j1 [] 63 rfl rfl rfl rfl rfl ?_
  refine pz_Rn_sub (L := [(0, .inr (.inr (some 165))), (1, .inl a1), (2, .inl a2), (3, .inl a3), (4, .inl a4), (5, .inl (a5 + 1))]) [1, 2, 3, 4, 5, 0] rfl rfl ?_
  exact K
-- 133 RelationStreamModel.task(III)I
theorem pz_g133_0 {a1 : Int} {a2 : Int} {a3 : Int}  (K : pz_Rn d 112 (0, [], [(0, .inr (.inr (some 165))), (1, .inl 0)], pz_hp n0 mi ml mr c s, true) (pz_K (d + 1) 133 2 [] [(0, .inr (.inr (some 165))), (1, .inl a1), (2, .inl a2), (3, .inl a3)] Q true)) : pz_Rn (d + 1) 133 (0, [], [(0, .inr (.inr (some 165))), (1, .inl a1), (2, .inl a2), (3, .inl a3)], pz_hp n0 mi ml mr c s, true) Q := by
  refine pz_j1 [.inr (.inr (some 165))] 1 rfl rfl rfl rfl rfl ?_
  refine pz_j1 [.inl 0, .inr (.inr (some 165))] 2 rfl rfl rfl rfl rfl ?_
  exact pz_Rn_k (y := 111) rfl rfl rfl rfl rfl rfl rfl rfl (pz_cok_v rfl rfl pz_S165) K
theorem pz_g133_5 {a1 : Int} {a2 : Int} {a3 : Int} {t0 : Int}  (K : (0 ≤ t0 ∧ t0 < 64) ∧ (0 ≤ t0 ∧ t0 < 64) ∧ ((t0 ≠ a3 → pz_Rn (d + 1) 133 (35, [], [(0, .inr (.inr (some 165))), (3, .inl a3), (4, .inl t0), (5, .inl 0)], pz_hp n0 (pz_up (pz_up mi 178 ((t0).toNat) a1) 179 ((t0).toNat) a2) ml mr c s, true) Q) ∧ (t0 = a3 → Q (.inl (some (.inl t0))) (pz_hp n0 (pz_up (pz_up mi 178 ((t0).toNat) a1) 179 ((t0).toNat) a2) ml mr c s)))) : pz_Rn (d + 1) 133 (5, [.inl t0], [(0, .inr (.inr (some 165))), (1, .inl a1), (2, .inl a2), (3, .inl a3)], pz_hp n0 mi ml mr c s, true) Q := by
  refine pz_j2 [] [(4, .inl t0), (0, .inr (.inr (some 165))), (1, .inl a1), (2, .inl a2), (3, .inl a3)] 7 rfl rfl rfl rfl rfl ?_
  refine pz_j1 [.inr (.inr (some 165))] 8 rfl rfl rfl rfl rfl ?_
  refine pz_j1 [.inr (.inr (some 178))] 11 rfl rfl rfl rfl (pz_a2 rfl pz_S165) ?_
  refine pz_j1 [.inl t0, .inr (.inr (some 178))] 13 rfl rfl rfl rfl rfl ?_
  refine pz_j1 [.inl a1, .inl t0, .inr (.inr (some 178))] 14 rfl rfl rfl rfl rfl ?_
  obtain ⟨k1, K⟩ := K
  refine pz_j3 [] [(4, .inl t0), (0, .inr (.inr (some 165))), (1, .inl a1), (2, .inl a2), (3, .inl a3)] (pz_hp n0 (pz_up mi 178 ((t0).toNat) a1) ml mr c s) 15 rfl rfl rfl rfl (pz_a2 rfl (pz_ok_ix pz_S178 k1)) ?_
  refine pz_j1 [.inr (.inr (some 165))] 16 rfl rfl rfl rfl rfl ?_
  refine pz_j1 [.inr (.inr (some 179))] 19 rfl rfl rfl rfl (pz_a2 rfl pz_S165) ?_
  refine pz_j1 [.inl t0, .inr (.inr (some 179))] 21 rfl rfl rfl rfl rfl ?_
  refine pz_j1 [.inl a2, .inl t0, .inr (.inr (some 179))] 22 rfl rfl rfl rfl rfl ?_
  obtain ⟨k2, K⟩ := K
  refine pz_j3 [] [(4, .inl t0), (0, .inr (.inr (some 165))), (1, .inl a1), (2, .inl a2), (3, .inl a3)] (pz_hp n0 (pz_up (pz_up mi 178 ((t0).toNat) a1) 179 ((t0).toNat) a2) ml mr c s) 23 rfl rfl rfl rfl (pz_a2 rfl (pz_ok_ix pz_S179 k2)) ?_
  refine pz_j1 [.inl t0] 25 rfl rfl rfl rfl rfl ?_
  refine pz_j1 [.inl a3, .inl t0] 26 rfl rfl rfl rfl rfl ?_
  refine pz_j1 [] (bif pz_cp .ne t0 a3 then 32 else 29) rfl rfl rfl rfl rfl ?_
  refine pz_Rn_if pz_c1_ne pz_c0_ne ⟨fun b3 => ?_, fun b3 => ?_⟩
  · replace K := K.1 b3
    refine pz_j1 [.inl 0] 33 rfl rfl rfl rfl rfl ?_
    refine pz_j2 [] [(5, .inl 0), (4, .inl t0), (0, .inr (.inr (some 165))), (1, .inl a1), (2, .inl a2), (3, .inl a3)] 35 rfl rfl rfl rfl rfl ?_
    refine pz_Rn_sub (L := [(0, .inr (.inr (some 165))), (3, .inl a3), (4, .inl t0), (5, .inl 0)]) [2, 5, 1, 0] rfl rfl ?_
    exact K
  · replace K := K.2 b3
    refine pz_j1 [.inl t0] 31 rfl rfl rfl rfl rfl ?_
    exact pz_Rn_ret rfl rfl rfl rfl K
theorem pz_g133_35 {a3 : Int} {a4 : Int} {a5 : Int}  (K : ((240 ≤ a5 → (0 ≤ a3 ∧ a3 < 64) ∧ (0 ≤ a4 ∧ a4 < 64) ∧ (0 ≤ a3 ∧ a3 < 64) ∧ (0 ≤ a4 ∧ a4 < 64) ∧ Q (.inl (some (.inl a4))) (pz_hp n0 mi (pz_up (pz_up ml 180 ((a4).toNat) (ml 180 ((a3).toNat))) 181 ((a4).toNat) (ml 181 ((a3).toNat))) mr c s)) ∧ (a5 < 240 → (-2147483648 ≤ 240 * a4 ∧ 240 * a4 ≤ 2147483647) ∧ (-2147483648 ≤ (240 * a4) + a5 ∧ (240 * a4) + a5 ≤ 2147483647) ∧ (-2147483648 ≤ 240 * a3 ∧ 240 * a3 ≤ 2147483647) ∧ (-2147483648 ≤ (240 * a3) + a5 ∧ (240 * a3) + a5 ≤ 2147483647) ∧ (0 ≤ (240 * a3) + a5 ∧ (240 * a3) + a5 < 15120) ∧ (0 ≤ (240 * a4) + a5 ∧ (240 * a4) + a5 < 15120) ∧ (-2147483648 ≤ a5 + 1 ∧ a5 + 1 ≤ 2147483647) ∧ pz_Rn (d + 1) 133 (35, [], [(0, .inr (.inr (some 165))), (3, .inl a3), (4, .inl a4), (5, .inl (a5 + 1))], pz_hp n0 (pz_up mi 182 (((240 * a4) + a5).toNat) (mi 182 (((240 * a3) + a5).toNat))) ml mr c s, true) Q))) : pz_Rn (d + 1) 133 (35, [], [(0, .inr (.inr (some 165))), (3, .inl a3), (4, .inl a4), (5, .inl a5)], pz_hp n0 mi ml mr c s, true) Q := by
  refine pz_j1 [.inl a5] 37 rfl rfl rfl rfl rfl ?_
  refine pz_j1 [.inl 240, .inl a5] 40 rfl rfl rfl rfl rfl ?_
  refine pz_j1 [] (bif pz_cp .ge a5 240 then 76 else 43) rfl rfl rfl rfl rfl ?_
  refine pz_Rn_if pz_c1_ge pz_c0_ge ⟨fun b1 => ?_, fun b1 => ?_⟩
  · replace K := K.1 b1
    refine pz_j1 [.inr (.inr (some 165))] 77 rfl rfl rfl rfl rfl ?_
    refine pz_j1 [.inr (.inr (some 180))] 80 rfl rfl rfl rfl (pz_a2 rfl pz_S165) ?_
    refine pz_j1 [.inl a4, .inr (.inr (some 180))] 82 rfl rfl rfl rfl rfl ?_
    refine pz_j1 [.inr (.inr (some 165)), .inl a4, .inr (.inr (some 180))] 83 rfl rfl rfl rfl rfl ?_
    refine pz_j1 [.inr (.inr (some 180)), .inl a4, .inr (.inr (some 180))] 86 rfl rfl rfl rfl (pz_a2 rfl pz_S165) ?_
    refine pz_j1 [.inl a3, .inr (.inr (some 180)), .inl a4, .inr (.inr (some 180))] 87 rfl rfl rfl rfl rfl ?_
    obtain ⟨k2, K⟩ := K
    refine pz_j1 [.inr (.inl (ml 180 ((a3).toNat))), .inl a4, .inr (.inr (some 180))] 88 rfl rfl rfl rfl (pz_a2 rfl (pz_ok_ix pz_S180 k2)) ?_
    obtain ⟨k3, K⟩ := K
    refine pz_j3 [] [(0, .inr (.inr (some 165))), (3, .inl a3), (4, .inl a4), (5, .inl a5)] (pz_hp n0 mi (pz_up ml 180 ((a4).toNat) (ml 180 ((a3).toNat))) mr c s) 89 rfl rfl rfl rfl (pz_a2 rfl (pz_ok_ix pz_S180 k3)) ?_
    refine pz_j1 [.inr (.inr (some 165))] 90 rfl rfl rfl rfl rfl ?_
    refine pz_j1 [.inr (.inr (some 181))] 93 rfl rfl rfl rfl (pz_a2 rfl pz_S165) ?_
    refine pz_j1 [.inl a4, .inr (.inr (some 181))] 95 rfl rfl rfl rfl rfl ?_
    refine pz_j1 [.inr (.inr (some 165)), .inl a4, .inr (.inr (some 181))] 96 rfl rfl rfl rfl rfl ?_
    refine pz_j1 [.inr (.inr (some 181)), .inl a4, .inr (.inr (some 181))] 99 rfl rfl rfl rfl (pz_a2 rfl pz_S165) ?_
    refine pz_j1 [.inl a3, .inr (.inr (some 181)), .inl a4, .inr (.inr (some 181))] 100 rfl rfl rfl rfl rfl ?_
    obtain ⟨k4, K⟩ := K
    refine pz_j1 [.inr (.inl (ml 181 ((a3).toNat))), .inl a4, .inr (.inr (some 181))] 101 rfl rfl rfl rfl (pz_a2 rfl (pz_ok_ix pz_S181 k4)) ?_
    obtain ⟨k5, K⟩ := K
    refine pz_j3 [] [(0, .inr (.inr (some 165))), (3, .inl a3), (4, .inl a4), (5, .inl a5)] (pz_hp n0 mi (pz_up (pz_up ml 180 ((a4).toNat) (ml 180 ((a3).toNat))) 181 ((a4).toNat) (ml 181 ((a3).toNat))) mr c s) 102 rfl rfl rfl rfl (pz_a2 rfl (pz_ok_ix pz_S181 k5)) ?_
    refine pz_j1 [.inl a4] 104 rfl rfl rfl rfl rfl ?_
    exact pz_Rn_ret rfl rfl rfl rfl K
  · replace K := K.2 b1
    refine pz_j1 [.inr (.inr (some 165))] 44 rfl rfl rfl rfl rfl ?_
    refine pz_j1 [.inr (.inr (some 182))] 47 rfl rfl rfl rfl (pz_a2 rfl pz_S165) ?_
    refine pz_j1 [.inl 240, .inr (.inr (some 182))] 50 rfl rfl rfl rfl rfl ?_
    refine pz_j1 [.inl a4, .inl 240, .inr (.inr (some 182))] 52 rfl rfl rfl rfl rfl ?_
    obtain ⟨k6, K⟩ := K
    refine pz_j1 [.inl (240 * a4), .inr (.inr (some 182))] 53 rfl rfl rfl rfl (pz_ok_in k6) ?_
    refine pz_j1 [.inl a5, .inl (240 * a4), .inr (.inr (some 182))] 55 rfl rfl rfl rfl rfl ?_
    obtain ⟨k7, K⟩ := K
    refine pz_j1 [.inl ((240 * a4) + a5), .inr (.inr (some 182))] 56 rfl rfl rfl rfl (pz_ok_in k7) ?_
    refine pz_j1 [.inr (.inr (some 165)), .inl ((240 * a4) + a5), .inr (.inr (some 182))] 57 rfl rfl rfl rfl rfl ?_
    refine pz_j1 [.inr (.inr (some 182)), .inl ((240 * a4) + a5), .inr (.inr (some 182))] 60 rfl rfl rfl rfl (pz_a2 rfl pz_S165) ?_
    refine pz_j1 [.inl 240, .inr (.inr (some 182)), .inl ((240 * a4) + a5), .inr (.inr (some 182))] 63 rfl rfl rfl rfl rfl ?_
    refine pz_j1 [.inl a3, .inl 240, .inr (.inr (some 182)), .inl ((240 * a4) + a5), .inr (.inr (some 182))] 64 rfl rfl rfl rfl rfl ?_
    obtain ⟨k8, K⟩ := K
    refine pz_j1 [.inl (240 * a3), .inr (.inr (some 182)), .inl ((240 * a4) + a5), .inr (.inr (some 182))] 65 rfl rfl rfl rfl (pz_ok_in k8) ?_
    refine pz_j1 [.inl a5, .inl (240 * a3), .inr (.inr (some 182)), .inl ((240 * a4) + a5), .inr (.inr (some 182))] 67 rfl rfl rfl rfl rfl ?_
    obtain ⟨k9, K⟩ := K
    refine pz_j1 [.inl ((240 * a3) + a5), .inr (.inr (some 182)), .inl ((240 * a4) + a5), .inr (.inr (some 182))] 68 rfl rfl rfl rfl (pz_ok_in k9) ?_
    obtain ⟨k10, K⟩ := K
    refine pz_j1 [.inl (mi 182 (((240 * a3) + a5).toNat)), .inl ((240 * a4) + a5), .inr (.inr (some 182))] 69 rfl rfl rfl rfl (pz_a2 rfl (pz_ok_ixs pz_S182 k10)) ?_
    obtain ⟨k11, K⟩ := K
    refine pz_j3 [] [(0, .inr (.inr (some 165))), (3, .inl a3), (4, .inl a4), (5, .inl a5)] (pz_hp n0 (pz_up mi 182 (((240 * a4) + a5).toNat) (mi 182 (((240 * a3) + a5).toNat))) ml mr c s) 70 rfl rfl rfl rfl (pz_a2 rfl (pz_ok_ix pz_S182 k11)) ?_
    obtain ⟨k12, K⟩ := K
    refine pz_j2 [] [(5, .inl (a5 + 1)), (0, .inr (.inr (some 165))), (3, .inl a3), (4, .inl a4)] 73 rfl rfl rfl rfl (pz_a2 (pz_ok_in k12) rfl) ?_
    refine pz_j1 [] 35 rfl rfl rfl rfl rfl ?_
    refine pz_Rn_sub (L := [(0, .inr (.inr (some 165))), (3, .inl a3), (4, .inl a4), (5, .inl (a5 + 1))]) [1, 2, 3, 0] rfl rfl ?_
    exact K
-- 134 RelationStreamModel.stepTask(I)I
theorem pz_g134_0 {a1 : Int}  (K : (0 ≤ a1 ∧ a1 < 64) ∧ ∀ x2 : Int, x2 = mi 178 ((a1).toNat) → (0 ≤ x2 ∧ x2 < 40) ∧ ∀ x4 : Int, x4 = mi 169 ((x2).toNat) → ((x4 = 0 → pz_Rn d 129 (0, [], [(0, .inr (.inr (some 165))), (1, .inl a1), (2, .inl x2)], pz_hp n0 mi ml mr c s, true) (pz_K (d + 1) 134 30 [] [(0, .inr (.inr (some 165))), (1, .inl a1)] Q true)) ∧ (x4 ≠ 0 → ((x4 ≠ 1 → ((x4 ≠ 4 → ((x4 ≠ 2 → pz_Rn d 112 (0, [], [(0, .inr (.inr (some 165))), (1, .inl 1)], pz_hp n0 mi ml mr c s, true) (pz_K (d + 1) 134 83 [] [(0, .inr (.inr (some 165))), (1, .inl a1), (2, .inl x2), (3, .inl x4)] Q true)) ∧ (x4 = 2 → pz_Rn d 112 (0, [], [(0, .inr (.inr (some 165))), (1, .inl 2)], pz_hp n0 mi ml mr c s, true) (pz_K (d + 1) 134 83 [] [(0, .inr (.inr (some 165))), (1, .inl a1), (2, .inl x2), (3, .inl x4)] Q true)))) ∧ (x4 = 4 → pz_Rn d 132 (0, [], [(0, .inr (.inr (some 165))), (1, .inl a1), (2, .inl x2)], pz_hp n0 mi ml mr c s, true) (pz_K (d + 1) 134 68 [] [] Q true)))) ∧ (x4 = 1 → pz_Rn d 130 (0, [], [(0, .inr (.inr (some 165))), (1, .inl a1), (2, .inl x2)], pz_hp n0 mi ml mr c s, true) (pz_K (d + 1) 134 42 [] [(0, .inr (.inr (some 165))), (1, .inl a1)] Q true)))))) : pz_Rn (d + 1) 134 (0, [], [(0, .inr (.inr (some 165))), (1, .inl a1)], pz_hp n0 mi ml mr c s, true) Q := by
  refine pz_j1 [.inr (.inr (some 165))] 1 rfl rfl rfl rfl rfl ?_
  refine pz_j1 [.inr (.inr (some 178))] 4 rfl rfl rfl rfl (pz_a2 rfl pz_S165) ?_
  refine pz_j1 [.inl a1, .inr (.inr (some 178))] 5 rfl rfl rfl rfl rfl ?_
  obtain ⟨k1, K⟩ := K
  refine pz_j1 [.inl (mi 178 ((a1).toNat))] 6 rfl rfl rfl rfl (pz_a2 rfl (pz_ok_ixs pz_S178 k1)) ?_
  obtain ⟨x2, hx2⟩ : ∃ x : Int, x = mi 178 ((a1).toNat) := ⟨_, rfl⟩
  rewrite [← hx2]
  replace K := K x2 hx2
  refine pz_j2 [] [(2, .inl x2), (0, .inr (.inr (some 165))), (1, .inl a1)] 7 rfl rfl rfl rfl rfl ?_
  refine pz_j1 [.inr (.inr (some 165))] 8 rfl rfl rfl rfl rfl ?_
  refine pz_j1 [.inr (.inr (some 169))] 11 rfl rfl rfl rfl (pz_a2 rfl pz_S165) ?_
  refine pz_j1 [.inl x2, .inr (.inr (some 169))] 12 rfl rfl rfl rfl rfl ?_
  obtain ⟨k3, K⟩ := K
  refine pz_j1 [.inl (mi 169 ((x2).toNat))] 13 rfl rfl rfl rfl (pz_a2 rfl (pz_ok_ixs pz_S169 k3)) ?_
  obtain ⟨x4, hx4⟩ : ∃ x : Int, x = mi 169 ((x2).toNat) := ⟨_, rfl⟩
  rewrite [← hx4]
  replace K := K x4 hx4
  refine pz_j2 [] [(3, .inl x4), (2, .inl x2), (0, .inr (.inr (some 165))), (1, .inl a1)] 14 rfl rfl rfl rfl rfl ?_
  refine pz_j1 [.inl x4] 15 rfl rfl rfl rfl rfl ?_
  refine pz_j1 [] (bif pz_cp .eq x4 0 then 23 else 18) rfl rfl rfl rfl rfl ?_
  refine pz_Rn_if pz_c1_eq pz_c0_eq ⟨fun b5 => ?_, fun b5 => ?_⟩
  · replace K := K.1 b5
    refine pz_j1 [.inl x4] 24 rfl rfl rfl rfl rfl ?_
    refine pz_j1 [] (bif pz_cp .ne x4 0 then 39 else 27) rfl rfl rfl rfl rfl ?_
    refine pz_Rn_if pz_c1_ne pz_c0_ne ⟨fun b6 => absurd b6 (by omega), fun _ => ?_⟩
    refine pz_j1 [.inr (.inr (some 165))] 28 rfl rfl rfl rfl rfl ?_
    refine pz_j1 [.inl a1, .inr (.inr (some 165))] 29 rfl rfl rfl rfl rfl ?_
    refine pz_j1 [.inl x2, .inl a1, .inr (.inr (some 165))] 30 rfl rfl rfl rfl rfl ?_
    refine pz_Rn_sub (L := [(0, .inr (.inr (some 165))), (1, .inl a1)]) [2, 3] rfl rfl ?_
    exact pz_Rn_k (y := 128) rfl rfl rfl rfl rfl rfl rfl rfl (pz_cok_v rfl rfl pz_S165) K
  · replace K := K.2 b5
    refine pz_j1 [.inl x4] 19 rfl rfl rfl rfl rfl ?_
    refine pz_j1 [.inl 1, .inl x4] 20 rfl rfl rfl rfl rfl ?_
    refine pz_j1 [] (bif pz_cp .ne x4 1 then 60 else 23) rfl rfl rfl rfl rfl ?_
    refine pz_Rn_if pz_c1_ne pz_c0_ne ⟨fun b7 => ?_, fun b7 => ?_⟩
    · replace K := K.1 b7
      refine pz_j1 [.inl x4] 61 rfl rfl rfl rfl rfl ?_
      refine pz_j1 [.inl 4, .inl x4] 62 rfl rfl rfl rfl rfl ?_
      refine pz_j1 [] (bif pz_cp .ne x4 4 then 72 else 65) rfl rfl rfl rfl rfl ?_
      refine pz_Rn_if pz_c1_ne pz_c0_ne ⟨fun b8 => ?_, fun b8 => ?_⟩
      · replace K := K.1 b8
        refine pz_j1 [.inr (.inr (some 165))] 73 rfl rfl rfl rfl rfl ?_
        refine pz_j1 [.inl x4, .inr (.inr (some 165))] 74 rfl rfl rfl rfl rfl ?_
        refine pz_j1 [.inl 2, .inl x4, .inr (.inr (some 165))] 75 rfl rfl rfl rfl rfl ?_
        refine pz_j1 [.inr (.inr (some 165))] (bif pz_cp .ne x4 2 then 82 else 78) rfl rfl rfl rfl rfl ?_
        refine pz_Rn_if pz_c1_ne pz_c0_ne ⟨fun b9 => ?_, fun b9 => ?_⟩
        · replace K := K.1 b9
          refine pz_j1 [.inl 1, .inr (.inr (some 165))] 83 rfl rfl rfl rfl rfl ?_
          refine pz_Rn_sub (L := [(0, .inr (.inr (some 165))), (1, .inl a1), (2, .inl x2), (3, .inl x4)]) [2, 3, 1, 0] rfl rfl ?_
          exact pz_Rn_k (y := 111) rfl rfl rfl rfl rfl rfl rfl rfl (pz_cok_v rfl rfl pz_S165) K
        · replace K := K.2 b9
          refine pz_j1 [.inl 2, .inr (.inr (some 165))] 79 rfl rfl rfl rfl rfl ?_
          refine pz_j1 [.inl 2, .inr (.inr (some 165))] 83 rfl rfl rfl rfl rfl ?_
          refine pz_Rn_sub (L := [(0, .inr (.inr (some 165))), (1, .inl a1), (2, .inl x2), (3, .inl x4)]) [2, 3, 1, 0] rfl rfl ?_
          exact pz_Rn_k (y := 111) rfl rfl rfl rfl rfl rfl rfl rfl (pz_cok_v rfl rfl pz_S165) K
      · replace K := K.2 b8
        refine pz_j1 [.inr (.inr (some 165))] 66 rfl rfl rfl rfl rfl ?_
        refine pz_j1 [.inl a1, .inr (.inr (some 165))] 67 rfl rfl rfl rfl rfl ?_
        refine pz_j1 [.inl x2, .inl a1, .inr (.inr (some 165))] 68 rfl rfl rfl rfl rfl ?_
        refine pz_Rn_sub (L := []) [] rfl rfl ?_
        exact pz_Rn_k (y := 131) rfl rfl rfl rfl rfl rfl rfl rfl (pz_cok_v rfl rfl pz_S165) K
    · replace K := K.2 b7
      refine pz_j1 [.inl x4] 24 rfl rfl rfl rfl rfl ?_
      refine pz_j1 [] (bif pz_cp .ne x4 0 then 39 else 27) rfl rfl rfl rfl rfl ?_
      refine pz_Rn_if pz_c1_ne pz_c0_ne ⟨fun _ => ?_, fun b10 => absurd b10 (by omega)⟩
      refine pz_j1 [.inr (.inr (some 165))] 40 rfl rfl rfl rfl rfl ?_
      refine pz_j1 [.inl a1, .inr (.inr (some 165))] 41 rfl rfl rfl rfl rfl ?_
      refine pz_j1 [.inl x2, .inl a1, .inr (.inr (some 165))] 42 rfl rfl rfl rfl rfl ?_
      refine pz_Rn_sub (L := [(0, .inr (.inr (some 165))), (1, .inl a1)]) [2, 3] rfl rfl ?_
      exact pz_Rn_k (y := 129) rfl rfl rfl rfl rfl rfl rfl rfl (pz_cok_v rfl rfl pz_S165) K
theorem pz_g134_33 {a1 : Int} {t0 : Int}  (K : ((t0 = 0 → pz_Rn d 131 (0, [], [(0, .inr (.inr (some 165))), (1, .inl a1)], pz_hp n0 mi ml mr c s, true) (pz_K (d + 1) 134 55 [] [] Q true)) ∧ (t0 ≠ 0 → pz_Rn d 131 (0, [], [(0, .inr (.inr (some 165))), (1, .inl a1)], pz_hp n0 (pz_up mi 165 32 a1) ml mr c s, true) (pz_K (d + 1) 134 55 [] [] Q true)))) : pz_Rn (d + 1) 134 (33, [.inl t0], [(0, .inr (.inr (some 165))), (1, .inl a1)], pz_hp n0 mi ml mr c s, true) Q := by
  refine pz_j1 [] (bif pz_cp .eq t0 0 then 53 else 36) rfl rfl rfl rfl rfl ?_
  refine pz_Rn_if pz_c1_eq pz_c0_eq ⟨fun b1 => ?_, fun b1 => ?_⟩
  · replace K := K.1 b1
    refine pz_j1 [.inr (.inr (some 165))] 54 rfl rfl rfl rfl rfl ?_
    refine pz_j1 [.inl a1, .inr (.inr (some 165))] 55 rfl rfl rfl rfl rfl ?_
    refine pz_Rn_sub (L := []) [] rfl rfl ?_
    exact pz_Rn_k (y := 130) rfl rfl rfl rfl rfl rfl rfl rfl (pz_cok_v rfl rfl pz_S165) K
  · replace K := K.2 b1
    refine pz_j1 [] 48 rfl rfl rfl rfl rfl ?_
    refine pz_j1 [.inr (.inr (some 165))] 49 rfl rfl rfl rfl rfl ?_
    refine pz_j1 [.inl a1, .inr (.inr (some 165))] 50 rfl rfl rfl rfl rfl ?_
    refine pz_j3 [] [(0, .inr (.inr (some 165))), (1, .inl a1)] (pz_hp n0 (pz_up mi 165 32 a1) ml mr c s) 53 rfl rfl rfl rfl (pz_a2 rfl (pz_a2 pz_S165 (pz_a2 rfl rfl))) ?_
    refine pz_j1 [.inr (.inr (some 165))] 54 rfl rfl rfl rfl rfl ?_
    refine pz_j1 [.inl a1, .inr (.inr (some 165))] 55 rfl rfl rfl rfl rfl ?_
    refine pz_Rn_sub (L := []) [] rfl rfl ?_
    exact pz_Rn_k (y := 130) rfl rfl rfl rfl rfl rfl rfl rfl (pz_cok_v rfl rfl pz_S165) K
theorem pz_g134_45 {a1 : Int} {t0 : Int}  (K : ((t0 = 0 → pz_Rn d 131 (0, [], [(0, .inr (.inr (some 165))), (1, .inl a1)], pz_hp n0 mi ml mr c s, true) (pz_K (d + 1) 134 55 [] [] Q true)) ∧ (t0 ≠ 0 → pz_Rn d 131 (0, [], [(0, .inr (.inr (some 165))), (1, .inl a1)], pz_hp n0 (pz_up mi 165 32 a1) ml mr c s, true) (pz_K (d + 1) 134 55 [] [] Q true)))) : pz_Rn (d + 1) 134 (45, [.inl t0], [(0, .inr (.inr (some 165))), (1, .inl a1)], pz_hp n0 mi ml mr c s, true) Q := by
  refine pz_j1 [] (bif pz_cp .eq t0 0 then 53 else 48) rfl rfl rfl rfl rfl ?_
  refine pz_Rn_if pz_c1_eq pz_c0_eq ⟨fun b1 => ?_, fun b1 => ?_⟩
  · replace K := K.1 b1
    refine pz_j1 [.inr (.inr (some 165))] 54 rfl rfl rfl rfl rfl ?_
    refine pz_j1 [.inl a1, .inr (.inr (some 165))] 55 rfl rfl rfl rfl rfl ?_
    refine pz_Rn_sub (L := []) [] rfl rfl ?_
    exact pz_Rn_k (y := 130) rfl rfl rfl rfl rfl rfl rfl rfl (pz_cok_v rfl rfl pz_S165) K
  · replace K := K.2 b1
    refine pz_j1 [.inr (.inr (some 165))] 49 rfl rfl rfl rfl rfl ?_
    refine pz_j1 [.inl a1, .inr (.inr (some 165))] 50 rfl rfl rfl rfl rfl ?_
    refine pz_j3 [] [(0, .inr (.inr (some 165))), (1, .inl a1)] (pz_hp n0 (pz_up mi 165 32 a1) ml mr c s) 53 rfl rfl rfl rfl (pz_a2 rfl (pz_a2 pz_S165 (pz_a2 rfl rfl))) ?_
    refine pz_j1 [.inr (.inr (some 165))] 54 rfl rfl rfl rfl rfl ?_
    refine pz_j1 [.inl a1, .inr (.inr (some 165))] 55 rfl rfl rfl rfl rfl ?_
    refine pz_Rn_sub (L := []) [] rfl rfl ?_
    exact pz_Rn_k (y := 130) rfl rfl rfl rfl rfl rfl rfl rfl (pz_cok_v rfl rfl pz_S165) K
theorem pz_g134_58   (K : Q (.inl (some (.inl (-1)))) (pz_hp n0 mi ml mr c s)) : pz_Rn (d + 1) 134 (58, [], [], pz_hp n0 mi ml mr c s, true) Q := by
  refine pz_j1 [.inl (-1)] 59 rfl rfl rfl rfl rfl ?_
  exact pz_Rn_ret rfl rfl rfl rfl K
theorem pz_g134_71 {t0 : Int}  (K : Q (.inl (some (.inl t0))) (pz_hp n0 mi ml mr c s)) : pz_Rn (d + 1) 134 (71, [.inl t0], [], pz_hp n0 mi ml mr c s, true) Q := by
  exact pz_Rn_ret rfl rfl rfl rfl K
theorem pz_g134_86 {a1 : Int} {a2 : Int} {a3 : Int} {t0 : Int}  (K : (0 ≤ a2 ∧ a2 < 40) ∧ (0 ≤ t0 ∧ t0 < 64) ∧ (0 ≤ a1 ∧ a1 < 64) ∧ (0 ≤ t0 ∧ t0 < 64) ∧ ((a3 ≠ 3 → (0 ≤ a2 ∧ a2 < 40) ∧ (0 ≤ a1 ∧ a1 < 64) ∧ (0 ≤ t0 ∧ t0 < 64) ∧ Q (.inl (some (.inl t0))) (pz_hp n0 (pz_up (pz_up (pz_up (pz_up mi 178 ((t0).toNat) (mi 171 ((a2).toNat))) 179 ((t0).toNat) (mi 179 ((a1).toNat))) 178 ((a1).toNat) (mi 170 ((a2).toNat))) 176 ((t0).toNat) a1) ml mr c s)) ∧ (a3 = 3 → (0 ≤ a2 ∧ a2 < 40) ∧ (0 ≤ a1 ∧ a1 < 64) ∧ pz_Rn d 133 (0, [], [(0, .inr (.inr (some 165))), (1, .inl (mi 171 ((a2).toNat))), (2, .inl ((pz_up (pz_up mi 178 ((t0).toNat) (mi 171 ((a2).toNat))) 179 ((t0).toNat) (mi 179 ((a1).toNat))) 179 ((a1).toNat))), (3, .inl a1)], pz_hp n0 (pz_up (pz_up mi 178 ((t0).toNat) (mi 171 ((a2).toNat))) 179 ((t0).toNat) (mi 179 ((a1).toNat))) ml mr c s, true) (pz_K (d + 1) 134 139 [.inl t0, .inr (.inr (some 177))] [(0, .inr (.inr (some 165))), (1, .inl a1), (2, .inl a2), (4, .inl t0)] Q true)))) : pz_Rn (d + 1) 134 (86, [.inl t0], [(0, .inr (.inr (some 165))), (1, .inl a1), (2, .inl a2), (3, .inl a3)], pz_hp n0 mi ml mr c s, true) Q := by
  refine pz_j2 [] [(4, .inl t0), (0, .inr (.inr (some 165))), (1, .inl a1), (2, .inl a2), (3, .inl a3)] 88 rfl rfl rfl rfl rfl ?_
  refine pz_j1 [.inr (.inr (some 165))] 89 rfl rfl rfl rfl rfl ?_
  refine pz_j1 [.inr (.inr (some 178))] 92 rfl rfl rfl rfl (pz_a2 rfl pz_S165) ?_
  refine pz_j1 [.inl t0, .inr (.inr (some 178))] 94 rfl rfl rfl rfl rfl ?_
  refine pz_j1 [.inr (.inr (some 165)), .inl t0, .inr (.inr (some 178))] 95 rfl rfl rfl rfl rfl ?_
  refine pz_j1 [.inr (.inr (some 171)), .inl t0, .inr (.inr (some 178))] 98 rfl rfl rfl rfl (pz_a2 rfl pz_S165) ?_
  refine pz_j1 [.inl a2, .inr (.inr (some 171)), .inl t0, .inr (.inr (some 178))] 99 rfl rfl rfl rfl rfl ?_
  obtain ⟨k1, K⟩ := K
  refine pz_j1 [.inl (mi 171 ((a2).toNat)), .inl t0, .inr (.inr (some 178))] 100 rfl rfl rfl rfl (pz_a2 rfl (pz_ok_ixs pz_S171 k1)) ?_
  obtain ⟨k2, K⟩ := K
  refine pz_j3 [] [(4, .inl t0), (0, .inr (.inr (some 165))), (1, .inl a1), (2, .inl a2), (3, .inl a3)] (pz_hp n0 (pz_up mi 178 ((t0).toNat) (mi 171 ((a2).toNat))) ml mr c s) 101 rfl rfl rfl rfl (pz_a2 rfl (pz_ok_ix pz_S178 k2)) ?_
  refine pz_j1 [.inr (.inr (some 165))] 102 rfl rfl rfl rfl rfl ?_
  refine pz_j1 [.inr (.inr (some 179))] 105 rfl rfl rfl rfl (pz_a2 rfl pz_S165) ?_
  refine pz_j1 [.inl t0, .inr (.inr (some 179))] 107 rfl rfl rfl rfl rfl ?_
  refine pz_j1 [.inr (.inr (some 165)), .inl t0, .inr (.inr (some 179))] 108 rfl rfl rfl rfl rfl ?_
  refine pz_j1 [.inr (.inr (some 179)), .inl t0, .inr (.inr (some 179))] 111 rfl rfl rfl rfl (pz_a2 rfl pz_S165) ?_
  refine pz_j1 [.inl a1, .inr (.inr (some 179)), .inl t0, .inr (.inr (some 179))] 112 rfl rfl rfl rfl rfl ?_
  obtain ⟨k3, K⟩ := K
  refine pz_j1 [.inl (mi 179 ((a1).toNat)), .inl t0, .inr (.inr (some 179))] 113 rfl rfl rfl rfl (pz_a2 rfl (pz_ok_ixs pz_S179 k3)) ?_
  obtain ⟨k4, K⟩ := K
  refine pz_j3 [] [(4, .inl t0), (0, .inr (.inr (some 165))), (1, .inl a1), (2, .inl a2), (3, .inl a3)] (pz_hp n0 (pz_up (pz_up mi 178 ((t0).toNat) (mi 171 ((a2).toNat))) 179 ((t0).toNat) (mi 179 ((a1).toNat))) ml mr c s) 114 rfl rfl rfl rfl (pz_a2 rfl (pz_ok_ix pz_S179 k4)) ?_
  refine pz_j1 [.inl a3] 115 rfl rfl rfl rfl rfl ?_
  refine pz_j1 [.inl 3, .inl a3] 116 rfl rfl rfl rfl rfl ?_
  refine pz_j1 [] (bif pz_cp .ne a3 3 then 143 else 119) rfl rfl rfl rfl rfl ?_
  refine pz_Rn_if pz_c1_ne pz_c0_ne ⟨fun b5 => ?_, fun b5 => ?_⟩
  · replace K := K.1 b5
    refine pz_j1 [.inr (.inr (some 165))] 144 rfl rfl rfl rfl rfl ?_
    refine pz_j1 [.inr (.inr (some 178))] 147 rfl rfl rfl rfl (pz_a2 rfl pz_S165) ?_
    refine pz_j1 [.inl a1, .inr (.inr (some 178))] 148 rfl rfl rfl rfl rfl ?_
    refine pz_j1 [.inr (.inr (some 165)), .inl a1, .inr (.inr (some 178))] 149 rfl rfl rfl rfl rfl ?_
    refine pz_j1 [.inr (.inr (some 170)), .inl a1, .inr (.inr (some 178))] 152 rfl rfl rfl rfl (pz_a2 rfl pz_S165) ?_
    refine pz_j1 [.inl a2, .inr (.inr (some 170)), .inl a1, .inr (.inr (some 178))] 153 rfl rfl rfl rfl rfl ?_
    obtain ⟨k6, K⟩ := K
    refine pz_j1 [.inl (mi 170 ((a2).toNat)), .inl a1, .inr (.inr (some 178))] 154 rfl rfl rfl rfl (pz_a2 rfl (pz_ok_ixs pz_S170 k6)) ?_
    obtain ⟨k7, K⟩ := K
    refine pz_j3 [] [(4, .inl t0), (0, .inr (.inr (some 165))), (1, .inl a1), (2, .inl a2), (3, .inl a3)] (pz_hp n0 (pz_up (pz_up (pz_up mi 178 ((t0).toNat) (mi 171 ((a2).toNat))) 179 ((t0).toNat) (mi 179 ((a1).toNat))) 178 ((a1).toNat) (mi 170 ((a2).toNat))) ml mr c s) 155 rfl rfl rfl rfl (pz_a2 rfl (pz_ok_ix pz_S178 k7)) ?_
    refine pz_j1 [.inr (.inr (some 165))] 156 rfl rfl rfl rfl rfl ?_
    refine pz_j1 [.inr (.inr (some 176))] 159 rfl rfl rfl rfl (pz_a2 rfl pz_S165) ?_
    refine pz_j1 [.inl t0, .inr (.inr (some 176))] 161 rfl rfl rfl rfl rfl ?_
    refine pz_j1 [.inl a1, .inl t0, .inr (.inr (some 176))] 162 rfl rfl rfl rfl rfl ?_
    obtain ⟨k8, K⟩ := K
    refine pz_j3 [] [(4, .inl t0), (0, .inr (.inr (some 165))), (1, .inl a1), (2, .inl a2), (3, .inl a3)] (pz_hp n0 (pz_up (pz_up (pz_up (pz_up mi 178 ((t0).toNat) (mi 171 ((a2).toNat))) 179 ((t0).toNat) (mi 179 ((a1).toNat))) 178 ((a1).toNat) (mi 170 ((a2).toNat))) 176 ((t0).toNat) a1) ml mr c s) 163 rfl rfl rfl rfl (pz_a2 rfl (pz_ok_ix pz_S176 k8)) ?_
    refine pz_j1 [.inl t0] 165 rfl rfl rfl rfl rfl ?_
    exact pz_Rn_ret rfl rfl rfl rfl K
  · replace K := K.2 b5
    refine pz_j1 [.inr (.inr (some 165))] 120 rfl rfl rfl rfl rfl ?_
    refine pz_j1 [.inr (.inr (some 177))] 123 rfl rfl rfl rfl (pz_a2 rfl pz_S165) ?_
    refine pz_j1 [.inl t0, .inr (.inr (some 177))] 125 rfl rfl rfl rfl rfl ?_
    refine pz_j1 [.inr (.inr (some 165)), .inl t0, .inr (.inr (some 177))] 126 rfl rfl rfl rfl rfl ?_
    refine pz_j1 [.inr (.inr (some 165)), .inr (.inr (some 165)), .inl t0, .inr (.inr (some 177))] 127 rfl rfl rfl rfl rfl ?_
    refine pz_j1 [.inr (.inr (some 171)), .inr (.inr (some 165)), .inl t0, .inr (.inr (some 177))] 130 rfl rfl rfl rfl (pz_a2 rfl pz_S165) ?_
    refine pz_j1 [.inl a2, .inr (.inr (some 171)), .inr (.inr (some 165)), .inl t0, .inr (.inr (some 177))] 131 rfl rfl rfl rfl rfl ?_
    obtain ⟨k9, K⟩ := K
    refine pz_j1 [.inl (mi 171 ((a2).toNat)), .inr (.inr (some 165)), .inl t0, .inr (.inr (some 177))] 132 rfl rfl rfl rfl (pz_a2 rfl (pz_ok_ixs pz_S171 k9)) ?_
    refine pz_j1 [.inr (.inr (some 165)), .inl (mi 171 ((a2).toNat)), .inr (.inr (some 165)), .inl t0, .inr (.inr (some 177))] 133 rfl rfl rfl rfl rfl ?_
    refine pz_j1 [.inr (.inr (some 179)), .inl (mi 171 ((a2).toNat)), .inr (.inr (some 165)), .inl t0, .inr (.inr (some 177))] 136 rfl rfl rfl rfl (pz_a2 rfl pz_S165) ?_
    refine pz_j1 [.inl a1, .inr (.inr (some 179)), .inl (mi 171 ((a2).toNat)), .inr (.inr (some 165)), .inl t0, .inr (.inr (some 177))] 137 rfl rfl rfl rfl rfl ?_
    obtain ⟨k10, K⟩ := K
    refine pz_j1 [.inl ((pz_up (pz_up mi 178 ((t0).toNat) (mi 171 ((a2).toNat))) 179 ((t0).toNat) (mi 179 ((a1).toNat))) 179 ((a1).toNat)), .inl (mi 171 ((a2).toNat)), .inr (.inr (some 165)), .inl t0, .inr (.inr (some 177))] 138 rfl rfl rfl rfl (pz_a2 rfl (pz_ok_ixs pz_S179 k10)) ?_
    refine pz_j1 [.inl a1, .inl ((pz_up (pz_up mi 178 ((t0).toNat) (mi 171 ((a2).toNat))) 179 ((t0).toNat) (mi 179 ((a1).toNat))) 179 ((a1).toNat)), .inl (mi 171 ((a2).toNat)), .inr (.inr (some 165)), .inl t0, .inr (.inr (some 177))] 139 rfl rfl rfl rfl rfl ?_
    refine pz_Rn_sub (L := [(0, .inr (.inr (some 165))), (1, .inl a1), (2, .inl a2), (4, .inl t0)]) [1, 2, 3, 0] rfl rfl ?_
    exact pz_Rn_k (y := 132) rfl rfl rfl rfl rfl rfl rfl rfl (pz_cok_v rfl rfl pz_S165) K
theorem pz_g134_142 {a1 : Int} {a2 : Int} {a4 : Int} {t1 : Int} {t2 : Int}  (K : (0 ≤ t1 ∧ t1 < 64) ∧ (0 ≤ a2 ∧ a2 < 40) ∧ (0 ≤ a1 ∧ a1 < 64) ∧ (0 ≤ a4 ∧ a4 < 64) ∧ Q (.inl (some (.inl a4))) (pz_hp n0 (pz_up (pz_up (pz_up mi 177 ((t1).toNat) t2) 178 ((a1).toNat) (mi 170 ((a2).toNat))) 176 ((a4).toNat) a1) ml mr c s)) : pz_Rn (d + 1) 134 (142, [.inl t2, .inl t1, .inr (.inr (some 177))], [(0, .inr (.inr (some 165))), (1, .inl a1), (2, .inl a2), (4, .inl a4)], pz_hp n0 mi ml mr c s, true) Q := by
  obtain ⟨k1, K⟩ := K
  refine pz_j3 [] [(0, .inr (.inr (some 165))), (1, .inl a1), (2, .inl a2), (4, .inl a4)] (pz_hp n0 (pz_up mi 177 ((t1).toNat) t2) ml mr c s) 143 rfl rfl rfl rfl (pz_a2 rfl (pz_ok_ix pz_S177 k1)) ?_
  refine pz_j1 [.inr (.inr (some 165))] 144 rfl rfl rfl rfl rfl ?_
  refine pz_j1 [.inr (.inr (some 178))] 147 rfl rfl rfl rfl (pz_a2 rfl pz_S165) ?_
  refine pz_j1 [.inl a1, .inr (.inr (some 178))] 148 rfl rfl rfl rfl rfl ?_
  refine pz_j1 [.inr (.inr (some 165)), .inl a1, .inr (.inr (some 178))] 149 rfl rfl rfl rfl rfl ?_
  refine pz_j1 [.inr (.inr (some 170)), .inl a1, .inr (.inr (some 178))] 152 rfl rfl rfl rfl (pz_a2 rfl pz_S165) ?_
  refine pz_j1 [.inl a2, .inr (.inr (some 170)), .inl a1, .inr (.inr (some 178))] 153 rfl rfl rfl rfl rfl ?_
  obtain ⟨k2, K⟩ := K
  refine pz_j1 [.inl (mi 170 ((a2).toNat)), .inl a1, .inr (.inr (some 178))] 154 rfl rfl rfl rfl (pz_a2 rfl (pz_ok_ixs pz_S170 k2)) ?_
  obtain ⟨k3, K⟩ := K
  refine pz_j3 [] [(0, .inr (.inr (some 165))), (1, .inl a1), (2, .inl a2), (4, .inl a4)] (pz_hp n0 (pz_up (pz_up mi 177 ((t1).toNat) t2) 178 ((a1).toNat) (mi 170 ((a2).toNat))) ml mr c s) 155 rfl rfl rfl rfl (pz_a2 rfl (pz_ok_ix pz_S178 k3)) ?_
  refine pz_j1 [.inr (.inr (some 165))] 156 rfl rfl rfl rfl rfl ?_
  refine pz_j1 [.inr (.inr (some 176))] 159 rfl rfl rfl rfl (pz_a2 rfl pz_S165) ?_
  refine pz_j1 [.inl a4, .inr (.inr (some 176))] 161 rfl rfl rfl rfl rfl ?_
  refine pz_j1 [.inl a1, .inl a4, .inr (.inr (some 176))] 162 rfl rfl rfl rfl rfl ?_
  obtain ⟨k4, K⟩ := K
  refine pz_j3 [] [(0, .inr (.inr (some 165))), (1, .inl a1), (2, .inl a2), (4, .inl a4)] (pz_hp n0 (pz_up (pz_up (pz_up mi 177 ((t1).toNat) t2) 178 ((a1).toNat) (mi 170 ((a2).toNat))) 176 ((a4).toNat) a1) ml mr c s) 163 rfl rfl rfl rfl (pz_a2 rfl (pz_ok_ix pz_S176 k4)) ?_
  refine pz_j1 [.inl a4] 165 rfl rfl rfl rfl rfl ?_
  exact pz_Rn_ret rfl rfl rfl rfl K
-- 135 RelationStreamModel.rise(II)I
theorem pz_g135_0 {a1 : Int} {a2 : Int}  (K : (0 ≤ a1 ∧ a1 < 64) ∧ ((mi 175 ((a1).toNat) ≠ 1 → ((mi 165 32 = (-1) → ((a2 ≠ (-1) → (0 ≤ a1 ∧ a1 < 64) ∧ Q (.inl (some (.inl a1))) (pz_hp n0 (pz_up mi 176 ((a1).toNat) a2) ml mr c s)) ∧ (a2 = (-1) → pz_Rn d 131 (0, [], [(0, .inr (.inr (some 165))), (1, .inl a1)], pz_hp n0 mi ml mr c s, true) (pz_K (d + 1) 135 88 [] [(3, .inl (-1))] Q true)))) ∧ (mi 165 32 ≠ (-1) → (0 ≤ a1 ∧ a1 < 64) ∧ (0 ≤ a1 ∧ a1 < 64) ∧ pz_Rn d 133 (0, [], [(0, .inr (.inr (some 165))), (1, .inl (mi 178 ((a1).toNat))), (2, .inl (mi 179 ((a1).toNat))), (3, .inl (mi 165 32))], pz_hp n0 mi ml mr c s, true) (pz_K (d + 1) 135 72 [] [(0, .inr (.inr (some 165))), (1, .inl a1), (2, .inl a2)] Q true)))) ∧ (mi 175 ((a1).toNat) = 1 → (0 ≤ a1 ∧ a1 < 64) ∧ ∀ x9 : Int, x9 = mi 177 ((a1).toNat) → ((a2 ≠ (-1) → (0 ≤ a1 ∧ a1 < 64) ∧ (0 ≤ a1 ∧ a1 < 64) ∧ Q (.inl (some (.inl a1))) (pz_hp n0 (pz_up (pz_up mi 176 ((a1).toNat) x9) 177 ((a1).toNat) a2) ml mr c s)) ∧ (a2 = (-1) → pz_Rn d 131 (0, [], [(0, .inr (.inr (some 165))), (1, .inl a1)], pz_hp n0 mi ml mr c s, true) (pz_K (d + 1) 135 24 [] [(3, .inl x9)] Q true)))))) : pz_Rn (d + 1) 135 (0, [], [(0, .inr (.inr (some 165))), (1, .inl a1), (2, .inl a2)], pz_hp n0 mi ml mr c s, true) Q := by
  refine pz_j1 [.inr (.inr (some 165))] 1 rfl rfl rfl rfl rfl ?_
  refine pz_j1 [.inr (.inr (some 175))] 4 rfl rfl rfl rfl (pz_a2 rfl pz_S165) ?_
  refine pz_j1 [.inl a1, .inr (.inr (some 175))] 5 rfl rfl rfl rfl rfl ?_
  obtain ⟨k1, K⟩ := K
  refine pz_j1 [.inl (mi 175 ((a1).toNat))] 6 rfl rfl rfl rfl (pz_a2 rfl (pz_ok_ixs pz_S175 k1)) ?_
  refine pz_j1 [.inl 1, .inl (mi 175 ((a1).toNat))] 7 rfl rfl rfl rfl rfl ?_
  refine pz_j1 [] (bif pz_cp .ne (mi 175 ((a1).toNat)) 1 then 45 else 10) rfl rfl rfl rfl rfl ?_
  refine pz_Rn_if pz_c1_ne pz_c0_ne ⟨fun b2 => ?_, fun b2 => ?_⟩
  · replace K := K.1 b2
    refine pz_j1 [.inl (-1)] 46 rfl rfl rfl rfl rfl ?_
    refine pz_j2 [] [(3, .inl (-1)), (0, .inr (.inr (some 165))), (1, .inl a1), (2, .inl a2)] 47 rfl rfl rfl rfl rfl ?_
    refine pz_j1 [.inr (.inr (some 165))] 48 rfl rfl rfl rfl rfl ?_
    refine pz_j1 [.inl (mi 165 32)] 51 rfl rfl rfl rfl (pz_a2 rfl pz_S165) ?_
    refine pz_j1 [.inl (-1), .inl (mi 165 32)] 52 rfl rfl rfl rfl rfl ?_
    refine pz_j1 [] (bif pz_cp .eq (mi 165 32) (-1) then 81 else 55) rfl rfl rfl rfl rfl ?_
    refine pz_Rn_if pz_c1_eq pz_c0_eq ⟨fun b3 => ?_, fun b3 => ?_⟩
    · replace K := K.1 b3
      refine pz_j1 [.inl a2] 82 rfl rfl rfl rfl rfl ?_
      refine pz_j1 [.inl (-1), .inl a2] 83 rfl rfl rfl rfl rfl ?_
      refine pz_j1 [] (bif pz_cp .ne a2 (-1) then 93 else 86) rfl rfl rfl rfl rfl ?_
      refine pz_Rn_if pz_c1_ne pz_c0_ne ⟨fun b4 => ?_, fun b4 => ?_⟩
      · replace K := K.1 b4
        refine pz_j1 [.inr (.inr (some 165))] 94 rfl rfl rfl rfl rfl ?_
        refine pz_j1 [.inr (.inr (some 176))] 97 rfl rfl rfl rfl (pz_a2 rfl pz_S165) ?_
        refine pz_j1 [.inl a1, .inr (.inr (some 176))] 98 rfl rfl rfl rfl rfl ?_
        refine pz_j1 [.inl a2, .inl a1, .inr (.inr (some 176))] 99 rfl rfl rfl rfl rfl ?_
        obtain ⟨k5, K⟩ := K
        refine pz_j3 [] [(3, .inl (-1)), (0, .inr (.inr (some 165))), (1, .inl a1), (2, .inl a2)] (pz_hp n0 (pz_up mi 176 ((a1).toNat) a2) ml mr c s) 100 rfl rfl rfl rfl (pz_a2 rfl (pz_ok_ix pz_S176 k5)) ?_
        refine pz_j1 [.inl (-1)] 101 rfl rfl rfl rfl rfl ?_
        refine pz_j1 [.inl (-1), .inl (-1)] 102 rfl rfl rfl rfl rfl ?_
        refine pz_j1 [] 105 rfl rfl rfl rfl rfl ?_
        refine pz_j1 [.inl a1] 106 rfl rfl rfl rfl rfl ?_
        exact pz_Rn_ret rfl rfl rfl rfl K
      · replace K := K.2 b4
        refine pz_j1 [.inr (.inr (some 165))] 87 rfl rfl rfl rfl rfl ?_
        refine pz_j1 [.inl a1, .inr (.inr (some 165))] 88 rfl rfl rfl rfl rfl ?_
        refine pz_Rn_sub (L := [(3, .inl (-1))]) [0] rfl rfl ?_
        exact pz_Rn_k (y := 130) rfl rfl rfl rfl rfl rfl rfl rfl (pz_cok_v rfl rfl pz_S165) K
    · replace K := K.2 b3
      refine pz_j1 [.inr (.inr (some 165))] 56 rfl rfl rfl rfl rfl ?_
      refine pz_j1 [.inr (.inr (some 165)), .inr (.inr (some 165))] 57 rfl rfl rfl rfl rfl ?_
      refine pz_j1 [.inr (.inr (some 178)), .inr (.inr (some 165))] 60 rfl rfl rfl rfl (pz_a2 rfl pz_S165) ?_
      refine pz_j1 [.inl a1, .inr (.inr (some 178)), .inr (.inr (some 165))] 61 rfl rfl rfl rfl rfl ?_
      obtain ⟨k6, K⟩ := K
      refine pz_j1 [.inl (mi 178 ((a1).toNat)), .inr (.inr (some 165))] 62 rfl rfl rfl rfl (pz_a2 rfl (pz_ok_ixs pz_S178 k6)) ?_
      refine pz_j1 [.inr (.inr (some 165)), .inl (mi 178 ((a1).toNat)), .inr (.inr (some 165))] 63 rfl rfl rfl rfl rfl ?_
      refine pz_j1 [.inr (.inr (some 179)), .inl (mi 178 ((a1).toNat)), .inr (.inr (some 165))] 66 rfl rfl rfl rfl (pz_a2 rfl pz_S165) ?_
      refine pz_j1 [.inl a1, .inr (.inr (some 179)), .inl (mi 178 ((a1).toNat)), .inr (.inr (some 165))] 67 rfl rfl rfl rfl rfl ?_
      obtain ⟨k7, K⟩ := K
      refine pz_j1 [.inl (mi 179 ((a1).toNat)), .inl (mi 178 ((a1).toNat)), .inr (.inr (some 165))] 68 rfl rfl rfl rfl (pz_a2 rfl (pz_ok_ixs pz_S179 k7)) ?_
      refine pz_j1 [.inr (.inr (some 165)), .inl (mi 179 ((a1).toNat)), .inl (mi 178 ((a1).toNat)), .inr (.inr (some 165))] 69 rfl rfl rfl rfl rfl ?_
      refine pz_j1 [.inl (mi 165 32), .inl (mi 179 ((a1).toNat)), .inl (mi 178 ((a1).toNat)), .inr (.inr (some 165))] 72 rfl rfl rfl rfl (pz_a2 rfl pz_S165) ?_
      refine pz_Rn_sub (L := [(0, .inr (.inr (some 165))), (1, .inl a1), (2, .inl a2)]) [1, 2, 3] rfl rfl ?_
      exact pz_Rn_k (y := 132) rfl rfl rfl rfl rfl rfl rfl rfl (pz_cok_v rfl rfl pz_S165) K
  · replace K := K.2 b2
    refine pz_j1 [.inr (.inr (some 165))] 11 rfl rfl rfl rfl rfl ?_
    refine pz_j1 [.inr (.inr (some 177))] 14 rfl rfl rfl rfl (pz_a2 rfl pz_S165) ?_
    refine pz_j1 [.inl a1, .inr (.inr (some 177))] 15 rfl rfl rfl rfl rfl ?_
    obtain ⟨k8, K⟩ := K
    refine pz_j1 [.inl (mi 177 ((a1).toNat))] 16 rfl rfl rfl rfl (pz_a2 rfl (pz_ok_ixs pz_S177 k8)) ?_
    obtain ⟨x9, hx9⟩ : ∃ x : Int, x = mi 177 ((a1).toNat) := ⟨_, rfl⟩
    rewrite [← hx9]
    replace K := K x9 hx9
    refine pz_j2 [] [(3, .inl x9), (0, .inr (.inr (some 165))), (1, .inl a1), (2, .inl a2)] 17 rfl rfl rfl rfl rfl ?_
    refine pz_j1 [.inl a2] 18 rfl rfl rfl rfl rfl ?_
    refine pz_j1 [.inl (-1), .inl a2] 19 rfl rfl rfl rfl rfl ?_
    refine pz_j1 [] (bif pz_cp .ne a2 (-1) then 29 else 22) rfl rfl rfl rfl rfl ?_
    refine pz_Rn_if pz_c1_ne pz_c0_ne ⟨fun b10 => ?_, fun b10 => ?_⟩
    · replace K := K.1 b10
      refine pz_j1 [.inr (.inr (some 165))] 30 rfl rfl rfl rfl rfl ?_
      refine pz_j1 [.inr (.inr (some 176))] 33 rfl rfl rfl rfl (pz_a2 rfl pz_S165) ?_
      refine pz_j1 [.inl a1, .inr (.inr (some 176))] 34 rfl rfl rfl rfl rfl ?_
      refine pz_j1 [.inl x9, .inl a1, .inr (.inr (some 176))] 35 rfl rfl rfl rfl rfl ?_
      obtain ⟨k11, K⟩ := K
      refine pz_j3 [] [(3, .inl x9), (0, .inr (.inr (some 165))), (1, .inl a1), (2, .inl a2)] (pz_hp n0 (pz_up mi 176 ((a1).toNat) x9) ml mr c s) 36 rfl rfl rfl rfl (pz_a2 rfl (pz_ok_ix pz_S176 k11)) ?_
      refine pz_j1 [.inr (.inr (some 165))] 37 rfl rfl rfl rfl rfl ?_
      refine pz_j1 [.inr (.inr (some 177))] 40 rfl rfl rfl rfl (pz_a2 rfl pz_S165) ?_
      refine pz_j1 [.inl a1, .inr (.inr (some 177))] 41 rfl rfl rfl rfl rfl ?_
      refine pz_j1 [.inl a2, .inl a1, .inr (.inr (some 177))] 42 rfl rfl rfl rfl rfl ?_
      obtain ⟨k12, K⟩ := K
      refine pz_j3 [] [(3, .inl x9), (0, .inr (.inr (some 165))), (1, .inl a1), (2, .inl a2)] (pz_hp n0 (pz_up (pz_up mi 176 ((a1).toNat) x9) 177 ((a1).toNat) a2) ml mr c s) 43 rfl rfl rfl rfl (pz_a2 rfl (pz_ok_ix pz_S177 k12)) ?_
      refine pz_j1 [.inl a1] 44 rfl rfl rfl rfl rfl ?_
      exact pz_Rn_ret rfl rfl rfl rfl K
    · replace K := K.2 b10
      refine pz_j1 [.inr (.inr (some 165))] 23 rfl rfl rfl rfl rfl ?_
      refine pz_j1 [.inl a1, .inr (.inr (some 165))] 24 rfl rfl rfl rfl rfl ?_
      refine pz_Rn_sub (L := [(3, .inl x9)]) [0] rfl rfl ?_
      exact pz_Rn_k (y := 130) rfl rfl rfl rfl rfl rfl rfl rfl (pz_cok_v rfl rfl pz_S165) K
theorem pz_g135_27 {a3 : Int}  (K : Q (.inl (some (.inl a3))) (pz_hp n0 mi ml mr c s)) : pz_Rn (d + 1) 135 (27, [], [(3, .inl a3)], pz_hp n0 mi ml mr c s, true) Q := by
  refine pz_j1 [.inl a3] 28 rfl rfl rfl rfl rfl ?_
  exact pz_Rn_ret rfl rfl rfl rfl K
theorem pz_g135_75 {a1 : Int} {a2 : Int} {t0 : Int}  (K : ((a2 ≠ (-1) → (0 ≤ a1 ∧ a1 < 64) ∧ ((t0 ≠ (-1) → pz_Rn d 112 (0, [], [(0, .inr (.inr (some 165))), (1, .inl 1)], pz_hp n0 (pz_up (pz_up mi 165 32 (-1)) 176 ((a1).toNat) a2) ml mr c s, true) (pz_K (d + 1) 135 109 [] [(0, .inr (.inr (some 165))), (1, .inl a1), (3, .inl t0)] Q true)) ∧ (t0 = (-1) → Q (.inl (some (.inl a1))) (pz_hp n0 (pz_up (pz_up mi 165 32 (-1)) 176 ((a1).toNat) a2) ml mr c s)))) ∧ (a2 = (-1) → pz_Rn d 131 (0, [], [(0, .inr (.inr (some 165))), (1, .inl a1)], pz_hp n0 (pz_up mi 165 32 (-1)) ml mr c s, true) (pz_K (d + 1) 135 88 [] [(3, .inl t0)] Q true)))) : pz_Rn (d + 1) 135 (75, [.inl t0], [(0, .inr (.inr (some 165))), (1, .inl a1), (2, .inl a2)], pz_hp n0 mi ml mr c s, true) Q := by
  refine pz_j2 [] [(3, .inl t0), (0, .inr (.inr (some 165))), (1, .inl a1), (2, .inl a2)] 76 rfl rfl rfl rfl rfl ?_
  refine pz_j1 [.inr (.inr (some 165))] 77 rfl rfl rfl rfl rfl ?_
  refine pz_j1 [.inl (-1), .inr (.inr (some 165))] 78 rfl rfl rfl rfl rfl ?_
  refine pz_j3 [] [(3, .inl t0), (0, .inr (.inr (some 165))), (1, .inl a1), (2, .inl a2)] (pz_hp n0 (pz_up mi 165 32 (-1)) ml mr c s) 81 rfl rfl rfl rfl (pz_a2 rfl (pz_a2 pz_S165 (pz_a2 rfl rfl))) ?_
  refine pz_j1 [.inl a2] 82 rfl rfl rfl rfl rfl ?_
  refine pz_j1 [.inl (-1), .inl a2] 83 rfl rfl rfl rfl rfl ?_
  refine pz_j1 [] (bif pz_cp .ne a2 (-1) then 93 else 86) rfl rfl rfl rfl rfl ?_
  refine pz_Rn_if pz_c1_ne pz_c0_ne ⟨fun b1 => ?_, fun b1 => ?_⟩
  · replace K := K.1 b1
    refine pz_j1 [.inr (.inr (some 165))] 94 rfl rfl rfl rfl rfl ?_
    refine pz_j1 [.inr (.inr (some 176))] 97 rfl rfl rfl rfl (pz_a2 rfl pz_S165) ?_
    refine pz_j1 [.inl a1, .inr (.inr (some 176))] 98 rfl rfl rfl rfl rfl ?_
    refine pz_j1 [.inl a2, .inl a1, .inr (.inr (some 176))] 99 rfl rfl rfl rfl rfl ?_
    obtain ⟨k2, K⟩ := K
    refine pz_j3 [] [(3, .inl t0), (0, .inr (.inr (some 165))), (1, .inl a1), (2, .inl a2)] (pz_hp n0 (pz_up (pz_up mi 165 32 (-1)) 176 ((a1).toNat) a2) ml mr c s) 100 rfl rfl rfl rfl (pz_a2 rfl (pz_ok_ix pz_S176 k2)) ?_
    refine pz_j1 [.inl t0] 101 rfl rfl rfl rfl rfl ?_
    refine pz_j1 [.inl (-1), .inl t0] 102 rfl rfl rfl rfl rfl ?_
    refine pz_j1 [] (bif pz_cp .ne t0 (-1) then 107 else 105) rfl rfl rfl rfl rfl ?_
    refine pz_Rn_if pz_c1_ne pz_c0_ne ⟨fun b3 => ?_, fun b3 => ?_⟩
    · replace K := K.1 b3
      refine pz_j1 [.inr (.inr (some 165))] 108 rfl rfl rfl rfl rfl ?_
      refine pz_j1 [.inl 1, .inr (.inr (some 165))] 109 rfl rfl rfl rfl rfl ?_
      refine pz_Rn_sub (L := [(0, .inr (.inr (some 165))), (1, .inl a1), (3, .inl t0)]) [1, 2, 0] rfl rfl ?_
      exact pz_Rn_k (y := 111) rfl rfl rfl rfl rfl rfl rfl rfl (pz_cok_v rfl rfl pz_S165) K
    · replace K := K.2 b3
      refine pz_j1 [.inl a1] 106 rfl rfl rfl rfl rfl ?_
      exact pz_Rn_ret rfl rfl rfl rfl K
  · replace K := K.2 b1
    refine pz_j1 [.inr (.inr (some 165))] 87 rfl rfl rfl rfl rfl ?_
    refine pz_j1 [.inl a1, .inr (.inr (some 165))] 88 rfl rfl rfl rfl rfl ?_
    refine pz_Rn_sub (L := [(3, .inl t0)]) [0] rfl rfl ?_
    exact pz_Rn_k (y := 130) rfl rfl rfl rfl rfl rfl rfl rfl (pz_cok_v rfl rfl pz_S165) K
theorem pz_g135_91 {a3 : Int}  (K : Q (.inl (some (.inl a3))) (pz_hp n0 mi ml mr c s)) : pz_Rn (d + 1) 135 (91, [], [(3, .inl a3)], pz_hp n0 mi ml mr c s, true) Q := by
  refine pz_j1 [.inl a3] 92 rfl rfl rfl rfl rfl ?_
  exact pz_Rn_ret rfl rfl rfl rfl K
theorem pz_g135_112 {a1 : Int} {a3 : Int} {t0 : Int}  (K : (0 ≤ t0 ∧ t0 < 64) ∧ (0 ≤ t0 ∧ t0 < 64) ∧ Q (.inl (some (.inl t0))) (pz_hp n0 (pz_up (pz_up mi 176 ((t0).toNat) a3) 177 ((t0).toNat) a1) ml mr c s)) : pz_Rn (d + 1) 135 (112, [.inl t0], [(0, .inr (.inr (some 165))), (1, .inl a1), (3, .inl a3)], pz_hp n0 mi ml mr c s, true) Q := by
  refine pz_j2 [] [(4, .inl t0), (0, .inr (.inr (some 165))), (1, .inl a1), (3, .inl a3)] 114 rfl rfl rfl rfl rfl ?_
  refine pz_j1 [.inr (.inr (some 165))] 115 rfl rfl rfl rfl rfl ?_
  refine pz_j1 [.inr (.inr (some 176))] 118 rfl rfl rfl rfl (pz_a2 rfl pz_S165) ?_
  refine pz_j1 [.inl t0, .inr (.inr (some 176))] 120 rfl rfl rfl rfl rfl ?_
  refine pz_j1 [.inl a3, .inl t0, .inr (.inr (some 176))] 121 rfl rfl rfl rfl rfl ?_
  obtain ⟨k1, K⟩ := K
  refine pz_j3 [] [(4, .inl t0), (0, .inr (.inr (some 165))), (1, .inl a1), (3, .inl a3)] (pz_hp n0 (pz_up mi 176 ((t0).toNat) a3) ml mr c s) 122 rfl rfl rfl rfl (pz_a2 rfl (pz_ok_ix pz_S176 k1)) ?_
  refine pz_j1 [.inr (.inr (some 165))] 123 rfl rfl rfl rfl rfl ?_
  refine pz_j1 [.inr (.inr (some 177))] 126 rfl rfl rfl rfl (pz_a2 rfl pz_S165) ?_
  refine pz_j1 [.inl t0, .inr (.inr (some 177))] 128 rfl rfl rfl rfl rfl ?_
  refine pz_j1 [.inl a1, .inl t0, .inr (.inr (some 177))] 129 rfl rfl rfl rfl rfl ?_
  obtain ⟨k2, K⟩ := K
  refine pz_j3 [] [(4, .inl t0), (0, .inr (.inr (some 165))), (1, .inl a1), (3, .inl a3)] (pz_hp n0 (pz_up (pz_up mi 176 ((t0).toNat) a3) 177 ((t0).toNat) a1) ml mr c s) 130 rfl rfl rfl rfl (pz_a2 rfl (pz_ok_ix pz_S177 k2)) ?_
  refine pz_j1 [.inl t0] 132 rfl rfl rfl rfl rfl ?_
  exact pz_Rn_ret rfl rfl rfl rfl K
-- 136 RelationStreamModel.measure()I
theorem pz_g136_0   (K : pz_Rn d 136 (2, [], [(0, .inr (.inr (some 165))), (1, .inl 0)], pz_hp n0 mi ml mr c s, true) Q) : pz_Rn d 136 (0, [], [(0, .inr (.inr (some 165)))], pz_hp n0 mi ml mr c s, true) Q := by
  refine pz_j1 [.inl 0] 1 rfl rfl rfl rfl rfl ?_
  refine pz_j2 [] [(1, .inl 0), (0, .inr (.inr (some 165)))] 2 rfl rfl rfl rfl rfl ?_
  refine pz_Rn_sub (L := [(0, .inr (.inr (some 165))), (1, .inl 0)]) [1, 0] rfl rfl ?_
  exact K
theorem pz_g136_2 {a1 : Int}  (K : ((3 ≤ a1 → ((mi 165 13 = (-1) → pz_Rn d 136 (42, [], [(0, .inr (.inr (some 165))), (1, .inl 0)], pz_hp n0 mi ml mr c s, true) Q) ∧ (mi 165 13 ≠ (-1) → pz_Rn d 136 (42, [], [(0, .inr (.inr (some 165))), (1, .inl 1)], pz_hp n0 (pz_up mi 183 0 (mi 165 13)) ml mr c s, true) Q))) ∧ (a1 < 3 → (0 ≤ a1 ∧ a1 < 3) ∧ (-2147483648 ≤ a1 + 1 ∧ a1 + 1 ≤ 2147483647) ∧ pz_Rn d 136 (2, [], [(0, .inr (.inr (some 165))), (1, .inl (a1 + 1))], pz_hp n0 (pz_up mi 190 ((a1).toNat) 0) ml mr c s, true) Q))) : pz_Rn d 136 (2, [], [(0, .inr (.inr (some 165))), (1, .inl a1)], pz_hp n0 mi ml mr c s, true) Q := by
  refine pz_j1 [.inl a1] 3 rfl rfl rfl rfl rfl ?_
  refine pz_j1 [.inl 3, .inl a1] 4 rfl rfl rfl rfl rfl ?_
  refine pz_j1 [] (bif pz_cp .ge a1 3 then 20 else 7) rfl rfl rfl rfl rfl ?_
  refine pz_Rn_if pz_c1_ge pz_c0_ge ⟨fun b1 => ?_, fun b1 => ?_⟩
  · replace K := K.1 b1
    refine pz_j1 [.inl 0] 21 rfl rfl rfl rfl rfl ?_
    refine pz_j2 [] [(1, .inl 0), (0, .inr (.inr (some 165)))] 22 rfl rfl rfl rfl rfl ?_
    refine pz_j1 [.inr (.inr (some 165))] 23 rfl rfl rfl rfl rfl ?_
    refine pz_j1 [.inl (mi 165 13)] 26 rfl rfl rfl rfl (pz_a2 rfl pz_S165) ?_
    refine pz_j1 [.inl (-1), .inl (mi 165 13)] 27 rfl rfl rfl rfl rfl ?_
    refine pz_j1 [] (bif pz_cp .eq (mi 165 13) (-1) then 42 else 30) rfl rfl rfl rfl rfl ?_
    refine pz_Rn_if pz_c1_eq pz_c0_eq ⟨fun b2 => ?_, fun b2 => ?_⟩
    · replace K := K.1 b2
      refine pz_Rn_sub (L := [(0, .inr (.inr (some 165))), (1, .inl 0)]) [1, 0] rfl rfl ?_
      exact K
    · replace K := K.2 b2
      refine pz_j1 [.inr (.inr (some 165))] 31 rfl rfl rfl rfl rfl ?_
      refine pz_j1 [.inr (.inr (some 183))] 34 rfl rfl rfl rfl (pz_a2 rfl pz_S165) ?_
      refine pz_j1 [.inl 0, .inr (.inr (some 183))] 35 rfl rfl rfl rfl rfl ?_
      refine pz_j1 [.inr (.inr (some 165)), .inl 0, .inr (.inr (some 183))] 36 rfl rfl rfl rfl rfl ?_
      refine pz_j1 [.inl (mi 165 13), .inl 0, .inr (.inr (some 183))] 39 rfl rfl rfl rfl (pz_a2 rfl pz_S165) ?_
      refine pz_j3 [] [(1, .inl 0), (0, .inr (.inr (some 165)))] (pz_hp n0 (pz_up mi 183 0 (mi 165 13)) ml mr c s) 40 rfl rfl rfl rfl (pz_a2 rfl (pz_ok_ix pz_S183 ⟨by decide, by decide⟩)) ?_
      refine pz_j1 [.inl 1] 41 rfl rfl rfl rfl rfl ?_
      refine pz_j2 [] [(1, .inl 1), (0, .inr (.inr (some 165)))] 42 rfl rfl rfl rfl rfl ?_
      refine pz_Rn_sub (L := [(0, .inr (.inr (some 165))), (1, .inl 1)]) [1, 0] rfl rfl ?_
      exact K
  · replace K := K.2 b1
    refine pz_j1 [.inr (.inr (some 165))] 8 rfl rfl rfl rfl rfl ?_
    refine pz_j1 [.inr (.inr (some 190))] 11 rfl rfl rfl rfl (pz_a2 rfl pz_S165) ?_
    refine pz_j1 [.inl a1, .inr (.inr (some 190))] 12 rfl rfl rfl rfl rfl ?_
    refine pz_j1 [.inl 0, .inl a1, .inr (.inr (some 190))] 13 rfl rfl rfl rfl rfl ?_
    obtain ⟨k3, K⟩ := K
    refine pz_j3 [] [(0, .inr (.inr (some 165))), (1, .inl a1)] (pz_hp n0 (pz_up mi 190 ((a1).toNat) 0) ml mr c s) 14 rfl rfl rfl rfl (pz_a2 rfl (pz_ok_ix pz_S190 k3)) ?_
    obtain ⟨k4, K⟩ := K
    refine pz_j2 [] [(1, .inl (a1 + 1)), (0, .inr (.inr (some 165)))] 17 rfl rfl rfl rfl (pz_a2 (pz_ok_in k4) rfl) ?_
    refine pz_j1 [] 2 rfl rfl rfl rfl rfl ?_
    refine pz_Rn_sub (L := [(0, .inr (.inr (some 165))), (1, .inl (a1 + 1))]) [1, 0] rfl rfl ?_
    exact K
theorem pz_g136_42 {a1 : Int}  (K : ((a1 ≤ 0 → (-2147483648 ≤ (mi 190 0) + (mi 190 1) ∧ (mi 190 0) + (mi 190 1) ≤ 2147483647) ∧ (-2147483648 ≤ ((mi 190 0) + (mi 190 1)) + (mi 190 2) ∧ ((mi 190 0) + (mi 190 1)) + (mi 190 2) ≤ 2147483647) ∧ Q (.inl (some (.inl (((mi 190 0) + (mi 190 1)) + (mi 190 2))))) (pz_hp n0 mi ml mr c s)) ∧ (0 < a1 → (-2147483648 ≤ a1 + (-1) ∧ a1 + (-1) ≤ 2147483647) ∧ (0 ≤ a1 + (-1) ∧ a1 + (-1) < 64) ∧ ∀ x6 : Int, x6 = mi 183 ((a1 + (-1)).toNat) → (0 ≤ x6 ∧ x6 < 64) ∧ (0 ≤ mi 175 ((x6).toNat) ∧ mi 175 ((x6).toNat) < 3) ∧ (-2147483648 ≤ (mi 190 ((mi 175 ((x6).toNat)).toNat)) + 1 ∧ (mi 190 ((mi 175 ((x6).toNat)).toNat)) + 1 ≤ 2147483647) ∧ (0 ≤ mi 175 ((x6).toNat) ∧ mi 175 ((x6).toNat) < 3) ∧ (0 ≤ x6 ∧ x6 < 64) ∧ ((mi 175 ((x6).toNat) = 0 → (0 ≤ x6 ∧ x6 < 64) ∧ pz_Rn d 136 (42, [], [(0, .inr (.inr (some 165))), (1, .inl (a1 + (-1)))], pz_hp n0 (pz_up mi 190 ((mi 175 ((x6).toNat)).toNat) ((mi 190 ((mi 175 ((x6).toNat)).toNat)) + 1)) ml mr c s, true) Q) ∧ (mi 175 ((x6).toNat) ≠ 0 → (0 ≤ x6 ∧ x6 < 64) ∧ (0 ≤ a1 + (-1) ∧ a1 + (-1) < 64) ∧ (-2147483648 ≤ (a1 + (-1)) + 1 ∧ (a1 + (-1)) + 1 ≤ 2147483647) ∧ (0 ≤ x6 ∧ x6 < 64) ∧ ((mi 175 ((x6).toNat) ≠ 1 → pz_Rn d 136 (42, [], [(0, .inr (.inr (some 165))), (1, .inl ((a1 + (-1)) + 1))], pz_hp n0 (pz_up (pz_up mi 190 ((mi 175 ((x6).toNat)).toNat) ((mi 190 ((mi 175 ((x6).toNat)).toNat)) + 1)) 183 ((a1 + (-1)).toNat) (mi 176 ((x6).toNat))) ml mr c s, true) Q) ∧ (mi 175 ((x6).toNat) = 1 → (0 ≤ x6 ∧ x6 < 64) ∧ (0 ≤ (a1 + (-1)) + 1 ∧ (a1 + (-1)) + 1 < 64) ∧ (-2147483648 ≤ ((a1 + (-1)) + 1) + 1 ∧ ((a1 + (-1)) + 1) + 1 ≤ 2147483647) ∧ pz_Rn d 136 (42, [], [(0, .inr (.inr (some 165))), (1, .inl (((a1 + (-1)) + 1) + 1))], pz_hp n0 (pz_up (pz_up (pz_up mi 190 ((mi 175 ((x6).toNat)).toNat) ((mi 190 ((mi 175 ((x6).toNat)).toNat)) + 1)) 183 ((a1 + (-1)).toNat) (mi 176 ((x6).toNat))) 183 (((a1 + (-1)) + 1).toNat) (mi 177 ((x6).toNat))) ml mr c s, true) Q))))))) : pz_Rn d 136 (42, [], [(0, .inr (.inr (some 165))), (1, .inl a1)], pz_hp n0 mi ml mr c s, true) Q := by
  refine pz_j1 [.inl a1] 43 rfl rfl rfl rfl rfl ?_
  refine pz_j1 [] (bif pz_cp .le a1 0 then 123 else 46) rfl rfl rfl rfl rfl ?_
  refine pz_Rn_if pz_c1_le pz_c0_le ⟨fun b1 => ?_, fun b1 => ?_⟩
  · replace K := K.1 b1
    refine pz_j1 [.inr (.inr (some 165))] 124 rfl rfl rfl rfl rfl ?_
    refine pz_j1 [.inr (.inr (some 190))] 127 rfl rfl rfl rfl (pz_a2 rfl pz_S165) ?_
    refine pz_j1 [.inl 0, .inr (.inr (some 190))] 128 rfl rfl rfl rfl rfl ?_
    refine pz_j1 [.inl (mi 190 0)] 129 rfl rfl rfl rfl (pz_a2 rfl (pz_ok_ixs pz_S190 ⟨by decide, by decide⟩)) ?_
    refine pz_j1 [.inr (.inr (some 165)), .inl (mi 190 0)] 130 rfl rfl rfl rfl rfl ?_
    refine pz_j1 [.inr (.inr (some 190)), .inl (mi 190 0)] 133 rfl rfl rfl rfl (pz_a2 rfl pz_S165) ?_
    refine pz_j1 [.inl 1, .inr (.inr (some 190)), .inl (mi 190 0)] 134 rfl rfl rfl rfl rfl ?_
    refine pz_j1 [.inl (mi 190 1), .inl (mi 190 0)] 135 rfl rfl rfl rfl (pz_a2 rfl (pz_ok_ixs pz_S190 ⟨by decide, by decide⟩)) ?_
    obtain ⟨k2, K⟩ := K
    refine pz_j1 [.inl ((mi 190 0) + (mi 190 1))] 136 rfl rfl rfl rfl (pz_ok_in k2) ?_
    refine pz_j1 [.inr (.inr (some 165)), .inl ((mi 190 0) + (mi 190 1))] 137 rfl rfl rfl rfl rfl ?_
    refine pz_j1 [.inr (.inr (some 190)), .inl ((mi 190 0) + (mi 190 1))] 140 rfl rfl rfl rfl (pz_a2 rfl pz_S165) ?_
    refine pz_j1 [.inl 2, .inr (.inr (some 190)), .inl ((mi 190 0) + (mi 190 1))] 141 rfl rfl rfl rfl rfl ?_
    refine pz_j1 [.inl (mi 190 2), .inl ((mi 190 0) + (mi 190 1))] 142 rfl rfl rfl rfl (pz_a2 rfl (pz_ok_ixs pz_S190 ⟨by decide, by decide⟩)) ?_
    obtain ⟨k3, K⟩ := K
    refine pz_j1 [.inl (((mi 190 0) + (mi 190 1)) + (mi 190 2))] 143 rfl rfl rfl rfl (pz_ok_in k3) ?_
    exact pz_Rn_ret rfl rfl rfl rfl K
  · replace K := K.2 b1
    obtain ⟨k4, K⟩ := K
    refine pz_j2 [] [(1, .inl (a1 + (-1))), (0, .inr (.inr (some 165)))] 49 rfl rfl rfl rfl (pz_a2 (pz_ok_in k4) rfl) ?_
    refine pz_j1 [.inr (.inr (some 165))] 50 rfl rfl rfl rfl rfl ?_
    refine pz_j1 [.inr (.inr (some 183))] 53 rfl rfl rfl rfl (pz_a2 rfl pz_S165) ?_
    refine pz_j1 [.inl (a1 + (-1)), .inr (.inr (some 183))] 54 rfl rfl rfl rfl rfl ?_
    obtain ⟨k5, K⟩ := K
    refine pz_j1 [.inl (mi 183 ((a1 + (-1)).toNat))] 55 rfl rfl rfl rfl (pz_a2 rfl (pz_ok_ixs pz_S183 k5)) ?_
    obtain ⟨x6, hx6⟩ : ∃ x : Int, x = mi 183 ((a1 + (-1)).toNat) := ⟨_, rfl⟩
    rewrite [← hx6]
    replace K := K x6 hx6
    refine pz_j2 [] [(2, .inl x6), (1, .inl (a1 + (-1))), (0, .inr (.inr (some 165)))] 56 rfl rfl rfl rfl rfl ?_
    refine pz_j1 [.inr (.inr (some 165))] 57 rfl rfl rfl rfl rfl ?_
    refine pz_j1 [.inr (.inr (some 190))] 60 rfl rfl rfl rfl (pz_a2 rfl pz_S165) ?_
    refine pz_j1 [.inr (.inr (some 165)), .inr (.inr (some 190))] 61 rfl rfl rfl rfl rfl ?_
    refine pz_j1 [.inr (.inr (some 175)), .inr (.inr (some 190))] 64 rfl rfl rfl rfl (pz_a2 rfl pz_S165) ?_
    refine pz_j1 [.inl x6, .inr (.inr (some 175)), .inr (.inr (some 190))] 65 rfl rfl rfl rfl rfl ?_
    obtain ⟨k7, K⟩ := K
    refine pz_j1 [.inl (mi 175 ((x6).toNat)), .inr (.inr (some 190))] 66 rfl rfl rfl rfl (pz_a2 rfl (pz_ok_ixs pz_S175 k7)) ?_
    refine pz_j1 [.inl (mi 175 ((x6).toNat)), .inr (.inr (some 190)), .inl (mi 175 ((x6).toNat)), .inr (.inr (some 190))] 67 rfl rfl rfl rfl rfl ?_
    obtain ⟨k8, K⟩ := K
    refine pz_j1 [.inl (mi 190 ((mi 175 ((x6).toNat)).toNat)), .inl (mi 175 ((x6).toNat)), .inr (.inr (some 190))] 68 rfl rfl rfl rfl (pz_a2 rfl (pz_ok_ixs pz_S190 k8)) ?_
    refine pz_j1 [.inl 1, .inl (mi 190 ((mi 175 ((x6).toNat)).toNat)), .inl (mi 175 ((x6).toNat)), .inr (.inr (some 190))] 69 rfl rfl rfl rfl rfl ?_
    obtain ⟨k9, K⟩ := K
    refine pz_j1 [.inl ((mi 190 ((mi 175 ((x6).toNat)).toNat)) + 1), .inl (mi 175 ((x6).toNat)), .inr (.inr (some 190))] 70 rfl rfl rfl rfl (pz_ok_in k9) ?_
    obtain ⟨k10, K⟩ := K
    refine pz_j3 [] [(2, .inl x6), (1, .inl (a1 + (-1))), (0, .inr (.inr (some 165)))] (pz_hp n0 (pz_up mi 190 ((mi 175 ((x6).toNat)).toNat) ((mi 190 ((mi 175 ((x6).toNat)).toNat)) + 1)) ml mr c s) 71 rfl rfl rfl rfl (pz_a2 rfl (pz_ok_ix pz_S190 k10)) ?_
    refine pz_j1 [.inr (.inr (some 165))] 72 rfl rfl rfl rfl rfl ?_
    refine pz_j1 [.inr (.inr (some 175))] 75 rfl rfl rfl rfl (pz_a2 rfl pz_S165) ?_
    refine pz_j1 [.inl x6, .inr (.inr (some 175))] 76 rfl rfl rfl rfl rfl ?_
    obtain ⟨k11, K⟩ := K
    refine pz_j1 [.inl (mi 175 ((x6).toNat))] 77 rfl rfl rfl rfl (pz_a2 rfl (pz_ok_ixs pz_S175 k11)) ?_
    refine pz_j1 [] (bif pz_cp .eq (mi 175 ((x6).toNat)) 0 then 95 else 80) rfl rfl rfl rfl rfl ?_
    refine pz_Rn_if pz_c1_eq pz_c0_eq ⟨fun b12 => ?_, fun b12 => ?_⟩
    · replace K := K.1 b12
      refine pz_j1 [.inr (.inr (some 165))] 96 rfl rfl rfl rfl rfl ?_
      refine pz_j1 [.inr (.inr (some 175))] 99 rfl rfl rfl rfl (pz_a2 rfl pz_S165) ?_
      refine pz_j1 [.inl x6, .inr (.inr (some 175))] 100 rfl rfl rfl rfl rfl ?_
      obtain ⟨k13, K⟩ := K
      refine pz_j1 [.inl (mi 175 ((x6).toNat))] 101 rfl rfl rfl rfl (pz_a2 rfl (pz_ok_ixs pz_S175 k13)) ?_
      refine pz_j1 [.inl 1, .inl (mi 175 ((x6).toNat))] 102 rfl rfl rfl rfl rfl ?_
      refine pz_j1 [] (bif pz_cp .ne (mi 175 ((x6).toNat)) 1 then 120 else 105) rfl rfl rfl rfl rfl ?_
      refine pz_Rn_if pz_c1_ne pz_c0_ne ⟨fun _ => ?_, fun b14 => absurd b14 (by omega)⟩
      refine pz_j1 [] 42 rfl rfl rfl rfl rfl ?_
      refine pz_Rn_sub (L := [(0, .inr (.inr (some 165))), (1, .inl (a1 + (-1)))]) [2, 1] rfl rfl ?_
      exact K
    · replace K := K.2 b12
      refine pz_j1 [.inr (.inr (some 165))] 81 rfl rfl rfl rfl rfl ?_
      refine pz_j1 [.inr (.inr (some 183))] 84 rfl rfl rfl rfl (pz_a2 rfl pz_S165) ?_
      refine pz_j1 [.inl (a1 + (-1)), .inr (.inr (some 183))] 85 rfl rfl rfl rfl rfl ?_
      refine pz_j1 [.inr (.inr (some 165)), .inl (a1 + (-1)), .inr (.inr (some 183))] 86 rfl rfl rfl rfl rfl ?_
      refine pz_j1 [.inr (.inr (some 176)), .inl (a1 + (-1)), .inr (.inr (some 183))] 89 rfl rfl rfl rfl (pz_a2 rfl pz_S165) ?_
      refine pz_j1 [.inl x6, .inr (.inr (some 176)), .inl (a1 + (-1)), .inr (.inr (some 183))] 90 rfl rfl rfl rfl rfl ?_
      obtain ⟨k15, K⟩ := K
      refine pz_j1 [.inl (mi 176 ((x6).toNat)), .inl (a1 + (-1)), .inr (.inr (some 183))] 91 rfl rfl rfl rfl (pz_a2 rfl (pz_ok_ixs pz_S176 k15)) ?_
      obtain ⟨k16, K⟩ := K
      refine pz_j3 [] [(2, .inl x6), (1, .inl (a1 + (-1))), (0, .inr (.inr (some 165)))] (pz_hp n0 (pz_up (pz_up mi 190 ((mi 175 ((x6).toNat)).toNat) ((mi 190 ((mi 175 ((x6).toNat)).toNat)) + 1)) 183 ((a1 + (-1)).toNat) (mi 176 ((x6).toNat))) ml mr c s) 92 rfl rfl rfl rfl (pz_a2 rfl (pz_ok_ix pz_S183 k16)) ?_
      obtain ⟨k17, K⟩ := K
      refine pz_j2 [] [(1, .inl ((a1 + (-1)) + 1)), (2, .inl x6), (0, .inr (.inr (some 165)))] 95 rfl rfl rfl rfl (pz_a2 (pz_ok_in k17) rfl) ?_
      refine pz_j1 [.inr (.inr (some 165))] 96 rfl rfl rfl rfl rfl ?_
      refine pz_j1 [.inr (.inr (some 175))] 99 rfl rfl rfl rfl (pz_a2 rfl pz_S165) ?_
      refine pz_j1 [.inl x6, .inr (.inr (some 175))] 100 rfl rfl rfl rfl rfl ?_
      obtain ⟨k18, K⟩ := K
      refine pz_j1 [.inl (mi 175 ((x6).toNat))] 101 rfl rfl rfl rfl (pz_a2 rfl (pz_ok_ixs pz_S175 k18)) ?_
      refine pz_j1 [.inl 1, .inl (mi 175 ((x6).toNat))] 102 rfl rfl rfl rfl rfl ?_
      refine pz_j1 [] (bif pz_cp .ne (mi 175 ((x6).toNat)) 1 then 120 else 105) rfl rfl rfl rfl rfl ?_
      refine pz_Rn_if pz_c1_ne pz_c0_ne ⟨fun b19 => ?_, fun b19 => ?_⟩
      · replace K := K.1 b19
        refine pz_j1 [] 42 rfl rfl rfl rfl rfl ?_
        refine pz_Rn_sub (L := [(0, .inr (.inr (some 165))), (1, .inl ((a1 + (-1)) + 1))]) [2, 0] rfl rfl ?_
        exact K
      · replace K := K.2 b19
        refine pz_j1 [.inr (.inr (some 165))] 106 rfl rfl rfl rfl rfl ?_
        refine pz_j1 [.inr (.inr (some 183))] 109 rfl rfl rfl rfl (pz_a2 rfl pz_S165) ?_
        refine pz_j1 [.inl ((a1 + (-1)) + 1), .inr (.inr (some 183))] 110 rfl rfl rfl rfl rfl ?_
        refine pz_j1 [.inr (.inr (some 165)), .inl ((a1 + (-1)) + 1), .inr (.inr (some 183))] 111 rfl rfl rfl rfl rfl ?_
        refine pz_j1 [.inr (.inr (some 177)), .inl ((a1 + (-1)) + 1), .inr (.inr (some 183))] 114 rfl rfl rfl rfl (pz_a2 rfl pz_S165) ?_
        refine pz_j1 [.inl x6, .inr (.inr (some 177)), .inl ((a1 + (-1)) + 1), .inr (.inr (some 183))] 115 rfl rfl rfl rfl rfl ?_
        obtain ⟨k20, K⟩ := K
        refine pz_j1 [.inl (mi 177 ((x6).toNat)), .inl ((a1 + (-1)) + 1), .inr (.inr (some 183))] 116 rfl rfl rfl rfl (pz_a2 rfl (pz_ok_ixs pz_S177 k20)) ?_
        obtain ⟨k21, K⟩ := K
        refine pz_j3 [] [(1, .inl ((a1 + (-1)) + 1)), (2, .inl x6), (0, .inr (.inr (some 165)))] (pz_hp n0 (pz_up (pz_up (pz_up mi 190 ((mi 175 ((x6).toNat)).toNat) ((mi 190 ((mi 175 ((x6).toNat)).toNat)) + 1)) 183 ((a1 + (-1)).toNat) (mi 176 ((x6).toNat))) 183 (((a1 + (-1)) + 1).toNat) (mi 177 ((x6).toNat))) ml mr c s) 117 rfl rfl rfl rfl (pz_a2 rfl (pz_ok_ix pz_S183 k21)) ?_
        obtain ⟨k22, K⟩ := K
        refine pz_j2 [] [(1, .inl (((a1 + (-1)) + 1) + 1)), (2, .inl x6), (0, .inr (.inr (some 165)))] 120 rfl rfl rfl rfl (pz_a2 (pz_ok_in k22) rfl) ?_
        refine pz_j1 [] 42 rfl rfl rfl rfl rfl ?_
        refine pz_Rn_sub (L := [(0, .inr (.inr (some 165))), (1, .inl (((a1 + (-1)) + 1) + 1))]) [2, 0] rfl rfl ?_
        exact K
-- 137 RelationStreamModel.step()Z
theorem pz_g137_0   (K : ∀ x1 : Int, x1 = mi 165 13 → pz_Rn (d + 1) 137 (22, [], [(0, .inr (.inr (some 165))), (1, .inl 0), (2, .inl x1)], pz_hp n0 (pz_up (pz_up (pz_up mi 165 27 0) 165 31 0) 165 32 (-1)) ml mr c s, true) Q) : pz_Rn (d + 1) 137 (0, [], [(0, .inr (.inr (some 165)))], pz_hp n0 mi ml mr c s, true) Q := by
  refine pz_j1 [.inr (.inr (some 165))] 1 rfl rfl rfl rfl rfl ?_
  refine pz_j1 [.inl 0, .inr (.inr (some 165))] 2 rfl rfl rfl rfl rfl ?_
  refine pz_j3 [] [(0, .inr (.inr (some 165)))] (pz_hp n0 (pz_up mi 165 27 0) ml mr c s) 5 rfl rfl rfl rfl (pz_a2 rfl (pz_a2 pz_S165 (pz_a2 rfl rfl))) ?_
  refine pz_j1 [.inr (.inr (some 165))] 6 rfl rfl rfl rfl rfl ?_
  refine pz_j1 [.inl 0, .inr (.inr (some 165))] 7 rfl rfl rfl rfl rfl ?_
  refine pz_j3 [] [(0, .inr (.inr (some 165)))] (pz_hp n0 (pz_up (pz_up mi 165 27 0) 165 31 0) ml mr c s) 10 rfl rfl rfl rfl (pz_a2 rfl (pz_a2 pz_S165 (pz_a2 rfl rfl))) ?_
  refine pz_j1 [.inr (.inr (some 165))] 11 rfl rfl rfl rfl rfl ?_
  refine pz_j1 [.inl (-1), .inr (.inr (some 165))] 12 rfl rfl rfl rfl rfl ?_
  refine pz_j3 [] [(0, .inr (.inr (some 165)))] (pz_hp n0 (pz_up (pz_up (pz_up mi 165 27 0) 165 31 0) 165 32 (-1)) ml mr c s) 15 rfl rfl rfl rfl (pz_a2 rfl (pz_a2 pz_S165 (pz_a2 rfl rfl))) ?_
  refine pz_j1 [.inl 0] 16 rfl rfl rfl rfl rfl ?_
  refine pz_j2 [] [(1, .inl 0), (0, .inr (.inr (some 165)))] 17 rfl rfl rfl rfl rfl ?_
  refine pz_j1 [.inr (.inr (some 165))] 18 rfl rfl rfl rfl rfl ?_
  refine pz_j1 [.inl (mi 165 13)] 21 rfl rfl rfl rfl (pz_a2 rfl pz_S165) ?_
  obtain ⟨x1, hx1⟩ : ∃ x : Int, x = mi 165 13 := ⟨_, rfl⟩
  rewrite [← hx1]
  replace K := K x1 hx1
  refine pz_j2 [] [(2, .inl x1), (1, .inl 0), (0, .inr (.inr (some 165)))] 22 rfl rfl rfl rfl rfl ?_
  refine pz_Rn_sub (L := [(0, .inr (.inr (some 165))), (1, .inl 0), (2, .inl x1)]) [2, 1, 0] rfl rfl ?_
  exact K
theorem pz_g137_22 {a1 : Int} {a2 : Int}  (K : (0 ≤ a2 ∧ a2 < 64) ∧ ((mi 175 ((a2).toNat) = 0 → pz_Rn d 134 (0, [], [(0, .inr (.inr (some 165))), (1, .inl a2)], pz_hp n0 mi ml mr c s, true) (pz_K (d + 1) 137 53 [] [(0, .inr (.inr (some 165))), (1, .inl a1)] Q true)) ∧ (mi 175 ((a2).toNat) ≠ 0 → (0 ≤ a1 ∧ a1 < 64) ∧ (-2147483648 ≤ a1 + 1 ∧ a1 + 1 ≤ 2147483647) ∧ (0 ≤ a2 ∧ a2 < 64) ∧ ∀ x6 : Int, x6 = mi 176 ((a2).toNat) → pz_Rn (d + 1) 137 (22, [], [(0, .inr (.inr (some 165))), (1, .inl (a1 + 1)), (2, .inl x6)], pz_hp n0 (pz_up mi 183 ((a1).toNat) a2) ml mr c s, true) Q))) : pz_Rn (d + 1) 137 (22, [], [(0, .inr (.inr (some 165))), (1, .inl a1), (2, .inl a2)], pz_hp n0 mi ml mr c s, true) Q := by
  refine pz_j1 [.inr (.inr (some 165))] 23 rfl rfl rfl rfl rfl ?_
  refine pz_j1 [.inr (.inr (some 175))] 26 rfl rfl rfl rfl (pz_a2 rfl pz_S165) ?_
  refine pz_j1 [.inl a2, .inr (.inr (some 175))] 27 rfl rfl rfl rfl rfl ?_
  obtain ⟨k1, K⟩ := K
  refine pz_j1 [.inl (mi 175 ((a2).toNat))] 28 rfl rfl rfl rfl (pz_a2 rfl (pz_ok_ixs pz_S175 k1)) ?_
  refine pz_j1 [] (bif pz_cp .eq (mi 175 ((a2).toNat)) 0 then 51 else 31) rfl rfl rfl rfl rfl ?_
  refine pz_Rn_if pz_c1_eq pz_c0_eq ⟨fun b2 => ?_, fun b2 => ?_⟩
  · replace K := K.1 b2
    refine pz_j1 [.inr (.inr (some 165))] 52 rfl rfl rfl rfl rfl ?_
    refine pz_j1 [.inl a2, .inr (.inr (some 165))] 53 rfl rfl rfl rfl rfl ?_
    refine pz_Rn_sub (L := [(0, .inr (.inr (some 165))), (1, .inl a1)]) [0, 1] rfl rfl ?_
    exact pz_Rn_k (y := 133) rfl rfl rfl rfl rfl rfl rfl rfl (pz_cok_v rfl rfl pz_S165) K
  · replace K := K.2 b2
    refine pz_j1 [.inr (.inr (some 165))] 32 rfl rfl rfl rfl rfl ?_
    refine pz_j1 [.inr (.inr (some 183))] 35 rfl rfl rfl rfl (pz_a2 rfl pz_S165) ?_
    refine pz_j1 [.inl a1, .inr (.inr (some 183))] 36 rfl rfl rfl rfl rfl ?_
    refine pz_j1 [.inl a2, .inl a1, .inr (.inr (some 183))] 37 rfl rfl rfl rfl rfl ?_
    obtain ⟨k3, K⟩ := K
    refine pz_j3 [] [(0, .inr (.inr (some 165))), (1, .inl a1), (2, .inl a2)] (pz_hp n0 (pz_up mi 183 ((a1).toNat) a2) ml mr c s) 38 rfl rfl rfl rfl (pz_a2 rfl (pz_ok_ix pz_S183 k3)) ?_
    obtain ⟨k4, K⟩ := K
    refine pz_j2 [] [(1, .inl (a1 + 1)), (0, .inr (.inr (some 165))), (2, .inl a2)] 41 rfl rfl rfl rfl (pz_a2 (pz_ok_in k4) rfl) ?_
    refine pz_j1 [.inr (.inr (some 165))] 42 rfl rfl rfl rfl rfl ?_
    refine pz_j1 [.inr (.inr (some 176))] 45 rfl rfl rfl rfl (pz_a2 rfl pz_S165) ?_
    refine pz_j1 [.inl a2, .inr (.inr (some 176))] 46 rfl rfl rfl rfl rfl ?_
    obtain ⟨k5, K⟩ := K
    refine pz_j1 [.inl (mi 176 ((a2).toNat))] 47 rfl rfl rfl rfl (pz_a2 rfl (pz_ok_ixs pz_S176 k5)) ?_
    obtain ⟨x6, hx6⟩ : ∃ x : Int, x = mi 176 ((a2).toNat) := ⟨_, rfl⟩
    rewrite [← hx6]
    replace K := K x6 hx6
    refine pz_j2 [] [(2, .inl x6), (1, .inl (a1 + 1)), (0, .inr (.inr (some 165)))] 48 rfl rfl rfl rfl rfl ?_
    refine pz_j1 [] 22 rfl rfl rfl rfl rfl ?_
    refine pz_Rn_sub (L := [(0, .inr (.inr (some 165))), (1, .inl (a1 + 1)), (2, .inl x6)]) [2, 1, 0] rfl rfl ?_
    exact K
theorem pz_g137_56 {a1 : Int} {t0 : Int}  (K : pz_Rn (d + 1) 137 (57, [], [(0, .inr (.inr (some 165))), (1, .inl a1), (3, .inl t0)], pz_hp n0 mi ml mr c s, true) Q) : pz_Rn (d + 1) 137 (56, [.inl t0], [(0, .inr (.inr (some 165))), (1, .inl a1)], pz_hp n0 mi ml mr c s, true) Q := by
  refine pz_j2 [] [(3, .inl t0), (0, .inr (.inr (some 165))), (1, .inl a1)] 57 rfl rfl rfl rfl rfl ?_
  refine pz_Rn_sub (L := [(0, .inr (.inr (some 165))), (1, .inl a1), (3, .inl t0)]) [1, 2, 0] rfl rfl ?_
  exact K
theorem pz_g137_57 {a1 : Int} {a3 : Int}  (K : ((a1 ≤ 0 → pz_Rn d 136 (0, [], [(0, .inr (.inr (some 165)))], pz_hp n0 (pz_up mi 165 13 a3) ml mr c s, true) (pz_K (d + 1) 137 85 [] [(0, .inr (.inr (some 165)))] Q true)) ∧ (0 < a1 → (-2147483648 ≤ a1 + (-1) ∧ a1 + (-1) ≤ 2147483647) ∧ (0 ≤ a1 + (-1) ∧ a1 + (-1) < 64) ∧ pz_Rn d 135 (0, [], [(0, .inr (.inr (some 165))), (1, .inl (mi 183 ((a1 + (-1)).toNat))), (2, .inl a3)], pz_hp n0 mi ml mr c s, true) (pz_K (d + 1) 137 72 [] [(0, .inr (.inr (some 165))), (1, .inl (a1 + (-1)))] Q true)))) : pz_Rn (d + 1) 137 (57, [], [(0, .inr (.inr (some 165))), (1, .inl a1), (3, .inl a3)], pz_hp n0 mi ml mr c s, true) Q := by
  refine pz_j1 [.inl a1] 58 rfl rfl rfl rfl rfl ?_
  refine pz_j1 [] (bif pz_cp .le a1 0 then 79 else 61) rfl rfl rfl rfl rfl ?_
  refine pz_Rn_if pz_c1_le pz_c0_le ⟨fun b1 => ?_, fun b1 => ?_⟩
  · replace K := K.1 b1
    refine pz_j1 [.inr (.inr (some 165))] 80 rfl rfl rfl rfl rfl ?_
    refine pz_j1 [.inl a3, .inr (.inr (some 165))] 81 rfl rfl rfl rfl rfl ?_
    refine pz_j3 [] [(0, .inr (.inr (some 165))), (1, .inl a1), (3, .inl a3)] (pz_hp n0 (pz_up mi 165 13 a3) ml mr c s) 84 rfl rfl rfl rfl (pz_a2 rfl (pz_a2 pz_S165 (pz_a2 rfl rfl))) ?_
    refine pz_j1 [.inr (.inr (some 165))] 85 rfl rfl rfl rfl rfl ?_
    refine pz_Rn_sub (L := [(0, .inr (.inr (some 165)))]) [0] rfl rfl ?_
    exact pz_Rn_k (y := 135) rfl rfl rfl rfl rfl rfl rfl rfl (pz_cok_v rfl rfl pz_S165) K
  · replace K := K.2 b1
    obtain ⟨k2, K⟩ := K
    refine pz_j2 [] [(1, .inl (a1 + (-1))), (0, .inr (.inr (some 165))), (3, .inl a3)] 64 rfl rfl rfl rfl (pz_a2 (pz_ok_in k2) rfl) ?_
    refine pz_j1 [.inr (.inr (some 165))] 65 rfl rfl rfl rfl rfl ?_
    refine pz_j1 [.inr (.inr (some 165)), .inr (.inr (some 165))] 66 rfl rfl rfl rfl rfl ?_
    refine pz_j1 [.inr (.inr (some 183)), .inr (.inr (some 165))] 69 rfl rfl rfl rfl (pz_a2 rfl pz_S165) ?_
    refine pz_j1 [.inl (a1 + (-1)), .inr (.inr (some 183)), .inr (.inr (some 165))] 70 rfl rfl rfl rfl rfl ?_
    obtain ⟨k3, K⟩ := K
    refine pz_j1 [.inl (mi 183 ((a1 + (-1)).toNat)), .inr (.inr (some 165))] 71 rfl rfl rfl rfl (pz_a2 rfl (pz_ok_ixs pz_S183 k3)) ?_
    refine pz_j1 [.inl a3, .inl (mi 183 ((a1 + (-1)).toNat)), .inr (.inr (some 165))] 72 rfl rfl rfl rfl rfl ?_
    refine pz_Rn_sub (L := [(0, .inr (.inr (some 165))), (1, .inl (a1 + (-1)))]) [1, 0] rfl rfl ?_
    exact pz_Rn_k (y := 134) rfl rfl rfl rfl rfl rfl rfl rfl (pz_cok_v rfl rfl pz_S165) K
theorem pz_g137_75 {a1 : Int} {t0 : Int}  (K : pz_Rn (d + 1) 137 (57, [], [(0, .inr (.inr (some 165))), (1, .inl a1), (3, .inl t0)], pz_hp n0 mi ml mr c s, true) Q) : pz_Rn (d + 1) 137 (75, [.inl t0], [(0, .inr (.inr (some 165))), (1, .inl a1)], pz_hp n0 mi ml mr c s, true) Q := by
  refine pz_j2 [] [(3, .inl t0), (0, .inr (.inr (some 165))), (1, .inl a1)] 76 rfl rfl rfl rfl rfl ?_
  refine pz_j1 [] 57 rfl rfl rfl rfl rfl ?_
  refine pz_Rn_sub (L := [(0, .inr (.inr (some 165))), (1, .inl a1), (3, .inl t0)]) [1, 2, 0] rfl rfl ?_
  exact K
theorem pz_g137_88 {t0 : Int}  (K : ((60 < t0 → Q (.inl (some (.inl 0))) (pz_hp n0 mi ml mr c s)) ∧ (t0 ≤ 60 → ((mi 165 31 ≠ 0 → Q (.inl (some (.inl 0))) (pz_hp n0 mi ml mr c s)) ∧ (mi 165 31 = 0 → ((mi 165 32 = (-1) → Q (.inl (some (.inl 1))) (pz_hp n0 mi ml mr c s)) ∧ (mi 165 32 ≠ (-1) → ((20 ≤ mi 189 0 → Q (.inl (some (.inl 0))) (pz_hp n0 mi ml mr c s)) ∧ (mi 189 0 < 20 → Q (.inl (some (.inl 1))) (pz_hp n0 mi ml mr c s)))))))))) : pz_Rn (d + 1) 137 (88, [.inl t0], [(0, .inr (.inr (some 165)))], pz_hp n0 mi ml mr c s, true) Q := by
  refine pz_j1 [.inl 60, .inl t0] 90 rfl rfl rfl rfl rfl ?_
  refine pz_j1 [] (bif pz_cp .gt t0 60 then 123 else 93) rfl rfl rfl rfl rfl ?_
  refine pz_Rn_if pz_c1_gt pz_c0_gt ⟨fun b1 => ?_, fun b1 => ?_⟩
  · replace K := K.1 b1
    refine pz_j1 [.inl 0] 124 rfl rfl rfl rfl rfl ?_
    exact pz_Rn_ret rfl rfl rfl rfl K
  · replace K := K.2 b1
    refine pz_j1 [.inr (.inr (some 165))] 94 rfl rfl rfl rfl rfl ?_
    refine pz_j1 [.inl (mi 165 31)] 97 rfl rfl rfl rfl (pz_a2 rfl pz_S165) ?_
    refine pz_j1 [] (bif pz_cp .ne (mi 165 31) 0 then 123 else 100) rfl rfl rfl rfl rfl ?_
    refine pz_Rn_if pz_c1_ne pz_c0_ne ⟨fun b2 => ?_, fun b2 => ?_⟩
    · replace K := K.1 b2
      refine pz_j1 [.inl 0] 124 rfl rfl rfl rfl rfl ?_
      exact pz_Rn_ret rfl rfl rfl rfl K
    · replace K := K.2 b2
      refine pz_j1 [.inr (.inr (some 165))] 101 rfl rfl rfl rfl rfl ?_
      refine pz_j1 [.inl (mi 165 32)] 104 rfl rfl rfl rfl (pz_a2 rfl pz_S165) ?_
      refine pz_j1 [.inl (-1), .inl (mi 165 32)] 105 rfl rfl rfl rfl rfl ?_
      refine pz_j1 [] (bif pz_cp .eq (mi 165 32) (-1) then 119 else 108) rfl rfl rfl rfl rfl ?_
      refine pz_Rn_if pz_c1_eq pz_c0_eq ⟨fun b3 => ?_, fun b3 => ?_⟩
      · replace K := K.1 b3
        refine pz_j1 [.inl 1] 120 rfl rfl rfl rfl rfl ?_
        refine pz_j1 [.inl 1] 124 rfl rfl rfl rfl rfl ?_
        exact pz_Rn_ret rfl rfl rfl rfl K
      · replace K := K.2 b3
        refine pz_j1 [.inr (.inr (some 165))] 109 rfl rfl rfl rfl rfl ?_
        refine pz_j1 [.inr (.inr (some 189))] 112 rfl rfl rfl rfl (pz_a2 rfl pz_S165) ?_
        refine pz_j1 [.inl 0, .inr (.inr (some 189))] 113 rfl rfl rfl rfl rfl ?_
        refine pz_j1 [.inl (mi 189 0)] 114 rfl rfl rfl rfl (pz_a2 rfl (pz_ok_ixs pz_S189 ⟨by decide, by decide⟩)) ?_
        refine pz_j1 [.inl 20, .inl (mi 189 0)] 116 rfl rfl rfl rfl rfl ?_
        refine pz_j1 [] (bif pz_cp .ge (mi 189 0) 20 then 123 else 119) rfl rfl rfl rfl rfl ?_
        refine pz_Rn_if pz_c1_ge pz_c0_ge ⟨fun b4 => ?_, fun b4 => ?_⟩
        · replace K := K.1 b4
          refine pz_j1 [.inl 0] 124 rfl rfl rfl rfl rfl ?_
          exact pz_Rn_ret rfl rfl rfl rfl K
        · replace K := K.2 b4
          refine pz_j1 [.inl 1] 120 rfl rfl rfl rfl rfl ?_
          refine pz_j1 [.inl 1] 124 rfl rfl rfl rfl rfl ?_
          exact pz_Rn_ret rfl rfl rfl rfl K
-- 138 RelationStreamModel.symbolOf(I)I
theorem pz_g138_0 {a1 : Int}  (K : ((3000 ≤ a1 → (-2147483648 ≤ a1 - 3000 ∧ a1 - 3000 ≤ 2147483647) ∧ (0 ≤ a1 - 3000 ∧ a1 - 3000 < 240) ∧ ((mi 194 ((a1 - 3000).toNat) ≠ 0 → (-2147483648 ≤ a1 - 3000 ∧ a1 - 3000 ≤ 2147483647) ∧ (0 ≤ a1 - 3000 ∧ a1 - 3000 < 240) ∧ (-2147483648 ≤ 19 + (mi 194 ((a1 - 3000).toNat)) ∧ 19 + (mi 194 ((a1 - 3000).toNat)) ≤ 2147483647) ∧ Q (.inl (some (.inl (19 + (mi 194 ((a1 - 3000).toNat)))))) (pz_hp n0 mi ml mr c s)) ∧ (mi 194 ((a1 - 3000).toNat) = 0 → (-2147483648 ≤ (mi 165 44) + 1 ∧ (mi 165 44) + 1 ≤ 2147483647) ∧ (-2147483648 ≤ a1 - 3000 ∧ a1 - 3000 ≤ 2147483647) ∧ (0 ≤ a1 - 3000 ∧ a1 - 3000 < 240) ∧ (-2147483648 ≤ a1 - 3000 ∧ a1 - 3000 ≤ 2147483647) ∧ (0 ≤ a1 - 3000 ∧ a1 - 3000 < 240) ∧ (-2147483648 ≤ 19 + ((pz_up (pz_up mi 165 44 ((mi 165 44) + 1)) 194 ((a1 - 3000).toNat) ((mi 165 44) + 1)) 194 ((a1 - 3000).toNat)) ∧ 19 + ((pz_up (pz_up mi 165 44 ((mi 165 44) + 1)) 194 ((a1 - 3000).toNat) ((mi 165 44) + 1)) 194 ((a1 - 3000).toNat)) ≤ 2147483647) ∧ Q (.inl (some (.inl (19 + ((pz_up (pz_up mi 165 44 ((mi 165 44) + 1)) 194 ((a1 - 3000).toNat) ((mi 165 44) + 1)) 194 ((a1 - 3000).toNat)))))) (pz_hp n0 (pz_up (pz_up mi 165 44 ((mi 165 44) + 1)) 194 ((a1 - 3000).toNat) ((mi 165 44) + 1)) ml mr c s)))) ∧ (a1 < 3000 → pz_Rn d 118 (0, [], [(0, .inr (.inr (some 165))), (1, .inl a1)], pz_hp n0 mi ml mr c s, true) (pz_K (d + 1) 138 9 [] [(0, .inr (.inr (some 165))), (1, .inl a1)] Q true)))) : pz_Rn (d + 1) 138 (0, [], [(0, .inr (.inr (some 165))), (1, .inl a1)], pz_hp n0 mi ml mr c s, true) Q := by
  refine pz_j1 [.inl a1] 1 rfl rfl rfl rfl rfl ?_
  refine pz_j1 [.inl 3000, .inl a1] 4 rfl rfl rfl rfl rfl ?_
  refine pz_j1 [] (bif pz_cp .ge a1 3000 then 30 else 7) rfl rfl rfl rfl rfl ?_
  refine pz_Rn_if pz_c1_ge pz_c0_ge ⟨fun b1 => ?_, fun b1 => ?_⟩
  · replace K := K.1 b1
    refine pz_j1 [.inr (.inr (some 165))] 31 rfl rfl rfl rfl rfl ?_
    refine pz_j1 [.inr (.inr (some 194))] 34 rfl rfl rfl rfl (pz_a2 rfl pz_S165) ?_
    refine pz_j1 [.inl a1, .inr (.inr (some 194))] 35 rfl rfl rfl rfl rfl ?_
    refine pz_j1 [.inl 3000, .inl a1, .inr (.inr (some 194))] 38 rfl rfl rfl rfl rfl ?_
    obtain ⟨k2, K⟩ := K
    refine pz_j1 [.inl (a1 - 3000), .inr (.inr (some 194))] 39 rfl rfl rfl rfl (pz_ok_in k2) ?_
    obtain ⟨k3, K⟩ := K
    refine pz_j1 [.inl (mi 194 ((a1 - 3000).toNat))] 40 rfl rfl rfl rfl (pz_a2 rfl (pz_ok_ixs pz_S194 k3)) ?_
    refine pz_j1 [] (bif pz_cp .ne (mi 194 ((a1 - 3000).toNat)) 0 then 67 else 43) rfl rfl rfl rfl rfl ?_
    refine pz_Rn_if pz_c1_ne pz_c0_ne ⟨fun b4 => ?_, fun b4 => ?_⟩
    · replace K := K.1 b4
      refine pz_j1 [.inl 19] 69 rfl rfl rfl rfl rfl ?_
      refine pz_j1 [.inr (.inr (some 165)), .inl 19] 70 rfl rfl rfl rfl rfl ?_
      refine pz_j1 [.inr (.inr (some 194)), .inl 19] 73 rfl rfl rfl rfl (pz_a2 rfl pz_S165) ?_
      refine pz_j1 [.inl a1, .inr (.inr (some 194)), .inl 19] 74 rfl rfl rfl rfl rfl ?_
      refine pz_j1 [.inl 3000, .inl a1, .inr (.inr (some 194)), .inl 19] 77 rfl rfl rfl rfl rfl ?_
      obtain ⟨k5, K⟩ := K
      refine pz_j1 [.inl (a1 - 3000), .inr (.inr (some 194)), .inl 19] 78 rfl rfl rfl rfl (pz_ok_in k5) ?_
      obtain ⟨k6, K⟩ := K
      refine pz_j1 [.inl (mi 194 ((a1 - 3000).toNat)), .inl 19] 79 rfl rfl rfl rfl (pz_a2 rfl (pz_ok_ixs pz_S194 k6)) ?_
      obtain ⟨k7, K⟩ := K
      refine pz_j1 [.inl (19 + (mi 194 ((a1 - 3000).toNat)))] 80 rfl rfl rfl rfl (pz_ok_in k7) ?_
      exact pz_Rn_ret rfl rfl rfl rfl K
    · replace K := K.2 b4
      refine pz_j1 [.inr (.inr (some 165))] 44 rfl rfl rfl rfl rfl ?_
      refine pz_j1 [.inr (.inr (some 165)), .inr (.inr (some 165))] 45 rfl rfl rfl rfl rfl ?_
      refine pz_j1 [.inl (mi 165 44), .inr (.inr (some 165))] 48 rfl rfl rfl rfl (pz_a2 rfl pz_S165) ?_
      refine pz_j1 [.inl 1, .inl (mi 165 44), .inr (.inr (some 165))] 49 rfl rfl rfl rfl rfl ?_
      obtain ⟨k8, K⟩ := K
      refine pz_j1 [.inl ((mi 165 44) + 1), .inr (.inr (some 165))] 50 rfl rfl rfl rfl (pz_ok_in k8) ?_
      refine pz_j3 [] [(0, .inr (.inr (some 165))), (1, .inl a1)] (pz_hp n0 (pz_up mi 165 44 ((mi 165 44) + 1)) ml mr c s) 53 rfl rfl rfl rfl (pz_a2 rfl (pz_a2 pz_S165 (pz_a2 rfl rfl))) ?_
      refine pz_j1 [.inr (.inr (some 165))] 54 rfl rfl rfl rfl rfl ?_
      refine pz_j1 [.inr (.inr (some 194))] 57 rfl rfl rfl rfl (pz_a2 rfl pz_S165) ?_
      refine pz_j1 [.inl a1, .inr (.inr (some 194))] 58 rfl rfl rfl rfl rfl ?_
      refine pz_j1 [.inl 3000, .inl a1, .inr (.inr (some 194))] 61 rfl rfl rfl rfl rfl ?_
      obtain ⟨k9, K⟩ := K
      refine pz_j1 [.inl (a1 - 3000), .inr (.inr (some 194))] 62 rfl rfl rfl rfl (pz_ok_in k9) ?_
      refine pz_j1 [.inr (.inr (some 165)), .inl (a1 - 3000), .inr (.inr (some 194))] 63 rfl rfl rfl rfl rfl ?_
      refine pz_j1 [.inl ((mi 165 44) + 1), .inl (a1 - 3000), .inr (.inr (some 194))] 66 rfl rfl rfl rfl (pz_a2 rfl pz_S165) ?_
      obtain ⟨k10, K⟩ := K
      refine pz_j3 [] [(0, .inr (.inr (some 165))), (1, .inl a1)] (pz_hp n0 (pz_up (pz_up mi 165 44 ((mi 165 44) + 1)) 194 ((a1 - 3000).toNat) ((mi 165 44) + 1)) ml mr c s) 67 rfl rfl rfl rfl (pz_a2 rfl (pz_ok_ix pz_S194 k10)) ?_
      refine pz_j1 [.inl 19] 69 rfl rfl rfl rfl rfl ?_
      refine pz_j1 [.inr (.inr (some 165)), .inl 19] 70 rfl rfl rfl rfl rfl ?_
      refine pz_j1 [.inr (.inr (some 194)), .inl 19] 73 rfl rfl rfl rfl (pz_a2 rfl pz_S165) ?_
      refine pz_j1 [.inl a1, .inr (.inr (some 194)), .inl 19] 74 rfl rfl rfl rfl rfl ?_
      refine pz_j1 [.inl 3000, .inl a1, .inr (.inr (some 194)), .inl 19] 77 rfl rfl rfl rfl rfl ?_
      obtain ⟨k11, K⟩ := K
      refine pz_j1 [.inl (a1 - 3000), .inr (.inr (some 194)), .inl 19] 78 rfl rfl rfl rfl (pz_ok_in k11) ?_
      obtain ⟨k12, K⟩ := K
      refine pz_j1 [.inl ((pz_up (pz_up mi 165 44 ((mi 165 44) + 1)) 194 ((a1 - 3000).toNat) ((mi 165 44) + 1)) 194 ((a1 - 3000).toNat)), .inl 19] 79 rfl rfl rfl rfl (pz_a2 rfl (pz_ok_ixs pz_S194 k12)) ?_
      obtain ⟨k13, K⟩ := K
      refine pz_j1 [.inl (19 + ((pz_up (pz_up mi 165 44 ((mi 165 44) + 1)) 194 ((a1 - 3000).toNat) ((mi 165 44) + 1)) 194 ((a1 - 3000).toNat)))] 80 rfl rfl rfl rfl (pz_ok_in k13) ?_
      exact pz_Rn_ret rfl rfl rfl rfl K
  · replace K := K.2 b1
    refine pz_j1 [.inr (.inr (some 165))] 8 rfl rfl rfl rfl rfl ?_
    refine pz_j1 [.inl a1, .inr (.inr (some 165))] 9 rfl rfl rfl rfl rfl ?_
    exact pz_Rn_k (y := 117) rfl rfl rfl rfl rfl rfl rfl rfl (pz_cok_v rfl rfl pz_S165) K
theorem pz_g138_12 {a1 : Int} {t0 : Int}  (K : ((t0 = 0 → pz_Rn d 117 (0, [], [(0, .inl a1)], pz_hp n0 mi ml mr c s, true) (pz_K (d + 1) 138 25 [.inr (.inr (some 167))] [] Q true)) ∧ (t0 ≠ 0 → Q (.inl (some (.inl 10))) (pz_hp n0 mi ml mr c s)))) : pz_Rn (d + 1) 138 (12, [.inl t0], [(0, .inr (.inr (some 165))), (1, .inl a1)], pz_hp n0 mi ml mr c s, true) Q := by
  refine pz_j1 [] (bif pz_cp .eq t0 0 then 20 else 15) rfl rfl rfl rfl rfl ?_
  refine pz_Rn_if pz_c1_eq pz_c0_eq ⟨fun b1 => ?_, fun b1 => ?_⟩
  · replace K := K.1 b1
    refine pz_j1 [.inr (.inr (some 165))] 21 rfl rfl rfl rfl rfl ?_
    refine pz_j1 [.inr (.inr (some 167))] 24 rfl rfl rfl rfl (pz_a2 rfl pz_S165) ?_
    refine pz_j1 [.inl a1, .inr (.inr (some 167))] 25 rfl rfl rfl rfl rfl ?_
    refine pz_Rn_sub (L := []) [] rfl rfl ?_
    exact pz_Rn_k (y := 116) rfl rfl rfl rfl rfl rfl rfl rfl rfl K
  · replace K := K.2 b1
    refine pz_j1 [.inl 10] 17 rfl rfl rfl rfl rfl ?_
    refine pz_j1 [.inl 10] 29 rfl rfl rfl rfl rfl ?_
    exact pz_Rn_ret rfl rfl rfl rfl K
theorem pz_g138_28 {t1 : Int}  (K : (0 ≤ t1 ∧ t1 < 40) ∧ Q (.inl (some (.inl (mi 167 ((t1).toNat))))) (pz_hp n0 mi ml mr c s)) : pz_Rn (d + 1) 138 (28, [.inl t1, .inr (.inr (some 167))], [], pz_hp n0 mi ml mr c s, true) Q := by
  obtain ⟨k1, K⟩ := K
  refine pz_j1 [.inl (mi 167 ((t1).toNat))] 29 rfl rfl rfl rfl (pz_a2 rfl (pz_ok_ixs pz_S167 k1)) ?_
  exact pz_Rn_ret rfl rfl rfl rfl K
-- 139 RelationStreamModel.write(III)V
theorem pz_g139_0 {a1 : Int} {a2 : Int} {a3 : Int}  (K : pz_Rn (d + 1) 139 (13, [], [(0, .inr (.inr (some 165))), (1, .inl a1), (2, .inl a2), (4, .inl 1), (5, .inl 0)], pz_hp n0 (pz_up mi 187 0 a3) ml mr c s, true) Q) : pz_Rn (d + 1) 139 (0, [], [(0, .inr (.inr (some 165))), (1, .inl a1), (2, .inl a2), (3, .inl a3)], pz_hp n0 mi ml mr c s, true) Q := by
  refine pz_j1 [.inr (.inr (some 165))] 1 rfl rfl rfl rfl rfl ?_
  refine pz_j1 [.inr (.inr (some 187))] 4 rfl rfl rfl rfl (pz_a2 rfl pz_S165) ?_
  refine pz_j1 [.inl 0, .inr (.inr (some 187))] 5 rfl rfl rfl rfl rfl ?_
  refine pz_j1 [.inl a3, .inl 0, .inr (.inr (some 187))] 6 rfl rfl rfl rfl rfl ?_
  refine pz_j3 [] [(0, .inr (.inr (some 165))), (1, .inl a1), (2, .inl a2), (3, .inl a3)] (pz_hp n0 (pz_up mi 187 0 a3) ml mr c s) 7 rfl rfl rfl rfl (pz_a2 rfl (pz_ok_ix pz_S187 ⟨by decide, by decide⟩)) ?_
  refine pz_j1 [.inl 1] 8 rfl rfl rfl rfl rfl ?_
  refine pz_j2 [] [(4, .inl 1), (0, .inr (.inr (some 165))), (1, .inl a1), (2, .inl a2), (3, .inl a3)] 10 rfl rfl rfl rfl rfl ?_
  refine pz_j1 [.inl 0] 11 rfl rfl rfl rfl rfl ?_
  refine pz_j2 [] [(5, .inl 0), (4, .inl 1), (0, .inr (.inr (some 165))), (1, .inl a1), (2, .inl a2), (3, .inl a3)] 13 rfl rfl rfl rfl rfl ?_
  refine pz_Rn_sub (L := [(0, .inr (.inr (some 165))), (1, .inl a1), (2, .inl a2), (4, .inl 1), (5, .inl 0)]) [2, 3, 4, 1, 0] rfl rfl ?_
  exact K
theorem pz_g139_13 {a1 : Int} {a2 : Int} {a4 : Int} {a5 : Int}  (K : ((a4 ≤ 0 → (0 ≤ a1 ∧ a1 < 140) ∧ Q (.inl none) (pz_hp n0 (pz_up mi 192 ((a1).toNat) a5) ml mr c s)) ∧ (0 < a4 → ((40 ≤ a5 → (0 ≤ a1 ∧ a1 < 140) ∧ Q (.inl none) (pz_hp n0 (pz_up mi 192 ((a1).toNat) a5) ml mr c s)) ∧ (a5 < 40 → (-2147483648 ≤ a4 + (-1) ∧ a4 + (-1) ≤ 2147483647) ∧ (0 ≤ a4 + (-1) ∧ a4 + (-1) < 510) ∧ pz_Rn d 116 (0, [], [(0, .inr (.inr (some 165))), (1, .inl a2), (2, .inl (mi 187 ((a4 + (-1)).toNat)))], pz_hp n0 mi ml mr c s, true) (pz_K (d + 1) 139 37 [] [(0, .inr (.inr (some 165))), (1, .inl a1), (2, .inl a2), (4, .inl (a4 + (-1))), (5, .inl a5)] Q true)))))) : pz_Rn (d + 1) 139 (13, [], [(0, .inr (.inr (some 165))), (1, .inl a1), (2, .inl a2), (4, .inl a4), (5, .inl a5)], pz_hp n0 mi ml mr c s, true) Q := by
  refine pz_j1 [.inl a4] 15 rfl rfl rfl rfl rfl ?_
  refine pz_j1 [] (bif pz_cp .le a4 0 then 149 else 18) rfl rfl rfl rfl rfl ?_
  refine pz_Rn_if pz_c1_le pz_c0_le ⟨fun b1 => ?_, fun b1 => ?_⟩
  · replace K := K.1 b1
    refine pz_j1 [.inr (.inr (some 165))] 150 rfl rfl rfl rfl rfl ?_
    refine pz_j1 [.inr (.inr (some 192))] 153 rfl rfl rfl rfl (pz_a2 rfl pz_S165) ?_
    refine pz_j1 [.inl a1, .inr (.inr (some 192))] 154 rfl rfl rfl rfl rfl ?_
    refine pz_j1 [.inl a5, .inl a1, .inr (.inr (some 192))] 156 rfl rfl rfl rfl rfl ?_
    obtain ⟨k2, K⟩ := K
    refine pz_j3 [] [(0, .inr (.inr (some 165))), (1, .inl a1), (2, .inl a2), (4, .inl a4), (5, .inl a5)] (pz_hp n0 (pz_up mi 192 ((a1).toNat) a5) ml mr c s) 157 rfl rfl rfl rfl (pz_a2 rfl (pz_ok_ix pz_S192 k2)) ?_
    exact pz_Rn_ret rfl rfl rfl rfl K
  · replace K := K.2 b1
    refine pz_j1 [.inl a5] 20 rfl rfl rfl rfl rfl ?_
    refine pz_j1 [.inl 40, .inl a5] 22 rfl rfl rfl rfl rfl ?_
    refine pz_j1 [] (bif pz_cp .ge a5 40 then 149 else 25) rfl rfl rfl rfl rfl ?_
    refine pz_Rn_if pz_c1_ge pz_c0_ge ⟨fun b3 => ?_, fun b3 => ?_⟩
    · replace K := K.1 b3
      refine pz_j1 [.inr (.inr (some 165))] 150 rfl rfl rfl rfl rfl ?_
      refine pz_j1 [.inr (.inr (some 192))] 153 rfl rfl rfl rfl (pz_a2 rfl pz_S165) ?_
      refine pz_j1 [.inl a1, .inr (.inr (some 192))] 154 rfl rfl rfl rfl rfl ?_
      refine pz_j1 [.inl a5, .inl a1, .inr (.inr (some 192))] 156 rfl rfl rfl rfl rfl ?_
      obtain ⟨k4, K⟩ := K
      refine pz_j3 [] [(0, .inr (.inr (some 165))), (1, .inl a1), (2, .inl a2), (4, .inl a4), (5, .inl a5)] (pz_hp n0 (pz_up mi 192 ((a1).toNat) a5) ml mr c s) 157 rfl rfl rfl rfl (pz_a2 rfl (pz_ok_ix pz_S192 k4)) ?_
      exact pz_Rn_ret rfl rfl rfl rfl K
    · replace K := K.2 b3
      obtain ⟨k5, K⟩ := K
      refine pz_j2 [] [(4, .inl (a4 + (-1))), (0, .inr (.inr (some 165))), (1, .inl a1), (2, .inl a2), (5, .inl a5)] 28 rfl rfl rfl rfl (pz_a2 (pz_ok_in k5) rfl) ?_
      refine pz_j1 [.inr (.inr (some 165))] 29 rfl rfl rfl rfl rfl ?_
      refine pz_j1 [.inl a2, .inr (.inr (some 165))] 30 rfl rfl rfl rfl rfl ?_
      refine pz_j1 [.inr (.inr (some 165)), .inl a2, .inr (.inr (some 165))] 31 rfl rfl rfl rfl rfl ?_
      refine pz_j1 [.inr (.inr (some 187)), .inl a2, .inr (.inr (some 165))] 34 rfl rfl rfl rfl (pz_a2 rfl pz_S165) ?_
      refine pz_j1 [.inl (a4 + (-1)), .inr (.inr (some 187)), .inl a2, .inr (.inr (some 165))] 36 rfl rfl rfl rfl rfl ?_
      obtain ⟨k6, K⟩ := K
      refine pz_j1 [.inl (mi 187 ((a4 + (-1)).toNat)), .inl a2, .inr (.inr (some 165))] 37 rfl rfl rfl rfl (pz_a2 rfl (pz_ok_ixs pz_S187 k6)) ?_
      refine pz_Rn_sub (L := [(0, .inr (.inr (some 165))), (1, .inl a1), (2, .inl a2), (4, .inl (a4 + (-1))), (5, .inl a5)]) [1, 2, 3, 0, 4] rfl rfl ?_
      exact pz_Rn_k (y := 115) rfl rfl rfl rfl rfl rfl rfl rfl (pz_cok_v rfl rfl pz_S165) K
theorem pz_g139_40 {a1 : Int} {a2 : Int} {a4 : Int} {a5 : Int} {t0 : Int}  (K : 0 ≤ a5 ∧ (-2147483648 ≤ 10 * (a5 % 3) ∧ 10 * (a5 % 3) ≤ 2147483647) ∧ ∀ x3 : Int, x3 = 10 * (a5 % 3) → (-2147483648 ≤ 14 * a1 ∧ 14 * a1 ≤ 2147483647) ∧ 0 ≤ a5 ∧ (-2147483648 ≤ (14 * a1) + (a5 / 3) ∧ (14 * a1) + (a5 / 3) ≤ 2147483647) ∧ (-2147483648 ≤ 14 * a1 ∧ 14 * a1 ≤ 2147483647) ∧ 0 ≤ a5 ∧ (-2147483648 ≤ (14 * a1) + (a5 / 3) ∧ (14 * a1) + (a5 / 3) ≤ 2147483647) ∧ (0 ≤ (14 * a1) + (a5 / 3) ∧ (14 * a1) + (a5 / 3) < 1960) ∧ pz_Rn d 138 (0, [], [(0, .inr (.inr (some 165))), (1, .inl t0)], pz_hp n0 mi ml mr c s, true) (pz_K (d + 1) 139 90 [.inl (pz_i32 (fun x y => x &&& y) (mi 191 (((14 * a1) + (a5 / 3)).toNat)) (pz_i32 (fun x y => x ^^^ y) (pz_i32 (fun x y => x <<< (y &&& 31)) 1023 x3) (-1))), .inl ((14 * a1) + (a5 / 3)), .inr (.inr (some 191))] [(0, .inr (.inr (some 165))), (1, .inl a1), (2, .inl a2), (4, .inl a4), (5, .inl a5), (6, .inl t0), (7, .inl x3)] Q true)) : pz_Rn (d + 1) 139 (40, [.inl t0], [(0, .inr (.inr (some 165))), (1, .inl a1), (2, .inl a2), (4, .inl a4), (5, .inl a5)], pz_hp n0 mi ml mr c s, true) Q := by
  refine pz_j2 [] [(6, .inl t0), (0, .inr (.inr (some 165))), (1, .inl a1), (2, .inl a2), (4, .inl a4), (5, .inl a5)] 42 rfl rfl rfl rfl rfl ?_
  refine pz_j1 [.inl 10] 44 rfl rfl rfl rfl rfl ?_
  refine pz_j1 [.inl a5, .inl 10] 46 rfl rfl rfl rfl rfl ?_
  refine pz_j1 [.inl 3, .inl a5, .inl 10] 47 rfl rfl rfl rfl rfl ?_
  obtain ⟨k1, K⟩ := K
  refine pz_j1 [.inl (a5 % 3), .inl 10] 48 rfl rfl rfl rfl (pz_ok_dv ⟨k1, by decide⟩) ?_
  obtain ⟨k2, K⟩ := K
  refine pz_j1 [.inl (10 * (a5 % 3))] 49 rfl rfl rfl rfl (pz_ok_in k2) ?_
  obtain ⟨x3, hx3⟩ : ∃ x : Int, x = 10 * (a5 % 3) := ⟨_, rfl⟩
  rewrite [← hx3]
  replace K := K x3 hx3
  refine pz_j2 [] [(7, .inl x3), (6, .inl t0), (0, .inr (.inr (some 165))), (1, .inl a1), (2, .inl a2), (4, .inl a4), (5, .inl a5)] 51 rfl rfl rfl rfl rfl ?_
  refine pz_j1 [.inr (.inr (some 165))] 52 rfl rfl rfl rfl rfl ?_
  refine pz_j1 [.inr (.inr (some 191))] 55 rfl rfl rfl rfl (pz_a2 rfl pz_S165) ?_
  refine pz_j1 [.inl 14, .inr (.inr (some 191))] 57 rfl rfl rfl rfl rfl ?_
  refine pz_j1 [.inl a1, .inl 14, .inr (.inr (some 191))] 58 rfl rfl rfl rfl rfl ?_
  obtain ⟨k4, K⟩ := K
  refine pz_j1 [.inl (14 * a1), .inr (.inr (some 191))] 59 rfl rfl rfl rfl (pz_ok_in k4) ?_
  refine pz_j1 [.inl a5, .inl (14 * a1), .inr (.inr (some 191))] 61 rfl rfl rfl rfl rfl ?_
  refine pz_j1 [.inl 3, .inl a5, .inl (14 * a1), .inr (.inr (some 191))] 62 rfl rfl rfl rfl rfl ?_
  obtain ⟨k5, K⟩ := K
  refine pz_j1 [.inl (a5 / 3), .inl (14 * a1), .inr (.inr (some 191))] 63 rfl rfl rfl rfl (pz_ok_dv ⟨k5, by decide⟩) ?_
  obtain ⟨k6, K⟩ := K
  refine pz_j1 [.inl ((14 * a1) + (a5 / 3)), .inr (.inr (some 191))] 64 rfl rfl rfl rfl (pz_ok_in k6) ?_
  refine pz_j1 [.inr (.inr (some 165)), .inl ((14 * a1) + (a5 / 3)), .inr (.inr (some 191))] 65 rfl rfl rfl rfl rfl ?_
  refine pz_j1 [.inr (.inr (some 191)), .inl ((14 * a1) + (a5 / 3)), .inr (.inr (some 191))] 68 rfl rfl rfl rfl (pz_a2 rfl pz_S165) ?_
  refine pz_j1 [.inl 14, .inr (.inr (some 191)), .inl ((14 * a1) + (a5 / 3)), .inr (.inr (some 191))] 70 rfl rfl rfl rfl rfl ?_
  refine pz_j1 [.inl a1, .inl 14, .inr (.inr (some 191)), .inl ((14 * a1) + (a5 / 3)), .inr (.inr (some 191))] 71 rfl rfl rfl rfl rfl ?_
  obtain ⟨k7, K⟩ := K
  refine pz_j1 [.inl (14 * a1), .inr (.inr (some 191)), .inl ((14 * a1) + (a5 / 3)), .inr (.inr (some 191))] 72 rfl rfl rfl rfl (pz_ok_in k7) ?_
  refine pz_j1 [.inl a5, .inl (14 * a1), .inr (.inr (some 191)), .inl ((14 * a1) + (a5 / 3)), .inr (.inr (some 191))] 74 rfl rfl rfl rfl rfl ?_
  refine pz_j1 [.inl 3, .inl a5, .inl (14 * a1), .inr (.inr (some 191)), .inl ((14 * a1) + (a5 / 3)), .inr (.inr (some 191))] 75 rfl rfl rfl rfl rfl ?_
  obtain ⟨k8, K⟩ := K
  refine pz_j1 [.inl (a5 / 3), .inl (14 * a1), .inr (.inr (some 191)), .inl ((14 * a1) + (a5 / 3)), .inr (.inr (some 191))] 76 rfl rfl rfl rfl (pz_ok_dv ⟨k8, by decide⟩) ?_
  obtain ⟨k9, K⟩ := K
  refine pz_j1 [.inl ((14 * a1) + (a5 / 3)), .inr (.inr (some 191)), .inl ((14 * a1) + (a5 / 3)), .inr (.inr (some 191))] 77 rfl rfl rfl rfl (pz_ok_in k9) ?_
  obtain ⟨k10, K⟩ := K
  refine pz_j1 [.inl (mi 191 (((14 * a1) + (a5 / 3)).toNat)), .inl ((14 * a1) + (a5 / 3)), .inr (.inr (some 191))] 78 rfl rfl rfl rfl (pz_a2 rfl (pz_ok_ixs pz_S191 k10)) ?_
  refine pz_j1 [.inl 1023, .inl (mi 191 (((14 * a1) + (a5 / 3)).toNat)), .inl ((14 * a1) + (a5 / 3)), .inr (.inr (some 191))] 81 rfl rfl rfl rfl rfl ?_
  refine pz_j1 [.inl x3, .inl 1023, .inl (mi 191 (((14 * a1) + (a5 / 3)).toNat)), .inl ((14 * a1) + (a5 / 3)), .inr (.inr (some 191))] 83 rfl rfl rfl rfl rfl ?_
  refine pz_j1 [.inl (pz_i32 (fun x y => x <<< (y &&& 31)) 1023 x3), .inl (mi 191 (((14 * a1) + (a5 / 3)).toNat)), .inl ((14 * a1) + (a5 / 3)), .inr (.inr (some 191))] 84 rfl rfl rfl rfl rfl ?_
  refine pz_j1 [.inl (-1), .inl (pz_i32 (fun x y => x <<< (y &&& 31)) 1023 x3), .inl (mi 191 (((14 * a1) + (a5 / 3)).toNat)), .inl ((14 * a1) + (a5 / 3)), .inr (.inr (some 191))] 85 rfl rfl rfl rfl rfl ?_
  refine pz_j1 [.inl (pz_i32 (fun x y => x ^^^ y) (pz_i32 (fun x y => x <<< (y &&& 31)) 1023 x3) (-1)), .inl (mi 191 (((14 * a1) + (a5 / 3)).toNat)), .inl ((14 * a1) + (a5 / 3)), .inr (.inr (some 191))] 86 rfl rfl rfl rfl rfl ?_
  refine pz_j1 [.inl (pz_i32 (fun x y => x &&& y) (mi 191 (((14 * a1) + (a5 / 3)).toNat)) (pz_i32 (fun x y => x ^^^ y) (pz_i32 (fun x y => x <<< (y &&& 31)) 1023 x3) (-1))), .inl ((14 * a1) + (a5 / 3)), .inr (.inr (some 191))] 87 rfl rfl rfl rfl rfl ?_
  refine pz_j1 [.inr (.inr (some 165)), .inl (pz_i32 (fun x y => x &&& y) (mi 191 (((14 * a1) + (a5 / 3)).toNat)) (pz_i32 (fun x y => x ^^^ y) (pz_i32 (fun x y => x <<< (y &&& 31)) 1023 x3) (-1))), .inl ((14 * a1) + (a5 / 3)), .inr (.inr (some 191))] 88 rfl rfl rfl rfl rfl ?_
  refine pz_j1 [.inl t0, .inr (.inr (some 165)), .inl (pz_i32 (fun x y => x &&& y) (mi 191 (((14 * a1) + (a5 / 3)).toNat)) (pz_i32 (fun x y => x ^^^ y) (pz_i32 (fun x y => x <<< (y &&& 31)) 1023 x3) (-1))), .inl ((14 * a1) + (a5 / 3)), .inr (.inr (some 191))] 90 rfl rfl rfl rfl rfl ?_
  refine pz_Rn_sub (L := [(0, .inr (.inr (some 165))), (1, .inl a1), (2, .inl a2), (4, .inl a4), (5, .inl a5), (6, .inl t0), (7, .inl x3)]) [2, 3, 4, 5, 6, 1, 0] rfl rfl ?_
  exact pz_Rn_k (y := 137) rfl rfl rfl rfl rfl rfl rfl rfl (pz_cok_v rfl rfl pz_S165) K
theorem pz_g139_93 {a1 : Int} {a2 : Int} {a4 : Int} {a5 : Int} {a6 : Int} {a7 : Int} {t1 : Int} {t2 : Int} {t3 : Int}  (K : (0 ≤ t1 ∧ t1 < 1960) ∧ (-2147483648 ≤ a5 + 1 ∧ a5 + 1 ≤ 2147483647) ∧ pz_Rn d 118 (0, [], [(0, .inr (.inr (some 165))), (1, .inl a6)], pz_hp n0 (pz_up mi 191 ((t1).toNat) (pz_i32 (fun x y => x ||| y) t2 (pz_i32 (fun x y => x <<< (y &&& 31)) t3 a7))) ml mr c s, true) (pz_K (d + 1) 139 104 [] [(0, .inr (.inr (some 165))), (1, .inl a1), (2, .inl a2), (4, .inl a4), (5, .inl (a5 + 1)), (6, .inl a6)] Q true)) : pz_Rn (d + 1) 139 (93, [.inl t3, .inl t2, .inl t1, .inr (.inr (some 191))], [(0, .inr (.inr (some 165))), (1, .inl a1), (2, .inl a2), (4, .inl a4), (5, .inl a5), (6, .inl a6), (7, .inl a7)], pz_hp n0 mi ml mr c s, true) Q := by
  refine pz_j1 [.inl a7, .inl t3, .inl t2, .inl t1, .inr (.inr (some 191))] 95 rfl rfl rfl rfl rfl ?_
  refine pz_j1 [.inl (pz_i32 (fun x y => x <<< (y &&& 31)) t3 a7), .inl t2, .inl t1, .inr (.inr (some 191))] 96 rfl rfl rfl rfl rfl ?_
  refine pz_j1 [.inl (pz_i32 (fun x y => x ||| y) t2 (pz_i32 (fun x y => x <<< (y &&& 31)) t3 a7)), .inl t1, .inr (.inr (some 191))] 97 rfl rfl rfl rfl rfl ?_
  obtain ⟨k1, K⟩ := K
  refine pz_j3 [] [(0, .inr (.inr (some 165))), (1, .inl a1), (2, .inl a2), (4, .inl a4), (5, .inl a5), (6, .inl a6), (7, .inl a7)] (pz_hp n0 (pz_up mi 191 ((t1).toNat) (pz_i32 (fun x y => x ||| y) t2 (pz_i32 (fun x y => x <<< (y &&& 31)) t3 a7))) ml mr c s) 98 rfl rfl rfl rfl (pz_a2 rfl (pz_ok_ix pz_S191 k1)) ?_
  obtain ⟨k2, K⟩ := K
  refine pz_j2 [] [(5, .inl (a5 + 1)), (0, .inr (.inr (some 165))), (1, .inl a1), (2, .inl a2), (4, .inl a4), (6, .inl a6), (7, .inl a7)] 101 rfl rfl rfl rfl (pz_a2 (pz_ok_in k2) rfl) ?_
  refine pz_j1 [.inr (.inr (some 165))] 102 rfl rfl rfl rfl rfl ?_
  refine pz_j1 [.inl a6, .inr (.inr (some 165))] 104 rfl rfl rfl rfl rfl ?_
  refine pz_Rn_sub (L := [(0, .inr (.inr (some 165))), (1, .inl a1), (2, .inl a2), (4, .inl a4), (5, .inl (a5 + 1)), (6, .inl a6)]) [1, 2, 3, 4, 0, 5] rfl rfl ?_
  exact pz_Rn_k (y := 117) rfl rfl rfl rfl rfl rfl rfl rfl (pz_cok_v rfl rfl pz_S165) K
theorem pz_g139_107 {a1 : Int} {a2 : Int} {a4 : Int} {a5 : Int} {a6 : Int} {t0 : Int}  (K : ((t0 ≠ 0 → pz_Rn d 119 (0, [], [(0, .inr (.inr (some 165))), (1, .inl a6), (2, .inl 0)], pz_hp n0 mi ml mr c s, true) (pz_K (d + 1) 139 123 [.inl a4, .inr (.inr (some 187))] [(0, .inr (.inr (some 165))), (1, .inl a1), (2, .inl a2), (4, .inl a4), (5, .inl a5), (6, .inl a6)] Q true)) ∧ (t0 = 0 → pz_Rn (d + 1) 139 (13, [], [(0, .inr (.inr (some 165))), (1, .inl a1), (2, .inl a2), (4, .inl a4), (5, .inl a5)], pz_hp n0 mi ml mr c s, true) Q))) : pz_Rn (d + 1) 139 (107, [.inl t0], [(0, .inr (.inr (some 165))), (1, .inl a1), (2, .inl a2), (4, .inl a4), (5, .inl a5), (6, .inl a6)], pz_hp n0 mi ml mr c s, true) Q := by
  refine pz_j1 [] (bif pz_cp .ne t0 0 then 113 else 110) rfl rfl rfl rfl rfl ?_
  refine pz_Rn_if pz_c1_ne pz_c0_ne ⟨fun b1 => ?_, fun b1 => ?_⟩
  · replace K := K.1 b1
    refine pz_j1 [.inr (.inr (some 165))] 114 rfl rfl rfl rfl rfl ?_
    refine pz_j1 [.inr (.inr (some 187))] 117 rfl rfl rfl rfl (pz_a2 rfl pz_S165) ?_
    refine pz_j1 [.inl a4, .inr (.inr (some 187))] 119 rfl rfl rfl rfl rfl ?_
    refine pz_j1 [.inr (.inr (some 165)), .inl a4, .inr (.inr (some 187))] 120 rfl rfl rfl rfl rfl ?_
    refine pz_j1 [.inl a6, .inr (.inr (some 165)), .inl a4, .inr (.inr (some 187))] 122 rfl rfl rfl rfl rfl ?_
    refine pz_j1 [.inl 0, .inl a6, .inr (.inr (some 165)), .inl a4, .inr (.inr (some 187))] 123 rfl rfl rfl rfl rfl ?_
    exact pz_Rn_k (y := 118) rfl rfl rfl rfl rfl rfl rfl rfl (pz_cok_v rfl rfl pz_S165) K
  · replace K := K.2 b1
    refine pz_j1 [] 13 rfl rfl rfl rfl rfl ?_
    refine pz_Rn_sub (L := [(0, .inr (.inr (some 165))), (1, .inl a1), (2, .inl a2), (4, .inl a4), (5, .inl a5)]) [0, 1, 2, 3, 4] rfl rfl ?_
    exact K
theorem pz_g139_126 {a1 : Int} {a2 : Int} {a4 : Int} {a5 : Int} {a6 : Int} {t1 : Int} {t2 : Int}  (K : (0 ≤ t1 ∧ t1 < 510) ∧ (-2147483648 ≤ a4 + 1 ∧ a4 + 1 ≤ 2147483647) ∧ pz_Rn d 119 (0, [], [(0, .inr (.inr (some 165))), (1, .inl a6), (2, .inl 1)], pz_hp n0 (pz_up mi 187 ((t1).toNat) t2) ml mr c s, true) (pz_K (d + 1) 139 139 [.inl (a4 + 1), .inr (.inr (some 187))] [(0, .inr (.inr (some 165))), (1, .inl a1), (2, .inl a2), (4, .inl a4), (5, .inl a5)] Q true)) : pz_Rn (d + 1) 139 (126, [.inl t2, .inl t1, .inr (.inr (some 187))], [(0, .inr (.inr (some 165))), (1, .inl a1), (2, .inl a2), (4, .inl a4), (5, .inl a5), (6, .inl a6)], pz_hp n0 mi ml mr c s, true) Q := by
  obtain ⟨k1, K⟩ := K
  refine pz_j3 [] [(0, .inr (.inr (some 165))), (1, .inl a1), (2, .inl a2), (4, .inl a4), (5, .inl a5), (6, .inl a6)] (pz_hp n0 (pz_up mi 187 ((t1).toNat) t2) ml mr c s) 127 rfl rfl rfl rfl (pz_a2 rfl (pz_ok_ix pz_S187 k1)) ?_
  refine pz_j1 [.inr (.inr (some 165))] 128 rfl rfl rfl rfl rfl ?_
  refine pz_j1 [.inr (.inr (some 187))] 131 rfl rfl rfl rfl (pz_a2 rfl pz_S165) ?_
  refine pz_j1 [.inl a4, .inr (.inr (some 187))] 133 rfl rfl rfl rfl rfl ?_
  refine pz_j1 [.inl 1, .inl a4, .inr (.inr (some 187))] 134 rfl rfl rfl rfl rfl ?_
  obtain ⟨k2, K⟩ := K
  refine pz_j1 [.inl (a4 + 1), .inr (.inr (some 187))] 135 rfl rfl rfl rfl (pz_ok_in k2) ?_
  refine pz_j1 [.inr (.inr (some 165)), .inl (a4 + 1), .inr (.inr (some 187))] 136 rfl rfl rfl rfl rfl ?_
  refine pz_j1 [.inl a6, .inr (.inr (some 165)), .inl (a4 + 1), .inr (.inr (some 187))] 138 rfl rfl rfl rfl rfl ?_
  refine pz_j1 [.inl 1, .inl a6, .inr (.inr (some 165)), .inl (a4 + 1), .inr (.inr (some 187))] 139 rfl rfl rfl rfl rfl ?_
  refine pz_Rn_sub (L := [(0, .inr (.inr (some 165))), (1, .inl a1), (2, .inl a2), (4, .inl a4), (5, .inl a5)]) [0, 1, 2, 3, 4] rfl rfl ?_
  exact pz_Rn_k (y := 118) rfl rfl rfl rfl rfl rfl rfl rfl (pz_cok_v rfl rfl pz_S165) K
theorem pz_g139_142 {a1 : Int} {a2 : Int} {a4 : Int} {a5 : Int} {t1 : Int} {t2 : Int}  (K : (0 ≤ t1 ∧ t1 < 510) ∧ (-2147483648 ≤ a4 + 2 ∧ a4 + 2 ≤ 2147483647) ∧ pz_Rn (d + 1) 139 (13, [], [(0, .inr (.inr (some 165))), (1, .inl a1), (2, .inl a2), (4, .inl (a4 + 2)), (5, .inl a5)], pz_hp n0 (pz_up mi 187 ((t1).toNat) t2) ml mr c s, true) Q) : pz_Rn (d + 1) 139 (142, [.inl t2, .inl t1, .inr (.inr (some 187))], [(0, .inr (.inr (some 165))), (1, .inl a1), (2, .inl a2), (4, .inl a4), (5, .inl a5)], pz_hp n0 mi ml mr c s, true) Q := by
  obtain ⟨k1, K⟩ := K
  refine pz_j3 [] [(0, .inr (.inr (some 165))), (1, .inl a1), (2, .inl a2), (4, .inl a4), (5, .inl a5)] (pz_hp n0 (pz_up mi 187 ((t1).toNat) t2) ml mr c s) 143 rfl rfl rfl rfl (pz_a2 rfl (pz_ok_ix pz_S187 k1)) ?_
  obtain ⟨k2, K⟩ := K
  refine pz_j2 [] [(4, .inl (a4 + 2)), (0, .inr (.inr (some 165))), (1, .inl a1), (2, .inl a2), (5, .inl a5)] 146 rfl rfl rfl rfl (pz_a2 (pz_ok_in k2) rfl) ?_
  refine pz_j1 [] 13 rfl rfl rfl rfl rfl ?_
  refine pz_Rn_sub (L := [(0, .inr (.inr (some 165))), (1, .inl a1), (2, .inl a2), (4, .inl (a4 + 2)), (5, .inl a5)]) [1, 2, 3, 0, 4] rfl rfl ?_
  exact K
-- 140 RelationStreamModel.tell(I)V
theorem pz_g140_0 {a1 : Int}  (K : (-2147483648 ≤ 7 * (mi 189 0) ∧ 7 * (mi 189 0) ≤ 2147483647) ∧ ∀ x2 : Int, x2 = 7 * (mi 189 0) → pz_Rn (d + 1) 140 (12, [], [(0, .inr (.inr (some 165))), (1, .inl a1), (2, .inl x2), (3, .inl 0)], pz_hp n0 mi ml mr c s, true) Q) : pz_Rn (d + 1) 140 (0, [], [(0, .inr (.inr (some 165))), (1, .inl a1)], pz_hp n0 mi ml mr c s, true) Q := by
  refine pz_j1 [.inl 7] 2 rfl rfl rfl rfl rfl ?_
  refine pz_j1 [.inr (.inr (some 165)), .inl 7] 3 rfl rfl rfl rfl rfl ?_
  refine pz_j1 [.inr (.inr (some 189)), .inl 7] 6 rfl rfl rfl rfl (pz_a2 rfl pz_S165) ?_
  refine pz_j1 [.inl 0, .inr (.inr (some 189)), .inl 7] 7 rfl rfl rfl rfl rfl ?_
  refine pz_j1 [.inl (mi 189 0), .inl 7] 8 rfl rfl rfl rfl (pz_a2 rfl (pz_ok_ixs pz_S189 ⟨by decide, by decide⟩)) ?_
  obtain ⟨k1, K⟩ := K
  refine pz_j1 [.inl (7 * (mi 189 0))] 9 rfl rfl rfl rfl (pz_ok_in k1) ?_
  obtain ⟨x2, hx2⟩ : ∃ x : Int, x = 7 * (mi 189 0) := ⟨_, rfl⟩
  rewrite [← hx2]
  replace K := K x2 hx2
  refine pz_j2 [] [(2, .inl x2), (0, .inr (.inr (some 165))), (1, .inl a1)] 10 rfl rfl rfl rfl rfl ?_
  refine pz_j1 [.inl 0] 11 rfl rfl rfl rfl rfl ?_
  refine pz_j2 [] [(3, .inl 0), (2, .inl x2), (0, .inr (.inr (some 165))), (1, .inl a1)] 12 rfl rfl rfl rfl rfl ?_
  refine pz_Rn_sub (L := [(0, .inr (.inr (some 165))), (1, .inl a1), (2, .inl x2), (3, .inl 0)]) [2, 3, 1, 0] rfl rfl ?_
  exact K
theorem pz_g140_12 {a1 : Int} {a2 : Int} {a3 : Int}  (K : ((240 ≤ a3 → pz_Rn (d + 1) 140 (39, [], [(0, .inr (.inr (some 165))), (1, .inl a1), (2, .inl a2), (3, .inl 0)], pz_hp n0 (pz_up mi 165 44 0) ml mr c s, true) Q) ∧ (a3 < 240 → (0 ≤ a3 ∧ a3 < 240) ∧ (-2147483648 ≤ a3 + 1 ∧ a3 + 1 ≤ 2147483647) ∧ pz_Rn (d + 1) 140 (12, [], [(0, .inr (.inr (some 165))), (1, .inl a1), (2, .inl a2), (3, .inl (a3 + 1))], pz_hp n0 (pz_up mi 194 ((a3).toNat) 0) ml mr c s, true) Q))) : pz_Rn (d + 1) 140 (12, [], [(0, .inr (.inr (some 165))), (1, .inl a1), (2, .inl a2), (3, .inl a3)], pz_hp n0 mi ml mr c s, true) Q := by
  refine pz_j1 [.inl a3] 13 rfl rfl rfl rfl rfl ?_
  refine pz_j1 [.inl 240, .inl a3] 16 rfl rfl rfl rfl rfl ?_
  refine pz_j1 [] (bif pz_cp .ge a3 240 then 32 else 19) rfl rfl rfl rfl rfl ?_
  refine pz_Rn_if pz_c1_ge pz_c0_ge ⟨fun b1 => ?_, fun b1 => ?_⟩
  · replace K := K.1 b1
    refine pz_j1 [.inr (.inr (some 165))] 33 rfl rfl rfl rfl rfl ?_
    refine pz_j1 [.inl 0, .inr (.inr (some 165))] 34 rfl rfl rfl rfl rfl ?_
    refine pz_j3 [] [(0, .inr (.inr (some 165))), (1, .inl a1), (2, .inl a2), (3, .inl a3)] (pz_hp n0 (pz_up mi 165 44 0) ml mr c s) 37 rfl rfl rfl rfl (pz_a2 rfl (pz_a2 pz_S165 (pz_a2 rfl rfl))) ?_
    refine pz_j1 [.inl 0] 38 rfl rfl rfl rfl rfl ?_
    refine pz_j2 [] [(3, .inl 0), (0, .inr (.inr (some 165))), (1, .inl a1), (2, .inl a2)] 39 rfl rfl rfl rfl rfl ?_
    refine pz_Rn_sub (L := [(0, .inr (.inr (some 165))), (1, .inl a1), (2, .inl a2), (3, .inl 0)]) [1, 2, 3, 0] rfl rfl ?_
    exact K
  · replace K := K.2 b1
    refine pz_j1 [.inr (.inr (some 165))] 20 rfl rfl rfl rfl rfl ?_
    refine pz_j1 [.inr (.inr (some 194))] 23 rfl rfl rfl rfl (pz_a2 rfl pz_S165) ?_
    refine pz_j1 [.inl a3, .inr (.inr (some 194))] 24 rfl rfl rfl rfl rfl ?_
    refine pz_j1 [.inl 0, .inl a3, .inr (.inr (some 194))] 25 rfl rfl rfl rfl rfl ?_
    obtain ⟨k2, K⟩ := K
    refine pz_j3 [] [(0, .inr (.inr (some 165))), (1, .inl a1), (2, .inl a2), (3, .inl a3)] (pz_hp n0 (pz_up mi 194 ((a3).toNat) 0) ml mr c s) 26 rfl rfl rfl rfl (pz_a2 rfl (pz_ok_ix pz_S194 k2)) ?_
    obtain ⟨k3, K⟩ := K
    refine pz_j2 [] [(3, .inl (a3 + 1)), (0, .inr (.inr (some 165))), (1, .inl a1), (2, .inl a2)] 29 rfl rfl rfl rfl (pz_a2 (pz_ok_in k3) rfl) ?_
    refine pz_j1 [] 12 rfl rfl rfl rfl rfl ?_
    refine pz_Rn_sub (L := [(0, .inr (.inr (some 165))), (1, .inl a1), (2, .inl a2), (3, .inl (a3 + 1))]) [1, 2, 3, 0] rfl rfl ?_
    exact K
theorem pz_g140_39 {a1 : Int} {a2 : Int} {a3 : Int}  (K : ((7 ≤ a3 → pz_Rn d 139 (0, [], [(0, .inr (.inr (some 165))), (1, .inl a2), (2, .inl a1), (3, .inl 3000)], pz_hp n0 mi ml mr c s, true) (pz_K (d + 1) 140 66 [] [(0, .inr (.inr (some 165))), (1, .inl a1), (2, .inl a2)] Q true)) ∧ (a3 < 7 → (-2147483648 ≤ a2 + a3 ∧ a2 + a3 ≤ 2147483647) ∧ (0 ≤ a2 + a3 ∧ a2 + a3 < 140) ∧ (-2147483648 ≤ a3 + 1 ∧ a3 + 1 ≤ 2147483647) ∧ pz_Rn (d + 1) 140 (39, [], [(0, .inr (.inr (some 165))), (1, .inl a1), (2, .inl a2), (3, .inl (a3 + 1))], pz_hp n0 (pz_up mi 192 ((a2 + a3).toNat) 0) ml mr c s, true) Q))) : pz_Rn (d + 1) 140 (39, [], [(0, .inr (.inr (some 165))), (1, .inl a1), (2, .inl a2), (3, .inl a3)], pz_hp n0 mi ml mr c s, true) Q := by
  refine pz_j1 [.inl a3] 40 rfl rfl rfl rfl rfl ?_
  refine pz_j1 [.inl 7, .inl a3] 42 rfl rfl rfl rfl rfl ?_
  refine pz_j1 [] (bif pz_cp .ge a3 7 then 60 else 45) rfl rfl rfl rfl rfl ?_
  refine pz_Rn_if pz_c1_ge pz_c0_ge ⟨fun b1 => ?_, fun b1 => ?_⟩
  · replace K := K.1 b1
    refine pz_j1 [.inr (.inr (some 165))] 61 rfl rfl rfl rfl rfl ?_
    refine pz_j1 [.inl a2, .inr (.inr (some 165))] 62 rfl rfl rfl rfl rfl ?_
    refine pz_j1 [.inl a1, .inl a2, .inr (.inr (some 165))] 63 rfl rfl rfl rfl rfl ?_
    refine pz_j1 [.inl 3000, .inl a1, .inl a2, .inr (.inr (some 165))] 66 rfl rfl rfl rfl rfl ?_
    refine pz_Rn_sub (L := [(0, .inr (.inr (some 165))), (1, .inl a1), (2, .inl a2)]) [0, 1, 2] rfl rfl ?_
    exact pz_Rn_k (y := 138) rfl rfl rfl rfl rfl rfl rfl rfl (pz_cok_v rfl rfl pz_S165) K
  · replace K := K.2 b1
    refine pz_j1 [.inr (.inr (some 165))] 46 rfl rfl rfl rfl rfl ?_
    refine pz_j1 [.inr (.inr (some 192))] 49 rfl rfl rfl rfl (pz_a2 rfl pz_S165) ?_
    refine pz_j1 [.inl a2, .inr (.inr (some 192))] 50 rfl rfl rfl rfl rfl ?_
    refine pz_j1 [.inl a3, .inl a2, .inr (.inr (some 192))] 51 rfl rfl rfl rfl rfl ?_
    obtain ⟨k2, K⟩ := K
    refine pz_j1 [.inl (a2 + a3), .inr (.inr (some 192))] 52 rfl rfl rfl rfl (pz_ok_in k2) ?_
    refine pz_j1 [.inl 0, .inl (a2 + a3), .inr (.inr (some 192))] 53 rfl rfl rfl rfl rfl ?_
    obtain ⟨k3, K⟩ := K
    refine pz_j3 [] [(0, .inr (.inr (some 165))), (1, .inl a1), (2, .inl a2), (3, .inl a3)] (pz_hp n0 (pz_up mi 192 ((a2 + a3).toNat) 0) ml mr c s) 54 rfl rfl rfl rfl (pz_a2 rfl (pz_ok_ix pz_S192 k3)) ?_
    obtain ⟨k4, K⟩ := K
    refine pz_j2 [] [(3, .inl (a3 + 1)), (0, .inr (.inr (some 165))), (1, .inl a1), (2, .inl a2)] 57 rfl rfl rfl rfl (pz_a2 (pz_ok_in k4) rfl) ?_
    refine pz_j1 [] 39 rfl rfl rfl rfl rfl ?_
    refine pz_Rn_sub (L := [(0, .inr (.inr (some 165))), (1, .inl a1), (2, .inl a2), (3, .inl (a3 + 1))]) [1, 2, 3, 0] rfl rfl ?_
    exact K
theorem pz_g140_69 {a1 : Int} {a2 : Int}  (K : pz_Rn (d + 1) 140 (74, [], [(0, .inr (.inr (some 165))), (1, .inl a1), (2, .inl a2), (3, .inl 0), (4, .inl 0)], pz_hp n0 mi ml mr c s, true) Q) : pz_Rn (d + 1) 140 (69, [], [(0, .inr (.inr (some 165))), (1, .inl a1), (2, .inl a2)], pz_hp n0 mi ml mr c s, true) Q := by
  refine pz_j1 [.inl 0] 70 rfl rfl rfl rfl rfl ?_
  refine pz_j2 [] [(3, .inl 0), (0, .inr (.inr (some 165))), (1, .inl a1), (2, .inl a2)] 71 rfl rfl rfl rfl rfl ?_
  refine pz_j1 [.inl 0] 72 rfl rfl rfl rfl rfl ?_
  refine pz_j2 [] [(4, .inl 0), (3, .inl 0), (0, .inr (.inr (some 165))), (1, .inl a1), (2, .inl a2)] 74 rfl rfl rfl rfl rfl ?_
  refine pz_Rn_sub (L := [(0, .inr (.inr (some 165))), (1, .inl a1), (2, .inl a2), (3, .inl 0), (4, .inl 0)]) [2, 3, 4, 1, 0] rfl rfl ?_
  exact K
theorem pz_g140_74 {a1 : Int} {a2 : Int} {a3 : Int} {a4 : Int}  (K : ((mi 165 24 ≤ a4 → (0 ≤ mi 189 0 ∧ mi 189 0 < 20) ∧ (-2147483648 ≤ (mi 189 0) + 1 ∧ (mi 189 0) + 1 ≤ 2147483647) ∧ Q (.inl none) (pz_hp n0 (pz_up (pz_up mi 193 ((mi 189 0).toNat) a3) 189 0 ((mi 189 0) + 1)) ml mr c s)) ∧ (a4 < mi 165 24 → pz_Rn d 125 (0, [], [(0, .inr (.inr (some 165))), (1, .inl a1), (2, .inl a4)], pz_hp n0 mi ml mr c s, true) (pz_K (d + 1) 140 87 [] [(0, .inr (.inr (some 165))), (1, .inl a1), (2, .inl a2), (3, .inl a3), (4, .inl a4)] Q true)))) : pz_Rn (d + 1) 140 (74, [], [(0, .inr (.inr (some 165))), (1, .inl a1), (2, .inl a2), (3, .inl a3), (4, .inl a4)], pz_hp n0 mi ml mr c s, true) Q := by
  refine pz_j1 [.inl a4] 76 rfl rfl rfl rfl rfl ?_
  refine pz_j1 [.inr (.inr (some 165)), .inl a4] 77 rfl rfl rfl rfl rfl ?_
  refine pz_j1 [.inl (mi 165 24), .inl a4] 80 rfl rfl rfl rfl (pz_a2 rfl pz_S165) ?_
  refine pz_j1 [] (bif pz_cp .ge a4 (mi 165 24) then 148 else 83) rfl rfl rfl rfl rfl ?_
  refine pz_Rn_if pz_c1_ge pz_c0_ge ⟨fun b1 => ?_, fun b1 => ?_⟩
  · replace K := K.1 b1
    refine pz_j1 [.inr (.inr (some 165))] 149 rfl rfl rfl rfl rfl ?_
    refine pz_j1 [.inr (.inr (some 193))] 152 rfl rfl rfl rfl (pz_a2 rfl pz_S165) ?_
    refine pz_j1 [.inr (.inr (some 165)), .inr (.inr (some 193))] 153 rfl rfl rfl rfl rfl ?_
    refine pz_j1 [.inr (.inr (some 189)), .inr (.inr (some 193))] 156 rfl rfl rfl rfl (pz_a2 rfl pz_S165) ?_
    refine pz_j1 [.inl 0, .inr (.inr (some 189)), .inr (.inr (some 193))] 157 rfl rfl rfl rfl rfl ?_
    refine pz_j1 [.inl (mi 189 0), .inr (.inr (some 193))] 158 rfl rfl rfl rfl (pz_a2 rfl (pz_ok_ixs pz_S189 ⟨by decide, by decide⟩)) ?_
    refine pz_j1 [.inl a3, .inl (mi 189 0), .inr (.inr (some 193))] 159 rfl rfl rfl rfl rfl ?_
    obtain ⟨k2, K⟩ := K
    refine pz_j3 [] [(0, .inr (.inr (some 165))), (1, .inl a1), (2, .inl a2), (3, .inl a3), (4, .inl a4)] (pz_hp n0 (pz_up mi 193 ((mi 189 0).toNat) a3) ml mr c s) 160 rfl rfl rfl rfl (pz_a2 rfl (pz_ok_ix pz_S193 k2)) ?_
    refine pz_j1 [.inr (.inr (some 165))] 161 rfl rfl rfl rfl rfl ?_
    refine pz_j1 [.inr (.inr (some 189))] 164 rfl rfl rfl rfl (pz_a2 rfl pz_S165) ?_
    refine pz_j1 [.inl 0, .inr (.inr (some 189))] 165 rfl rfl rfl rfl rfl ?_
    refine pz_j1 [.inl 0, .inr (.inr (some 189)), .inl 0, .inr (.inr (some 189))] 166 rfl rfl rfl rfl rfl ?_
    refine pz_j1 [.inl (mi 189 0), .inl 0, .inr (.inr (some 189))] 167 rfl rfl rfl rfl (pz_a2 rfl (pz_ok_ixs pz_S189 ⟨by decide, by decide⟩)) ?_
    refine pz_j1 [.inl 1, .inl (mi 189 0), .inl 0, .inr (.inr (some 189))] 168 rfl rfl rfl rfl rfl ?_
    obtain ⟨k3, K⟩ := K
    refine pz_j1 [.inl ((mi 189 0) + 1), .inl 0, .inr (.inr (some 189))] 169 rfl rfl rfl rfl (pz_ok_in k3) ?_
    refine pz_j3 [] [(0, .inr (.inr (some 165))), (1, .inl a1), (2, .inl a2), (3, .inl a3), (4, .inl a4)] (pz_hp n0 (pz_up (pz_up mi 193 ((mi 189 0).toNat) a3) 189 0 ((mi 189 0) + 1)) ml mr c s) 170 rfl rfl rfl rfl (pz_a2 rfl (pz_ok_ix pz_S189 ⟨by decide, by decide⟩)) ?_
    exact pz_Rn_ret rfl rfl rfl rfl K
  · replace K := K.2 b1
    refine pz_j1 [.inr (.inr (some 165))] 84 rfl rfl rfl rfl rfl ?_
    refine pz_j1 [.inl a1, .inr (.inr (some 165))] 85 rfl rfl rfl rfl rfl ?_
    refine pz_j1 [.inl a4, .inl a1, .inr (.inr (some 165))] 87 rfl rfl rfl rfl rfl ?_
    exact pz_Rn_k (y := 124) rfl rfl rfl rfl rfl rfl rfl rfl (pz_cok_v rfl rfl pz_S165) K
theorem pz_g140_90 {a1 : Int} {a2 : Int} {a3 : Int} {a4 : Int} {t0 : Int}  (K : ((t0 ≠ 0 → ((3 ≤ a3 → (-2147483648 ≤ a3 + 1 ∧ a3 + 1 ≤ 2147483647) ∧ (-2147483648 ≤ a4 + 1 ∧ a4 + 1 ≤ 2147483647) ∧ pz_Rn (d + 1) 140 (74, [], [(0, .inr (.inr (some 165))), (1, .inl a1), (2, .inl a2), (3, .inl (a3 + 1)), (4, .inl (a4 + 1))], pz_hp n0 mi ml mr c s, true) Q) ∧ (a3 < 3 → (-2147483648 ≤ a2 + 1 ∧ a2 + 1 ≤ 2147483647) ∧ (-2147483648 ≤ 2 * a3 ∧ 2 * a3 ≤ 2147483647) ∧ (-2147483648 ≤ (a2 + 1) + (2 * a3) ∧ (a2 + 1) + (2 * a3) ≤ 2147483647) ∧ (0 ≤ a4 ∧ a4 < 120) ∧ pz_Rn d 139 (0, [], [(0, .inr (.inr (some 165))), (1, .inl ((a2 + 1) + (2 * a3))), (2, .inl a1), (3, .inl (mi 184 ((a4).toNat)))], pz_hp n0 mi ml mr c s, true) (pz_K (d + 1) 140 117 [] [(0, .inr (.inr (some 165))), (1, .inl a1), (2, .inl a2), (3, .inl a3), (4, .inl a4)] Q true)))) ∧ (t0 = 0 → (-2147483648 ≤ a4 + 1 ∧ a4 + 1 ≤ 2147483647) ∧ pz_Rn (d + 1) 140 (74, [], [(0, .inr (.inr (some 165))), (1, .inl a1), (2, .inl a2), (3, .inl a3), (4, .inl (a4 + 1))], pz_hp n0 mi ml mr c s, true) Q))) : pz_Rn (d + 1) 140 (90, [.inl t0], [(0, .inr (.inr (some 165))), (1, .inl a1), (2, .inl a2), (3, .inl a3), (4, .inl a4)], pz_hp n0 mi ml mr c s, true) Q := by
  refine pz_j1 [] (bif pz_cp .ne t0 0 then 96 else 93) rfl rfl rfl rfl rfl ?_
  refine pz_Rn_if pz_c1_ne pz_c0_ne ⟨fun b1 => ?_, fun b1 => ?_⟩
  · replace K := K.1 b1
    refine pz_j1 [.inl a3] 97 rfl rfl rfl rfl rfl ?_
    refine pz_j1 [.inl 3, .inl a3] 98 rfl rfl rfl rfl rfl ?_
    refine pz_j1 [] (bif pz_cp .ge a3 3 then 139 else 101) rfl rfl rfl rfl rfl ?_
    refine pz_Rn_if pz_c1_ge pz_c0_ge ⟨fun b2 => ?_, fun b2 => ?_⟩
    · replace K := K.1 b2
      obtain ⟨k3, K⟩ := K
      refine pz_j2 [] [(3, .inl (a3 + 1)), (0, .inr (.inr (some 165))), (1, .inl a1), (2, .inl a2), (4, .inl a4)] 142 rfl rfl rfl rfl (pz_a2 (pz_ok_in k3) rfl) ?_
      obtain ⟨k4, K⟩ := K
      refine pz_j2 [] [(4, .inl (a4 + 1)), (3, .inl (a3 + 1)), (0, .inr (.inr (some 165))), (1, .inl a1), (2, .inl a2)] 145 rfl rfl rfl rfl (pz_a2 (pz_ok_in k4) rfl) ?_
      refine pz_j1 [] 74 rfl rfl rfl rfl rfl ?_
      refine pz_Rn_sub (L := [(0, .inr (.inr (some 165))), (1, .inl a1), (2, .inl a2), (3, .inl (a3 + 1)), (4, .inl (a4 + 1))]) [2, 3, 4, 1, 0] rfl rfl ?_
      exact K
    · replace K := K.2 b2
      refine pz_j1 [.inr (.inr (some 165))] 102 rfl rfl rfl rfl rfl ?_
      refine pz_j1 [.inl a2, .inr (.inr (some 165))] 103 rfl rfl rfl rfl rfl ?_
      refine pz_j1 [.inl 1, .inl a2, .inr (.inr (some 165))] 104 rfl rfl rfl rfl rfl ?_
      obtain ⟨k5, K⟩ := K
      refine pz_j1 [.inl (a2 + 1), .inr (.inr (some 165))] 105 rfl rfl rfl rfl (pz_ok_in k5) ?_
      refine pz_j1 [.inl 2, .inl (a2 + 1), .inr (.inr (some 165))] 106 rfl rfl rfl rfl rfl ?_
      refine pz_j1 [.inl a3, .inl 2, .inl (a2 + 1), .inr (.inr (some 165))] 107 rfl rfl rfl rfl rfl ?_
      obtain ⟨k6, K⟩ := K
      refine pz_j1 [.inl (2 * a3), .inl (a2 + 1), .inr (.inr (some 165))] 108 rfl rfl rfl rfl (pz_ok_in k6) ?_
      obtain ⟨k7, K⟩ := K
      refine pz_j1 [.inl ((a2 + 1) + (2 * a3)), .inr (.inr (some 165))] 109 rfl rfl rfl rfl (pz_ok_in k7) ?_
      refine pz_j1 [.inl a1, .inl ((a2 + 1) + (2 * a3)), .inr (.inr (some 165))] 110 rfl rfl rfl rfl rfl ?_
      refine pz_j1 [.inr (.inr (some 165)), .inl a1, .inl ((a2 + 1) + (2 * a3)), .inr (.inr (some 165))] 111 rfl rfl rfl rfl rfl ?_
      refine pz_j1 [.inr (.inr (some 184)), .inl a1, .inl ((a2 + 1) + (2 * a3)), .inr (.inr (some 165))] 114 rfl rfl rfl rfl (pz_a2 rfl pz_S165) ?_
      refine pz_j1 [.inl a4, .inr (.inr (some 184)), .inl a1, .inl ((a2 + 1) + (2 * a3)), .inr (.inr (some 165))] 116 rfl rfl rfl rfl rfl ?_
      obtain ⟨k8, K⟩ := K
      refine pz_j1 [.inl (mi 184 ((a4).toNat)), .inl a1, .inl ((a2 + 1) + (2 * a3)), .inr (.inr (some 165))] 117 rfl rfl rfl rfl (pz_a2 rfl (pz_ok_ixs pz_S184 k8)) ?_
      exact pz_Rn_k (y := 138) rfl rfl rfl rfl rfl rfl rfl rfl (pz_cok_v rfl rfl pz_S165) K
  · replace K := K.2 b1
    refine pz_j1 [] 142 rfl rfl rfl rfl rfl ?_
    obtain ⟨k9, K⟩ := K
    refine pz_j2 [] [(4, .inl (a4 + 1)), (0, .inr (.inr (some 165))), (1, .inl a1), (2, .inl a2), (3, .inl a3)] 145 rfl rfl rfl rfl (pz_a2 (pz_ok_in k9) rfl) ?_
    refine pz_j1 [] 74 rfl rfl rfl rfl rfl ?_
    refine pz_Rn_sub (L := [(0, .inr (.inr (some 165))), (1, .inl a1), (2, .inl a2), (3, .inl a3), (4, .inl (a4 + 1))]) [1, 2, 3, 4, 0] rfl rfl ?_
    exact K
theorem pz_g140_120 {a1 : Int} {a2 : Int} {a3 : Int} {a4 : Int}  (K : (-2147483648 ≤ a2 + 2 ∧ a2 + 2 ≤ 2147483647) ∧ (-2147483648 ≤ 2 * a3 ∧ 2 * a3 ≤ 2147483647) ∧ (-2147483648 ≤ (a2 + 2) + (2 * a3) ∧ (a2 + 2) + (2 * a3) ≤ 2147483647) ∧ (0 ≤ a4 ∧ a4 < 120) ∧ pz_Rn d 139 (0, [], [(0, .inr (.inr (some 165))), (1, .inl ((a2 + 2) + (2 * a3))), (2, .inl a1), (3, .inl (mi 185 ((a4).toNat)))], pz_hp n0 mi ml mr c s, true) (pz_K (d + 1) 140 136 [] [(0, .inr (.inr (some 165))), (1, .inl a1), (2, .inl a2), (3, .inl a3), (4, .inl a4)] Q true)) : pz_Rn (d + 1) 140 (120, [], [(0, .inr (.inr (some 165))), (1, .inl a1), (2, .inl a2), (3, .inl a3), (4, .inl a4)], pz_hp n0 mi ml mr c s, true) Q := by
  refine pz_j1 [.inr (.inr (some 165))] 121 rfl rfl rfl rfl rfl ?_
  refine pz_j1 [.inl a2, .inr (.inr (some 165))] 122 rfl rfl rfl rfl rfl ?_
  refine pz_j1 [.inl 2, .inl a2, .inr (.inr (some 165))] 123 rfl rfl rfl rfl rfl ?_
  obtain ⟨k1, K⟩ := K
  refine pz_j1 [.inl (a2 + 2), .inr (.inr (some 165))] 124 rfl rfl rfl rfl (pz_ok_in k1) ?_
  refine pz_j1 [.inl 2, .inl (a2 + 2), .inr (.inr (some 165))] 125 rfl rfl rfl rfl rfl ?_
  refine pz_j1 [.inl a3, .inl 2, .inl (a2 + 2), .inr (.inr (some 165))] 126 rfl rfl rfl rfl rfl ?_
  obtain ⟨k2, K⟩ := K
  refine pz_j1 [.inl (2 * a3), .inl (a2 + 2), .inr (.inr (some 165))] 127 rfl rfl rfl rfl (pz_ok_in k2) ?_
  obtain ⟨k3, K⟩ := K
  refine pz_j1 [.inl ((a2 + 2) + (2 * a3)), .inr (.inr (some 165))] 128 rfl rfl rfl rfl (pz_ok_in k3) ?_
  refine pz_j1 [.inl a1, .inl ((a2 + 2) + (2 * a3)), .inr (.inr (some 165))] 129 rfl rfl rfl rfl rfl ?_
  refine pz_j1 [.inr (.inr (some 165)), .inl a1, .inl ((a2 + 2) + (2 * a3)), .inr (.inr (some 165))] 130 rfl rfl rfl rfl rfl ?_
  refine pz_j1 [.inr (.inr (some 185)), .inl a1, .inl ((a2 + 2) + (2 * a3)), .inr (.inr (some 165))] 133 rfl rfl rfl rfl (pz_a2 rfl pz_S165) ?_
  refine pz_j1 [.inl a4, .inr (.inr (some 185)), .inl a1, .inl ((a2 + 2) + (2 * a3)), .inr (.inr (some 165))] 135 rfl rfl rfl rfl rfl ?_
  obtain ⟨k4, K⟩ := K
  refine pz_j1 [.inl (mi 185 ((a4).toNat)), .inl a1, .inl ((a2 + 2) + (2 * a3)), .inr (.inr (some 165))] 136 rfl rfl rfl rfl (pz_a2 rfl (pz_ok_ixs pz_S185 k4)) ?_
  exact pz_Rn_k (y := 138) rfl rfl rfl rfl rfl rfl rfl rfl (pz_cok_v rfl rfl pz_S165) K
theorem pz_g140_139 {a1 : Int} {a2 : Int} {a3 : Int} {a4 : Int}  (K : (-2147483648 ≤ a3 + 1 ∧ a3 + 1 ≤ 2147483647) ∧ (-2147483648 ≤ a4 + 1 ∧ a4 + 1 ≤ 2147483647) ∧ pz_Rn (d + 1) 140 (74, [], [(0, .inr (.inr (some 165))), (1, .inl a1), (2, .inl a2), (3, .inl (a3 + 1)), (4, .inl (a4 + 1))], pz_hp n0 mi ml mr c s, true) Q) : pz_Rn (d + 1) 140 (139, [], [(0, .inr (.inr (some 165))), (1, .inl a1), (2, .inl a2), (3, .inl a3), (4, .inl a4)], pz_hp n0 mi ml mr c s, true) Q := by
  obtain ⟨k1, K⟩ := K
  refine pz_j2 [] [(3, .inl (a3 + 1)), (0, .inr (.inr (some 165))), (1, .inl a1), (2, .inl a2), (4, .inl a4)] 142 rfl rfl rfl rfl (pz_a2 (pz_ok_in k1) rfl) ?_
  obtain ⟨k2, K⟩ := K
  refine pz_j2 [] [(4, .inl (a4 + 1)), (3, .inl (a3 + 1)), (0, .inr (.inr (some 165))), (1, .inl a1), (2, .inl a2)] 145 rfl rfl rfl rfl (pz_a2 (pz_ok_in k2) rfl) ?_
  refine pz_j1 [] 74 rfl rfl rfl rfl rfl ?_
  refine pz_Rn_sub (L := [(0, .inr (.inr (some 165))), (1, .inl a1), (2, .inl a2), (3, .inl (a3 + 1)), (4, .inl (a4 + 1))]) [2, 3, 4, 1, 0] rfl rfl ?_
  exact K
-- 141 RelationStreamModel.run(IZ)I
theorem pz_g141_0 {a1 : Int} {a2 : Int}  (K : ((a1 < 0 → Q (.inl (some (.inl 0))) (pz_hp n0 (pz_up mi 165 0 1) ml mr c s)) ∧ (0 ≤ a1 → ((a1 ≤ 200 → ((mi 165 14 ≠ 0 → pz_Rn (d + 1) 141 (45, [], [(0, .inr (.inr (some 165))), (1, .inl a1), (2, .inl a2), (3, .inl 0), (4, .inl 0)], pz_hp n0 (pz_up mi 165 0 0) ml mr c s, true) Q) ∧ (mi 165 14 = 0 → Q (.inl (some (.inl 0))) (pz_hp n0 (pz_up mi 165 0 2) ml mr c s)))) ∧ (200 < a1 → Q (.inl (some (.inl 0))) (pz_hp n0 (pz_up mi 165 0 1) ml mr c s)))))) : pz_Rn (d + 1) 141 (0, [], [(0, .inr (.inr (some 165))), (1, .inl a1), (2, .inl a2)], pz_hp n0 mi ml mr c s, true) Q := by
  refine pz_j1 [.inr (.inr (some 165))] 1 rfl rfl rfl rfl rfl ?_
  refine pz_j1 [.inl a1, .inr (.inr (some 165))] 2 rfl rfl rfl rfl rfl ?_
  refine pz_j1 [.inr (.inr (some 165))] (bif pz_cp .lt a1 0 then 12 else 5) rfl rfl rfl rfl rfl ?_
  refine pz_Rn_if pz_c1_lt pz_c0_lt ⟨fun b1 => ?_, fun b1 => ?_⟩
  · replace K := K.1 b1
    refine pz_j1 [.inl 1, .inr (.inr (some 165))] 13 rfl rfl rfl rfl rfl ?_
    refine pz_j1 [.inl 1, .inr (.inr (some 165))] 28 rfl rfl rfl rfl rfl ?_
    refine pz_j3 [] [(0, .inr (.inr (some 165))), (1, .inl a1), (2, .inl a2)] (pz_hp n0 (pz_up mi 165 0 1) ml mr c s) 31 rfl rfl rfl rfl (pz_a2 rfl (pz_a2 pz_S165 (pz_a2 rfl rfl))) ?_
    refine pz_j1 [.inr (.inr (some 165))] 32 rfl rfl rfl rfl rfl ?_
    refine pz_j1 [.inl 1] 35 rfl rfl rfl rfl (pz_a2 rfl pz_S165) ?_
    refine pz_j1 [] 38 rfl rfl rfl rfl rfl ?_
    refine pz_j1 [.inl 0] 39 rfl rfl rfl rfl rfl ?_
    exact pz_Rn_ret rfl rfl rfl rfl K
  · replace K := K.2 b1
    refine pz_j1 [.inl a1, .inr (.inr (some 165))] 6 rfl rfl rfl rfl rfl ?_
    refine pz_j1 [.inl 200, .inl a1, .inr (.inr (some 165))] 9 rfl rfl rfl rfl rfl ?_
    refine pz_j1 [.inr (.inr (some 165))] (bif pz_cp .le a1 200 then 16 else 12) rfl rfl rfl rfl rfl ?_
    refine pz_Rn_if pz_c1_le pz_c0_le ⟨fun b2 => ?_, fun b2 => ?_⟩
    · replace K := K.1 b2
      refine pz_j1 [.inr (.inr (some 165)), .inr (.inr (some 165))] 17 rfl rfl rfl rfl rfl ?_
      refine pz_j1 [.inl (mi 165 14), .inr (.inr (some 165))] 20 rfl rfl rfl rfl (pz_a2 rfl pz_S165) ?_
      refine pz_j1 [.inr (.inr (some 165))] (bif pz_cp .ne (mi 165 14) 0 then 27 else 23) rfl rfl rfl rfl rfl ?_
      refine pz_Rn_if pz_c1_ne pz_c0_ne ⟨fun b3 => ?_, fun b3 => ?_⟩
      · replace K := K.1 b3
        refine pz_j1 [.inl 0, .inr (.inr (some 165))] 28 rfl rfl rfl rfl rfl ?_
        refine pz_j3 [] [(0, .inr (.inr (some 165))), (1, .inl a1), (2, .inl a2)] (pz_hp n0 (pz_up mi 165 0 0) ml mr c s) 31 rfl rfl rfl rfl (pz_a2 rfl (pz_a2 pz_S165 (pz_a2 rfl rfl))) ?_
        refine pz_j1 [.inr (.inr (some 165))] 32 rfl rfl rfl rfl rfl ?_
        refine pz_j1 [.inl 0] 35 rfl rfl rfl rfl (pz_a2 rfl pz_S165) ?_
        refine pz_j1 [] 40 rfl rfl rfl rfl rfl ?_
        refine pz_j1 [.inl 0] 41 rfl rfl rfl rfl rfl ?_
        refine pz_j2 [] [(3, .inl 0), (0, .inr (.inr (some 165))), (1, .inl a1), (2, .inl a2)] 42 rfl rfl rfl rfl rfl ?_
        refine pz_j1 [.inl 0] 43 rfl rfl rfl rfl rfl ?_
        refine pz_j2 [] [(4, .inl 0), (3, .inl 0), (0, .inr (.inr (some 165))), (1, .inl a1), (2, .inl a2)] 45 rfl rfl rfl rfl rfl ?_
        refine pz_Rn_sub (L := [(0, .inr (.inr (some 165))), (1, .inl a1), (2, .inl a2), (3, .inl 0), (4, .inl 0)]) [2, 3, 4, 1, 0] rfl rfl ?_
        exact K
      · replace K := K.2 b3
        refine pz_j1 [.inl 2, .inr (.inr (some 165))] 24 rfl rfl rfl rfl rfl ?_
        refine pz_j1 [.inl 2, .inr (.inr (some 165))] 28 rfl rfl rfl rfl rfl ?_
        refine pz_j3 [] [(0, .inr (.inr (some 165))), (1, .inl a1), (2, .inl a2)] (pz_hp n0 (pz_up mi 165 0 2) ml mr c s) 31 rfl rfl rfl rfl (pz_a2 rfl (pz_a2 pz_S165 (pz_a2 rfl rfl))) ?_
        refine pz_j1 [.inr (.inr (some 165))] 32 rfl rfl rfl rfl rfl ?_
        refine pz_j1 [.inl 2] 35 rfl rfl rfl rfl (pz_a2 rfl pz_S165) ?_
        refine pz_j1 [] 38 rfl rfl rfl rfl rfl ?_
        refine pz_j1 [.inl 0] 39 rfl rfl rfl rfl rfl ?_
        exact pz_Rn_ret rfl rfl rfl rfl K
    · replace K := K.2 b2
      refine pz_j1 [.inl 1, .inr (.inr (some 165))] 13 rfl rfl rfl rfl rfl ?_
      refine pz_j1 [.inl 1, .inr (.inr (some 165))] 28 rfl rfl rfl rfl rfl ?_
      refine pz_j3 [] [(0, .inr (.inr (some 165))), (1, .inl a1), (2, .inl a2)] (pz_hp n0 (pz_up mi 165 0 1) ml mr c s) 31 rfl rfl rfl rfl (pz_a2 rfl (pz_a2 pz_S165 (pz_a2 rfl rfl))) ?_
      refine pz_j1 [.inr (.inr (some 165))] 32 rfl rfl rfl rfl rfl ?_
      refine pz_j1 [.inl 1] 35 rfl rfl rfl rfl (pz_a2 rfl pz_S165) ?_
      refine pz_j1 [] 38 rfl rfl rfl rfl rfl ?_
      refine pz_j1 [.inl 0] 39 rfl rfl rfl rfl rfl ?_
      exact pz_Rn_ret rfl rfl rfl rfl K
theorem pz_g141_45 {a1 : Int} {a2 : Int} {a3 : Int} {a4 : Int}  (K : ((a1 ≤ a3 → Q (.inl (some (.inl a3))) (pz_hp n0 mi ml mr c s)) ∧ (a3 < a1 → ((mi 165 14 ≠ 1 → Q (.inl (some (.inl a3))) (pz_hp n0 mi ml mr c s)) ∧ (mi 165 14 = 1 → ((a2 = 0 → pz_Rn d 137 (0, [], [(0, .inr (.inr (some 165)))], pz_hp n0 mi ml mr c s, true) (pz_K (d + 1) 141 68 [] [(0, .inr (.inr (some 165))), (1, .inl a1), (2, .inl a2), (3, .inl a3)] Q true)) ∧ (a2 ≠ 0 → ((a4 ≠ 0 → Q (.inl (some (.inl a3))) (pz_hp n0 mi ml mr c s)) ∧ (a4 = 0 → pz_Rn d 137 (0, [], [(0, .inr (.inr (some 165)))], pz_hp n0 mi ml mr c s, true) (pz_K (d + 1) 141 68 [] [(0, .inr (.inr (some 165))), (1, .inl a1), (2, .inl a2), (3, .inl a3)] Q true)))))))))) : pz_Rn (d + 1) 141 (45, [], [(0, .inr (.inr (some 165))), (1, .inl a1), (2, .inl a2), (3, .inl a3), (4, .inl a4)], pz_hp n0 mi ml mr c s, true) Q := by
  refine pz_j1 [.inl a3] 46 rfl rfl rfl rfl rfl ?_
  refine pz_j1 [.inl a1, .inl a3] 47 rfl rfl rfl rfl rfl ?_
  refine pz_j1 [] (bif pz_cp .ge a3 a1 then 201 else 50) rfl rfl rfl rfl rfl ?_
  refine pz_Rn_if pz_c1_ge pz_c0_ge ⟨fun b1 => ?_, fun b1 => ?_⟩
  · replace K := K.1 b1
    refine pz_j1 [.inl a3] 202 rfl rfl rfl rfl rfl ?_
    exact pz_Rn_ret rfl rfl rfl rfl K
  · replace K := K.2 b1
    refine pz_j1 [.inr (.inr (some 165))] 51 rfl rfl rfl rfl rfl ?_
    refine pz_j1 [.inl (mi 165 14)] 54 rfl rfl rfl rfl (pz_a2 rfl pz_S165) ?_
    refine pz_j1 [.inl 1, .inl (mi 165 14)] 55 rfl rfl rfl rfl rfl ?_
    refine pz_j1 [] (bif pz_cp .ne (mi 165 14) 1 then 201 else 58) rfl rfl rfl rfl rfl ?_
    refine pz_Rn_if pz_c1_ne pz_c0_ne ⟨fun b2 => ?_, fun b2 => ?_⟩
    · replace K := K.1 b2
      refine pz_j1 [.inl a3] 202 rfl rfl rfl rfl rfl ?_
      exact pz_Rn_ret rfl rfl rfl rfl K
    · replace K := K.2 b2
      refine pz_j1 [.inl a2] 59 rfl rfl rfl rfl rfl ?_
      refine pz_j1 [] (bif pz_cp .eq a2 0 then 67 else 62) rfl rfl rfl rfl rfl ?_
      refine pz_Rn_if pz_c1_eq pz_c0_eq ⟨fun b3 => ?_, fun b3 => ?_⟩
      · replace K := K.1 b3
        refine pz_j1 [.inr (.inr (some 165))] 68 rfl rfl rfl rfl rfl ?_
        refine pz_Rn_sub (L := [(0, .inr (.inr (some 165))), (1, .inl a1), (2, .inl a2), (3, .inl a3)]) [0, 1, 2, 3] rfl rfl ?_
        exact pz_Rn_k (y := 136) rfl rfl rfl rfl rfl rfl rfl rfl (pz_cok_v rfl rfl pz_S165) K
      · replace K := K.2 b3
        refine pz_j1 [.inl a4] 64 rfl rfl rfl rfl rfl ?_
        refine pz_j1 [] (bif pz_cp .ne a4 0 then 201 else 67) rfl rfl rfl rfl rfl ?_
        refine pz_Rn_if pz_c1_ne pz_c0_ne ⟨fun b4 => ?_, fun b4 => ?_⟩
        · replace K := K.1 b4
          refine pz_j1 [.inl a3] 202 rfl rfl rfl rfl rfl ?_
          exact pz_Rn_ret rfl rfl rfl rfl K
        · replace K := K.2 b4
          refine pz_j1 [.inr (.inr (some 165))] 68 rfl rfl rfl rfl rfl ?_
          refine pz_Rn_sub (L := [(0, .inr (.inr (some 165))), (1, .inl a1), (2, .inl a2), (3, .inl a3)]) [0, 1, 2, 3] rfl rfl ?_
          exact pz_Rn_k (y := 136) rfl rfl rfl rfl rfl rfl rfl rfl (pz_cok_v rfl rfl pz_S165) K
theorem pz_g141_71 {a1 : Int} {a2 : Int} {a3 : Int} {t0 : Int}  (K : ((t0 ≠ 0 → (-2147483648 ≤ a3 + 1 ∧ a3 + 1 ≤ 2147483647) ∧ pz_Rn (d + 1) 141 (87, [], [(0, .inr (.inr (some 165))), (1, .inl a1), (2, .inl a2), (3, .inl (a3 + 1)), (5, .inl 0)], pz_hp n0 mi ml mr c s, true) Q) ∧ (t0 = 0 → Q (.inl (some (.inl a3))) (pz_hp n0 (pz_up mi 165 14 3) ml mr c s)))) : pz_Rn (d + 1) 141 (71, [.inl t0], [(0, .inr (.inr (some 165))), (1, .inl a1), (2, .inl a2), (3, .inl a3)], pz_hp n0 mi ml mr c s, true) Q := by
  refine pz_j1 [] (bif pz_cp .ne t0 0 then 81 else 74) rfl rfl rfl rfl rfl ?_
  refine pz_Rn_if pz_c1_ne pz_c0_ne ⟨fun b1 => ?_, fun b1 => ?_⟩
  · replace K := K.1 b1
    obtain ⟨k2, K⟩ := K
    refine pz_j2 [] [(3, .inl (a3 + 1)), (0, .inr (.inr (some 165))), (1, .inl a1), (2, .inl a2)] 84 rfl rfl rfl rfl (pz_a2 (pz_ok_in k2) rfl) ?_
    refine pz_j1 [.inl 0] 85 rfl rfl rfl rfl rfl ?_
    refine pz_j2 [] [(5, .inl 0), (3, .inl (a3 + 1)), (0, .inr (.inr (some 165))), (1, .inl a1), (2, .inl a2)] 87 rfl rfl rfl rfl rfl ?_
    refine pz_Rn_sub (L := [(0, .inr (.inr (some 165))), (1, .inl a1), (2, .inl a2), (3, .inl (a3 + 1)), (5, .inl 0)]) [2, 3, 4, 1, 0] rfl rfl ?_
    exact K
  · replace K := K.2 b1
    refine pz_j1 [.inr (.inr (some 165))] 75 rfl rfl rfl rfl rfl ?_
    refine pz_j1 [.inl 3, .inr (.inr (some 165))] 76 rfl rfl rfl rfl rfl ?_
    refine pz_j3 [] [(0, .inr (.inr (some 165))), (1, .inl a1), (2, .inl a2), (3, .inl a3)] (pz_hp n0 (pz_up mi 165 14 3) ml mr c s) 79 rfl rfl rfl rfl (pz_a2 rfl (pz_a2 pz_S165 (pz_a2 rfl rfl))) ?_
    refine pz_j1 [.inl a3] 80 rfl rfl rfl rfl rfl ?_
    exact pz_Rn_ret rfl rfl rfl rfl K
theorem pz_g141_87 {a1 : Int} {a2 : Int} {a3 : Int} {a5 : Int}  (K : ((3 ≤ a5 → (-2147483648 ≤ (mi 189 7) + 1 ∧ (mi 189 7) + 1 ≤ 2147483647) ∧ ((mi 165 32 = (-1) → ((mi 165 13 ≠ (-1) → pz_Rn (d + 1) 141 (45, [], [(0, .inr (.inr (some 165))), (1, .inl a1), (2, .inl a2), (3, .inl a3), (4, .inl 0)], pz_hp n0 (pz_up (pz_up (pz_up (pz_up mi 189 4 (mi 165 28)) 189 5 (mi 165 29)) 189 6 (mi 165 24)) 189 7 ((mi 189 7) + 1)) ml mr c s, true) Q) ∧ (mi 165 13 = (-1) → pz_Rn (d + 1) 141 (45, [], [(0, .inr (.inr (some 165))), (1, .inl a1), (2, .inl a2), (3, .inl a3), (4, .inl 0)], pz_hp n0 (pz_up (pz_up (pz_up (pz_up (pz_up mi 189 4 (mi 165 28)) 189 5 (mi 165 29)) 189 6 (mi 165 24)) 189 7 ((mi 189 7) + 1)) 165 14 2) ml mr c s, true) Q))) ∧ (mi 165 32 ≠ (-1) → pz_Rn d 140 (0, [], [(0, .inr (.inr (some 165))), (1, .inl (mi 165 32))], pz_hp n0 (pz_up (pz_up (pz_up (pz_up mi 189 4 (mi 165 28)) 189 5 (mi 165 29)) 189 6 (mi 165 24)) 189 7 ((mi 189 7) + 1)) ml mr c s, true) (pz_K (d + 1) 141 182 [] [(0, .inr (.inr (some 165))), (1, .inl a1), (2, .inl a2), (3, .inl a3), (4, .inl 1)] Q true)))) ∧ (a5 < 3 → (-2147483648 ≤ 1 + a5 ∧ 1 + a5 ≤ 2147483647) ∧ (0 ≤ a5 ∧ a5 < 3) ∧ (0 ≤ 1 + a5 ∧ 1 + a5 < 8) ∧ (-2147483648 ≤ a5 + 1 ∧ a5 + 1 ≤ 2147483647) ∧ pz_Rn (d + 1) 141 (87, [], [(0, .inr (.inr (some 165))), (1, .inl a1), (2, .inl a2), (3, .inl a3), (5, .inl (a5 + 1))], pz_hp n0 (pz_up mi 189 ((1 + a5).toNat) (mi 190 ((a5).toNat))) ml mr c s, true) Q))) : pz_Rn (d + 1) 141 (87, [], [(0, .inr (.inr (some 165))), (1, .inl a1), (2, .inl a2), (3, .inl a3), (5, .inl a5)], pz_hp n0 mi ml mr c s, true) Q := by
  refine pz_j1 [.inl a5] 89 rfl rfl rfl rfl rfl ?_
  refine pz_j1 [.inl 3, .inl a5] 90 rfl rfl rfl rfl rfl ?_
  refine pz_j1 [] (bif pz_cp .ge a5 3 then 115 else 93) rfl rfl rfl rfl rfl ?_
  refine pz_Rn_if pz_c1_ge pz_c0_ge ⟨fun b1 => ?_, fun b1 => ?_⟩
  · replace K := K.1 b1
    refine pz_j1 [.inr (.inr (some 165))] 116 rfl rfl rfl rfl rfl ?_
    refine pz_j1 [.inr (.inr (some 189))] 119 rfl rfl rfl rfl (pz_a2 rfl pz_S165) ?_
    refine pz_j1 [.inl 4, .inr (.inr (some 189))] 120 rfl rfl rfl rfl rfl ?_
    refine pz_j1 [.inr (.inr (some 165)), .inl 4, .inr (.inr (some 189))] 121 rfl rfl rfl rfl rfl ?_
    refine pz_j1 [.inl (mi 165 28), .inl 4, .inr (.inr (some 189))] 124 rfl rfl rfl rfl (pz_a2 rfl pz_S165) ?_
    refine pz_j3 [] [(0, .inr (.inr (some 165))), (1, .inl a1), (2, .inl a2), (3, .inl a3), (5, .inl a5)] (pz_hp n0 (pz_up mi 189 4 (mi 165 28)) ml mr c s) 125 rfl rfl rfl rfl (pz_a2 rfl (pz_ok_ix pz_S189 ⟨by decide, by decide⟩)) ?_
    refine pz_j1 [.inr (.inr (some 165))] 126 rfl rfl rfl rfl rfl ?_
    refine pz_j1 [.inr (.inr (some 189))] 129 rfl rfl rfl rfl (pz_a2 rfl pz_S165) ?_
    refine pz_j1 [.inl 5, .inr (.inr (some 189))] 130 rfl rfl rfl rfl rfl ?_
    refine pz_j1 [.inr (.inr (some 165)), .inl 5, .inr (.inr (some 189))] 131 rfl rfl rfl rfl rfl ?_
    refine pz_j1 [.inl (mi 165 29), .inl 5, .inr (.inr (some 189))] 134 rfl rfl rfl rfl (pz_a2 rfl pz_S165) ?_
    refine pz_j3 [] [(0, .inr (.inr (some 165))), (1, .inl a1), (2, .inl a2), (3, .inl a3), (5, .inl a5)] (pz_hp n0 (pz_up (pz_up mi 189 4 (mi 165 28)) 189 5 (mi 165 29)) ml mr c s) 135 rfl rfl rfl rfl (pz_a2 rfl (pz_ok_ix pz_S189 ⟨by decide, by decide⟩)) ?_
    refine pz_j1 [.inr (.inr (some 165))] 136 rfl rfl rfl rfl rfl ?_
    refine pz_j1 [.inr (.inr (some 189))] 139 rfl rfl rfl rfl (pz_a2 rfl pz_S165) ?_
    refine pz_j1 [.inl 6, .inr (.inr (some 189))] 141 rfl rfl rfl rfl rfl ?_
    refine pz_j1 [.inr (.inr (some 165)), .inl 6, .inr (.inr (some 189))] 142 rfl rfl rfl rfl rfl ?_
    refine pz_j1 [.inl (mi 165 24), .inl 6, .inr (.inr (some 189))] 145 rfl rfl rfl rfl (pz_a2 rfl pz_S165) ?_
    refine pz_j3 [] [(0, .inr (.inr (some 165))), (1, .inl a1), (2, .inl a2), (3, .inl a3), (5, .inl a5)] (pz_hp n0 (pz_up (pz_up (pz_up mi 189 4 (mi 165 28)) 189 5 (mi 165 29)) 189 6 (mi 165 24)) ml mr c s) 146 rfl rfl rfl rfl (pz_a2 rfl (pz_ok_ix pz_S189 ⟨by decide, by decide⟩)) ?_
    refine pz_j1 [.inr (.inr (some 165))] 147 rfl rfl rfl rfl rfl ?_
    refine pz_j1 [.inr (.inr (some 189))] 150 rfl rfl rfl rfl (pz_a2 rfl pz_S165) ?_
    refine pz_j1 [.inl 7, .inr (.inr (some 189))] 152 rfl rfl rfl rfl rfl ?_
    refine pz_j1 [.inl 7, .inr (.inr (some 189)), .inl 7, .inr (.inr (some 189))] 153 rfl rfl rfl rfl rfl ?_
    refine pz_j1 [.inl (mi 189 7), .inl 7, .inr (.inr (some 189))] 154 rfl rfl rfl rfl (pz_a2 rfl (pz_ok_ixs pz_S189 ⟨by decide, by decide⟩)) ?_
    refine pz_j1 [.inl 1, .inl (mi 189 7), .inl 7, .inr (.inr (some 189))] 155 rfl rfl rfl rfl rfl ?_
    obtain ⟨k2, K⟩ := K
    refine pz_j1 [.inl ((mi 189 7) + 1), .inl 7, .inr (.inr (some 189))] 156 rfl rfl rfl rfl (pz_ok_in k2) ?_
    refine pz_j3 [] [(0, .inr (.inr (some 165))), (1, .inl a1), (2, .inl a2), (3, .inl a3), (5, .inl a5)] (pz_hp n0 (pz_up (pz_up (pz_up (pz_up mi 189 4 (mi 165 28)) 189 5 (mi 165 29)) 189 6 (mi 165 24)) 189 7 ((mi 189 7) + 1)) ml mr c s) 157 rfl rfl rfl rfl (pz_a2 rfl (pz_ok_ix pz_S189 ⟨by decide, by decide⟩)) ?_
    refine pz_j1 [.inr (.inr (some 165))] 158 rfl rfl rfl rfl rfl ?_
    refine pz_j1 [.inl (mi 165 32)] 161 rfl rfl rfl rfl (pz_a2 rfl pz_S165) ?_
    refine pz_j1 [.inl (-1), .inl (mi 165 32)] 162 rfl rfl rfl rfl rfl ?_
    refine pz_j1 [] (bif pz_cp .eq (mi 165 32) (-1) then 169 else 165) rfl rfl rfl rfl rfl ?_
    refine pz_Rn_if pz_c1_eq pz_c0_eq ⟨fun b3 => ?_, fun b3 => ?_⟩
    · replace K := K.1 b3
      refine pz_j1 [.inl 0] 170 rfl rfl rfl rfl rfl ?_
      refine pz_j2 [] [(4, .inl 0), (0, .inr (.inr (some 165))), (1, .inl a1), (2, .inl a2), (3, .inl a3), (5, .inl a5)] 172 rfl rfl rfl rfl rfl ?_
      refine pz_j1 [.inl 0] 174 rfl rfl rfl rfl rfl ?_
      refine pz_j1 [] 185 rfl rfl rfl rfl rfl ?_
      refine pz_j1 [.inr (.inr (some 165))] 186 rfl rfl rfl rfl rfl ?_
      refine pz_j1 [.inl (mi 165 13)] 189 rfl rfl rfl rfl (pz_a2 rfl pz_S165) ?_
      refine pz_j1 [.inl (-1), .inl (mi 165 13)] 190 rfl rfl rfl rfl rfl ?_
      refine pz_j1 [] (bif pz_cp .ne (mi 165 13) (-1) then 45 else 193) rfl rfl rfl rfl rfl ?_
      refine pz_Rn_if pz_c1_ne pz_c0_ne ⟨fun b4 => ?_, fun b4 => ?_⟩
      · replace K := K.1 b4
        refine pz_Rn_sub (L := [(0, .inr (.inr (some 165))), (1, .inl a1), (2, .inl a2), (3, .inl a3), (4, .inl 0)]) [1, 2, 3, 4, 0] rfl rfl ?_
        exact K
      · replace K := K.2 b4
        refine pz_j1 [.inr (.inr (some 165))] 194 rfl rfl rfl rfl rfl ?_
        refine pz_j1 [.inl 2, .inr (.inr (some 165))] 195 rfl rfl rfl rfl rfl ?_
        refine pz_j3 [] [(4, .inl 0), (0, .inr (.inr (some 165))), (1, .inl a1), (2, .inl a2), (3, .inl a3), (5, .inl a5)] (pz_hp n0 (pz_up (pz_up (pz_up (pz_up (pz_up mi 189 4 (mi 165 28)) 189 5 (mi 165 29)) 189 6 (mi 165 24)) 189 7 ((mi 189 7) + 1)) 165 14 2) ml mr c s) 198 rfl rfl rfl rfl (pz_a2 rfl (pz_a2 pz_S165 (pz_a2 rfl rfl))) ?_
        refine pz_j1 [] 45 rfl rfl rfl rfl rfl ?_
        refine pz_Rn_sub (L := [(0, .inr (.inr (some 165))), (1, .inl a1), (2, .inl a2), (3, .inl a3), (4, .inl 0)]) [1, 2, 3, 4, 0] rfl rfl ?_
        exact K
    · replace K := K.2 b3
      refine pz_j1 [.inl 1] 166 rfl rfl rfl rfl rfl ?_
      refine pz_j1 [.inl 1] 170 rfl rfl rfl rfl rfl ?_
      refine pz_j2 [] [(4, .inl 1), (0, .inr (.inr (some 165))), (1, .inl a1), (2, .inl a2), (3, .inl a3), (5, .inl a5)] 172 rfl rfl rfl rfl rfl ?_
      refine pz_j1 [.inl 1] 174 rfl rfl rfl rfl rfl ?_
      refine pz_j1 [] 177 rfl rfl rfl rfl rfl ?_
      refine pz_j1 [.inr (.inr (some 165))] 178 rfl rfl rfl rfl rfl ?_
      refine pz_j1 [.inr (.inr (some 165)), .inr (.inr (some 165))] 179 rfl rfl rfl rfl rfl ?_
      refine pz_j1 [.inl (mi 165 32), .inr (.inr (some 165))] 182 rfl rfl rfl rfl (pz_a2 rfl pz_S165) ?_
      refine pz_Rn_sub (L := [(0, .inr (.inr (some 165))), (1, .inl a1), (2, .inl a2), (3, .inl a3), (4, .inl 1)]) [1, 2, 3, 4, 0] rfl rfl ?_
      exact pz_Rn_k (y := 139) rfl rfl rfl rfl rfl rfl rfl rfl (pz_cok_v rfl rfl pz_S165) K
  · replace K := K.2 b1
    refine pz_j1 [.inr (.inr (some 165))] 94 rfl rfl rfl rfl rfl ?_
    refine pz_j1 [.inr (.inr (some 189))] 97 rfl rfl rfl rfl (pz_a2 rfl pz_S165) ?_
    refine pz_j1 [.inl 1, .inr (.inr (some 189))] 98 rfl rfl rfl rfl rfl ?_
    refine pz_j1 [.inl a5, .inl 1, .inr (.inr (some 189))] 100 rfl rfl rfl rfl rfl ?_
    obtain ⟨k5, K⟩ := K
    refine pz_j1 [.inl (1 + a5), .inr (.inr (some 189))] 101 rfl rfl rfl rfl (pz_ok_in k5) ?_
    refine pz_j1 [.inr (.inr (some 165)), .inl (1 + a5), .inr (.inr (some 189))] 102 rfl rfl rfl rfl rfl ?_
    refine pz_j1 [.inr (.inr (some 190)), .inl (1 + a5), .inr (.inr (some 189))] 105 rfl rfl rfl rfl (pz_a2 rfl pz_S165) ?_
    refine pz_j1 [.inl a5, .inr (.inr (some 190)), .inl (1 + a5), .inr (.inr (some 189))] 107 rfl rfl rfl rfl rfl ?_
    obtain ⟨k6, K⟩ := K
    refine pz_j1 [.inl (mi 190 ((a5).toNat)), .inl (1 + a5), .inr (.inr (some 189))] 108 rfl rfl rfl rfl (pz_a2 rfl (pz_ok_ixs pz_S190 k6)) ?_
    obtain ⟨k7, K⟩ := K
    refine pz_j3 [] [(0, .inr (.inr (some 165))), (1, .inl a1), (2, .inl a2), (3, .inl a3), (5, .inl a5)] (pz_hp n0 (pz_up mi 189 ((1 + a5).toNat) (mi 190 ((a5).toNat))) ml mr c s) 109 rfl rfl rfl rfl (pz_a2 rfl (pz_ok_ix pz_S189 k7)) ?_
    obtain ⟨k8, K⟩ := K
    refine pz_j2 [] [(5, .inl (a5 + 1)), (0, .inr (.inr (some 165))), (1, .inl a1), (2, .inl a2), (3, .inl a3)] 112 rfl rfl rfl rfl (pz_a2 (pz_ok_in k8) rfl) ?_
    refine pz_j1 [] 87 rfl rfl rfl rfl rfl ?_
    refine pz_Rn_sub (L := [(0, .inr (.inr (some 165))), (1, .inl a1), (2, .inl a2), (3, .inl a3), (5, .inl (a5 + 1))]) [1, 2, 3, 4, 0] rfl rfl ?_
    exact K
theorem pz_g141_185 {a1 : Int} {a2 : Int} {a3 : Int} {a4 : Int}  (K : ((mi 165 13 ≠ (-1) → pz_Rn (d + 1) 141 (45, [], [(0, .inr (.inr (some 165))), (1, .inl a1), (2, .inl a2), (3, .inl a3), (4, .inl a4)], pz_hp n0 mi ml mr c s, true) Q) ∧ (mi 165 13 = (-1) → pz_Rn (d + 1) 141 (45, [], [(0, .inr (.inr (some 165))), (1, .inl a1), (2, .inl a2), (3, .inl a3), (4, .inl a4)], pz_hp n0 (pz_up mi 165 14 2) ml mr c s, true) Q))) : pz_Rn (d + 1) 141 (185, [], [(0, .inr (.inr (some 165))), (1, .inl a1), (2, .inl a2), (3, .inl a3), (4, .inl a4)], pz_hp n0 mi ml mr c s, true) Q := by
  refine pz_j1 [.inr (.inr (some 165))] 186 rfl rfl rfl rfl rfl ?_
  refine pz_j1 [.inl (mi 165 13)] 189 rfl rfl rfl rfl (pz_a2 rfl pz_S165) ?_
  refine pz_j1 [.inl (-1), .inl (mi 165 13)] 190 rfl rfl rfl rfl rfl ?_
  refine pz_j1 [] (bif pz_cp .ne (mi 165 13) (-1) then 45 else 193) rfl rfl rfl rfl rfl ?_
  refine pz_Rn_if pz_c1_ne pz_c0_ne ⟨fun b1 => ?_, fun b1 => ?_⟩
  · replace K := K.1 b1
    exact K
  · replace K := K.2 b1
    refine pz_j1 [.inr (.inr (some 165))] 194 rfl rfl rfl rfl rfl ?_
    refine pz_j1 [.inl 2, .inr (.inr (some 165))] 195 rfl rfl rfl rfl rfl ?_
    refine pz_j3 [] [(0, .inr (.inr (some 165))), (1, .inl a1), (2, .inl a2), (3, .inl a3), (4, .inl a4)] (pz_hp n0 (pz_up mi 165 14 2) ml mr c s) 198 rfl rfl rfl rfl (pz_a2 rfl (pz_a2 pz_S165 (pz_a2 rfl rfl))) ?_
    refine pz_j1 [] 45 rfl rfl rfl rfl rfl ?_
    exact K
-- 143 RelationStreamModel.status()I
theorem pz_g143_0   (K : Q (.inl (some (.inl (mi 165 14)))) (pz_hp n0 (pz_up mi 165 0 0) ml mr c s)) : pz_Rn d 143 (0, [], [(0, .inr (.inr (some 165)))], pz_hp n0 mi ml mr c s, true) Q := by
  refine pz_j1 [.inr (.inr (some 165))] 1 rfl rfl rfl rfl rfl ?_
  refine pz_j1 [.inl 0, .inr (.inr (some 165))] 2 rfl rfl rfl rfl rfl ?_
  refine pz_j3 [] [(0, .inr (.inr (some 165)))] (pz_hp n0 (pz_up mi 165 0 0) ml mr c s) 5 rfl rfl rfl rfl (pz_a2 rfl (pz_a2 pz_S165 (pz_a2 rfl rfl))) ?_
  refine pz_j1 [.inr (.inr (some 165))] 6 rfl rfl rfl rfl rfl ?_
  refine pz_j1 [.inl (mi 165 14)] 9 rfl rfl rfl rfl (pz_a2 rfl pz_S165) ?_
  exact pz_Rn_ret rfl rfl rfl rfl K
-- 144 RelationStreamModel.fail(I)I
theorem pz_g144_0 {a1 : Int}  (K : Q (.inl (some (.inl 0))) (pz_hp n0 (pz_up mi 165 0 a1) ml mr c s)) : pz_Rn d 144 (0, [], [(0, .inr (.inr (some 165))), (1, .inl a1)], pz_hp n0 mi ml mr c s, true) Q := by
  refine pz_j1 [.inr (.inr (some 165))] 1 rfl rfl rfl rfl rfl ?_
  refine pz_j1 [.inl a1, .inr (.inr (some 165))] 2 rfl rfl rfl rfl rfl ?_
  refine pz_j3 [] [(0, .inr (.inr (some 165))), (1, .inl a1)] (pz_hp n0 (pz_up mi 165 0 a1) ml mr c s) 5 rfl rfl rfl rfl (pz_a2 rfl (pz_a2 pz_S165 (pz_a2 rfl rfl))) ?_
  refine pz_j1 [.inl 0] 6 rfl rfl rfl rfl rfl ?_
  exact pz_Rn_ret rfl rfl rfl rfl K
-- 145 RelationStreamModel.count(I)I
theorem pz_g145_0 {a1 : Int}  (K : ((a1 < 0 → pz_Rn d 144 (0, [], [(0, .inr (.inr (some 165))), (1, .inl 1)], pz_hp n0 (pz_up mi 165 0 0) ml mr c s, true) (pz_K (d + 1) 145 17 [] [] Q true)) ∧ (0 ≤ a1 → ((a1 ≤ 7 → (0 ≤ a1 ∧ a1 < 8) ∧ Q (.inl (some (.inl (mi 189 ((a1).toNat))))) (pz_hp n0 (pz_up mi 165 0 0) ml mr c s)) ∧ (7 < a1 → pz_Rn d 144 (0, [], [(0, .inr (.inr (some 165))), (1, .inl 1)], pz_hp n0 (pz_up mi 165 0 0) ml mr c s, true) (pz_K (d + 1) 145 17 [] [] Q true)))))) : pz_Rn (d + 1) 145 (0, [], [(0, .inr (.inr (some 165))), (1, .inl a1)], pz_hp n0 mi ml mr c s, true) Q := by
  refine pz_j1 [.inr (.inr (some 165))] 1 rfl rfl rfl rfl rfl ?_
  refine pz_j1 [.inl 0, .inr (.inr (some 165))] 2 rfl rfl rfl rfl rfl ?_
  refine pz_j3 [] [(0, .inr (.inr (some 165))), (1, .inl a1)] (pz_hp n0 (pz_up mi 165 0 0) ml mr c s) 5 rfl rfl rfl rfl (pz_a2 rfl (pz_a2 pz_S165 (pz_a2 rfl rfl))) ?_
  refine pz_j1 [.inl a1] 6 rfl rfl rfl rfl rfl ?_
  refine pz_j1 [] (bif pz_cp .lt a1 0 then 15 else 9) rfl rfl rfl rfl rfl ?_
  refine pz_Rn_if pz_c1_lt pz_c0_lt ⟨fun b1 => ?_, fun b1 => ?_⟩
  · replace K := K.1 b1
    refine pz_j1 [.inr (.inr (some 165))] 16 rfl rfl rfl rfl rfl ?_
    refine pz_j1 [.inl 1, .inr (.inr (some 165))] 17 rfl rfl rfl rfl rfl ?_
    refine pz_Rn_sub (L := []) [] rfl rfl ?_
    exact pz_Rn_k (y := 143) rfl rfl rfl rfl rfl rfl rfl rfl (pz_cok_v rfl rfl pz_S165) K
  · replace K := K.2 b1
    refine pz_j1 [.inl a1] 10 rfl rfl rfl rfl rfl ?_
    refine pz_j1 [.inl 7, .inl a1] 12 rfl rfl rfl rfl rfl ?_
    refine pz_j1 [] (bif pz_cp .le a1 7 then 23 else 15) rfl rfl rfl rfl rfl ?_
    refine pz_Rn_if pz_c1_le pz_c0_le ⟨fun b2 => ?_, fun b2 => ?_⟩
    · replace K := K.1 b2
      refine pz_j1 [.inr (.inr (some 165))] 24 rfl rfl rfl rfl rfl ?_
      refine pz_j1 [.inr (.inr (some 189))] 27 rfl rfl rfl rfl (pz_a2 rfl pz_S165) ?_
      refine pz_j1 [.inl a1, .inr (.inr (some 189))] 28 rfl rfl rfl rfl rfl ?_
      obtain ⟨k3, K⟩ := K
      refine pz_j1 [.inl (mi 189 ((a1).toNat))] 29 rfl rfl rfl rfl (pz_a2 rfl (pz_ok_ixs pz_S189 k3)) ?_
      exact pz_Rn_ret rfl rfl rfl rfl K
    · replace K := K.2 b2
      refine pz_j1 [.inr (.inr (some 165))] 16 rfl rfl rfl rfl rfl ?_
      refine pz_j1 [.inl 1, .inr (.inr (some 165))] 17 rfl rfl rfl rfl rfl ?_
      refine pz_Rn_sub (L := []) [] rfl rfl ?_
      exact pz_Rn_k (y := 143) rfl rfl rfl rfl rfl rfl rfl rfl (pz_cok_v rfl rfl pz_S165) K
theorem pz_g145_20 {t0 : Int}  (K : Q (.inl (some (.inl t0))) (pz_hp n0 mi ml mr c s)) : pz_Rn (d + 1) 145 (20, [.inl t0], [], pz_hp n0 mi ml mr c s, true) Q := by
  refine pz_j1 [.inl t0] 29 rfl rfl rfl rfl rfl ?_
  exact pz_Rn_ret rfl rfl rfl rfl K
-- 146 RelationStreamModel.text(III)I
theorem pz_g146_0 {a1 : Int} {a2 : Int} {a3 : Int}  (K : ((a1 < 0 → pz_Rn d 144 (0, [], [(0, .inr (.inr (some 165))), (1, .inl 1)], pz_hp n0 (pz_up mi 165 0 0) ml mr c s, true) (pz_K (d + 1) 146 31 [] [] Q true)) ∧ (0 ≤ a1 → ((mi 189 0 ≤ a1 → pz_Rn d 144 (0, [], [(0, .inr (.inr (some 165))), (1, .inl 1)], pz_hp n0 (pz_up mi 165 0 0) ml mr c s, true) (pz_K (d + 1) 146 31 [] [] Q true)) ∧ (a1 < mi 189 0 → ((a2 < 0 → pz_Rn d 144 (0, [], [(0, .inr (.inr (some 165))), (1, .inl 1)], pz_hp n0 (pz_up mi 165 0 0) ml mr c s, true) (pz_K (d + 1) 146 31 [] [] Q true)) ∧ (0 ≤ a2 → ((a2 ≤ 6 → (-2147483648 ≤ 7 * a1 ∧ 7 * a1 ≤ 2147483647) ∧ (-2147483648 ≤ (7 * a1) + a2 ∧ (7 * a1) + a2 ≤ 2147483647) ∧ ∀ x7 : Int, x7 = (7 * a1) + a2 → ((a3 < 0 → Q (.inl (some (.inl (-1)))) (pz_hp n0 (pz_up mi 165 0 0) ml mr c s)) ∧ (0 ≤ a3 → (0 ≤ x7 ∧ x7 < 140) ∧ ((a3 < mi 192 ((x7).toNat) → (-2147483648 ≤ 14 * x7 ∧ 14 * x7 ≤ 2147483647) ∧ 0 ≤ a3 ∧ (-2147483648 ≤ (14 * x7) + (a3 / 3) ∧ (14 * x7) + (a3 / 3) ≤ 2147483647) ∧ (0 ≤ (14 * x7) + (a3 / 3) ∧ (14 * x7) + (a3 / 3) < 1960) ∧ 0 ≤ a3 ∧ (-2147483648 ≤ 10 * (a3 % 3) ∧ 10 * (a3 % 3) ≤ 2147483647) ∧ Q (.inl (some (.inl (pz_i32 (fun x y => x &&& y) (pz_i32 (fun x y => x >>> (y &&& 31)) (mi 191 (((14 * x7) + (a3 / 3)).toNat)) (10 * (a3 % 3))) 1023)))) (pz_hp n0 (pz_up mi 165 0 0) ml mr c s)) ∧ (mi 192 ((x7).toNat) ≤ a3 → Q (.inl (some (.inl (-1)))) (pz_hp n0 (pz_up mi 165 0 0) ml mr c s)))))) ∧ (6 < a2 → pz_Rn d 144 (0, [], [(0, .inr (.inr (some 165))), (1, .inl 1)], pz_hp n0 (pz_up mi 165 0 0) ml mr c s, true) (pz_K (d + 1) 146 31 [] [] Q true)))))))))) : pz_Rn (d + 1) 146 (0, [], [(0, .inr (.inr (some 165))), (1, .inl a1), (2, .inl a2), (3, .inl a3)], pz_hp n0 mi ml mr c s, true) Q := by
  refine pz_j1 [.inr (.inr (some 165))] 1 rfl rfl rfl rfl rfl ?_
  refine pz_j1 [.inl 0, .inr (.inr (some 165))] 2 rfl rfl rfl rfl rfl ?_
  refine pz_j3 [] [(0, .inr (.inr (some 165))), (1, .inl a1), (2, .inl a2), (3, .inl a3)] (pz_hp n0 (pz_up mi 165 0 0) ml mr c s) 5 rfl rfl rfl rfl (pz_a2 rfl (pz_a2 pz_S165 (pz_a2 rfl rfl))) ?_
  refine pz_j1 [.inl a1] 6 rfl rfl rfl rfl rfl ?_
  refine pz_j1 [] (bif pz_cp .lt a1 0 then 29 else 9) rfl rfl rfl rfl rfl ?_
  refine pz_Rn_if pz_c1_lt pz_c0_lt ⟨fun b1 => ?_, fun b1 => ?_⟩
  · replace K := K.1 b1
    refine pz_j1 [.inr (.inr (some 165))] 30 rfl rfl rfl rfl rfl ?_
    refine pz_j1 [.inl 1, .inr (.inr (some 165))] 31 rfl rfl rfl rfl rfl ?_
    refine pz_Rn_sub (L := []) [] rfl rfl ?_
    exact pz_Rn_k (y := 143) rfl rfl rfl rfl rfl rfl rfl rfl (pz_cok_v rfl rfl pz_S165) K
  · replace K := K.2 b1
    refine pz_j1 [.inl a1] 10 rfl rfl rfl rfl rfl ?_
    refine pz_j1 [.inr (.inr (some 165)), .inl a1] 11 rfl rfl rfl rfl rfl ?_
    refine pz_j1 [.inr (.inr (some 189)), .inl a1] 14 rfl rfl rfl rfl (pz_a2 rfl pz_S165) ?_
    refine pz_j1 [.inl 0, .inr (.inr (some 189)), .inl a1] 15 rfl rfl rfl rfl rfl ?_
    refine pz_j1 [.inl (mi 189 0), .inl a1] 16 rfl rfl rfl rfl (pz_a2 rfl (pz_ok_ixs pz_S189 ⟨by decide, by decide⟩)) ?_
    refine pz_j1 [] (bif pz_cp .ge a1 (mi 189 0) then 29 else 19) rfl rfl rfl rfl rfl ?_
    refine pz_Rn_if pz_c1_ge pz_c0_ge ⟨fun b2 => ?_, fun b2 => ?_⟩
    · replace K := K.1 b2
      refine pz_j1 [.inr (.inr (some 165))] 30 rfl rfl rfl rfl rfl ?_
      refine pz_j1 [.inl 1, .inr (.inr (some 165))] 31 rfl rfl rfl rfl rfl ?_
      refine pz_Rn_sub (L := []) [] rfl rfl ?_
      exact pz_Rn_k (y := 143) rfl rfl rfl rfl rfl rfl rfl rfl (pz_cok_v rfl rfl pz_S165) K
    · replace K := K.2 b2
      refine pz_j1 [.inl a2] 20 rfl rfl rfl rfl rfl ?_
      refine pz_j1 [] (bif pz_cp .lt a2 0 then 29 else 23) rfl rfl rfl rfl rfl ?_
      refine pz_Rn_if pz_c1_lt pz_c0_lt ⟨fun b3 => ?_, fun b3 => ?_⟩
      · replace K := K.1 b3
        refine pz_j1 [.inr (.inr (some 165))] 30 rfl rfl rfl rfl rfl ?_
        refine pz_j1 [.inl 1, .inr (.inr (some 165))] 31 rfl rfl rfl rfl rfl ?_
        refine pz_Rn_sub (L := []) [] rfl rfl ?_
        exact pz_Rn_k (y := 143) rfl rfl rfl rfl rfl rfl rfl rfl (pz_cok_v rfl rfl pz_S165) K
      · replace K := K.2 b3
        refine pz_j1 [.inl a2] 24 rfl rfl rfl rfl rfl ?_
        refine pz_j1 [.inl 6, .inl a2] 26 rfl rfl rfl rfl rfl ?_
        refine pz_j1 [] (bif pz_cp .le a2 6 then 35 else 29) rfl rfl rfl rfl rfl ?_
        refine pz_Rn_if pz_c1_le pz_c0_le ⟨fun b4 => ?_, fun b4 => ?_⟩
        · replace K := K.1 b4
          refine pz_j1 [.inl 7] 37 rfl rfl rfl rfl rfl ?_
          refine pz_j1 [.inl a1, .inl 7] 38 rfl rfl rfl rfl rfl ?_
          obtain ⟨k5, K⟩ := K
          refine pz_j1 [.inl (7 * a1)] 39 rfl rfl rfl rfl (pz_ok_in k5) ?_
          refine pz_j1 [.inl a2, .inl (7 * a1)] 40 rfl rfl rfl rfl rfl ?_
          obtain ⟨k6, K⟩ := K
          refine pz_j1 [.inl ((7 * a1) + a2)] 41 rfl rfl rfl rfl (pz_ok_in k6) ?_
          obtain ⟨x7, hx7⟩ : ∃ x : Int, x = (7 * a1) + a2 := ⟨_, rfl⟩
          rewrite [← hx7]
          replace K := K x7 hx7
          refine pz_j2 [] [(4, .inl x7), (0, .inr (.inr (some 165))), (1, .inl a1), (2, .inl a2), (3, .inl a3)] 43 rfl rfl rfl rfl rfl ?_
          refine pz_j1 [.inl a3] 44 rfl rfl rfl rfl rfl ?_
          refine pz_j1 [] (bif pz_cp .lt a3 0 then 58 else 47) rfl rfl rfl rfl rfl ?_
          refine pz_Rn_if pz_c1_lt pz_c0_lt ⟨fun b8 => ?_, fun b8 => ?_⟩
          · replace K := K.1 b8
            refine pz_j1 [.inl (-1)] 59 rfl rfl rfl rfl rfl ?_
            refine pz_j1 [.inl (-1)] 87 rfl rfl rfl rfl rfl ?_
            exact pz_Rn_ret rfl rfl rfl rfl K
          · replace K := K.2 b8
            refine pz_j1 [.inl a3] 48 rfl rfl rfl rfl rfl ?_
            refine pz_j1 [.inr (.inr (some 165)), .inl a3] 49 rfl rfl rfl rfl rfl ?_
            refine pz_j1 [.inr (.inr (some 192)), .inl a3] 52 rfl rfl rfl rfl (pz_a2 rfl pz_S165) ?_
            refine pz_j1 [.inl x7, .inr (.inr (some 192)), .inl a3] 54 rfl rfl rfl rfl rfl ?_
            obtain ⟨k9, K⟩ := K
            refine pz_j1 [.inl (mi 192 ((x7).toNat)), .inl a3] 55 rfl rfl rfl rfl (pz_a2 rfl (pz_ok_ixs pz_S192 k9)) ?_
            refine pz_j1 [] (bif pz_cp .lt a3 (mi 192 ((x7).toNat)) then 62 else 58) rfl rfl rfl rfl rfl ?_
            refine pz_Rn_if pz_c1_lt pz_c0_lt ⟨fun b10 => ?_, fun b10 => ?_⟩
            · replace K := K.1 b10
              refine pz_j1 [.inr (.inr (some 165))] 63 rfl rfl rfl rfl rfl ?_
              refine pz_j1 [.inr (.inr (some 191))] 66 rfl rfl rfl rfl (pz_a2 rfl pz_S165) ?_
              refine pz_j1 [.inl 14, .inr (.inr (some 191))] 68 rfl rfl rfl rfl rfl ?_
              refine pz_j1 [.inl x7, .inl 14, .inr (.inr (some 191))] 70 rfl rfl rfl rfl rfl ?_
              obtain ⟨k11, K⟩ := K
              refine pz_j1 [.inl (14 * x7), .inr (.inr (some 191))] 71 rfl rfl rfl rfl (pz_ok_in k11) ?_
              refine pz_j1 [.inl a3, .inl (14 * x7), .inr (.inr (some 191))] 72 rfl rfl rfl rfl rfl ?_
              refine pz_j1 [.inl 3, .inl a3, .inl (14 * x7), .inr (.inr (some 191))] 73 rfl rfl rfl rfl rfl ?_
              obtain ⟨k12, K⟩ := K
              refine pz_j1 [.inl (a3 / 3), .inl (14 * x7), .inr (.inr (some 191))] 74 rfl rfl rfl rfl (pz_ok_dv ⟨k12, by decide⟩) ?_
              obtain ⟨k13, K⟩ := K
              refine pz_j1 [.inl ((14 * x7) + (a3 / 3)), .inr (.inr (some 191))] 75 rfl rfl rfl rfl (pz_ok_in k13) ?_
              obtain ⟨k14, K⟩ := K
              refine pz_j1 [.inl (mi 191 (((14 * x7) + (a3 / 3)).toNat))] 76 rfl rfl rfl rfl (pz_a2 rfl (pz_ok_ixs pz_S191 k14)) ?_
              refine pz_j1 [.inl 10, .inl (mi 191 (((14 * x7) + (a3 / 3)).toNat))] 78 rfl rfl rfl rfl rfl ?_
              refine pz_j1 [.inl a3, .inl 10, .inl (mi 191 (((14 * x7) + (a3 / 3)).toNat))] 79 rfl rfl rfl rfl rfl ?_
              refine pz_j1 [.inl 3, .inl a3, .inl 10, .inl (mi 191 (((14 * x7) + (a3 / 3)).toNat))] 80 rfl rfl rfl rfl rfl ?_
              obtain ⟨k15, K⟩ := K
              refine pz_j1 [.inl (a3 % 3), .inl 10, .inl (mi 191 (((14 * x7) + (a3 / 3)).toNat))] 81 rfl rfl rfl rfl (pz_ok_dv ⟨k15, by decide⟩) ?_
              obtain ⟨k16, K⟩ := K
              refine pz_j1 [.inl (10 * (a3 % 3)), .inl (mi 191 (((14 * x7) + (a3 / 3)).toNat))] 82 rfl rfl rfl rfl (pz_ok_in k16) ?_
              refine pz_j1 [.inl (pz_i32 (fun x y => x >>> (y &&& 31)) (mi 191 (((14 * x7) + (a3 / 3)).toNat)) (10 * (a3 % 3)))] 83 rfl rfl rfl rfl rfl ?_
              refine pz_j1 [.inl 1023, .inl (pz_i32 (fun x y => x >>> (y &&& 31)) (mi 191 (((14 * x7) + (a3 / 3)).toNat)) (10 * (a3 % 3)))] 86 rfl rfl rfl rfl rfl ?_
              refine pz_j1 [.inl (pz_i32 (fun x y => x &&& y) (pz_i32 (fun x y => x >>> (y &&& 31)) (mi 191 (((14 * x7) + (a3 / 3)).toNat)) (10 * (a3 % 3))) 1023)] 87 rfl rfl rfl rfl rfl ?_
              exact pz_Rn_ret rfl rfl rfl rfl K
            · replace K := K.2 b10
              refine pz_j1 [.inl (-1)] 59 rfl rfl rfl rfl rfl ?_
              refine pz_j1 [.inl (-1)] 87 rfl rfl rfl rfl rfl ?_
              exact pz_Rn_ret rfl rfl rfl rfl K
        · replace K := K.2 b4
          refine pz_j1 [.inr (.inr (some 165))] 30 rfl rfl rfl rfl rfl ?_
          refine pz_j1 [.inl 1, .inr (.inr (some 165))] 31 rfl rfl rfl rfl rfl ?_
          refine pz_Rn_sub (L := []) [] rfl rfl ?_
          exact pz_Rn_k (y := 143) rfl rfl rfl rfl rfl rfl rfl rfl (pz_cok_v rfl rfl pz_S165) K
theorem pz_g146_34 {t0 : Int}  (K : Q (.inl (some (.inl t0))) (pz_hp n0 mi ml mr c s)) : pz_Rn (d + 1) 146 (34, [.inl t0], [], pz_hp n0 mi ml mr c s, true) Q := by
  exact pz_Rn_ret rfl rfl rfl rfl K
-- 147 RelationStreamModel.conditions(I)I
theorem pz_g147_0 {a1 : Int}  (K : ((a1 < 0 → pz_Rn d 144 (0, [], [(0, .inr (.inr (some 165))), (1, .inl 1)], pz_hp n0 (pz_up mi 165 0 0) ml mr c s, true) (pz_K (d + 1) 147 21 [] [] Q true)) ∧ (0 ≤ a1 → ((a1 < mi 189 0 → (0 ≤ a1 ∧ a1 < 20) ∧ Q (.inl (some (.inl (mi 193 ((a1).toNat))))) (pz_hp n0 (pz_up mi 165 0 0) ml mr c s)) ∧ (mi 189 0 ≤ a1 → pz_Rn d 144 (0, [], [(0, .inr (.inr (some 165))), (1, .inl 1)], pz_hp n0 (pz_up mi 165 0 0) ml mr c s, true) (pz_K (d + 1) 147 21 [] [] Q true)))))) : pz_Rn (d + 1) 147 (0, [], [(0, .inr (.inr (some 165))), (1, .inl a1)], pz_hp n0 mi ml mr c s, true) Q := by
  refine pz_j1 [.inr (.inr (some 165))] 1 rfl rfl rfl rfl rfl ?_
  refine pz_j1 [.inl 0, .inr (.inr (some 165))] 2 rfl rfl rfl rfl rfl ?_
  refine pz_j3 [] [(0, .inr (.inr (some 165))), (1, .inl a1)] (pz_hp n0 (pz_up mi 165 0 0) ml mr c s) 5 rfl rfl rfl rfl (pz_a2 rfl (pz_a2 pz_S165 (pz_a2 rfl rfl))) ?_
  refine pz_j1 [.inl a1] 6 rfl rfl rfl rfl rfl ?_
  refine pz_j1 [] (bif pz_cp .lt a1 0 then 19 else 9) rfl rfl rfl rfl rfl ?_
  refine pz_Rn_if pz_c1_lt pz_c0_lt ⟨fun b1 => ?_, fun b1 => ?_⟩
  · replace K := K.1 b1
    refine pz_j1 [.inr (.inr (some 165))] 20 rfl rfl rfl rfl rfl ?_
    refine pz_j1 [.inl 1, .inr (.inr (some 165))] 21 rfl rfl rfl rfl rfl ?_
    refine pz_Rn_sub (L := []) [] rfl rfl ?_
    exact pz_Rn_k (y := 143) rfl rfl rfl rfl rfl rfl rfl rfl (pz_cok_v rfl rfl pz_S165) K
  · replace K := K.2 b1
    refine pz_j1 [.inl a1] 10 rfl rfl rfl rfl rfl ?_
    refine pz_j1 [.inr (.inr (some 165)), .inl a1] 11 rfl rfl rfl rfl rfl ?_
    refine pz_j1 [.inr (.inr (some 189)), .inl a1] 14 rfl rfl rfl rfl (pz_a2 rfl pz_S165) ?_
    refine pz_j1 [.inl 0, .inr (.inr (some 189)), .inl a1] 15 rfl rfl rfl rfl rfl ?_
    refine pz_j1 [.inl (mi 189 0), .inl a1] 16 rfl rfl rfl rfl (pz_a2 rfl (pz_ok_ixs pz_S189 ⟨by decide, by decide⟩)) ?_
    refine pz_j1 [] (bif pz_cp .lt a1 (mi 189 0) then 27 else 19) rfl rfl rfl rfl rfl ?_
    refine pz_Rn_if pz_c1_lt pz_c0_lt ⟨fun b2 => ?_, fun b2 => ?_⟩
    · replace K := K.1 b2
      refine pz_j1 [.inr (.inr (some 165))] 28 rfl rfl rfl rfl rfl ?_
      refine pz_j1 [.inr (.inr (some 193))] 31 rfl rfl rfl rfl (pz_a2 rfl pz_S165) ?_
      refine pz_j1 [.inl a1, .inr (.inr (some 193))] 32 rfl rfl rfl rfl rfl ?_
      obtain ⟨k3, K⟩ := K
      refine pz_j1 [.inl (mi 193 ((a1).toNat))] 33 rfl rfl rfl rfl (pz_a2 rfl (pz_ok_ixs pz_S193 k3)) ?_
      exact pz_Rn_ret rfl rfl rfl rfl K
    · replace K := K.2 b2
      refine pz_j1 [.inr (.inr (some 165))] 20 rfl rfl rfl rfl rfl ?_
      refine pz_j1 [.inl 1, .inr (.inr (some 165))] 21 rfl rfl rfl rfl rfl ?_
      refine pz_Rn_sub (L := []) [] rfl rfl ?_
      exact pz_Rn_k (y := 143) rfl rfl rfl rfl rfl rfl rfl rfl (pz_cok_v rfl rfl pz_S165) K
theorem pz_g147_24 {t0 : Int}  (K : Q (.inl (some (.inl t0))) (pz_hp n0 mi ml mr c s)) : pz_Rn (d + 1) 147 (24, [.inl t0], [], pz_hp n0 mi ml mr c s, true) Q := by
  refine pz_j1 [.inl t0] 33 rfl rfl rfl rfl rfl ?_
  exact pz_Rn_ret rfl rfl rfl rfl K
end pzgf
