/-! The law up to its loop, and the heap that the loop begins with (wip/whole/gen/ctor.py). -/
def pz_I0 : List (Nat × Option (Nat × Int)) := (195, none) :: (174, some (3, (-1))) :: (174, some (2, (-1))) :: (174, some (1, (-1))) :: (174, some (0, (-1))) :: (194, none) :: (193, none) :: (192, none) :: (191, none) :: (190, none) :: (189, none) :: (188, none) :: (187, none) :: (186, none) :: (185, none) :: (184, none) :: (183, none) :: (182, none) :: (181, none) :: (180, none) :: (179, none) :: (178, none) :: (177, none) :: (176, none) :: (175, none) :: (174, some (3, 0)) :: (174, some (2, 0)) :: (174, some (1, 0)) :: (174, some (0, 0)) :: (174, none) :: (173, none) :: (172, none) :: (171, none) :: (170, none) :: (169, none) :: (168, none) :: (167, none) :: (166, none) :: (165, none) :: (159, some (8, 0)) :: (159, some (7, 20)) :: (164, none) :: (163, none) :: (162, none) :: (161, none) :: (160, none) :: (159, none) :: (155, some (5, 0)) :: (158, none) :: (157, none) :: (156, none) :: (155, none) :: (150, some (6, (-1))) :: (150, some (5, 0)) :: (154, none) :: (153, none) :: (152, none) :: (151, none) :: (150, none) :: (13, some (14, 0)) :: (13, some (13, 0)) :: (13, some (12, 0)) :: (13, some (11, 0)) :: (149, some (0, (-1))) :: (149, none) :: (148, none) :: (147, none) :: (146, none) :: (145, none) :: (pz_nWI 64) ++ (16, none) :: (15, none) :: (14, none) :: (13, none) :: (12, some (3, (-1))) :: (12, some (2, (-1))) :: (12, some (1, (-1))) :: (12, some (0, (-1))) :: (6, some (6, 0)) :: (12, none) :: (11, none) :: (10, none) :: (9, none) :: (8, none) :: (7, none) :: (6, none) :: (3, some (40, 1)) :: (2, some (3, 0)) :: (5, none) :: (4, none) :: (3, none) :: (2, none) :: (1, none) :: []
def pz_L0 : List (Nat × Option (Nat × Int64)) := (195, none) :: (194, none) :: (193, none) :: (192, none) :: (191, none) :: (190, none) :: (189, none) :: (188, none) :: (187, none) :: (186, none) :: (185, none) :: (184, none) :: (183, none) :: (182, none) :: (181, none) :: (180, none) :: (179, none) :: (178, none) :: (177, none) :: (176, none) :: (175, none) :: (174, none) :: (173, none) :: (172, none) :: (171, none) :: (170, none) :: (169, none) :: (168, none) :: (167, none) :: (166, none) :: (165, none) :: (164, none) :: (163, none) :: (162, none) :: (161, none) :: (160, none) :: (159, none) :: (158, none) :: (157, none) :: (156, none) :: (155, none) :: (154, none) :: (153, none) :: (152, none) :: (151, none) :: (150, none) :: (149, some (2, Int64.ofNat 0)) :: (149, some (1, Int64.ofNat 0)) :: (149, none) :: (148, none) :: (147, none) :: (146, none) :: (145, none) :: (pz_nWL 64) ++ (16, none) :: (15, none) :: (14, none) :: (13, none) :: (12, none) :: (11, none) :: (10, none) :: (9, none) :: (8, none) :: (7, none) :: (6, none) :: (5, none) :: (4, none) :: (3, none) :: (2, none) :: (1, none) :: []
def pz_R0 : List (Nat × Option (Nat × Option Nat)) := (195, none) :: (165, some (43, some 194)) :: (194, none) :: (165, some (42, some 193)) :: (193, none) :: (165, some (41, some 192)) :: (192, none) :: (165, some (40, some 191)) :: (191, none) :: (165, some (39, some 190)) :: (190, none) :: (165, some (38, some 189)) :: (189, none) :: (165, some (37, some 188)) :: (188, none) :: (165, some (36, some 187)) :: (187, none) :: (165, some (34, some 186)) :: (186, none) :: (165, some (26, some 185)) :: (185, none) :: (165, some (25, some 184)) :: (184, none) :: (165, some (23, some 183)) :: (183, none) :: (165, some (22, some 182)) :: (182, none) :: (165, some (21, some 181)) :: (181, none) :: (165, some (20, some 180)) :: (180, none) :: (165, some (19, some 179)) :: (179, none) :: (165, some (18, some 178)) :: (178, none) :: (165, some (17, some 177)) :: (177, none) :: (165, some (16, some 176)) :: (176, none) :: (165, some (15, some 175)) :: (175, none) :: (165, some (11, some 174)) :: (174, none) :: (165, some (10, some 173)) :: (173, none) :: (165, some (9, some 172)) :: (172, none) :: (165, some (8, some 171)) :: (171, none) :: (165, some (7, some 170)) :: (170, none) :: (165, some (6, some 169)) :: (169, none) :: (165, some (4, some 168)) :: (168, none) :: (165, some (3, some 167)) :: (167, none) :: (165, some (2, some 166)) :: (166, none) :: (165, none) :: (1, some (2, some 13)) :: (13, some (3, some 159)) :: (159, some (1, some 150)) :: (159, some (0, some 2)) :: (159, some (6, some 164)) :: (164, none) :: (159, some (5, some 163)) :: (163, none) :: (159, some (4, some 162)) :: (162, none) :: (159, some (3, some 161)) :: (161, none) :: (159, some (2, some 160)) :: (160, none) :: (159, none) :: (13, some (2, some 155)) :: (155, some (1, some 150)) :: (155, some (0, some 2)) :: (155, some (4, some 158)) :: (158, none) :: (155, some (3, some 157)) :: (157, none) :: (155, some (2, some 156)) :: (156, none) :: (155, none) :: (13, some (1, some 150)) :: (150, some (0, some 2)) :: (150, some (4, some 154)) :: (154, none) :: (150, some (3, some 153)) :: (153, none) :: (150, some (2, some 152)) :: (152, none) :: (150, some (1, some 151)) :: (151, none) :: (150, none) :: (13, some (0, some 6)) :: (13, some (10, none)) :: (13, some (9, some 149)) :: (149, none) :: (13, some (8, some 148)) :: (148, none) :: (13, some (7, some 147)) :: (147, none) :: (13, some (6, some 146)) :: (146, none) :: (13, some (5, some 145)) :: (145, none) :: (13, some (4, some 14)) :: (pz_nWR 64) ++ (14, some (3, none)) :: (14, some (2, none)) :: (14, some (1, some 16)) :: (16, none) :: (14, some (0, some 15)) :: (15, none) :: (14, none) :: (13, none) :: (1, some (1, some 6)) :: (6, some (5, some 12)) :: (12, none) :: (6, some (4, some 11)) :: (11, none) :: (6, some (3, some 10)) :: (10, none) :: (6, some (2, some 9)) :: (9, none) :: (6, some (1, some 8)) :: (8, none) :: (6, some (0, some 7)) :: (7, none) :: (6, none) :: (1, some (0, some 2)) :: (2, some (2, some 5)) :: (5, none) :: (2, some (1, some 4)) :: (4, none) :: (2, some (0, some 3)) :: (3, none) :: (2, none) :: (1, none) :: []
def pz_s0s : Nat := 0 + 3 + 4 + 41 + 41 + 41 + 7 + 40 + 40 + 40 + 40 + 40 + 4 + 15 + 4 + 64 + 4 + 576 + 64 + 121 + 121 + 8 + 3 + 7 + 1001 + 1001 + 1001 + 246 + 6 + 503 + 503 + 503 + 9 + 5600 + 140 + 20 + 246 + 42 + 45 + 40 + 40 + 40 + 40 + 40 + 40 + 40 + 40 + 4 + 64 + 64 + 64 + 64 + 64 + 64 + 64 + 15120 + 64 + 120 + 120 + 240 + 510 + 510 + 8 + 3 + 1960 + 140 + 20 + 240 + 1
set_option maxRecDepth 8000 in
theorem pz_law0 {n0 : Nat} {xs : Nat → Int} {Q : pz_O → pz_H → Prop} (K : pz_Rn 30 148 (20, [], [(0, .inr (.inr (some 0))), (1, .inr (.inr (some 1))), (2, .inr (.inr (some 165))), (3, .inr (.inr (some 195)))], pz_hk n0 195 (fun p k => if p = 0 then xs k else 0) pz_I0 pz_L0 pz_R0 (0 + 195) pz_s0s, true) Q) : pz_Rn 30 148 (0, [], [(0, .inr (.inr (some 0)))], pz_h0 n0 xs, true) Q := by
  show pz_Rn 30 148 (0, [], [(0, .inr (.inr (some 0)))], pz_hk n0 0 (fun p k => if p = 0 then xs k else 0) [] [] [] 0 0, true) Q
  refine pz_k_new 3 rfl rfl rfl ?_
  refine pz_j1 [.inr (.inr (some 1)), .inr (.inr (some 1))] 4 rfl rfl rfl rfl rfl ?_
  refine pz_Rn_k (y := 97) rfl rfl rfl rfl rfl rfl rfl rfl (pz_cok_v rfl rfl (pz_ik (by decide) rfl)) ?_
  refine pz_Rn_c (by decide) pz_n98 ?_
  refine pz_j2 [] [(1, .inr (.inr (some 1))), (0, .inr (.inr (some 0)))] 8 rfl rfl rfl rfl rfl ?_
  refine pz_k_new 11 rfl rfl rfl ?_
  refine pz_j1 [.inr (.inr (some 165)), .inr (.inr (some 165))] 12 rfl rfl rfl rfl rfl ?_
  refine pz_Rn_k (y := 98) rfl rfl rfl rfl rfl rfl rfl rfl (pz_cok_v rfl rfl (pz_ik (by decide) rfl)) ?_
  refine pz_Rn_c (by decide) pz_n99 ?_
  refine pz_j2 [] [(2, .inr (.inr (some 165))), (1, .inr (.inr (some 1))), (0, .inr (.inr (some 0)))] 16 rfl rfl rfl rfl rfl ?_
  refine pz_j1 [.inl 1] 17 rfl rfl rfl rfl rfl ?_
  refine pz_k_newarray 19 rfl rfl rfl rfl ?_
  refine pz_j2 [] [(3, .inr (.inr (some 195))), (2, .inr (.inr (some 165))), (1, .inr (.inr (some 1))), (0, .inr (.inr (some 0)))] 20 rfl rfl rfl rfl rfl ?_
  refine pz_Rn_sub (L := [(0, .inr (.inr (some 0))), (1, .inr (.inr (some 1))), (2, .inr (.inr (some 165))), (3, .inr (.inr (some 195)))]) [3, 2, 1, 0] rfl rfl ?_
  exact K
theorem pz_lay_lt : pz_layT.all (fun e => decide (e.1 < 196) && e.2.all (fun x => decide (x.1 < 64))) = true := by decide +kernel
theorem pz_lay_in {p k q : Nat} (h : pz_lay p k = some q) : p < 196 ∧ k < 64 := by
  unfold pz_lay at h
  cases e1 : Nat.beq p 15 with
  | true =>
    rw [e1] at h
    have hp := Nat.eq_of_beq_eq_true e1
    cases e2 : Nat.blt k 64 with
    | true => exact ⟨by omega, Nat.le_of_ble_eq_true e2⟩
    | false => rw [e2] at h; cases h
  | false =>
    rw [e1] at h
    cases e2 : (Nat.ble 17 p && Nat.ble p 144) with
    | true =>
      rw [e2] at h
      rw [Bool.and_eq_true] at e2
      have hp := Nat.le_of_ble_eq_true e2.2
      cases e3 : (Nat.beq k 5 && Nat.beq (p % 2) 1) with
      | true =>
        rw [Bool.and_eq_true] at e3
        have hk := Nat.eq_of_beq_eq_true e3.1
        omega
      | false => rw [e3] at h; cases h
    | false =>
      rw [e2] at h
      have h : pz_look ((pz_look pz_layT p).getD []) k = some q := h
      cases e3 : pz_look pz_layT p with
      | none => rw [e3] at h; cases h
      | some r =>
        rw [e3] at h
        have h : pz_look r k = some q := h
        have g1 := List.all_eq_true.mp pz_lay_lt _ (pz_look_in e3)
        rw [Bool.and_eq_true] at g1
        have g2 := List.all_eq_true.mp g1.2 _ (pz_look_in h)
        exact ⟨of_decide_eq_true g1.1, of_decide_eq_true g2⟩
def pz_r0 : Nat → Nat → Option Nat := pz_wt none pz_R0 (fun _ _ => none)
set_option maxRecDepth 8000 in
theorem pz_r0_all : (List.range 196).all (fun p => (List.range 64).all (fun k => match pz_lay p k with
  | some q => decide (pz_r0 p k = some q)
  | none => true)) = true := by decide +kernel
theorem pz_r0_ov : pz_ov pz_r0 = pz_r0 := by
  funext p k
  unfold pz_ov
  cases e : pz_lay p k with
  | none => rfl
  | some q =>
    have h := pz_lay_in e
    have g := List.all_eq_true.mp (List.all_eq_true.mp pz_r0_all p (List.mem_range.mpr h.1)) k (List.mem_range.mpr h.2)
    rw [e] at g
    exact (of_decide_eq_true g).symm
theorem pz_SK_all (n0 : Nat) : pz_SK n0 195 = pz_SH n0 := by
  unfold pz_SK pz_SH
  rw [List.take_of_length_le (by rw [pz_SL_len]; decide)]
def pz_i0 (xs : Nat → Int) : Nat → Nat → Int := pz_wt 0 pz_I0 (fun p k => if p = 0 then xs k else 0)
def pz_l0 : Nat → Nat → Int64 := pz_wt 0 pz_L0 (fun _ _ => 0)
/-- the law, from its loop on -/
theorem pz_law1 {n0 : Nat} {xs : Nat → Int} {Q : pz_O → pz_H → Prop} (K : pz_Rn 30 148 (20, [], [(0, .inr (.inr (some 0))), (1, .inr (.inr (some 1))), (2, .inr (.inr (some 165))), (3, .inr (.inr (some 195)))], pz_hp n0 (pz_i0 xs) pz_l0 pz_r0 195 pz_s0s, true) Q) : pz_Rn 30 148 (0, [], [(0, .inr (.inr (some 0)))], pz_h0 n0 xs, true) Q := by
  refine pz_law0 ?_
  have e : pz_hk n0 195 (fun p k => if p = 0 then xs k else 0) pz_I0 pz_L0 pz_R0 (0 + 195) pz_s0s = pz_hp n0 (pz_i0 xs) pz_l0 pz_r0 195 pz_s0s := by
    unfold pz_hk pz_hp
    rw [pz_SK_all, pz_r0_ov]
    rfl
  rw [e]
  exact K
