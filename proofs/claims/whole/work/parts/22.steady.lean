/-! The heap behind the constructors, by wip/whole/gen/gen22.py; rules for stretches of plain steps and for branches. -/
def pz_SL : List (Nat × Nat) := [(0, 3), (1, 4), (100, 41), (100, 41), (100, 41), (2, 7), (100, 40), (100, 40), (100, 40), (100, 40), (100, 40), (100, 4), (9, 15), (7, 4), (102, 64), (100, 4), (6, 6), (5, 3), (6, 6), (5, 3),
  (6, 6), (5, 3), (6, 6), (5, 3), (6, 6), (5, 3), (6, 6), (5, 3), (6, 6), (5, 3), (6, 6), (5, 3), (6, 6), (5, 3), (6, 6), (5, 3), (6, 6), (5, 3), (6, 6), (5, 3),
  (6, 6), (5, 3), (6, 6), (5, 3), (6, 6), (5, 3), (6, 6), (5, 3), (6, 6), (5, 3), (6, 6), (5, 3), (6, 6), (5, 3), (6, 6), (5, 3), (6, 6), (5, 3), (6, 6), (5, 3),
  (6, 6), (5, 3), (6, 6), (5, 3), (6, 6), (5, 3), (6, 6), (5, 3), (6, 6), (5, 3), (6, 6), (5, 3), (6, 6), (5, 3), (6, 6), (5, 3), (6, 6), (5, 3), (6, 6), (5, 3),
  (6, 6), (5, 3), (6, 6), (5, 3), (6, 6), (5, 3), (6, 6), (5, 3), (6, 6), (5, 3), (6, 6), (5, 3), (6, 6), (5, 3), (6, 6), (5, 3), (6, 6), (5, 3), (6, 6), (5, 3),
  (6, 6), (5, 3), (6, 6), (5, 3), (6, 6), (5, 3), (6, 6), (5, 3), (6, 6), (5, 3), (6, 6), (5, 3), (6, 6), (5, 3), (6, 6), (5, 3), (6, 6), (5, 3), (6, 6), (5, 3),
  (6, 6), (5, 3), (6, 6), (5, 3), (6, 6), (5, 3), (6, 6), (5, 3), (6, 6), (5, 3), (6, 6), (5, 3), (6, 6), (5, 3), (6, 6), (5, 3), (6, 6), (5, 3), (6, 6), (5, 3),
  (6, 6), (5, 3), (6, 6), (5, 3), (102, 64), (100, 121), (100, 121), (100, 8), (5, 3), (3, 7), (100, 1001), (100, 1001), (100, 1001), (100, 246), (4, 6), (100, 503), (100, 503), (100, 503), (8, 9), (100, 5600),
  (100, 140), (100, 20), (100, 246), (100, 42), (10, 45), (100, 40), (100, 40), (100, 40), (100, 40), (100, 40), (100, 40), (100, 40), (100, 40), (100, 4), (100, 64), (100, 64), (100, 64), (100, 64), (100, 64), (101, 64),
  (101, 64), (100, 15120), (100, 64), (100, 120), (100, 120), (100, 240), (100, 510), (100, 510), (100, 8), (100, 3), (100, 1960), (100, 140), (100, 20), (100, 240), (101, 1)]
def pz_SH (n0 : Nat) : List (Nat × Nat) := (103, n0) :: pz_SL
def pz_layT : List (Nat × List (Nat × Nat)) := [(1, [(0, 2), (1, 6), (2, 13)]),
  (2, [(0, 3), (1, 4), (2, 5)]),
  (6, [(0, 7), (1, 8), (2, 9), (3, 10), (4, 11), (5, 12)]),
  (13, [(0, 6), (1, 150), (2, 155), (3, 159), (4, 14), (5, 145), (6, 146), (7, 147), (8, 148), (9, 149)]),
  (14, [(0, 15), (1, 16)]),
  (150, [(0, 2), (1, 151), (2, 152), (3, 153), (4, 154)]),
  (155, [(0, 2), (1, 150), (2, 156), (3, 157), (4, 158)]),
  (159, [(0, 2), (1, 150), (2, 160), (3, 161), (4, 162), (5, 163), (6, 164)]),
  (165, [(2, 166), (3, 167), (4, 168), (6, 169), (7, 170), (8, 171), (9, 172), (10, 173), (11, 174), (15, 175), (16, 176), (17, 177), (18, 178), (19, 179), (20, 180), (21, 181), (22, 182), (23, 183), (25, 184), (26, 185), (34, 186), (36, 187), (37, 188), (38, 189), (39, 190), (40, 191), (41, 192), (42, 193), (43, 194)])]
def pz_lay (p k : Nat) : Option Nat := bif Nat.beq p 15 then (bif Nat.blt k 64 then some (17 + 2 * k) else none) else bif Nat.ble 17 p && Nat.ble p 144 then (bif Nat.beq k 5 && Nat.beq (p % 2) 1 then some (p + 1) else none) else pz_look ((pz_look pz_layT p).getD []) k
def pz_ov (mr : Nat → Nat → Option Nat) (p k : Nat) : Option Nat := match pz_lay p k with
  | some q => some q
  | none => mr p k
/-- a heap behind the constructors -/
def pz_hp (n0 : Nat) (mi : Nat → Nat → Int) (ml : Nat → Nat → Int64) (mr : Nat → Nat → Option Nat) (c s : Nat) : pz_H := (pz_SH n0, mi, ml, pz_ov mr, c, s)
/-- a node's place, a state's place -/
def pz_nd (p : Nat) : Prop := 17 ≤ p ∧ p ≤ 143 ∧ p % 2 = 1
def pz_sd (p : Nat) : Prop := p = 149 ∨ (18 ≤ p ∧ p ≤ 144 ∧ p % 2 = 0)
theorem pz_sh_all : (List.range 64).all (fun i => decide (pz_SL[16 + 2 * i]? = some (6, 6)) && decide (pz_SL[17 + 2 * i]? = some (5, 3))) = true := by decide +kernel
theorem pz_nd_sh {p : Nat} (hp : pz_nd p) (n0 : Nat) : (pz_SH n0)[p]? = some (6, 6) := by
  obtain ⟨h1, h2, h3⟩ := hp
  have h4 := List.all_eq_true.mp pz_sh_all ((p - 17) / 2) (List.mem_range.mpr (by omega))
  rw [Bool.and_eq_true] at h4
  have h5 := of_decide_eq_true h4.1
  have h6 : p = (16 + 2 * ((p - 17) / 2)) + 1 := by omega
  rw [h6]
  exact h5
theorem pz_sd_sh {p : Nat} (hp : pz_sd p) (n0 : Nat) : (pz_SH n0)[p]? = some (5, 3) := by
  rcases hp with rfl | ⟨h1, h2, h3⟩
  · rfl
  · have h4 := List.all_eq_true.mp pz_sh_all ((p - 18) / 2) (List.mem_range.mpr (by omega))
    rw [Bool.and_eq_true] at h4
    have h5 := of_decide_eq_true h4.2
    have h6 : p = (17 + 2 * ((p - 18) / 2)) + 1 := by omega
    rw [h6]
    exact h5
section pzs
variable {n0 : Nat} {mi : Nat → Nat → Int} {ml : Nat → Nat → Int64} {mr : Nat → Nat → Option Nat} {c s : Nat}
theorem pz_nd_is {p : Nat} (hp : pz_nd p) : pz_is (pz_hp n0 mi ml mr c s) p 6 6 = true := decide_eq_true (pz_nd_sh hp n0)
theorem pz_sd_is {p : Nat} (hp : pz_sd p) : pz_is (pz_hp n0 mi ml mr c s) p 5 3 = true := decide_eq_true (pz_sd_sh hp n0)
theorem pz_nd_sd {p : Nat} (hp : pz_nd p) : pz_sd (p + 1) := by
  obtain ⟨h1, h2, h3⟩ := hp
  right
  omega
theorem pz_nd_lay {p k : Nat} (hp : pz_nd p) (hk : k ≠ 5) : pz_lay p k = none := by
  obtain ⟨h1, h2, h3⟩ := hp
  have e1 : Nat.beq p 15 = false := by cases h : Nat.beq p 15 with
    | false => rfl
    | true => exact absurd (Nat.eq_of_beq_eq_true h) (by omega)
  have e2 : Nat.ble 17 p = true := Nat.ble_eq_true_of_le h1
  have e3 : Nat.ble p 144 = true := Nat.ble_eq_true_of_le (by omega)
  have e4 : Nat.beq k 5 = false := by cases h : Nat.beq k 5 with
    | false => rfl
    | true => exact absurd (Nat.eq_of_beq_eq_true h) hk
  unfold pz_lay
  rw [e1, e2, e3, e4]
  rfl
theorem pz_nd_lay5 {p : Nat} (hp : pz_nd p) : pz_lay p 5 = some (p + 1) := by
  obtain ⟨h1, h2, h3⟩ := hp
  have e1 : Nat.beq p 15 = false := by cases h : Nat.beq p 15 with
    | false => rfl
    | true => exact absurd (Nat.eq_of_beq_eq_true h) (by omega)
  have e2 : Nat.ble 17 p = true := Nat.ble_eq_true_of_le h1
  have e3 : Nat.ble p 144 = true := Nat.ble_eq_true_of_le (by omega)
  unfold pz_lay
  rw [e1, e2, e3, h3]
  rfl
/-- the references that change -/
theorem pz_ov_nd {p k : Nat} (hp : pz_nd p) (hk : k ≠ 5) : pz_ov mr p k = mr p k := by
  unfold pz_ov
  rw [pz_nd_lay hp hk]
theorem pz_ov_n5 {p : Nat} (hp : pz_nd p) : pz_ov mr p 5 = some (p + 1) := by
  unfold pz_ov
  rw [pz_nd_lay5 hp]
theorem pz_ov_15 {k : Nat} (hk : k < 64) : pz_ov mr 15 k = some (17 + 2 * k) := by
  have e : Nat.blt k 64 = true := Nat.ble_eq_true_of_le hk
  have e2 : pz_lay 15 k = some (17 + 2 * k) := by
    show (bif Nat.blt k 64 then some (17 + 2 * k) else none) = _
    rw [e]
    rfl
  unfold pz_ov
  rw [e2]
theorem pz_ov_145 {k : Nat} : pz_ov mr 145 k = mr 145 k := rfl
theorem pz_ov_up {p k : Nat} {v : Option Nat} (hk : pz_lay p k = none) : pz_up (pz_ov mr) p k v = pz_ov (pz_up mr p k v) := by
  funext q j
  unfold pz_up pz_ov
  by_cases h : q = p ∧ j = k
  · obtain ⟨rfl, rfl⟩ := h
    rw [hk]
  · rw [if_neg h]
    dsimp only
    rw [if_neg h]
theorem pz_hp_up {p k : Nat} {v : Option Nat} (hk : pz_lay p k = none) : ((pz_SH n0, mi, ml, pz_up (pz_ov mr) p k v, c, s) : pz_H) = pz_hp n0 mi ml (pz_up mr p k v) c s := by
  unfold pz_hp
  rw [pz_ov_up hk]
end pzs
-- stretches: the newest condition stands first, so that those that are plain vanish
def pz_and2 (b : Bool) (t : pz_S) : pz_S := (t.1, t.2.1, t.2.2.1, t.2.2.2.1, t.2.2.2.2 && b)
def pz_go2 (m : Nat) (k : Nat) (s : pz_S) : Option pz_S := match k with
  | 0 => some s
  | k + 1 => match pz_cd m s.1 with
    | none => none
    | some il => match pz_rtn il.1 with
      | some _ => none
      | none => match pz_inv il.1 with
        | some _ => none
        | none => pz_go2 m k (pz_and2 s.2.2.2.2 (pz_step (pz_mow m) (pz_mL m) (pz_min m) il.1 il.2 s.1 s.2.1 s.2.2.1 s.2.2.2.1))
theorem pz_and2_eq (b : Bool) (t : pz_S) : pz_and2 b t = pz_and b t := by
  unfold pz_and2 pz_and
  rw [Bool.and_comm]
theorem pz_go2_eq (m k : Nat) (s : pz_S) : pz_go2 m k s = pz_go m k s := by
  induction k generalizing s with
  | zero => rfl
  | succ k ih =>
    unfold pz_go2 pz_go
    cases pz_cd m s.1 with
    | none => rfl
    | some il =>
      dsimp only
      cases pz_rtn il.1 with
      | some t => rfl
      | none =>
        dsimp only
        cases pz_inv il.1 with
        | some kx => rfl
        | none =>
          dsimp only
          rw [ih, pz_and2_eq]
theorem pz_Rn_g (k : Nat) {d m pc pc' : Nat} {st st' : List pz_V} {L L' : List (Nat × pz_V)} {h h' : pz_H} {ok : Bool} {Q : pz_O → pz_H → Prop} (e : pz_go2 m k (pc, st, L, h, true) = some (pc', st', L', h', ok)) (hok : ok = true) (r : pz_Rn d m (pc', st', L', h', true) Q) : pz_Rn d m (pc, st, L, h, true) Q := pz_Rn_go k (by rw [← pz_go2_eq]; exact e) hok r
-- branches
theorem pz_Rn_if {b : Bool} {P P' : Prop} (hb : b = true → P) (hb' : b = false → P') {d m T F : Nat} {st : List pz_V} {L : List (Nat × pz_V)} {h : pz_H} {Q : pz_O → pz_H → Prop} (k : (P → pz_Rn d m (T, st, L, h, true) Q) ∧ (P' → pz_Rn d m (F, st, L, h, true) Q)) : pz_Rn d m (bif b then T else F, st, L, h, true) Q := by
  cases b with
  | true => exact k.1 (hb rfl)
  | false => exact k.2 (hb' rfl)
section pzb
variable {a b : Int} {x : Option Nat}
theorem pz_c1_eq (h : pz_cp .eq a b = true) : a = b := of_decide_eq_true h
theorem pz_c0_eq (h : pz_cp .eq a b = false) : a ≠ b := of_decide_eq_false h
theorem pz_c1_ne (h : pz_cp .ne a b = true) : a ≠ b := by simpa [pz_cp] using h
theorem pz_c0_ne (h : pz_cp .ne a b = false) : a = b := by simpa [pz_cp] using h
theorem pz_c1_lt (h : pz_cp .lt a b = true) : a < b := of_decide_eq_true h
theorem pz_c0_lt (h : pz_cp .lt a b = false) : b ≤ a := by have := of_decide_eq_false h; omega
theorem pz_c1_ge (h : pz_cp .ge a b = true) : b ≤ a := by simpa [pz_cp] using h
theorem pz_c0_ge (h : pz_cp .ge a b = false) : a < b := by simpa [pz_cp] using h
theorem pz_c1_gt (h : pz_cp .gt a b = true) : b < a := of_decide_eq_true h
theorem pz_c0_gt (h : pz_cp .gt a b = false) : a ≤ b := by have := of_decide_eq_false h; omega
theorem pz_c1_le (h : pz_cp .le a b = true) : a ≤ b := by simpa [pz_cp] using h
theorem pz_c0_le (h : pz_cp .le a b = false) : b < a := by simpa [pz_cp] using h
theorem pz_n1 (h : x.isNone = true) : x = none := Option.isNone_iff_eq_none.mp h
theorem pz_n0 (h : x.isNone = false) : x ≠ none := by intro e; rw [e] at h; cases h
theorem pz_s1 (h : x.isSome = true) : x ≠ none := by intro e; rw [e] at h; cases h
theorem pz_s0 (h : x.isSome = false) : x = none := by simpa using h
theorem pz_ok_in (h : -2147483648 ≤ a ∧ a ≤ 2147483647) : pz_in a = true := pz_a2 (decide_eq_true h.1) (decide_eq_true h.2)
theorem pz_ok_ix {h : pz_H} {p c N : Nat} {i : Int} (e : h.1[p]? = some (c, N)) (hi : 0 ≤ i ∧ i < (N : Int)) : pz_ix h p c i = true := by
  unfold pz_ix
  rw [e]
  exact pz_a2 (decide_eq_true rfl) (pz_a2 (decide_eq_true hi.1) (decide_eq_true hi.2))
theorem pz_ok_ixs {h : pz_H} {p N : Nat} {i : Int} (e : h.1[p]? = some (100, N)) (hi : 0 ≤ i ∧ i < (N : Int)) : pz_ixs h p i = true := by
  unfold pz_ixs
  rw [e]
  exact pz_a2 rfl (pz_a2 (decide_eq_true hi.1) (decide_eq_true hi.2))
theorem pz_ok_ixx {h : pz_H} {p N : Nat} {i : Int} (e : h.1[p]? = some (103, N)) (hi : 0 ≤ i ∧ i < (N : Int)) : pz_ixs h p i = true := by
  unfold pz_ixs
  rw [e]
  exact pz_a2 rfl (pz_a2 (decide_eq_true hi.1) (decide_eq_true hi.2))
theorem pz_ok_dv (h : 0 ≤ a ∧ 0 < b) : (decide (0 ≤ a) && decide (0 < b)) = true := pz_a2 (decide_eq_true h.1) (decide_eq_true h.2)
theorem pz_ok_z (h : a = 0 ∨ a = 1) : (decide (a = 0) || decide (a = 1)) = true := by
  rcases h with rfl | rfl <;> rfl
end pzb
/-- how a caller goes on behind a call -/
def pz_K (d m pc : Nat) (rest : List pz_V) (L : List (Nat × pz_V)) (Q : pz_O → pz_H → Prop) (ex : Bool) : pz_O → pz_H → Prop := fun o h' => match o with
  | .inl v => pz_Rn d m (pc + 3, v.toList ++ rest, L, h', true) Q
  | .inr x => ex = true ∧ match pz_ct m pc x with
    | some c => Q (.inl (some (.inl c))) h'
    | none => Q (.inr x) h'
theorem pz_Rn_k {d m pc len kd idx : Nat} {i : Instr} {q : Nat × Nat} {y : Nat} {st rest : List pz_V} {as L : List (Nat × pz_V)} {h : pz_H} {Q : pz_O → pz_H → Prop} (hc : pz_cd m pc = some (i, len)) (hr : pz_rtn i = none) (hi : pz_inv i = some (kd, idx)) (hm : pz_mt (pz_mow m) idx = some q) (hq : q.1 = y + 1) (ht : pz_thr (y + 1) = none) (ha : pz_args 0 (st.take (pz_mna (y + 1))).reverse = as) (hre : st.drop (pz_mna (y + 1)) = rest) (hok : pz_cok kd (y + 1) st h = true)
    (k : pz_Rn d (y + 1) (0, [], as, h, true) (pz_K (d + 1) m pc rest L Q (decide (pz_mkd (y + 1) ≠ 1) && decide (pz_a (y + 1) 10 = 0)))) : pz_Rn (d + 1) m (pc, st, L, h, true) Q := by
  subst ha hre
  exact pz_Rn_call hc hr hi hm hq ht hok k (fun v h' e => e) (fun x h' e => e)
