/-! One instruction at a time (wip/whole/gen/gen23.py). -/
section pzj
variable {d m pc pc' n : Nat} {i : Instr} {st st' : List pz_V} {L L' : List (Nat × pz_V)} {h h' : pz_H} {ok : Bool} {Q : pz_O → pz_H → Prop}
theorem pz_j3 (st' : List pz_V) (L' : List (Nat × pz_V)) (h' : pz_H) (pc' : Nat) (hc : pz_cd m pc = some (i, n)) (hr : pz_rtn i = none) (hi : pz_inv i = none) (e : pz_step (pz_mow m) (pz_mL m) (pz_min m) i n pc st L h = (pc', st', L', h', ok)) (hok : ok = true) (r : pz_Rn d m (pc', st', L', h', true) Q) : pz_Rn d m (pc, st, L, h, true) Q := by
  refine pz_Rn_go 1 (ok := true && ok) ?_ (by rw [hok]; rfl) r
  show (match pz_cd m pc with
    | none => none
    | some il => match pz_rtn il.1 with
      | some _ => none
      | none => match pz_inv il.1 with
        | some _ => none
        | none => some (pz_and true (pz_step (pz_mow m) (pz_mL m) (pz_min m) il.1 il.2 pc st L h))) = _
  rw [hc]
  dsimp only
  rw [hr]
  dsimp only
  rw [hi]
  dsimp only
  rw [e]
  rfl
theorem pz_j1 (st' : List pz_V) (pc' : Nat) (hc : pz_cd m pc = some (i, n)) (hr : pz_rtn i = none) (hi : pz_inv i = none) (e : pz_step (pz_mow m) (pz_mL m) (pz_min m) i n pc st L h = (pc', st', L, h, ok)) (hok : ok = true) (r : pz_Rn d m (pc', st', L, h, true) Q) : pz_Rn d m (pc, st, L, h, true) Q := pz_j3 st' L h pc' hc hr hi e hok r
theorem pz_j2 (st' : List pz_V) (L' : List (Nat × pz_V)) (pc' : Nat) (hc : pz_cd m pc = some (i, n)) (hr : pz_rtn i = none) (hi : pz_inv i = none) (e : pz_step (pz_mow m) (pz_mL m) (pz_min m) i n pc st L h = (pc', st', L', h, ok)) (hok : ok = true) (r : pz_Rn d m (pc', st', L', h, true) Q) : pz_Rn d m (pc, st, L, h, true) Q := pz_j3 st' L' h pc' hc hr hi e hok r
theorem pz_cok_v {kd y p : Nat} {t : List pz_V} (h0 : (decide (kd = pz_mkd y) && (decide (pz_mna y ≤ st.length) && (decide (((st.drop (pz_mna y)).map pz_cat).sum ≤ 8) && decide (((st.take (pz_mna y)).map pz_cat).sum ≤ pz_mL y)))) = true) (ha : (st.take (pz_mna y)).reverse = .inr (.inr (some p)) :: t) (hi : pz_is h p (pz_mow y) (pz_nf (pz_mow y)) = true) : pz_cok kd y st h = true := by
  simp only [Bool.and_eq_true] at h0
  unfold pz_cok
  rw [ha]
  refine pz_a2 h0.1 (pz_a2 h0.2.1 (pz_a2 h0.2.2.1 (pz_a2 h0.2.2.2 ?_)))
  dsimp only
  have e : ((some p).getD 0) = p := rfl
  rw [e, hi]
  simp
theorem pz_ok_zz {a : Int} (h : a = 0 ∨ a = 1) : pz_fit 1 (.inl a) = true := by
  rcases h with rfl | rfl <;> rfl
/-- behind a call, by the callee's contract -/
theorem pz_Rn_c {d' y : Nat} {fr : pz_S} {v : Option pz_V} {H : pz_H} {rest : List pz_V} {ex : Bool} (hd : d' ≤ d) (c : pz_Rn d' y fr (fun o h => o = .inl v ∧ h = H)) (k : pz_Rn (d + 1) m (pc + 3, v.toList ++ rest, L, H, true) Q) : pz_Rn d y fr (pz_K (d + 1) m pc rest L Q ex) := by
  refine pz_Rn.mono hd c ?_
  rintro o h ⟨rfl, rfl⟩
  exact k
theorem pz_i_thr {len kd idx y : Nat} {q : Nat × Nat} {t : Bool × Nat} {a : Int} {rest : List pz_V} {n0 : Nat} {mi : Nat → Nat → Int} {ml : Nat → Nat → Int64} {mr : Nat → Nat → Option Nat} {c s : Nat} (hc : pz_cd m pc = some (i, len)) (hr : pz_rtn i = none) (hi : pz_inv i = some (kd, idx)) (hm : pz_mt (pz_mow m) idx = some q) (hq : q.1 = y + 1) (ht : pz_thr (y + 1) = some t) (hna : pz_mna (y + 1) = 1) (hk9 : (decide (pz_mkd (y + 1) ≠ 1) && decide (pz_a (y + 1) 10 = 0)) = true) (hok : pz_cok kd (y + 1) (.inl a :: rest) (pz_hp n0 mi ml mr c s) = true) (hct : pz_ct m pc t.2 = none)
    (kk : Bool.xor t.1 (decide (a = 0)) = true → pz_Rn (d + 1) m (pc + 3, rest, L, pz_hp n0 mi ml mr c s, true) Q)
    (kx : Bool.xor t.1 (decide (a = 0)) = false → Q (.inr t.2) (pz_hp n0 mi ml mr (c + 1) (s + 6))) : pz_Rn (d + 1) m (pc, .inl a :: rest, L, pz_hp n0 mi ml mr c s, true) Q := by
  refine pz_Rn_thr hc hr hi hm hq ht hna hk9 rfl hok kk ?_
  rw [hct]
  exact kx
theorem pz_j_sw {a b : Int} (e : a = b) (r : pz_Rn d m (pc, .inl b :: st, L, h, true) Q) : pz_Rn d m (pc, .inl a :: st, L, h, true) Q := by rw [e]; exact r
theorem pz_j_df {a dflt lo hi : Int} {offs : Array Int} (pc' : Nat) (hc : pz_cd m pc = some (.tableswitch dflt lo hi offs, n)) (hb : a < lo ∨ hi < a) (hp : ((pc : Int) + dflt).toNat = pc') (h0 : decide (0 ≤ (pc : Int) + dflt) = true) (r : pz_Rn d m (pc', st, L, h, true) Q) : pz_Rn d m (pc, .inl a :: st, L, h, true) Q := by
  refine pz_j3 st L h pc' hc rfl rfl (ok := decide (0 ≤ (pc : Int) + dflt)) ?_ h0 r
  show pz_br true (if a < lo ∨ hi < a then dflt else (offs[(a - lo).toNat]?).getD (-1 - (pc : Int))) n pc st L h = _
  rw [if_pos hb, ← hp]
  rfl
theorem pz_x1 {a : Int} (h : Bool.xor true (decide (a = 0)) = true) : a ≠ 0 := by simpa using h
theorem pz_x0 {a : Int} (h : Bool.xor true (decide (a = 0)) = false) : a = 0 := by simpa using h
theorem pz_z1 {a : Int} (h : Bool.xor false (decide (a = 0)) = true) : a = 0 := by simpa using h
theorem pz_z0 {a : Int} (h : Bool.xor false (decide (a = 0)) = false) : a ≠ 0 := by simpa using h
end pzj
-- shapes at the places that stand fast
theorem pz_S1 {n0 : Nat} {mi : Nat → Nat → Int} {ml : Nat → Nat → Int64} {mr : Nat → Nat → Option Nat} {c s : Nat} : pz_is (pz_hp n0 mi ml mr c s) 1 0 3 = true := decide_eq_true (show (pz_SH n0)[1]? = some (0, 3) from rfl)
theorem pz_S2 {n0 : Nat} {mi : Nat → Nat → Int} {ml : Nat → Nat → Int64} {mr : Nat → Nat → Option Nat} {c s : Nat} : pz_is (pz_hp n0 mi ml mr c s) 2 1 4 = true := decide_eq_true (show (pz_SH n0)[2]? = some (1, 4) from rfl)
theorem pz_S3 {n0 : Nat} : (pz_SH n0)[3]? = some (100, 41) := rfl
theorem pz_S4 {n0 : Nat} : (pz_SH n0)[4]? = some (100, 41) := rfl
theorem pz_S5 {n0 : Nat} : (pz_SH n0)[5]? = some (100, 41) := rfl
theorem pz_S6 {n0 : Nat} {mi : Nat → Nat → Int} {ml : Nat → Nat → Int64} {mr : Nat → Nat → Option Nat} {c s : Nat} : pz_is (pz_hp n0 mi ml mr c s) 6 2 7 = true := decide_eq_true (show (pz_SH n0)[6]? = some (2, 7) from rfl)
theorem pz_S7 {n0 : Nat} : (pz_SH n0)[7]? = some (100, 40) := rfl
theorem pz_S8 {n0 : Nat} : (pz_SH n0)[8]? = some (100, 40) := rfl
theorem pz_S9 {n0 : Nat} : (pz_SH n0)[9]? = some (100, 40) := rfl
theorem pz_S10 {n0 : Nat} : (pz_SH n0)[10]? = some (100, 40) := rfl
theorem pz_S11 {n0 : Nat} : (pz_SH n0)[11]? = some (100, 40) := rfl
theorem pz_S12 {n0 : Nat} : (pz_SH n0)[12]? = some (100, 4) := rfl
theorem pz_S13 {n0 : Nat} {mi : Nat → Nat → Int} {ml : Nat → Nat → Int64} {mr : Nat → Nat → Option Nat} {c s : Nat} : pz_is (pz_hp n0 mi ml mr c s) 13 9 15 = true := decide_eq_true (show (pz_SH n0)[13]? = some (9, 15) from rfl)
theorem pz_S14 {n0 : Nat} {mi : Nat → Nat → Int} {ml : Nat → Nat → Int64} {mr : Nat → Nat → Option Nat} {c s : Nat} : pz_is (pz_hp n0 mi ml mr c s) 14 7 4 = true := decide_eq_true (show (pz_SH n0)[14]? = some (7, 4) from rfl)
theorem pz_S15 {n0 : Nat} : (pz_SH n0)[15]? = some (102, 64) := rfl
theorem pz_S16 {n0 : Nat} : (pz_SH n0)[16]? = some (100, 4) := rfl
theorem pz_S145 {n0 : Nat} : (pz_SH n0)[145]? = some (102, 64) := rfl
theorem pz_S146 {n0 : Nat} : (pz_SH n0)[146]? = some (100, 121) := rfl
theorem pz_S147 {n0 : Nat} : (pz_SH n0)[147]? = some (100, 121) := rfl
theorem pz_S148 {n0 : Nat} : (pz_SH n0)[148]? = some (100, 8) := rfl
theorem pz_S149 {n0 : Nat} {mi : Nat → Nat → Int} {ml : Nat → Nat → Int64} {mr : Nat → Nat → Option Nat} {c s : Nat} : pz_is (pz_hp n0 mi ml mr c s) 149 5 3 = true := decide_eq_true (show (pz_SH n0)[149]? = some (5, 3) from rfl)
theorem pz_S150 {n0 : Nat} {mi : Nat → Nat → Int} {ml : Nat → Nat → Int64} {mr : Nat → Nat → Option Nat} {c s : Nat} : pz_is (pz_hp n0 mi ml mr c s) 150 3 7 = true := decide_eq_true (show (pz_SH n0)[150]? = some (3, 7) from rfl)
theorem pz_S151 {n0 : Nat} : (pz_SH n0)[151]? = some (100, 1001) := rfl
theorem pz_S152 {n0 : Nat} : (pz_SH n0)[152]? = some (100, 1001) := rfl
theorem pz_S153 {n0 : Nat} : (pz_SH n0)[153]? = some (100, 1001) := rfl
theorem pz_S154 {n0 : Nat} : (pz_SH n0)[154]? = some (100, 246) := rfl
theorem pz_S155 {n0 : Nat} {mi : Nat → Nat → Int} {ml : Nat → Nat → Int64} {mr : Nat → Nat → Option Nat} {c s : Nat} : pz_is (pz_hp n0 mi ml mr c s) 155 4 6 = true := decide_eq_true (show (pz_SH n0)[155]? = some (4, 6) from rfl)
theorem pz_S156 {n0 : Nat} : (pz_SH n0)[156]? = some (100, 503) := rfl
theorem pz_S157 {n0 : Nat} : (pz_SH n0)[157]? = some (100, 503) := rfl
theorem pz_S158 {n0 : Nat} : (pz_SH n0)[158]? = some (100, 503) := rfl
theorem pz_S159 {n0 : Nat} {mi : Nat → Nat → Int} {ml : Nat → Nat → Int64} {mr : Nat → Nat → Option Nat} {c s : Nat} : pz_is (pz_hp n0 mi ml mr c s) 159 8 9 = true := decide_eq_true (show (pz_SH n0)[159]? = some (8, 9) from rfl)
theorem pz_S160 {n0 : Nat} : (pz_SH n0)[160]? = some (100, 5600) := rfl
theorem pz_S161 {n0 : Nat} : (pz_SH n0)[161]? = some (100, 140) := rfl
theorem pz_S162 {n0 : Nat} : (pz_SH n0)[162]? = some (100, 20) := rfl
theorem pz_S163 {n0 : Nat} : (pz_SH n0)[163]? = some (100, 246) := rfl
theorem pz_S164 {n0 : Nat} : (pz_SH n0)[164]? = some (100, 42) := rfl
theorem pz_S165 {n0 : Nat} {mi : Nat → Nat → Int} {ml : Nat → Nat → Int64} {mr : Nat → Nat → Option Nat} {c s : Nat} : pz_is (pz_hp n0 mi ml mr c s) 165 10 45 = true := decide_eq_true (show (pz_SH n0)[165]? = some (10, 45) from rfl)
theorem pz_S166 {n0 : Nat} : (pz_SH n0)[166]? = some (100, 40) := rfl
theorem pz_S167 {n0 : Nat} : (pz_SH n0)[167]? = some (100, 40) := rfl
theorem pz_S168 {n0 : Nat} : (pz_SH n0)[168]? = some (100, 40) := rfl
theorem pz_S169 {n0 : Nat} : (pz_SH n0)[169]? = some (100, 40) := rfl
theorem pz_S170 {n0 : Nat} : (pz_SH n0)[170]? = some (100, 40) := rfl
theorem pz_S171 {n0 : Nat} : (pz_SH n0)[171]? = some (100, 40) := rfl
theorem pz_S172 {n0 : Nat} : (pz_SH n0)[172]? = some (100, 40) := rfl
theorem pz_S173 {n0 : Nat} : (pz_SH n0)[173]? = some (100, 40) := rfl
theorem pz_S174 {n0 : Nat} : (pz_SH n0)[174]? = some (100, 4) := rfl
theorem pz_S175 {n0 : Nat} : (pz_SH n0)[175]? = some (100, 64) := rfl
theorem pz_S176 {n0 : Nat} : (pz_SH n0)[176]? = some (100, 64) := rfl
theorem pz_S177 {n0 : Nat} : (pz_SH n0)[177]? = some (100, 64) := rfl
theorem pz_S178 {n0 : Nat} : (pz_SH n0)[178]? = some (100, 64) := rfl
theorem pz_S179 {n0 : Nat} : (pz_SH n0)[179]? = some (100, 64) := rfl
theorem pz_S180 {n0 : Nat} : (pz_SH n0)[180]? = some (101, 64) := rfl
theorem pz_S181 {n0 : Nat} : (pz_SH n0)[181]? = some (101, 64) := rfl
theorem pz_S182 {n0 : Nat} : (pz_SH n0)[182]? = some (100, 15120) := rfl
theorem pz_S183 {n0 : Nat} : (pz_SH n0)[183]? = some (100, 64) := rfl
theorem pz_S184 {n0 : Nat} : (pz_SH n0)[184]? = some (100, 120) := rfl
theorem pz_S185 {n0 : Nat} : (pz_SH n0)[185]? = some (100, 120) := rfl
theorem pz_S186 {n0 : Nat} : (pz_SH n0)[186]? = some (100, 240) := rfl
theorem pz_S187 {n0 : Nat} : (pz_SH n0)[187]? = some (100, 510) := rfl
theorem pz_S188 {n0 : Nat} : (pz_SH n0)[188]? = some (100, 510) := rfl
theorem pz_S189 {n0 : Nat} : (pz_SH n0)[189]? = some (100, 8) := rfl
theorem pz_S190 {n0 : Nat} : (pz_SH n0)[190]? = some (100, 3) := rfl
theorem pz_S191 {n0 : Nat} : (pz_SH n0)[191]? = some (100, 1960) := rfl
theorem pz_S192 {n0 : Nat} : (pz_SH n0)[192]? = some (100, 140) := rfl
theorem pz_S193 {n0 : Nat} : (pz_SH n0)[193]? = some (100, 20) := rfl
theorem pz_S194 {n0 : Nat} : (pz_SH n0)[194]? = some (100, 240) := rfl
theorem pz_S195 {n0 : Nat} : (pz_SH n0)[195]? = some (101, 1) := rfl
theorem pz_S0 {n0 : Nat} : (pz_SH n0)[0]? = some (103, n0) := rfl
