/-! The conditions that a task keeps: keepConditions, and the loop of the reference's same. -/
def pz_kc (mi : Nat → Nat → Int) (σ : Nat → Option Nat) (k : Nat → Nat × Nat) (m i : Nat) (lo hi : Int64) (nb r : Nat) : Option (Bool × Int64 × Int64 × Nat × Nat) := match m with
  | 0 => some (true, lo, hi, nb, r)
  | m + 1 => if pz_hs lo hi i = true then match pz_ma mi 501 σ nb [] r [k i] with
      | none => none
      | some (q, _, nb', _, r') => if q = true then (if nb' = nb then some (false, lo, hi, nb', r') else pz_kc mi σ k m (i + 1) lo hi nb' r') else pz_kc mi σ k m (i + 1) (pz_dr lo hi i).1 (pz_dr lo hi i).2 nb' r'
    else pz_kc mi σ k m (i + 1) lo hi nb r
/-- the conditions that were made, on both sides -/
def pz_cn (mi : Nat → Nat → Int) (F : Int) (N : Nat) (k : Nat → Nat × Nat) : Prop := mi 13 11 = (N : Int) ∧ ∀ i, i < N → pz_vs mi F (mi 146 i) ∧ pz_vs mi F (mi 147 i) ∧ k i = (pz_cs mi (mi 146 i), pz_cs mi (mi 147 i))
def pz_mn (mi : Nat → Nat → Int) (F : Int) (N : Nat) (k : Nat → Nat × Nat) : Prop := mi 165 24 = (N : Int) ∧ ∀ i, i < N → pz_vm mi F (mi 184 i) ∧ pz_vm mi F (mi 185 i) ∧ k i = (pz_cm mi (mi 184 i), pz_cm mi (mi 185 i))
def pz_ov1 (mi : Nat → Nat → Int) (nb : Nat) : Prop := (mi 155 5 = 501 ∨ mi 150 5 = 1001) ∧ (0 ≤ mi 155 5 ∧ mi 155 5 ≤ 501) ∧ (nb : Int) ≤ mi 150 5 ∧ mi 150 5 ≤ 1001
/-- how keepConditions ends -/
def pz_pQ (n0 : Nat) (mr : Nat → Nat → Option Nat) (c s : Nat) (F : Int) (σ : Nat → Option Nat) (nb : Nat) (mi : Nat → Nat → Int) (ml : Nat → Nat → Int64) (x : Option (Bool × Int64 × Int64 × Nat × Nat)) : pz_O → pz_H → Prop := fun o h => ∃ mi' ml' b, (o = .inl (some (.inl b)) ∧ h = pz_hp n0 mi' ml' mr c s) ∧ pz_fr [150, 151, 152, 153, 154, 155, 156, 157, 158] [] mi mi' ∧ (b = 0 ∨ b = 1) ∧ pz_lo nb mi mi' ∧ mi' 150 6 = mi 150 6 ∧ (∀ p, p ≠ 149 → ml' p = ml p) ∧ match x with
  | none => pz_ov1 mi' nb
  | some (q, lo', hi', nb', r') => b = (if q then 1 else 0) ∧ mi' 155 5 = 500 - (r' : Int) ∧ r' ≤ 500 ∧ mi' 150 5 = nb' ∧ nb ≤ nb' ∧ nb' ≤ 1000 ∧ pz_cI mi' F σ σ nb' ∧ ml' 149 1 = lo' ∧ ml' 149 2 = hi'
section pzn
variable {d n0 : Nat} {mi mi' : Nat → Nat → Int} {ml ml' : Nat → Nat → Int64} {mr : Nat → Nat → Option Nat} {c s : Nat} {F : Int} {σ : Nat → Option Nat} {N : Nat} {k : Nat → Nat × Nat}
theorem pz_lo_mono {a b : Nat} (h : a ≤ b) (hl : pz_lo b mi mi') : pz_lo a mi mi' := fun j hj => hl j (by omega)
theorem pz_cn_te (te : pz_te mi mi') (h1 : mi' 13 = mi 13) (h2 : mi' 146 = mi 146) (h3 : mi' 147 = mi 147) (h : pz_cn mi F N k) : pz_cn mi' F N k := by
  unfold pz_cn
  rw [h1, h2, h3, pz_vs_te te, pz_cs_te te]
  exact h
theorem pz_mn_te (te : pz_te mi mi') (h1 : mi' 165 24 = mi 165 24) (h2 : mi' 184 = mi 184) (h3 : mi' 185 = mi 185) (h : pz_mn mi F N k) : pz_mn mi' F N k := by
  unfold pz_mn
  rw [h1, h2, h3, pz_vm_te te, pz_cm_te te]
  exact h
theorem pz_kc_te (te : pz_te mi mi') : ∀ m i lo hi nb r, pz_kc mi' σ k m i lo hi nb r = pz_kc mi σ k m i lo hi nb r := by
  intro m
  induction m with
  | zero => exact fun _ _ _ _ _ => rfl
  | succ m ih =>
    intro i lo hi nb r
    show (if pz_hs lo hi i = true then match pz_ma mi' 501 σ nb [] r [k i] with
      | none => none
      | some (q, _, nb', _, r') => if q = true then (if nb' = nb then some (false, lo, hi, nb', r') else pz_kc mi' σ k m (i + 1) lo hi nb' r') else pz_kc mi' σ k m (i + 1) (pz_dr lo hi i).1 (pz_dr lo hi i).2 nb' r'
      else pz_kc mi' σ k m (i + 1) lo hi nb r) = (if pz_hs lo hi i = true then match pz_ma mi 501 σ nb [] r [k i] with
      | none => none
      | some (q, _, nb', _, r') => if q = true then (if nb' = nb then some (false, lo, hi, nb', r') else pz_kc mi σ k m (i + 1) lo hi nb' r') else pz_kc mi σ k m (i + 1) (pz_dr lo hi i).1 (pz_dr lo hi i).2 nb' r'
      else pz_kc mi σ k m (i + 1) lo hi nb r)
    rw [pz_ma_te te]
    simp only [ih]
/-- Matcher.isOver -/
theorem pz_overC : pz_Rn (d + 1) 56 (0, [], [(0, .inr (.inr (some 155)))], pz_hp n0 mi ml mr c s, true) (fun o h => o = .inl (some (.inl (if 500 < mi 155 5 ∨ 1000 < mi 150 5 then 1 else 0))) ∧ h = pz_hp n0 mi ml mr c s) := by
  refine pz_g56_0 ⟨fun h => ⟨by rw [if_pos (.inl h)], rfl⟩, fun h => ?_⟩
  by_cases h2 : 1000 < mi 150 5
  · refine pz_Rn_c (d' := 0) (v := some (.inl 1)) (H := pz_hp n0 mi ml mr c s) (Nat.zero_le _) (pz_g48_0 ⟨fun h3 => absurd h3 (by omega), fun _ => ⟨rfl, rfl⟩⟩) ?_
    exact pz_g56_17 ⟨fun h3 => absurd h3 (by decide), fun _ => ⟨by rw [if_pos (.inr h2)], rfl⟩⟩
  · refine pz_Rn_c (d' := 0) (v := some (.inl 0)) (H := pz_hp n0 mi ml mr c s) (Nat.zero_le _) (pz_g48_0 ⟨fun _ => ⟨rfl, rfl⟩, fun h3 => absurd h3 h2⟩) ?_
    exact pz_g56_17 ⟨fun _ => ⟨by rw [if_neg (by omega)], rfl⟩, fun h3 => absurd rfl h3⟩
theorem pz_pQ_up {nb nb1 : Nat} (hnb : nb ≤ nb1) (h : pz_fr [150, 151, 152, 153, 154, 155, 156, 157, 158] [] mi mi') (h2 : pz_lo nb mi mi') (h3 : mi' 150 6 = mi 150 6) (h4 : ∀ p, p ≠ 149 → ml' p = ml p) {x : Option (Bool × Int64 × Int64 × Nat × Nat)} {o : pz_O} {hp : pz_H} : pz_pQ n0 mr c s F σ nb1 mi' ml' x o hp → pz_pQ n0 mr c s F σ nb mi ml x o hp := by
  rintro ⟨m, l, b, g1, g2, g3, g4, g5, g6, g7⟩
  refine ⟨m, l, b, g1, pz_fr_trans h g2, g3, pz_lo_trans h2 (pz_lo_mono hnb g4), g5.trans h3, fun p hp => (g6 p hp).trans (h4 p hp), ?_⟩
  cases x with
  | none =>
    obtain ⟨u1, u2, u3, u4⟩ := g7
    exact ⟨u1, u2, by omega, u4⟩
  | some z =>
    obtain ⟨q, lo', hi', nb', r'⟩ := z
    obtain ⟨u1, u2, u3, u4, u5, u6, u7⟩ := g7
    exact ⟨u1, u2, u3, u4, by omega, u6, u7⟩
/-- the loop's head when there is too much -/
theorem pz_kp_x {nb : Nat} {i : Int} {mi0 : Nat → Nat → Int} {ml0 : Nat → Nat → Int64} (f : pz_fr [150, 151, 152, 153, 154, 155, 156, 157, 158] [] mi0 mi) (l : pz_lo nb mi0 mi) (e : mi 150 6 = mi0 150 6) (hm : ∀ p, p ≠ 149 → ml p = ml0 p) (o : pz_ov1 mi nb) : pz_Rn (d + 4) 61 (2, [], [(0, .inr (.inr (some 13))), (1, .inl i)], pz_hp n0 mi ml mr c s, true) (pz_pQ n0 mr c s F σ nb mi0 ml0 none) := by
  have fin : pz_pQ n0 mr c s F σ nb mi0 ml0 none (.inl (some (.inl 1))) (pz_hp n0 mi ml mr c s) := ⟨mi, ml, 1, ⟨rfl, rfl⟩, f, .inr rfl, l, e, hm, o⟩
  have h1 := o.1
  refine pz_g61_2 ⟨fun _ => fin, fun _ => ?_⟩
  refine pz_Rn_c (d' := 1) (by omega) (pz_overC (d := 0)) ?_
  rw [if_pos (by omega)]
  exact pz_g61_17 ⟨fun _ => fin, fun h => absurd h (by decide)⟩
set_option maxHeartbeats 1000000 in
theorem pz_kp1 {mi0 : Nat → Nat → Int} (ht : pz_tm mi0) (hF : F ≤ 40) (hN : N ≤ 120) : ∀ (m i nb r : Nat) (mi : Nat → Nat → Int) (ml : Nat → Nat → Int64), i + m = N → pz_te mi0 mi → pz_cn mi F N k → r ≤ 500 → mi 155 5 = 500 - (r : Int) → mi 150 5 = (nb : Int) → nb ≤ 1000 → pz_cI mi F σ σ nb →
    pz_Rn (d + 4) 61 (2, [], [(0, .inr (.inr (some 13))), (1, .inl (i : Int))], pz_hp n0 mi ml mr c s, true) (pz_pQ n0 mr c s F σ nb mi ml (pz_kc mi0 σ k m i (ml 149 1) (ml 149 2) nb r)) := by
  intro m
  induction m with
  | zero =>
    intro i nb r mi ml him hte hcn hr hl hmd hnb hc
    have e := hcn.1
    have ek : pz_kc mi0 σ k 0 i (ml 149 1) (ml 149 2) nb r = some (true, ml 149 1, ml 149 2, nb, r) := rfl
    rw [ek]
    exact pz_g61_2 ⟨fun _ => ⟨mi, ml, 1, ⟨rfl, rfl⟩, pz_fr_refl, .inr rfl, pz_lo_refl, rfl, fun _ _ => rfl, rfl, hl, hr, hmd, Nat.le_refl _, hnb, hc, rfl, rfl⟩, fun h => absurd h (by omega)⟩
  | succ m ih =>
    intro i nb r mi ml him hte hcn hr hl hmd hnb hc
    have e := hcn.1
    obtain ⟨v1, v2, ek⟩ := hcn.2 i (by omega)
    have hu : pz_kc mi0 σ k (m + 1) i (ml 149 1) (ml 149 2) nb r = if pz_hs (ml 149 1) (ml 149 2) i = true then match pz_ma mi0 501 σ nb [] r [k i] with
      | none => none
      | some (q, _, nb', _, r') => if q = true then (if nb' = nb then some (false, ml 149 1, ml 149 2, nb', r') else pz_kc mi0 σ k m (i + 1) (ml 149 1) (ml 149 2) nb' r') else pz_kc mi0 σ k m (i + 1) (pz_dr (ml 149 1) (ml 149 2) i).1 (pz_dr (ml 149 1) (ml 149 2) i).2 nb' r'
      else pz_kc mi0 σ k m (i + 1) (ml 149 1) (ml 149 2) nb r := rfl
    rw [hu]
    have ei : (i : Int) + 1 = ((i + 1 : Nat) : Int) := by omega
    have ei0 : ((i : Int)).toNat = i := by omega
    refine pz_g61_2 ⟨fun h => absurd h (by omega), fun _ => ?_⟩
    refine pz_Rn_c (d' := 1) (by omega) (pz_overC (d := 0)) ?_
    rw [if_neg (by omega)]
    refine pz_g61_17 ⟨fun h => absurd rfl h, fun _ => ?_⟩
    refine pz_Rn_c (d' := 0) (by omega) (pz_hasC (p := 149) (.inl rfl) (by omega)) ?_
    by_cases hb : pz_hs (ml 149 1) (ml 149 2) i = true
    · rw [if_pos hb, if_pos hb]
      refine pz_g61_28 ⟨fun h => absurd h (by decide), fun _ => ⟨by omega, by omega, ?_⟩⟩
      rw [ei0]
      have hj := pz_judgeC (d := d) (n0 := n0) (ml := ml) (mr := mr) (c := c) (s := s) (pz_tm_te hte ht) hF v1 v2 hr hl hmd hnb hc
      rw [pz_ma_te hte, ← ek] at hj
      refine pz_Rn_e (Nat.le_refl _) hj ?_
      rintro _ _ ⟨m1, b, ⟨rfl, rfl⟩, f1, hb3, l1, e6, hp⟩
      have te1 := pz_te_fr f1 (by decide) (by decide)
      have cn1 := pz_cn_te te1 (f1.1 13 (by decide) (by decide)) (f1.1 146 (by decide) (by decide)) (f1.1 147 (by decide) (by decide)) hcn
      have hml : ∀ z p, p ≠ 149 → pz_lg2 ml 149 z p = ml p := by
        intro z p hp
        unfold pz_lg2
        rw [pz_upq hp, pz_upq hp]
      cases ex : pz_ma mi0 501 σ nb [] r [k i] with
      | none =>
        rw [ex] at hp
        have ov : pz_ov1 m1 nb := hp
        refine pz_g61_50 ⟨fun _ => ⟨fun _ => ⟨by omega, ?_⟩, fun _ => ?_⟩, fun _ => ?_⟩
        · exact pz_kp_x f1 l1 e6 (fun _ _ => rfl) ov
        · refine pz_Rn_c (d' := 0) (by omega) (pz_dropC (p := 149) (.inl rfl) (by omega)) ?_
          refine pz_g61_70 ⟨by omega, ?_⟩
          exact pz_kp_x f1 l1 e6 (hml _) ov
        · exact ⟨m1, ml, 0, ⟨rfl, rfl⟩, f1, .inl rfl, l1, e6, fun _ _ => rfl, ov⟩
      | some z =>
        obtain ⟨q, σ', nb', tr', r'⟩ := z
        rw [ex] at hp
        obtain ⟨o1, o2, o3, o4, o5, o6, o7⟩ := hp
        dsimp only
        cases q with
        | true =>
          have o1' : b = if nb' = nb then 0 else 2 := o1
          rw [if_pos rfl]
          by_cases hn1 : nb' = nb
          · rw [if_pos hn1] at o1' ⊢
            refine pz_g61_50 ⟨fun h => absurd o1' h, fun _ => ?_⟩
            exact ⟨m1, ml, 0, ⟨rfl, rfl⟩, f1, .inl rfl, l1, e6, fun _ _ => rfl, rfl, o2, o3, o4, o5, o6, o7, rfl, rfl⟩
          · rw [if_neg hn1] at o1' ⊢
            refine pz_g61_50 ⟨fun _ => ⟨fun _ => ⟨by omega, ?_⟩, fun h => absurd h (by omega)⟩, fun h => absurd h (by omega)⟩
            rw [ei]
            exact (ih (i + 1) nb' r' m1 ml (by omega) (pz_te_trans hte te1) cn1 o3 o2 o4 o6 o7).mono (Nat.le_refl _) (fun _ _ => pz_pQ_up o5 f1 l1 e6 (fun _ _ => rfl))
        | false =>
          have o1' : b = 1 := o1
          rw [if_neg (by decide)]
          refine pz_g61_50 ⟨fun _ => ⟨fun h => absurd o1' h, fun _ => ?_⟩, fun h => absurd h (by omega)⟩
          refine pz_Rn_c (d' := 0) (by omega) (pz_dropC (p := 149) (.inl rfl) (by omega)) ?_
          refine pz_g61_70 ⟨by omega, ?_⟩
          rw [ei]
          have q1 : pz_lg2 ml 149 (pz_dr (ml 149 1) (ml 149 2) i) 149 1 = (pz_dr (ml 149 1) (ml 149 2) i).1 := by
            unfold pz_lg2
            rw [pz_up_ot (by decide), pz_up_at]
          have q2 : pz_lg2 ml 149 (pz_dr (ml 149 1) (ml 149 2) i) 149 2 = (pz_dr (ml 149 1) (ml 149 2) i).2 := by
            unfold pz_lg2
            rw [pz_up_at]
          have hh := ih (i + 1) nb' r' m1 (pz_lg2 ml 149 (pz_dr (ml 149 1) (ml 149 2) i)) (by omega) (pz_te_trans hte te1) cn1 o3 o2 o4 o6 o7
          rw [q1, q2] at hh
          exact hh.mono (Nat.le_refl _) (fun _ _ => pz_pQ_up o5 f1 l1 e6 (hml _))
    · rw [if_neg hb, if_neg hb]
      refine pz_g61_28 ⟨fun _ => ⟨by omega, ?_⟩, fun h => absurd rfl h⟩
      rw [ei]
      exact ih (i + 1) nb r mi ml (by omega) hte hcn hr hl hmd hnb hc
/-- Question.keepConditions -/
theorem pz_keepC (ht : pz_tm mi) (hF : F ≤ 40) (hN : N ≤ 120) {nb r : Nat} (hcn : pz_cn mi F N k) (hr : r ≤ 500) (hl : mi 155 5 = 500 - (r : Int)) (hmd : mi 150 5 = (nb : Int)) (hnb : nb ≤ 1000) (hc : pz_cI mi F σ σ nb) :
    pz_Rn (d + 4) 61 (0, [], [(0, .inr (.inr (some 13)))], pz_hp n0 mi ml mr c s, true) (pz_pQ n0 mr c s F σ nb mi ml (pz_kc mi σ k N 0 (ml 149 1) (ml 149 2) nb r)) :=
  pz_g61_0 (pz_kp1 ht hF hN N 0 nb r mi ml (by omega) pz_te_refl hcn hr hl hmd hnb hc)
/-- longs that stand, all but the row n of 180 and 181 -/
def pz_lr (n : Nat) (ml ml' : Nat → Nat → Int64) : Prop := ∀ p j, (p ≠ 180 ∧ p ≠ 181) ∨ j ≠ n → ml' p j = ml p j
/-- how same's loop ends -/
def pz_sQ (n0 : Nat) (mr : Nat → Nat → Option Nat) (c s : Nat) (F : Int) (n : Nat) (σ : Nat → Option Nat) (mi : Nat → Nat → Int) (ml : Nat → Nat → Int64) (x : Option (Bool × Int64 × Int64 × Nat × Nat)) : pz_O → pz_H → Prop := fun o h => ∃ mi' ml' b, (o = .inl (some (.inl b)) ∧ h = pz_hp n0 mi' ml' mr c s) ∧ pz_fr [182, 186, 187, 188] [27, 29, 31, 33, 35] mi mi' ∧ (b = 0 ∨ b = 1) ∧ pz_rw n mi mi' ∧ pz_lr n ml ml' ∧ match x with
  | none => mi' 165 31 = 1
  | some (q, lo', hi', nb', r') => b = (if q then 1 else 0) ∧ mi' 165 31 = 0 ∧ mi' 165 27 = 500 - (r' : Int) ∧ r' ≤ 500 ∧ mi' 165 29 = nb' ∧ nb' ≤ 1000 ∧ pz_mS mi' F n σ ∧ ml' 180 n = lo' ∧ ml' 181 n = hi'
theorem pz_lr_trans {n : Nat} {ml'' : Nat → Nat → Int64} (h : pz_lr n ml ml') (h' : pz_lr n ml' ml'') : pz_lr n ml ml'' := fun p j hj => (h' p j hj).trans (h p j hj)
theorem pz_lr_lm {n : Nat} (z : Int64 × Int64) : pz_lr n ml (pz_lm ml n z) := by
  intro p j h
  unfold pz_lm pz_up
  rw [if_neg (by omega), if_neg (by omega)]
theorem pz_sQ_up {n : Nat} (h : pz_fr [182, 186, 187, 188] [27, 29, 31, 33, 35] mi mi') (h2 : pz_rw n mi mi') (h3 : pz_lr n ml ml') {x : Option (Bool × Int64 × Int64 × Nat × Nat)} {o : pz_O} {hp : pz_H} : pz_sQ n0 mr c s F n σ mi' ml' x o hp → pz_sQ n0 mr c s F n σ mi ml x o hp := by
  rintro ⟨m, l, b, g1, g2, g3, g4, g5, g6⟩
  exact ⟨m, l, b, g1, pz_fr_trans h g2, g3, pz_rw_trans h2 g4, pz_lr_trans h3 g5, g6⟩
theorem pz_sm_x {n : Nat} {a i : Int} (ha : a = 0 ∨ a = 1) {mi0 : Nat → Nat → Int} {ml0 : Nat → Nat → Int64} (h : pz_fr [182, 186, 187, 188] [27, 29, 31, 33, 35] mi0 mi) (h2 : pz_rw n mi0 mi) (h3 : pz_lr n ml0 ml) (ho : mi 165 31 = 1) : pz_Rn (d + 7) 129 (39, [], [(0, .inr (.inr (some 165))), (1, .inl (n : Int)), (3, .inl a), (4, .inl i)], pz_hp n0 mi ml mr c s, true) (pz_sQ n0 mr c s F n σ mi0 ml0 none) := by
  have fin : pz_sQ n0 mr c s F n σ mi0 ml0 none (.inl (some (.inl a))) (pz_hp n0 mi ml mr c s) := ⟨mi, ml, a, ⟨rfl, rfl⟩, h, ha, h2, h3, ho⟩
  exact pz_g129_39 ⟨fun _ => ⟨ha, fin⟩, fun _ => ⟨fun _ => ⟨ha, fin⟩, fun _ => ⟨fun _ => ⟨ha, fin⟩, fun h => absurd h (by omega)⟩⟩⟩
theorem pz_sm_0 {P : pz_O → pz_H → Prop} {nn i : Int} (h : P (.inl (some (.inl 0))) (pz_hp n0 mi ml mr c s)) : pz_Rn (d + 7) 129 (39, [], [(0, .inr (.inr (some 165))), (1, .inl nn), (3, .inl 0), (4, .inl i)], pz_hp n0 mi ml mr c s, true) P :=
  pz_g129_39 ⟨fun _ => ⟨.inl rfl, h⟩, fun _ => ⟨fun _ => ⟨.inl rfl, h⟩, fun h2 => absurd rfl h2⟩⟩
set_option maxHeartbeats 1000000 in
theorem pz_sm1 {mi0 : Nat → Nat → Int} (ht : pz_tm mi0) (hF : F ≤ 40) {n : Nat} (hn : n < 63) (hg : pz_gd σ) (hN : N ≤ 120) : ∀ (m i nb r : Nat) (mi : Nat → Nat → Int) (ml : Nat → Nat → Int64), i + m = N → pz_te mi0 mi → pz_mn mi F N k → r ≤ 500 → mi 165 27 = 500 - (r : Int) → mi 165 31 = 0 → mi 165 29 = (nb : Int) → nb ≤ 1000 → pz_mS mi F n σ →
    pz_Rn (d + 7) 129 (39, [], [(0, .inr (.inr (some 165))), (1, .inl (n : Int)), (3, .inl 1), (4, .inl (i : Int))], pz_hp n0 mi ml mr c s, true) (pz_sQ n0 mr c s F n σ mi ml (pz_kc mi0 σ k m i (ml 180 n) (ml 181 n) nb r)) := by
  intro m
  induction m with
  | zero =>
    intro i nb r mi ml him hte hcn hr hl ho hnb hnb1 hs
    have e := hcn.1
    have ek : pz_kc mi0 σ k 0 i (ml 180 n) (ml 181 n) nb r = some (true, ml 180 n, ml 181 n, nb, r) := rfl
    rw [ek]
    exact pz_g129_39 ⟨fun _ => ⟨.inr rfl, mi, ml, 1, ⟨rfl, rfl⟩, pz_fr_refl, .inr rfl, pz_rw_refl, fun _ _ _ => rfl, rfl, ho, hl, hr, hnb, hnb1, hs, rfl, rfl⟩, fun h => absurd h (by omega)⟩
  | succ m ih =>
    intro i nb r mi ml him hte hcn hr hl ho hnb hnb1 hs
    have e := hcn.1
    obtain ⟨v1, v2, ek⟩ := hcn.2 i (by omega)
    have hu : pz_kc mi0 σ k (m + 1) i (ml 180 n) (ml 181 n) nb r = if pz_hs (ml 180 n) (ml 181 n) i = true then match pz_ma mi0 501 σ nb [] r [k i] with
      | none => none
      | some (q, _, nb', _, r') => if q = true then (if nb' = nb then some (false, ml 180 n, ml 181 n, nb', r') else pz_kc mi0 σ k m (i + 1) (ml 180 n) (ml 181 n) nb' r') else pz_kc mi0 σ k m (i + 1) (pz_dr (ml 180 n) (ml 181 n) i).1 (pz_dr (ml 180 n) (ml 181 n) i).2 nb' r'
      else pz_kc mi0 σ k m (i + 1) (ml 180 n) (ml 181 n) nb r := rfl
    rw [hu]
    have ei : (i : Int) + 1 = ((i + 1 : Nat) : Int) := by omega
    have ei0 : ((i : Int)).toNat = i := by omega
    refine pz_g129_39 ⟨fun h => absurd h (by omega), fun _ => ⟨fun h => absurd h (by decide), fun _ => ⟨fun h => absurd ho h, fun _ => ?_⟩⟩⟩
    refine pz_Rn_c (d' := 0) (by omega) (pz_hasM (by omega) (by omega)) ?_
    by_cases hb : pz_hs (ml 180 n) (ml 181 n) i = true
    · rw [if_pos hb, if_pos hb]
      refine pz_g129_66 ⟨fun _ => ⟨by omega, by omega, ?_⟩, fun h => absurd h (by decide)⟩
      rw [ei0]
      have hj := pz_judgedC (d := d) (n0 := n0) (ml := ml) (mr := mr) (c := c) (s := s) (pz_tm_te hte ht) hF hn v1 v2 hr hl ho hnb hnb1 hs hg
      rw [pz_ma_te hte, ← ek] at hj
      refine pz_Rn_e (Nat.le_refl _) hj ?_
      rintro _ _ ⟨m1, b, ⟨rfl, rfl⟩, f1, hb3, r1, hp⟩
      have te1 := pz_te_fr f1 (by decide) (by decide)
      have cn1 := pz_mn_te te1 (f1.2 24 (by decide)) (f1.1 184 (by decide) (by decide)) (f1.1 185 (by decide) (by decide)) hcn
      have l0 : pz_lr n ml ml := fun _ _ _ => rfl
      cases ex : pz_ma mi0 501 σ nb [] r [k i] with
      | none =>
        rw [ex] at hp
        have ov : m1 165 31 = 1 := hp
        refine pz_g129_91 ⟨fun _ => ⟨by omega, ?_⟩, fun _ => ⟨fun _ => ⟨by omega, ?_⟩, fun _ => ?_⟩⟩
        · exact pz_sm_x (.inl rfl) f1 r1 l0 ov
        · exact pz_sm_x (.inr rfl) f1 r1 l0 ov
        · have sm := pz_setM (d := 0) (n0 := n0) (mi := m1) (ml := ml) (mr := mr) (c := c) (s := s) (n := n) (by omega) (i := i) (by omega) false
          refine pz_Rn_c (d' := 0) (by omega) sm ?_
          refine pz_g129_118 ⟨by omega, ?_⟩
          exact pz_sm_x (.inr rfl) f1 r1 (pz_lr_lm _) ov
      | some z =>
        obtain ⟨q, σ', nb', tr', r'⟩ := z
        rw [ex] at hp
        obtain ⟨o1, o2, o3, o4, o5, o6, o7⟩ := hp
        dsimp only
        cases q with
        | true =>
          have o1' : b = if nb' = nb then 2 else 1 := o1
          rw [if_pos rfl]
          by_cases hn1 : nb' = nb
          · rw [if_pos hn1] at o1' ⊢
            refine pz_g129_91 ⟨fun _ => ⟨by omega, ?_⟩, fun h => absurd o1' h⟩
            exact pz_sm_0 ⟨m1, ml, 0, ⟨rfl, rfl⟩, f1, .inl rfl, r1, l0, rfl, o2, o3, o4, o5, o6, o7, rfl, rfl⟩
          · rw [if_neg hn1] at o1' ⊢
            refine pz_g129_91 ⟨fun h => absurd h (by omega), fun _ => ⟨fun _ => ⟨by omega, ?_⟩, fun h => absurd h (by omega)⟩⟩
            rw [ei]
            exact (ih (i + 1) nb' r' m1 ml (by omega) (pz_te_trans hte te1) cn1 o4 o3 o2 o5 o6 o7).mono (Nat.le_refl _) (fun _ _ => pz_sQ_up f1 r1 l0)
        | false =>
          have o1' : b = 0 := o1
          rw [if_neg (by decide)]
          refine pz_g129_91 ⟨fun h => absurd h (by omega), fun _ => ⟨fun h => absurd o1' h, fun _ => ?_⟩⟩
          have sm := pz_setM (d := 0) (n0 := n0) (mi := m1) (ml := ml) (mr := mr) (c := c) (s := s) (n := n) (by omega) (i := i) (by omega) false
          refine pz_Rn_c (d' := 0) (by omega) sm ?_
          refine pz_g129_118 ⟨by omega, ?_⟩
          rw [ei]
          have q1 : pz_lm ml n (pz_dr (ml 180 n) (ml 181 n) i) 180 n = (pz_dr (ml 180 n) (ml 181 n) i).1 := by
            unfold pz_lm
            rw [pz_upq (by decide), pz_up_at]
          have q2 : pz_lm ml n (pz_dr (ml 180 n) (ml 181 n) i) 181 n = (pz_dr (ml 180 n) (ml 181 n) i).2 := by
            unfold pz_lm
            rw [pz_up_at]
          have hh := ih (i + 1) nb' r' m1 (pz_lm ml n (pz_dr (ml 180 n) (ml 181 n) i)) (by omega) (pz_te_trans hte te1) cn1 o4 o3 o2 o5 o6 o7
          rw [q1, q2] at hh
          exact hh.mono (Nat.le_refl _) (fun _ _ => pz_sQ_up f1 r1 (pz_lr_lm _))
    · rw [if_neg hb, if_neg hb]
      refine pz_g129_66 ⟨fun h => absurd rfl h, fun _ => ⟨by omega, ?_⟩⟩
      rw [ei]
      exact ih (i + 1) nb r mi ml (by omega) hte hcn hr hl ho hnb hnb1 hs
end pzn
