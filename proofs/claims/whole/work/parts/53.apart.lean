/-! SAME and DIFFER: what both sides make of a task. -/
abbrev pz_an : Type := (Nat → Option Nat) × Int64 × Int64
abbrev pz_sr : Type := Option (Option pz_an × Nat × Nat × (Nat → Nat × Nat))
def pz_sm (mi : Nat → Nat → Int) (σ : Nat → Option Nat) (k : Nat → Nat × Nat) (N : Nat) (lo hi : Int64) (nb r : Nat) (ab : Nat × Nat) : pz_sr := match pz_ma mi 501 σ nb [] r [ab] with
  | none => none
  | some (q, σ', nb', _, r') => if q = true then (match pz_kc mi σ' k N 0 lo hi nb' r' with
      | none => none
      | some (q2, lo', hi', nb2, _) => some (if q2 = true then some (σ', lo', hi') else none, nb2, N, k)) else some (none, nb', N, k)
def pz_df (mi : Nat → Nat → Int) (σ : Nat → Option Nat) (k : Nat → Nat × Nat) (N : Nat) (lo hi : Int64) (nb r : Nat) (ab : Nat × Nat) : pz_sr := match pz_ma mi 501 σ nb [] r [ab] with
  | none => none
  | some (q, _, nb', _, _) => if q = true then (if nb' = nb then some (none, nb', N, k) else if N = 120 then none else some (some (σ, (pz_ad lo hi N).1, (pz_ad lo hi N).2), nb', N + 1, fun i => if i = N then ab else k i)) else some (some (σ, lo, hi), nb', N, k)
/-- what the class has when a task has matched or not -/
def pz_aC (mi : Nat → Nat → Int) (ml : Nat → Nat → Int64) (F : Int) (nb : Nat) (x : pz_sr) (b : Int) (mi' : Nat → Nat → Int) (ml' : Nat → Nat → Int64) : Prop := pz_fr [13, 146, 147, 149, 150, 151, 152, 153, 154, 155, 156, 157, 158] [] mi mi' ∧ (∀ j, j ≠ 11 → mi' 13 j = mi 13 j) ∧ (∀ p, p ≠ 149 → ml' p = ml p) ∧ pz_lo nb mi mi' ∧ (b = 0 ∨ b = 1) ∧ (mi' 150 5 ≤ 1001 ∧ 0 ≤ mi' 155 5 ∧ mi' 155 5 ≤ 501 ∧ (nb : Int) ≤ mi' 150 5 ∧ mi' 13 11 ≤ 121) ∧ match x with
  | none => 500 < mi' 155 5 ∨ 1000 < mi' 150 5 ∨ 120 < mi' 13 11
  | some (ans, nb', N', k') => mi' 155 5 ≤ 500 ∧ mi' 150 5 = (nb' : Int) ∧ nb' ≤ 1000 ∧ N' ≤ 120 ∧ pz_cn mi' F N' k' ∧ match ans with
    | none => b = 0
    | some (σ', lo', hi') => b = 1 ∧ pz_cI mi' F σ' σ' nb' ∧ mi' 149 0 = mi' 150 6 ∧ ml' 149 1 = lo' ∧ ml' 149 2 = hi'
/-- .. and the reference -/
def pz_aM (mi : Nat → Nat → Int) (ml : Nat → Nat → Int64) (F : Int) (n : Nat) (x : pz_sr) (b : Int) (mi' : Nat → Nat → Int) (ml' : Nat → Nat → Int64) : Prop := pz_fr [182, 184, 185, 186, 187, 188] [24, 27, 29, 31, 33, 35] mi mi' ∧ pz_rw n mi mi' ∧ pz_lr n ml ml' ∧ (b = 0 ∨ b = 1) ∧ match x with
  | none => mi' 165 31 = 1
  | some (ans, nb', N', k') => mi' 165 31 = 0 ∧ mi' 165 29 = (nb' : Int) ∧ pz_mn mi' F N' k' ∧ match ans with
    | none => b = 0
    | some (σ', lo', hi') => b = 1 ∧ pz_mS mi' F n σ' ∧ ml' 180 n = lo' ∧ ml' 181 n = hi'
section pzt
variable {d n0 : Nat} {mi mi' : Nat → Nat → Int} {ml ml' : Nat → Nat → Int64} {mr : Nat → Nat → Option Nat} {c s : Nat} {F : Int} {σ : Nat → Option Nat} {N : Nat} {k : Nat → Nat × Nat} {Q : pz_O → pz_H → Prop}
set_option maxHeartbeats 1000000 in
/-- the class's SAME, up to giving the task back -/
theorem pz_st_same (ht : pz_tm mi) (hF : F ≤ 40) (hN : N ≤ 120) {q g f nb r : Nat} {one two : Int} (hq : pz_nd q) (hg : mi q 3 = (g : Int)) (hg4 : g < 40) (hk0 : mi 7 g = 0) (hf : mi q 4 = (f : Int)) (hfF : (f : Int) < F) (h8 : mi 8 g = one) (h9 : mi 9 g = two) (ho : pz_isT mi one) (htw : pz_isT mi two) (hS : pz_cS mi F (mi (q + 1) 0) σ) (hgd : pz_gd σ) (hr : r ≤ 500) (hl : mi 155 5 = 500 - (r : Int)) (hmd : mi 150 5 = (nb : Int)) (hnb : nb ≤ 1000) (hcn : pz_cn mi F N k)
    (K : ∀ (b : Int) (mi' : Nat → Nat → Int) (ml' : Nat → Nat → Int64), pz_aC mi ml F nb (pz_sm mi σ k N (ml (q + 1) 1) (ml (q + 1) 2) nb r (pz_cs mi (f * 41 + one), pz_cs mi (f * 41 + two))) b mi' ml' → pz_Rn (d + 4) 43 (0, [], [(0, .inr (.inr (some 14))), (1, .inr (.inr (some q)))], pz_hp n0 (pz_up mi' 13 14 b) ml' mr c s, true) (pz_K (d + 4 + 1) 64 107 [] [] Q true)) :
    pz_Rn (d + 5) 64 (0, [], [(0, .inr (.inr (some 13))), (1, .inr (.inr (some q)))], pz_hp n0 mi ml mr c s, true) Q := by
  have eg : ((g : Int)).toNat = g := by omega
  have hqn := hq
  obtain ⟨a1, a2, a3⟩ := hqn
  refine pz_g64_0 ⟨q, rfl, hq, by omega, fun x3 e3 => ?_⟩
  rw [hg, eg, hk0] at e3
  refine ⟨fun _ => ?_, fun h => absurd h (by omega), fun h => absurd h (by omega), fun h => absurd h (by omega), fun h => absurd h (by omega), fun h => absurd h (by omega)⟩
  refine pz_Rn_e (d' := d + 3) (by omega) (pz_termsC (d := d) ht hF hq hg hg4 hf hfF h8 h9 ho htw hS hgd hr hl hmd hnb) ?_
  rintro _ _ ⟨m1, l1, b, ⟨rfl, rfl⟩, f1, hb, lo1, hl3, hl1, hl2, hp⟩
  have te1 := pz_te_fr f1 (by decide) (by decide)
  have F1 : pz_fr [13, 146, 147, 149, 150, 151, 152, 153, 154, 155, 156, 157, 158] [] mi m1 := pz_fr_sub (by decide) (by decide) f1
  have e13 : m1 13 = mi 13 := f1.1 13 (by decide) (by decide)
  have cn1 := pz_cn_te te1 e13 (f1.1 146 (by decide) (by decide)) (f1.1 147 (by decide) (by decide)) hcn
  have hN1 := hcn.1
  cases ex : pz_ma mi 501 σ nb [] r [(pz_cs mi (f * 41 + one), pz_cs mi (f * 41 + two))] with
  | none =>
    rw [ex] at hp
    obtain ⟨p1, p2, p3, p4⟩ := hp
    have es : pz_sm mi σ k N (ml (q + 1) 1) (ml (q + 1) 2) nb r (pz_cs mi (f * 41 + one), pz_cs mi (f * 41 + two)) = none := by
      unfold pz_sm
      rw [ex]
    rw [es] at K
    refine pz_g64_72 ⟨fun h => ?_, fun h => ?_⟩
    · exact K 0 m1 l1 ⟨F1, fun j _ => by rw [e13], hl3, lo1, .inl rfl, ⟨by omega, by omega, by omega, by omega, by rw [e13]; omega⟩, by show _ ∨ _; omega⟩
    · -- keepConditions sees that it is over
      have over : pz_Rn (d + 4) 61 (0, [], [(0, .inr (.inr (some 13)))], pz_hp n0 m1 l1 mr c s, true) (pz_pQ n0 mr c s F σ nb m1 l1 none) := pz_g61_0 (pz_kp_x pz_fr_refl pz_lo_refl rfl (fun _ _ => rfl) ⟨p1, p2, p3, p4⟩)
      refine pz_Rn_e (Nat.le_refl _) over ?_
      rintro _ _ ⟨m2, l2, b2, ⟨rfl, rfl⟩, f2, hb2, lo2, e6, hm2, v1, v2, v3, v4⟩
      have e13b : m2 13 = mi 13 := (f2.1 13 (by decide) (by decide)).trans e13
      have fin : ∀ b', (b' = 0 ∨ b' = 1) → pz_aC mi ml F nb none b' m2 l2 := fun b' hb' => ⟨pz_fr_trans F1 (pz_fr_sub (by decide) (by decide) f2), fun j _ => by rw [e13b], fun p hp => (hm2 p hp).trans (hl3 p hp), pz_lo_trans lo1 lo2, hb', ⟨by omega, by omega, by omega, by omega, by rw [e13b]; omega⟩, by show _ ∨ _; omega⟩
      exact pz_g64_79 ⟨fun _ => K 0 m2 l2 (fin 0 (.inl rfl)), fun _ => K 1 m2 l2 (fin 1 (.inr rfl))⟩
  | some z =>
    obtain ⟨qq, σ', nb', tr', r'⟩ := z
    rw [ex] at hp
    obtain ⟨u1, u2, u3, u4, u5, u6, u7, u8⟩ := hp
    cases qq with
    | false =>
      have u1' : b = 0 := u1
      have es : pz_sm mi σ k N (ml (q + 1) 1) (ml (q + 1) 2) nb r (pz_cs mi (f * 41 + one), pz_cs mi (f * 41 + two)) = some (none, nb', N, k) := by
        unfold pz_sm
        rw [ex]
        rfl
      rw [es] at K
      refine pz_g64_72 ⟨fun _ => ?_, fun h => absurd u1' h⟩
      exact K 0 m1 l1 ⟨F1, fun j _ => by rw [e13], hl3, lo1, .inl rfl, ⟨by omega, by omega, by omega, by omega, by rw [e13]; omega⟩, by omega, u4, u6, hN, cn1, rfl⟩
    | true =>
      have u1' : b = 1 := u1
      refine pz_g64_72 ⟨fun h => absurd h (by omega), fun _ => ?_⟩
      have hk := pz_keepC (d := d) (n0 := n0) (ml := l1) (mr := mr) (c := c) (s := s) (pz_tm_te te1 ht) hF hN cn1 u3 u2 u4 u6 u7
      refine pz_Rn_e (Nat.le_refl _) hk ?_
      rintro _ _ ⟨m2, l2, b2, ⟨rfl, rfl⟩, f2, hb2, lo2, e6, hm2, hp2⟩
      have e13b : m2 13 = mi 13 := (f2.1 13 (by decide) (by decide)).trans e13
      have te2 := pz_te_fr f2 (by decide) (by decide)
      have F2 := pz_fr_trans F1 (pz_fr_sub (by decide) (by decide) f2)
      have L2 := pz_lo_trans lo1 (pz_lo_mono u5 lo2)
      have M2 : ∀ p, p ≠ 149 → l2 p = ml p := fun p hp => (hm2 p hp).trans (hl3 p hp)
      have cn2 := pz_cn_te te2 (f2.1 13 (by decide) (by decide)) (f2.1 146 (by decide) (by decide)) (f2.1 147 (by decide) (by decide)) cn1
      rw [hl1, hl2, pz_kc_te te1] at hp2
      cases ex2 : pz_kc mi σ' k N 0 (ml (q + 1) 1) (ml (q + 1) 2) nb' r' with
      | none =>
        rw [ex2] at hp2
        obtain ⟨v1, v2, v3, v4⟩ := hp2
        have es : pz_sm mi σ k N (ml (q + 1) 1) (ml (q + 1) 2) nb r (pz_cs mi (f * 41 + one), pz_cs mi (f * 41 + two)) = none := by
          unfold pz_sm
          rw [ex]
          dsimp only
          rw [if_pos rfl, ex2]
        rw [es] at K
        have fin : ∀ b', (b' = 0 ∨ b' = 1) → pz_aC mi ml F nb none b' m2 l2 := fun b' hb' => ⟨F2, fun j _ => by rw [e13b], M2, L2, hb', ⟨by omega, by omega, by omega, by omega, by rw [e13b]; omega⟩, by show _ ∨ _; omega⟩
        exact pz_g64_79 ⟨fun _ => K 0 m2 l2 (fin 0 (.inl rfl)), fun _ => K 1 m2 l2 (fin 1 (.inr rfl))⟩
      | some z2 =>
        obtain ⟨q2, lo', hi', nb2, r2⟩ := z2
        rw [ex2] at hp2
        obtain ⟨v1, v2, v3, v4, v5, v6, v7, v8, v9⟩ := hp2
        have es : pz_sm mi σ k N (ml (q + 1) 1) (ml (q + 1) 2) nb r (pz_cs mi (f * 41 + one), pz_cs mi (f * 41 + two)) = some (if q2 = true then some (σ', lo', hi') else none, nb2, N, k) := by
          unfold pz_sm
          rw [ex]
          dsimp only
          rw [if_pos rfl, ex2]
        rw [es] at K
        cases q2 with
        | false =>
          have v1' : b2 = 0 := v1
          refine pz_g64_79 ⟨fun _ => ?_, fun h => absurd v1' h⟩
          exact K 0 m2 l2 ⟨F2, fun j _ => by rw [e13b], M2, L2, .inl rfl, ⟨by omega, by omega, by omega, by omega, by rw [e13b]; omega⟩, by omega, v4, v6, hN, cn2, rfl⟩
        | true =>
          have v1' : b2 = 1 := v1
          refine pz_g64_79 ⟨fun h => absurd h (by omega), fun _ => ?_⟩
          refine K 1 m2 l2 ⟨F2, fun j _ => by rw [e13b], M2, L2, .inr rfl, ⟨by omega, by omega, by omega, by omega, by rw [e13b]; omega⟩, by omega, v4, v6, hN, cn2, rfl, v7, ?_, v8, v9⟩
          rw [f2.1 149 (by decide) (by decide), u8, e6]
theorem pz_cn_more {one two : Int} {a b : Nat} (te : pz_te mi mi') (h : pz_cn mi F N k) (h1 : mi' 13 11 = ((N + 1 : Nat) : Int)) (h2 : ∀ i, i ≠ N → mi' 146 i = mi 146 i ∧ mi' 147 i = mi 147 i) (h3 : mi' 146 N = one) (h4 : mi' 147 N = two) (v1 : pz_vs mi F one) (v2 : pz_vs mi F two) (c1 : pz_cs mi one = a) (c2 : pz_cs mi two = b) : pz_cn mi' F (N + 1) (fun i => if i = N then (a, b) else k i) := by
  refine ⟨h1, fun i hi => ?_⟩
  rw [pz_vs_te te, pz_cs_te te]
  by_cases e : i = N
  · subst e
    rw [h3, h4]
    refine ⟨v1, v2, ?_⟩
    rw [c1, c2]
    exact if_pos rfl
  · rw [(h2 i e).1, (h2 i e).2]
    obtain ⟨g1, g2, g3⟩ := h.2 i (by omega)
    refine ⟨g1, g2, ?_⟩
    dsimp only
    rw [if_neg e]
    exact g3
set_option maxHeartbeats 1000000 in
/-- the class's DIFFER, up to giving the task back -/
theorem pz_st_diff (ht : pz_tm mi) (hF : F ≤ 40) (hN : N ≤ 120) {q g f nb r : Nat} {one two : Int} (hq : pz_nd q) (hg : mi q 3 = (g : Int)) (hg4 : g < 40) (hk0 : mi 7 g = 1) (hf : mi q 4 = (f : Int)) (hfF : (f : Int) < F) (h8 : mi 8 g = one) (h9 : mi 9 g = two) (ho : pz_isT mi one) (htw : pz_isT mi two) (hS : pz_cS mi F (mi (q + 1) 0) σ) (hgd : pz_gd σ) (hr : r ≤ 500) (hl : mi 155 5 = 500 - (r : Int)) (hmd : mi 150 5 = (nb : Int)) (hnb : nb ≤ 1000) (hcn : pz_cn mi F N k)
    (K : ∀ (b : Int) (mi' : Nat → Nat → Int) (ml' : Nat → Nat → Int64), pz_aC mi ml F nb (pz_df mi σ k N (ml (q + 1) 1) (ml (q + 1) 2) nb r (pz_cs mi (f * 41 + one), pz_cs mi (f * 41 + two))) b mi' ml' → pz_Rn (d + 4) 43 (0, [], [(0, .inr (.inr (some 14))), (1, .inr (.inr (some q)))], pz_hp n0 (pz_up mi' 13 14 b) ml' mr c s, true) (pz_K (d + 4 + 1) 64 107 [] [] Q true)) :
    pz_Rn (d + 5) 64 (0, [], [(0, .inr (.inr (some 13))), (1, .inr (.inr (some q)))], pz_hp n0 mi ml mr c s, true) Q := by
  have eg : ((g : Int)).toNat = g := by omega
  have hq1 : pz_sd (q + 1) := by
    obtain ⟨a1, a2, a3⟩ := hq
    exact .inr ⟨by omega, by omega, by omega⟩
  have hqn := hq
  obtain ⟨a1, a2, a3⟩ := hqn
  have t2 := ht.2.1
  have hN1 := hcn.1
  have vo : pz_vs mi F ((f : Int) * 41 + one) := pz_vs_it ht (by omega) ho
  have vt : pz_vs mi F ((f : Int) * 41 + two) := pz_vs_it ht (by omega) htw
  obtain ⟨o1, o2⟩ := ho
  obtain ⟨w1, w2⟩ := htw
  refine pz_g64_0 ⟨q, rfl, hq, by omega, fun x3 e3 => ?_⟩
  rw [hg, eg, hk0] at e3
  refine ⟨fun h => absurd h (by omega), fun _ => ?_, fun h => absurd h (by omega), fun h => absurd h (by omega), fun h => absurd h (by omega), fun h => absurd h (by omega)⟩
  -- setApart
  have ap : pz_Rn (d + 4) 63 (0, [], [(0, .inr (.inr (some 13))), (1, .inr (.inr (some q)))], pz_hp n0 mi ml mr c s, true) (fun o h => ∃ mi' ml' b, (o = .inl (some (.inl b)) ∧ h = pz_hp n0 mi' ml' mr c s) ∧ pz_aC mi ml F nb (pz_df mi σ k N (ml (q + 1) 1) (ml (q + 1) 2) nb r (pz_cs mi (f * 41 + one), pz_cs mi (f * 41 + two))) b mi' ml') := by
    refine pz_g63_0 ⟨q, rfl, hq, ?_⟩
    rw [hg, hf, eg, h8]
    refine ⟨by omega, ?_⟩
    refine pz_Rn_c (d' := 0) (by omega) (pz_spot (by omega) (by omega)) ?_
    refine pz_g63_19 ⟨q, rfl, hq, ?_⟩
    rw [hg, hf, eg, h9]
    refine ⟨by omega, ?_⟩
    refine pz_Rn_c (d' := 0) (by omega) (pz_spot (by omega) (by omega)) ?_
    refine pz_g63_39 ⟨q, rfl, hq, ?_⟩
    refine pz_Rn_c (d' := 0) (by omega) (pz_copyC (.inl rfl) hq1 (by omega)) ?_
    obtain ⟨l1, l2, l3⟩ := pz_lg2_f (ml := ml) (p := 149) (z := (ml (q + 1) 1, ml (q + 1) 2))
    generalize pz_lg2 ml 149 (ml (q + 1) 1, ml (q + 1) 2) = ml1 at *
    have f1 : pz_fr [149] [] mi (pz_up mi 149 0 (mi (q + 1) 0)) := pz_fr_up (by decide) (by decide)
    have e149 : pz_up mi 149 0 (mi (q + 1) 0) 149 0 = mi (q + 1) 0 := pz_up_at
    have te1 := pz_te_fr f1 (by decide) (by decide)
    generalize pz_up mi 149 0 (mi (q + 1) 0) = m1 at *
    refine pz_g63_51 ⟨q, rfl, hq, ?_⟩
    have e1 : ∀ p, p ≠ 149 → p ≠ 165 → m1 p = mi p := fun p h1 h2 => f1.1 p (by rw [List.mem_singleton]; exact h1) h2
    rw [e1 (q + 1) (by omega) (by omega)]
    have hS1 : pz_cS m1 F (mi (q + 1) 0) σ := pz_cS_te te1 (by rw [e1 150 (by decide) (by decide)]; exact Int.le_refl _) (fun j _ => ⟨by rw [e1 151 (by decide) (by decide)], by rw [e1 152 (by decide) (by decide)], by rw [e1 153 (by decide) (by decide)]⟩) hS
    refine pz_Rn_e (d' := 1) (by omega) (pz_spreadC (d := 0) hF hS1 (by rw [e1 150 (by decide) (by decide)]; omega)) ?_
    rintro _ _ ⟨m2, ⟨rfl, rfl⟩, f2, g5, g6, hsp⟩
    have te2 := pz_te_fr f2 (by decide) (by decide)
    have te12 := pz_te_trans te1 te2
    have e2 : ∀ p, p ≠ 149 → p ≠ 150 → p ≠ 154 → p ≠ 165 → m2 p = mi p := fun p h1 h2 h3 h4 => (f2.1 p (by simp [h2, h3]) h4).trans (e1 p h1 h4)
    refine pz_g63_65 ?_
    have e155 : m2 155 = mi 155 := e2 155 (by decide) (by decide) (by decide) (by decide)
    have d2 : m2 150 5 = (nb : Int) := by rw [g5, e1 150 (by decide) (by decide)]; exact hmd
    have hS2 : pz_cS m2 F (m2 150 6) σ := by
      rw [g6]
      exact pz_cS_te te2 (by rw [g5]; exact Int.le_refl _) (fun j _ => ⟨by rw [f2.1 151 (by decide) (by decide)], by rw [f2.1 152 (by decide) (by decide)], by rw [f2.1 153 (by decide) (by decide)]⟩) hS1
    have hx : pz_vs m2 F ((f : Int) * 41 + one) := by
      rw [pz_vs_te te12]
      exact vo
    have hy : pz_vs m2 F ((f : Int) * 41 + two) := by
      rw [pz_vs_te te12]
      exact vt
    have hm := pz_judgeC (d := d) (n0 := n0) (ml := ml1) (mr := mr) (c := c) (s := s) (pz_tm_te te12 ht) hF hx hy hr (by rw [e155]; exact hl) d2 hnb (pz_cI0 hsp hgd hS2 d2)
    rw [pz_ma_te te12, pz_cs_te te12] at hm
    refine pz_Rn_e (Nat.le_refl _) hm ?_
    rintro _ _ ⟨m3, b, ⟨rfl, rfl⟩, f3, hb, lo3, e6, hp⟩
    have te3 := pz_te_fr f3 (by decide) (by decide)
    have F3 : pz_fr [13, 146, 147, 149, 150, 151, 152, 153, 154, 155, 156, 157, 158] [] mi m3 := pz_fr_trans (pz_fr_trans (pz_fr_sub (by decide) (by decide) f1) (pz_fr_sub (by decide) (by decide) f2)) (pz_fr_sub (by decide) (by decide) f3)
    have L3 : pz_lo nb mi m3 := pz_lo_trans (pz_lo_eq (e2 151 (by decide) (by decide) (by decide) (by decide)) (e2 152 (by decide) (by decide) (by decide) (by decide)) (e2 153 (by decide) (by decide) (by decide) (by decide))) lo3
    have e13 : m3 13 = mi 13 := (f3.1 13 (by decide) (by decide)).trans (e2 13 (by decide) (by decide) (by decide) (by decide))
    have e146 : m3 146 = mi 146 := (f3.1 146 (by decide) (by decide)).trans (e2 146 (by decide) (by decide) (by decide) (by decide))
    have e147 : m3 147 = mi 147 := (f3.1 147 (by decide) (by decide)).trans (e2 147 (by decide) (by decide) (by decide) (by decide))
    have e149b : m3 149 0 = m3 150 6 := by
      rw [f3.1 149 (by decide) (by decide), f2.1 149 (by decide) (by decide), e149, e6, g6]
    have te13 := pz_te_trans te12 te3
    have cn3 := pz_cn_te te13 e13 e146 e147 hcn
    -- a condition that is added
    have add : ∀ (P : Int → (Nat → Nat → Int) → (Nat → Nat → Int64) → Prop), b = 2 → (∀ m4 l4, pz_fr [13, 146, 147] [] m3 m4 → (∀ j, j ≠ 11 → m4 13 j = m3 13 j) → m4 13 11 = ((N + 1 : Nat) : Int) → (∀ i, i ≠ N → m4 146 i = m3 146 i ∧ m4 147 i = m3 147 i) → m4 146 N = (f : Int) * 41 + one → m4 147 N = (f : Int) * 41 + two → (∀ p, p ≠ 149 → l4 p = ml p) → l4 149 1 = (pz_ad (ml (q + 1) 1) (ml (q + 1) 2) N).1 → l4 149 2 = (pz_ad (ml (q + 1) 1) (ml (q + 1) 2) N).2 → P 1 m4 l4) → pz_Rn (d + 3 + 1) 63 (74, [.inl b], [(0, .inr (.inr (some 13))), (2, .inl ((f : Int) * 41 + one)), (3, .inl ((f : Int) * 41 + two))], pz_hp n0 m3 ml1 mr c s, true) (fun o h => ∃ mi' ml' b, (o = .inl (some (.inl b)) ∧ h = pz_hp n0 mi' ml' mr c s) ∧ P b mi' ml') := by
      intro P hb2 hP
      refine pz_g63_74 ⟨fun h => absurd hb2 h, fun _ => ⟨fun h => absurd h (by rw [e13]; omega), fun _ => ⟨by rw [e13]; omega, by rw [e13]; omega, ?_⟩⟩⟩
      rw [e13, hN1]
      have eN : ((N : Int)).toNat = N := by omega
      rw [eN]
      refine pz_Rn_c (d' := 0) (by omega) (pz_addC (p := 149) (.inl rfl) (by omega)) ?_
      have f4 : pz_fr [13, 146, 147] [] m3 (pz_up (pz_up m3 146 N ((f : Int) * 41 + one)) 147 N ((f : Int) * 41 + two)) := pz_fr_trans (pz_fr_up (by decide) (by decide)) (pz_fr_up (by decide) (by decide))
      have w1' : ∀ i, i ≠ N → pz_up (pz_up m3 146 N ((f : Int) * 41 + one)) 147 N ((f : Int) * 41 + two) 146 i = m3 146 i ∧ pz_up (pz_up m3 146 N ((f : Int) * 41 + one)) 147 N ((f : Int) * 41 + two) 147 i = m3 147 i := by
        intro i hi
        constructor
        · rw [pz_upq (by decide), pz_up_ot hi]
        · rw [pz_up_ot hi, pz_upq (by decide)]
      have w2' : pz_up (pz_up m3 146 N ((f : Int) * 41 + one)) 147 N ((f : Int) * 41 + two) 146 N = (f : Int) * 41 + one := by rw [pz_upq (by decide), pz_up_at]
      have w3' : pz_up (pz_up m3 146 N ((f : Int) * 41 + one)) 147 N ((f : Int) * 41 + two) 147 N = (f : Int) * 41 + two := pz_up_at
      have w4' : pz_up (pz_up m3 146 N ((f : Int) * 41 + one)) 147 N ((f : Int) * 41 + two) 13 = m3 13 := by rw [pz_upq (by decide), pz_upq (by decide)]
      generalize pz_up (pz_up m3 146 N ((f : Int) * 41 + one)) 147 N ((f : Int) * 41 + two) = m4 at *
      obtain ⟨x1, x2, x3'⟩ := pz_lg2_f (ml := ml1) (p := 149) (z := pz_ad (ml1 149 1) (ml1 149 2) N)
      rw [l1, l2] at x1 x2 x3'
      rw [l1, l2]
      refine pz_g63_122 ⟨by rw [w4', e13]; omega, fun h => absurd hb2 (by omega), fun _ => ?_⟩
      refine ⟨_, _, 1, ⟨rfl, rfl⟩, hP _ _ (pz_fr_trans f4 (pz_fr_up (by decide) (by decide))) ?_ ?_ ?_ ?_ ?_ (fun p hp => (x3' p hp).trans (l3 p hp)) x1 x2⟩
      · intro j hj
        rw [pz_up_ot hj, w4']
      · rw [pz_up_at, w4', e13]
        omega
      · intro i hi
        rw [pz_upq (by decide), pz_upq (by decide)]
        exact w1' i hi
      · rw [pz_upq (by decide)]
        exact w2'
      · rw [pz_upq (by decide)]
        exact w3'
    cases ex : pz_ma mi 501 σ nb [] r [(pz_cs mi (f * 41 + one), pz_cs mi (f * 41 + two))] with
    | none =>
      rw [ex] at hp
      obtain ⟨p1, p2, p3, p4⟩ := hp
      have es : pz_df mi σ k N (ml (q + 1) 1) (ml (q + 1) 2) nb r (pz_cs mi (f * 41 + one), pz_cs mi (f * 41 + two)) = none := by
        unfold pz_df
        rw [ex]
      rw [es]
      have fin : ∀ b', (b' = 0 ∨ b' = 1) → pz_aC mi ml F nb none b' m3 ml1 := fun b' hb' => ⟨F3, fun j _ => by rw [e13], l3, L3, hb', ⟨by omega, by omega, by omega, by omega, by rw [e13]; omega⟩, by show _ ∨ _; omega⟩
      by_cases hb2 : b = 2
      · refine add (fun b mi' ml' => pz_aC mi ml F nb none b mi' ml') hb2 (fun m4 l4 g1 g2 g3 g4 g5 g6 g7 g8 g9 => ?_)
        refine ⟨pz_fr_trans F3 (pz_fr_sub (by decide) (by decide) g1), fun j hj => by rw [g2 j hj, e13], g7, pz_lo_trans L3 (pz_lo_eq (g1.1 151 (by decide) (by decide)) (g1.1 152 (by decide) (by decide)) (g1.1 153 (by decide) (by decide))), .inr rfl, ?_, ?_⟩
        · rw [g1.1 150 (by decide) (by decide), g1.1 155 (by decide) (by decide), g3]
          exact ⟨by omega, by omega, by omega, by omega, by omega⟩
        · show _ ∨ _
          rw [g1.1 150 (by decide) (by decide), g1.1 155 (by decide) (by decide)]
          omega
      · refine pz_g63_74 ⟨fun _ => ⟨fun _ => ?_, fun _ => ?_⟩, fun h => absurd h hb2⟩
        · exact ⟨m3, ml1, 0, ⟨rfl, rfl⟩, fin 0 (.inl rfl)⟩
        · exact ⟨m3, ml1, 1, ⟨rfl, rfl⟩, fin 1 (.inr rfl)⟩
    | some z =>
      obtain ⟨qq, σ', nb', tr', r'⟩ := z
      rw [ex] at hp
      obtain ⟨u1, u2, u3, u4, u5, u6, u7⟩ := hp
      cases qq with
      | false =>
        have u1' : b = 1 := u1
        have es : pz_df mi σ k N (ml (q + 1) 1) (ml (q + 1) 2) nb r (pz_cs mi (f * 41 + one), pz_cs mi (f * 41 + two)) = some (some (σ, ml (q + 1) 1, ml (q + 1) 2), nb', N, k) := by
          unfold pz_df
          rw [ex]
          rfl
        rw [es]
        refine pz_g63_74 ⟨fun _ => ⟨fun h => absurd h (by omega), fun _ => ?_⟩, fun h => absurd h (by omega)⟩
        exact ⟨m3, ml1, 1, ⟨rfl, rfl⟩, F3, fun j _ => by rw [e13], l3, L3, .inr rfl, ⟨by omega, by omega, by omega, by omega, by rw [e13]; omega⟩, by omega, u4, u6, hN, cn3, rfl, u7, e149b, l1, l2⟩
      | true =>
        have u1' : b = if nb' = nb then 0 else 2 := u1
        by_cases hn1 : nb' = nb
        · rw [if_pos hn1] at u1'
          have es : pz_df mi σ k N (ml (q + 1) 1) (ml (q + 1) 2) nb r (pz_cs mi (f * 41 + one), pz_cs mi (f * 41 + two)) = some (none, nb', N, k) := by
            unfold pz_df
            rw [ex]
            dsimp only
            rw [if_pos rfl, if_pos hn1]
          rw [es]
          refine pz_g63_74 ⟨fun _ => ⟨fun _ => ?_, fun h => absurd u1' h⟩, fun h => absurd h (by omega)⟩
          exact ⟨m3, ml1, 0, ⟨rfl, rfl⟩, F3, fun j _ => by rw [e13], l3, L3, .inl rfl, ⟨by omega, by omega, by omega, by omega, by rw [e13]; omega⟩, by omega, u4, u6, hN, cn3, rfl⟩
        · rw [if_neg hn1] at u1'
          have es : pz_df mi σ k N (ml (q + 1) 1) (ml (q + 1) 2) nb r (pz_cs mi (f * 41 + one), pz_cs mi (f * 41 + two)) = if N = 120 then none else some (some (σ, (pz_ad (ml (q + 1) 1) (ml (q + 1) 2) N).1, (pz_ad (ml (q + 1) 1) (ml (q + 1) 2) N).2), nb', N + 1, fun i => if i = N then (pz_cs mi (f * 41 + one), pz_cs mi (f * 41 + two)) else k i) := by
            unfold pz_df
            rw [ex]
            dsimp only
            rw [if_pos rfl, if_neg hn1]
          rw [es]
          refine add (fun b mi' ml' => pz_aC mi ml F nb _ b mi' ml') u1' (fun m4 l4 g1 g2 g3 g4 g5 g6 g7 g8 g9 => ?_)
          have h150 : m4 150 = m3 150 := g1.1 150 (by decide) (by decide)
          have h155 : m4 155 = m3 155 := g1.1 155 (by decide) (by decide)
          refine ⟨pz_fr_trans F3 (pz_fr_sub (by decide) (by decide) g1), fun j hj => by rw [g2 j hj, e13], g7, pz_lo_trans L3 (pz_lo_eq (g1.1 151 (by decide) (by decide)) (g1.1 152 (by decide) (by decide)) (g1.1 153 (by decide) (by decide))), .inr rfl, ?_, ?_⟩
          · rw [h150, h155, g3]
            exact ⟨by omega, by omega, by omega, by omega, by omega⟩
          · by_cases hN2 : N = 120
            · rw [if_pos hN2]
              show _ ∨ _
              rw [g3]
              omega
            · rw [if_neg hN2]
              have te4 := pz_te_fr g1 (by decide) (by decide)
              refine ⟨by rw [h155]; omega, by rw [h150]; exact u4, u6, by omega, ?_, rfl, ?_, ?_, g8, g9⟩
              · exact pz_cn_more te4 cn3 g3 g4 g5 g6 (by rw [pz_vs_te te13]; exact vo) (by rw [pz_vs_te te13]; exact vt) (by rw [pz_cs_te te13]) (by rw [pz_cs_te te13])
              · exact pz_cI_te te4 h150 (g1.1 151 (by decide) (by decide)) (g1.1 152 (by decide) (by decide)) (g1.1 153 (by decide) (by decide)) (g1.1 154 (by decide) (by decide)) u7
              · rw [g1.1 149 (by decide) (by decide), h150]
                exact e149b
  refine pz_Rn_e (d' := d + 4) (by omega) ap ?_
  rintro _ _ ⟨m1, l1, b, ⟨rfl, rfl⟩, ha⟩
  exact pz_g64_99 ⟨ha.2.2.2.2.1, K b m1 l1 ha⟩
end pzt
