/-! The reference's same and differ. -/
section pzs
variable {d n0 : Nat} {mi mi' : Nat → Nat → Int} {ml ml' : Nat → Nat → Int64} {mr : Nat → Nat → Option Nat} {c s : Nat} {F : Int} {σ : Nat → Option Nat} {N : Nat} {k : Nat → Nat × Nat} {Q : pz_O → pz_H → Prop}
theorem pz_itemC {t f : Int} (h1 : 0 ≤ t ∧ t ≤ 100) (h2 : 0 ≤ f ∧ f ≤ 100) : pz_Rn d 114 (0, [], [(0, .inl t), (1, .inl f)], pz_hp n0 mi ml mr c s, true) (fun o h => o = .inl (some (.inl (1 + 64 * t + f))) ∧ h = pz_hp n0 mi ml mr c s) := pz_g114_0 ⟨by omega, by omega, by omega, rfl, rfl⟩
theorem pz_cm_it (ht : pz_tm mi) (hF : F ≤ 40) {t : Int} {f : Nat} (h1 : pz_isT mi t) (h2 : (f : Int) < F) : pz_cm mi (1 + 64 * t + f) = pz_cs mi ((f : Int) * 41 + t) ∧ pz_vm mi F (1 + 64 * t + f) := by
  have h := pz_cm_cs ht hF (t := t) (f := (f : Int)) h1 ⟨by omega, h2⟩
  rw [show (41 : Int) * (f : Int) = (f : Int) * 41 by omega] at h
  exact h
set_option maxHeartbeats 1000000 in
theorem pz_sameM (ht : pz_tm mi) (hF : F ≤ 40) (hN : N ≤ 120) {n g f nb r : Nat} {one two : Int} (hn : n < 63) (hg4 : g < 40) (hf : mi 179 n = (f : Int)) (hfF : (f : Int) < F) (h8 : mi 170 g = one) (h9 : mi 171 g = two) (ho : pz_isT mi one) (htw : pz_isT mi two) (hs : pz_mS mi F n σ) (hgd : pz_gd σ) (hr : r ≤ 500) (hl : mi 165 27 = 500 - (r : Int)) (hov : mi 165 31 = 0) (hnb : mi 165 29 = (nb : Int)) (hnb1 : nb ≤ 1000) (hcn : pz_mn mi F N k) :
    pz_Rn (d + 7) 129 (0, [], [(0, .inr (.inr (some 165))), (1, .inl (n : Int)), (2, .inl (g : Int))], pz_hp n0 mi ml mr c s, true) (fun o h => ∃ mi' ml' b, (o = .inl (some (.inl b)) ∧ h = pz_hp n0 mi' ml' mr c s) ∧ pz_aM mi ml F n (pz_sm mi σ k N (ml 180 n) (ml 181 n) nb r (pz_cs mi (f * 41 + one), pz_cs mi (f * 41 + two))) b mi' ml') := by
  have eg : ((g : Int)).toNat = g := by omega
  have en : ((n : Int)).toNat = n := by omega
  have t2 := ht.2.1
  obtain ⟨c1, v1⟩ := pz_cm_it (f := f) ht hF ho hfF
  obtain ⟨c2, v2⟩ := pz_cm_it (f := f) ht hF htw hfF
  obtain ⟨o1, o2⟩ := ho
  obtain ⟨w1, w2⟩ := htw
  refine pz_g129_0 ⟨by omega, by omega, ?_⟩
  rw [eg, en, h8, hf]
  refine pz_Rn_c (d' := 0) (by omega) (pz_itemC (by omega) (by omega)) ?_
  refine pz_g129_17 ⟨by omega, by omega, ?_⟩
  rw [eg, en, h9, hf]
  refine pz_Rn_c (d' := 0) (by omega) (pz_itemC (by omega) (by omega)) ?_
  refine pz_g129_32 ?_
  have hm := pz_matchesC (d := d) (n0 := n0) (ml := ml) (mr := mr) (c := c) (s := s) ht hF hn v1 v2 hr hl hov hnb hnb1 hs hgd
  rw [c1, c2] at hm
  refine pz_Rn_e (d' := d + 5) (by omega) hm ?_
  rintro _ _ ⟨m1, b, ⟨rfl, rfl⟩, f1, hb, r1, hp⟩
  refine pz_g129_35 ?_
  have te1 := pz_te_fr f1 (by decide) (by decide)
  have F1 : pz_fr [182, 184, 185, 186, 187, 188] [24, 27, 29, 31, 33, 35] mi m1 := pz_fr_sub (by decide) (by decide) f1
  have cn1 := pz_mn_te te1 (f1.2 24 (by decide)) (f1.1 184 (by decide) (by decide)) (f1.1 185 (by decide) (by decide)) hcn
  have l0 : pz_lr n ml ml := fun _ _ _ => rfl
  cases ex : pz_ma mi 501 σ nb [] r [(pz_cs mi (f * 41 + one), pz_cs mi (f * 41 + two))] with
  | none =>
    rw [ex] at hp
    have es : pz_sm mi σ k N (ml 180 n) (ml 181 n) nb r (pz_cs mi (f * 41 + one), pz_cs mi (f * 41 + two)) = none := by
      unfold pz_sm
      rw [ex]
    rw [es]
    refine (pz_sm_x (d := d) (F := F) (σ := σ) hb pz_fr_refl pz_rw_refl l0 hp.1).mono (Nat.le_refl _) ?_
    rintro _ _ ⟨m2, l2, b2, g1, g2, g3, g4, g5, g6⟩
    exact ⟨m2, l2, b2, g1, pz_fr_trans F1 (pz_fr_sub (by decide) (by decide) g2), pz_rw_trans r1 g4, g5, g3, g6⟩
  | some z =>
    obtain ⟨qq, σ', nb', tr', r'⟩ := z
    rw [ex] at hp
    obtain ⟨u1, u2, u3, u4, u5, u6, u7⟩ := hp
    cases qq with
    | false =>
      have u1' : b = 0 := u1
      subst u1'
      have es : pz_sm mi σ k N (ml 180 n) (ml 181 n) nb r (pz_cs mi (f * 41 + one), pz_cs mi (f * 41 + two)) = some (none, nb', N, k) := by
        unfold pz_sm
        rw [ex]
        rfl
      rw [es]
      exact pz_sm_0 ⟨m1, ml, 0, ⟨rfl, rfl⟩, F1, r1, l0, .inl rfl, u2, u5, cn1, rfl⟩
    | true =>
      have u1' : b = 1 := u1
      subst u1'
      have hk := pz_sm1 (d := d) (n0 := n0) (mr := mr) (c := c) (s := s) (k := k) (pz_tm_te te1 ht) hF hn u7.2.1 hN N 0 nb' r' m1 ml (by omega) pz_te_refl cn1 u4 u3 u2 u5 u6 u7.1
      rw [pz_kc_te te1] at hk
      refine hk.mono (Nat.le_refl _) ?_
      rintro _ _ ⟨m2, l2, b2, g1, f2, hb2, r2, hm2, hp2⟩
      have te2 := pz_te_fr f2 (by decide) (by decide)
      have F2 := pz_fr_trans F1 (pz_fr_sub (by decide) (by decide) f2)
      have cn2 := pz_mn_te te2 (f2.2 24 (by decide)) (f2.1 184 (by decide) (by decide)) (f2.1 185 (by decide) (by decide)) cn1
      refine ⟨m2, l2, b2, g1, F2, pz_rw_trans r1 r2, hm2, hb2, ?_⟩
      cases ex2 : pz_kc mi σ' k N 0 (ml 180 n) (ml 181 n) nb' r' with
      | none =>
        rw [ex2] at hp2
        have es : pz_sm mi σ k N (ml 180 n) (ml 181 n) nb r (pz_cs mi (f * 41 + one), pz_cs mi (f * 41 + two)) = none := by
          unfold pz_sm
          rw [ex]
          dsimp only
          rw [if_pos rfl, ex2]
        rw [es]
        exact hp2
      | some z2 =>
        obtain ⟨q2, lo', hi', nb2, r2'⟩ := z2
        rw [ex2] at hp2
        obtain ⟨x1, x2, x3, x4, x5, x6, x7, x8, x9⟩ := hp2
        have es : pz_sm mi σ k N (ml 180 n) (ml 181 n) nb r (pz_cs mi (f * 41 + one), pz_cs mi (f * 41 + two)) = some (if q2 = true then some (σ', lo', hi') else none, nb2, N, k) := by
          unfold pz_sm
          rw [ex]
          dsimp only
          rw [if_pos rfl, ex2]
        rw [es]
        cases q2 with
        | false => exact ⟨x2, x5, cn2, x1⟩
        | true => exact ⟨x2, x5, cn2, x1, x7, x8, x9⟩
theorem pz_mn_more {one two : Int} {a b : Nat} (te : pz_te mi mi') (h : pz_mn mi F N k) (h1 : mi' 165 24 = ((N + 1 : Nat) : Int)) (h2 : ∀ i, i ≠ N → mi' 184 i = mi 184 i ∧ mi' 185 i = mi 185 i) (h3 : mi' 184 N = one) (h4 : mi' 185 N = two) (v1 : pz_vm mi F one) (v2 : pz_vm mi F two) (c1 : pz_cm mi one = a) (c2 : pz_cm mi two = b) : pz_mn mi' F (N + 1) (fun i => if i = N then (a, b) else k i) := by
  refine ⟨h1, fun i hi => ?_⟩
  rw [pz_vm_te te, pz_cm_te te]
  by_cases e : i = N
  · subst e
    rw [h3, h4]
    refine ⟨v1, v2, ?_⟩
    rw [c1, c2]
    exact if_pos rfl
  · rw [(h2 i e).1, (h2 i e).2]
    obtain ⟨g1, g2, g3⟩ := h.2 i (by omega)
    refine ⟨g1, g2, ?_⟩
    dsimp only
    rw [if_neg e]
    exact g3
set_option maxHeartbeats 1000000 in
theorem pz_differM (ht : pz_tm mi) (hF : F ≤ 40) (hN : N ≤ 120) {n g f nb r : Nat} {one two : Int} (hn : n < 63) (hg4 : g < 40) (hf : mi 179 n = (f : Int)) (hfF : (f : Int) < F) (h8 : mi 170 g = one) (h9 : mi 171 g = two) (ho : pz_isT mi one) (htw : pz_isT mi two) (hs : pz_mS mi F n σ) (hgd : pz_gd σ) (hr : r ≤ 500) (hl : mi 165 27 = 500 - (r : Int)) (hov : mi 165 31 = 0) (hnb : mi 165 29 = (nb : Int)) (hnb1 : nb ≤ 1000) (hcn : pz_mn mi F N k) :
    pz_Rn (d + 7) 130 (0, [], [(0, .inr (.inr (some 165))), (1, .inl (n : Int)), (2, .inl (g : Int))], pz_hp n0 mi ml mr c s, true) (fun o h => ∃ mi' ml' b, (o = .inl (some (.inl b)) ∧ h = pz_hp n0 mi' ml' mr c s) ∧ pz_aM mi ml F n (pz_df mi σ k N (ml 180 n) (ml 181 n) nb r (pz_cs mi (f * 41 + one), pz_cs mi (f * 41 + two))) b mi' ml') := by
  have eg : ((g : Int)).toNat = g := by omega
  have en : ((n : Int)).toNat = n := by omega
  have t2 := ht.2.1
  obtain ⟨c1, v1⟩ := pz_cm_it (f := f) ht hF ho hfF
  obtain ⟨c2, v2⟩ := pz_cm_it (f := f) ht hF htw hfF
  obtain ⟨o1, o2⟩ := ho
  obtain ⟨w1, w2⟩ := htw
  refine pz_g130_0 ⟨by omega, by omega, ?_⟩
  rw [eg, en, h8, hf]
  refine pz_Rn_c (d' := 0) (by omega) (pz_itemC (by omega) (by omega)) ?_
  refine pz_g130_15 ⟨by omega, by omega, ?_⟩
  rw [eg, en, h9, hf]
  refine pz_Rn_c (d' := 0) (by omega) (pz_itemC (by omega) (by omega)) ?_
  refine pz_g130_31 ?_
  have hm := pz_judgedC (d := d) (n0 := n0) (ml := ml) (mr := mr) (c := c) (s := s) ht hF hn v1 v2 hr hl hov hnb hnb1 hs hgd
  rw [c1, c2] at hm
  refine pz_Rn_e (Nat.le_refl _) hm ?_
  rintro _ _ ⟨m1, b, ⟨rfl, rfl⟩, f1, hb, r1, hp⟩
  have te1 := pz_te_fr f1 (by decide) (by decide)
  have F1 : pz_fr [182, 184, 185, 186, 187, 188] [24, 27, 29, 31, 33, 35] mi m1 := pz_fr_sub (by decide) (by decide) f1
  have cn1 := pz_mn_te te1 (f1.2 24 (by decide)) (f1.1 184 (by decide) (by decide)) (f1.1 185 (by decide) (by decide)) hcn
  have l0 : pz_lr n ml ml := fun _ _ _ => rfl
  have eN := cn1.1
  have add : ∀ (P : Int → (Nat → Nat → Int) → (Nat → Nat → Int64) → Prop), b = 1 → N ≠ 120 → (∀ m4 l4, pz_fr [184, 185] [24] m1 m4 → m4 165 24 = ((N + 1 : Nat) : Int) → (∀ i, i ≠ N → m4 184 i = m1 184 i ∧ m4 185 i = m1 185 i) → m4 184 N = 1 + 64 * one + f → m4 185 N = 1 + 64 * two + f → pz_lr n ml l4 → l4 180 n = (pz_ad (ml 180 n) (ml 181 n) N).1 → l4 181 n = (pz_ad (ml 180 n) (ml 181 n) N).2 → P 1 m4 l4) → pz_Rn (d + 6 + 1) 130 (41, [.inl b], [(0, .inr (.inr (some 165))), (1, .inl (n : Int)), (3, .inl (1 + 64 * one + f)), (4, .inl (1 + 64 * two + f))], pz_hp n0 m1 ml mr c s, true) (fun o h => ∃ mi' ml' b, (o = .inl (some (.inl b)) ∧ h = pz_hp n0 mi' ml' mr c s) ∧ P b mi' ml') := by
    intro P hb1 hN2 hP
    refine pz_g130_41 ⟨fun _ => ⟨fun _ => ⟨by omega, by omega, ?_⟩, fun h => absurd h (by omega)⟩, fun h => absurd hb1 h⟩
    rw [eN]
    have eN0 : ((N : Int)).toNat = N := by omega
    rw [eN0]
    have f4 : pz_fr [184, 185] [24] m1 (pz_up (pz_up m1 184 N (1 + 64 * one + f)) 185 N (1 + 64 * two + f)) := pz_fr_trans (pz_fr_up (by decide) (by decide)) (pz_fr_up (by decide) (by decide))
    have w1' : ∀ i, i ≠ N → pz_up (pz_up m1 184 N (1 + 64 * one + f)) 185 N (1 + 64 * two + f) 184 i = m1 184 i ∧ pz_up (pz_up m1 184 N (1 + 64 * one + f)) 185 N (1 + 64 * two + f) 185 i = m1 185 i := by
      intro i hi
      constructor
      · rw [pz_upq (by decide), pz_up_ot hi]
      · rw [pz_up_ot hi, pz_upq (by decide)]
    have w2' : pz_up (pz_up m1 184 N (1 + 64 * one + f)) 185 N (1 + 64 * two + f) 184 N = 1 + 64 * one + f := by rw [pz_upq (by decide), pz_up_at]
    have w3' : pz_up (pz_up m1 184 N (1 + 64 * one + f)) 185 N (1 + 64 * two + f) 185 N = 1 + 64 * two + f := pz_up_at
    have w4' : pz_up (pz_up m1 184 N (1 + 64 * one + f)) 185 N (1 + 64 * two + f) 165 24 = m1 165 24 := by rw [pz_upq (by decide), pz_upq (by decide)]
    generalize pz_up (pz_up m1 184 N (1 + 64 * one + f)) 185 N (1 + 64 * two + f) = m4 at *
    have sm := pz_setM (d := 0) (n0 := n0) (mi := m4) (ml := ml) (mr := mr) (c := c) (s := s) (n := n) (by omega) (i := N) (by omega) true
    refine pz_Rn_c (d' := 0) (by omega) sm ?_
    refine pz_g130_107 ⟨by omega, ?_⟩
    refine ⟨_, _, 1, ⟨rfl, rfl⟩, hP _ _ (pz_fr_trans f4 (pz_fr_u5 (by decide))) ?_ ?_ ?_ ?_ (pz_lr_lm _) ?_ ?_⟩
    · rw [pz_up_at]
      omega
    · intro i hi
      rw [pz_upq (by decide), pz_upq (by decide)]
      exact w1' i hi
    · rw [pz_upq (by decide)]
      exact w2'
    · rw [pz_upq (by decide)]
      exact w3'
    · unfold pz_lm
      rw [pz_upq (by decide), pz_up_at]
      rfl
    · unfold pz_lm
      rw [pz_up_at]
      rfl
  cases ex : pz_ma mi 501 σ nb [] r [(pz_cs mi (f * 41 + one), pz_cs mi (f * 41 + two))] with
  | none =>
    rw [ex] at hp
    have ov : m1 165 31 = 1 := hp
    have es : pz_df mi σ k N (ml 180 n) (ml 181 n) nb r (pz_cs mi (f * 41 + one), pz_cs mi (f * 41 + two)) = none := by
      unfold pz_df
      rw [ex]
    rw [es]
    by_cases hb1 : b = 1 ∧ N ≠ 120
    · refine add (fun b mi' ml' => pz_aM mi ml F n none b mi' ml') hb1.1 hb1.2 (fun m4 l4 g1 g2 g3 g4 g5 g6 g7 g8 => ?_)
      exact ⟨pz_fr_trans F1 (pz_fr_sub (by decide) (by decide) g1), pz_rw_trans r1 (pz_rw_eq (g1.1 182 (by decide) (by decide))), g6, .inr rfl, (g1.2 31 (by decide)).trans ov⟩
    · refine pz_g130_41 ⟨fun h1 => ⟨fun h2 => absurd ⟨h1, by omega⟩ hb1, fun _ => ?_⟩, fun _ => ⟨fun _ => ?_, fun _ => ?_⟩⟩
      · exact ⟨_, ml, 0, ⟨rfl, rfl⟩, pz_fr_trans F1 (pz_fr_u5 (by decide)), pz_rw_trans r1 (pz_rw_eq (pz_upq (by decide))), l0, .inl rfl, pz_up_at⟩
      · exact ⟨m1, ml, 0, ⟨rfl, rfl⟩, F1, r1, l0, .inl rfl, ov⟩
      · exact ⟨m1, ml, 1, ⟨rfl, rfl⟩, F1, r1, l0, .inr rfl, ov⟩
  | some z =>
    obtain ⟨qq, σ', nb', tr', r'⟩ := z
    rw [ex] at hp
    obtain ⟨u1, u2, u3, u4, u5, u6, u7⟩ := hp
    cases qq with
    | false =>
      have u1' : b = 0 := u1
      have es : pz_df mi σ k N (ml 180 n) (ml 181 n) nb r (pz_cs mi (f * 41 + one), pz_cs mi (f * 41 + two)) = some (some (σ, ml 180 n, ml 181 n), nb', N, k) := by
        unfold pz_df
        rw [ex]
        rfl
      rw [es]
      refine pz_g130_41 ⟨fun h => absurd h (by omega), fun _ => ⟨fun h => absurd u1' h, fun _ => ?_⟩⟩
      exact ⟨m1, ml, 1, ⟨rfl, rfl⟩, F1, r1, l0, .inr rfl, u2, u5, cn1, rfl, u7, rfl, rfl⟩
    | true =>
      have u1' : b = if nb' = nb then 2 else 1 := u1
      by_cases hn1 : nb' = nb
      · rw [if_pos hn1] at u1'
        have es : pz_df mi σ k N (ml 180 n) (ml 181 n) nb r (pz_cs mi (f * 41 + one), pz_cs mi (f * 41 + two)) = some (none, nb', N, k) := by
          unfold pz_df
          rw [ex]
          dsimp only
          rw [if_pos rfl, if_pos hn1]
        rw [es]
        refine pz_g130_41 ⟨fun h => absurd h (by omega), fun _ => ⟨fun _ => ?_, fun h => absurd h (by omega)⟩⟩
        exact ⟨m1, ml, 0, ⟨rfl, rfl⟩, F1, r1, l0, .inl rfl, u2, u5, cn1, rfl⟩
      · rw [if_neg hn1] at u1'
        by_cases hN2 : N = 120
        · have es : pz_df mi σ k N (ml 180 n) (ml 181 n) nb r (pz_cs mi (f * 41 + one), pz_cs mi (f * 41 + two)) = none := by
            unfold pz_df
            rw [ex]
            dsimp only
            rw [if_pos rfl, if_neg hn1, if_pos hN2]
          rw [es]
          refine pz_g130_41 ⟨fun _ => ⟨fun h2 => absurd (by omega) h2, fun _ => ?_⟩, fun h => absurd u1' h⟩
          exact ⟨_, ml, 0, ⟨rfl, rfl⟩, pz_fr_trans F1 (pz_fr_u5 (by decide)), pz_rw_trans r1 (pz_rw_eq (pz_upq (by decide))), l0, .inl rfl, pz_up_at⟩
        · have es : pz_df mi σ k N (ml 180 n) (ml 181 n) nb r (pz_cs mi (f * 41 + one), pz_cs mi (f * 41 + two)) = some (some (σ, (pz_ad (ml 180 n) (ml 181 n) N).1, (pz_ad (ml 180 n) (ml 181 n) N).2), nb', N + 1, fun i => if i = N then (pz_cs mi (f * 41 + one), pz_cs mi (f * 41 + two)) else k i) := by
            unfold pz_df
            rw [ex]
            dsimp only
            rw [if_pos rfl, if_neg hn1, if_neg hN2]
          rw [es]
          refine add (fun b mi' ml' => pz_aM mi ml F n _ b mi' ml') u1' hN2 (fun m4 l4 g1 g2 g3 g4 g5 g6 g7 g8 => ?_)
          have te4 := pz_te_fr g1 (by decide) (by decide)
          refine ⟨pz_fr_trans F1 (pz_fr_sub (by decide) (by decide) g1), pz_rw_trans r1 (pz_rw_eq (g1.1 182 (by decide) (by decide))), g6, .inr rfl, (g1.2 31 (by decide)).trans u2, (g1.2 29 (by decide)).trans u5, ?_, rfl, ?_, g7, g8⟩
          · exact pz_mn_more te4 cn1 g2 g3 g4 g5 (by rw [pz_vm_te te1]; exact v1) (by rw [pz_vm_te te1]; exact v2) (by rw [pz_cm_te te1]; exact c1) (by rw [pz_cm_te te1]; exact c2)
          · exact pz_mS_te te4 (g1.1 182 (by decide) (by decide)) u7
end pzs
