/-! The reference's tell. -/
def pz_AM (mi : Nat → Nat → Int) (A : List (Nat × (Nat → List Int))) : Prop := mi 189 0 = (A.length : Int) ∧ A.length ≤ 20 ∧ ∀ a x, A[a]? = some x → mi 193 a = (x.1 : Int) ∧ ∀ p, p < 7 → pz_rM mi (7 * a + p) (x.2 p)
section pzT1
variable {d n0 : Nat} {mi mi' : Nat → Nat → Int} {ml : Nat → Nat → Int64} {mr : Nat → Nat → Option Nat} {c s : Nat} {F : Int} {σ : Nat → Option Nat} {n N : Nat} {k : Nat → Nat × Nat} {Q : pz_O → pz_H → Prop}
theorem pz_rM_fr {row : Nat} {l : List Int} (h1 : mi' 192 row = mi 192 row) (h2 : ∀ i, i < 40 → mi' 191 (14 * row + i / 3) = mi 191 (14 * row + i / 3)) (h : pz_rM mi row l) : pz_rM mi' row l := by
  refine ⟨h1.trans h.1, h.2.1, fun i hi => ?_⟩
  rw [← h.2.2 i hi]
  unfold pz_E
  rw [h2 i (by have := h.2.1; omega)]
theorem pz_hn_s {i : Nat} {lo hi : Int64} : pz_hn (i + 1) lo hi = pz_hn i lo hi + (if pz_hs lo hi i = true then 1 else 0) := by
  unfold pz_hn
  rw [List.range_succ, List.countP_append, List.countP_singleton]
theorem pz_hn_le {i : Nat} {lo hi : Int64} : pz_hn i lo hi ≤ i := by
  unfold pz_hn
  refine Nat.le_trans List.countP_le_length ?_
  rw [List.length_range]
  exact Nat.le_refl _
/-- names are cleared -/
theorem pz_tn1 {a2 : Int} : ∀ (m v : Nat) (mi : Nat → Nat → Int), v + m = 240 → (∀ w, w < v → mi 194 w = 0) → (∀ mi' : Nat → Nat → Int, pz_fr [194] [44] mi mi' → (∀ w, w < 240 → mi' 194 w = 0) → mi' 165 44 = 0 → pz_Rn (d + 1) 140 (39, [], [(0, .inr (.inr (some 165))), (1, .inl (n : Int)), (2, .inl a2), (3, .inl 0)], pz_hp n0 mi' ml mr c s, true) Q) →
    pz_Rn (d + 1) 140 (12, [], [(0, .inr (.inr (some 165))), (1, .inl (n : Int)), (2, .inl a2), (3, .inl (v : Int))], pz_hp n0 mi ml mr c s, true) Q := by
  intro m
  induction m with
  | zero =>
    intro v mi hv hc K
    refine pz_g140_12 ⟨fun _ => K _ (pz_fr_u5 (by decide)) (fun w hw => ?_) pz_up_at, fun h => absurd h (by omega)⟩
    rw [pz_upq (by decide)]
    exact hc w (by omega)
  | succ m ih =>
    intro v mi hv hc K
    have ev : ((v : Int)).toNat = v := by omega
    have e1 : (v : Int) + 1 = ((v + 1 : Nat) : Int) := by omega
    refine pz_g140_12 ⟨fun h => absurd h (by omega), fun _ => ⟨by omega, by omega, ?_⟩⟩
    rw [ev, e1]
    refine ih (v + 1) _ (by omega) (fun w hw => ?_) (fun mi' g1 g2 g3 => K mi' (pz_fr_trans (pz_fr_up (by decide) (by decide)) g1) g2 g3)
    by_cases e : w = v
    · subst e
      exact pz_up_at
    · rw [pz_up_ot e]
      exact hc w (by omega)
/-- lengths are cleared -/
theorem pz_tn2 {base : Nat} (hb : base + 7 ≤ 140) : ∀ (m v : Nat) (mi : Nat → Nat → Int), v + m = 7 → (∀ w, w < v → mi 192 (base + w) = 0) → (∀ mi' : Nat → Nat → Int, pz_fr [192] [] mi mi' → (∀ w, w < 7 → mi' 192 (base + w) = 0) → (∀ j, (j < base ∨ base + 7 ≤ j) → mi' 192 j = mi 192 j) → pz_Rn d 139 (0, [], [(0, .inr (.inr (some 165))), (1, .inl (base : Int)), (2, .inl (n : Int)), (3, .inl 3000)], pz_hp n0 mi' ml mr c s, true) (pz_K (d + 1) 140 66 [] [(0, .inr (.inr (some 165))), (1, .inl (n : Int)), (2, .inl (base : Int))] Q true)) →
    pz_Rn (d + 1) 140 (39, [], [(0, .inr (.inr (some 165))), (1, .inl (n : Int)), (2, .inl (base : Int)), (3, .inl (v : Int))], pz_hp n0 mi ml mr c s, true) Q := by
  intro m
  induction m with
  | zero =>
    intro v mi hv hc K
    exact pz_g140_39 ⟨fun _ => K mi pz_fr_refl (fun w hw => hc w (by omega)) (fun _ _ => rfl), fun h => absurd h (by omega)⟩
  | succ m ih =>
    intro v mi hv hc K
    have ev : ((base : Int) + (v : Int)).toNat = base + v := by omega
    have e1 : (v : Int) + 1 = ((v + 1 : Nat) : Int) := by omega
    refine pz_g140_39 ⟨fun h => absurd h (by omega), fun _ => ⟨by omega, by omega, by omega, ?_⟩⟩
    rw [ev, e1]
    refine ih (v + 1) _ (by omega) (fun w hw => ?_) (fun mi' g1 g2 g3 => K mi' (pz_fr_trans (pz_fr_up (by decide) (by decide)) g1) g2 (fun j hj => by rw [g3 j hj, pz_up_ot (by omega)]))
    by_cases e : w = v
    · subst e
      exact pz_up_at
    · rw [pz_up_ot (by omega)]
      exact hc w (by omega)
set_option maxHeartbeats 2000000 in
theorem pz_tl1 {mi0 : Nat → Nat → Int} (ht : pz_tm mi0) (hF : F ≤ 40) (hn : n < 63) (hg : pz_gd σ) (hN : N ≤ 120) {K : Nat} (hK : K < 20) : ∀ (m i part : Nat) (nm : Nat → Option Nat) (cc : Nat) (T : Nat → List Int) (mi : Nat → Nat → Int), pz_te mi0 mi → pz_mS mi F n σ → pz_mn mi F N k → i + m = N → (pz_hn i (ml 180 n) (ml 181 n) < 3 → part = 1 + 2 * pz_hn i (ml 180 n) (ml 181 n)) → (3 ≤ pz_hn i (ml 180 n) (ml 181 n) → part = 7) → mi 189 0 = (K : Int) → pz_nM mi nm cc → cc ≤ 40 * part → (∀ p, p < 7 → pz_rM mi (7 * K + p) (T p)) →
    pz_Rn (d + 4) 140 (74, [], [(0, .inr (.inr (some 165))), (1, .inl (n : Int)), (2, .inl ((7 * K : Nat) : Int)), (3, .inl ((pz_hn i (ml 180 n) (ml 181 n) : Nat) : Int)), (4, .inl (i : Int))], pz_hp n0 mi ml mr c s, true) (fun o h => ∃ mi', (o = .inl none ∧ h = pz_hp n0 mi' ml mr c s) ∧ pz_fr [187, 189, 191, 192, 193, 194] [44] mi mi' ∧ mi' 189 0 = ((K + 1 : Nat) : Int) ∧ (∀ j, j ≠ 0 → mi' 189 j = mi 189 j) ∧ mi' 193 K = ((pz_hn N (ml 180 n) (ml 181 n) : Nat) : Int) ∧ (∀ j, j ≠ K → mi' 193 j = mi 193 j) ∧ (∀ j, j < 7 * K → mi' 192 j = mi 192 j) ∧ (∀ j, j < 14 * (7 * K) → mi' 191 j = mi 191 j) ∧ ∀ p, p < 7 → pz_rM mi' (7 * K + p) (pz_tc mi0 σ k (ml 180 n) (ml 181 n) m i part nm cc T p)) := by
  intro m
  induction m with
  | zero =>
    intro i part nm cc T mi hte hs hcn him hp3 hp7 hK1 hc hcc hT
    have e := hcn.1
    have eK : (mi 189 0).toNat = K := by omega
    have eN : i = N := by omega
    subst eN
    refine pz_g140_74 ⟨fun _ => ⟨by omega, by omega, _, ⟨rfl, rfl⟩, pz_fr_trans (pz_fr_up (by decide) (by decide)) (pz_fr_up (by decide) (by decide)), ?_, fun j hj => ?_, ?_, fun j hj => ?_, fun j hj => ?_, fun j hj => ?_, fun p hp => ?_⟩, fun h => absurd h (by omega)⟩
    · rw [pz_up_at]
      omega
    · rw [pz_up_ot hj, pz_upq (by decide)]
    · rw [pz_upq (by decide), eK, pz_up_at]
    · rw [pz_upq (by decide), eK, pz_up_ot hj]
    · rw [pz_upq (by decide), pz_upq (by decide)]
    · rw [pz_upq (by decide), pz_upq (by decide)]
    · refine pz_rM_fr ?_ (fun i _ => ?_) (hT p hp)
      · rw [pz_upq (by decide), pz_upq (by decide)]
      · rw [pz_upq (by decide), pz_upq (by decide)]
  | succ m ih =>
    intro i part nm cc T mi hte hs hcn him hp3 hp7 hK1 hc hcc hT
    have e := hcn.1
    have hle := pz_hn_le (i := i) (lo := ml 180 n) (hi := ml 181 n)
    have hsu := pz_hn_s (i := i) (lo := ml 180 n) (hi := ml 181 n)
    obtain ⟨v1, v2, ek⟩ := hcn.2 i (by omega)
    have hu : pz_tc mi0 σ k (ml 180 n) (ml 181 n) (m + 1) i part nm cc T = if pz_hs (ml 180 n) (ml 181 n) i = true ∧ part < 7 then pz_tc mi0 σ k (ml 180 n) (ml 181 n) m (i + 1) (part + 2) (pz_tx mi0 σ 40 [(k i).2] (pz_tx mi0 σ 40 [(k i).1] nm cc).2.1 (pz_tx mi0 σ 40 [(k i).1] nm cc).2.2).2.1 (pz_tx mi0 σ 40 [(k i).2] (pz_tx mi0 σ 40 [(k i).1] nm cc).2.1 (pz_tx mi0 σ 40 [(k i).1] nm cc).2.2).2.2 (fun p => if p = part + 1 then (pz_tx mi0 σ 40 [(k i).2] (pz_tx mi0 σ 40 [(k i).1] nm cc).2.1 (pz_tx mi0 σ 40 [(k i).1] nm cc).2.2).1 else if p = part then (pz_tx mi0 σ 40 [(k i).1] nm cc).1 else T p)
      else pz_tc mi0 σ k (ml 180 n) (ml 181 n) m (i + 1) part nm cc T := rfl
    rw [hu]
    have ei : (i : Int) + 1 = ((i + 1 : Nat) : Int) := by omega
    have ei0 : ((i : Int)).toNat = i := by omega
    have ht1 := pz_tm_te hte ht
    refine pz_g140_74 ⟨fun h => absurd h (by omega), fun _ => ?_⟩
    refine pz_Rn_c (d' := 0) (by omega) (pz_hasM (by omega) (by omega)) ?_
    by_cases hb : pz_hs (ml 180 n) (ml 181 n) i = true
    · rw [if_pos hb] at hsu
      rw [if_pos hb]
      have em : ((pz_hn i (ml 180 n) (ml 181 n) : Nat) : Int) + 1 = ((pz_hn (i + 1) (ml 180 n) (ml 181 n) : Nat) : Int) := by omega
      refine pz_g140_90 ⟨fun _ => ⟨fun h3 => ⟨by omega, by omega, ?_⟩, fun h3 => ⟨by omega, by omega, by omega, by omega, ?_⟩⟩, fun h => absurd h (by decide)⟩
      · have hpp := hp7 (by omega)
        rw [if_neg (by omega), em, ei]
        exact ih (i + 1) part nm cc T mi hte hs hcn (by omega) (fun h => absurd h (by omega)) (fun _ => hpp) hK1 hc hcc hT
      · have hpp := hp3 (by omega)
        rw [if_pos ⟨hb, by omega⟩, ei0]
        have er1 : ((7 * K : Nat) : Int) + 1 + 2 * ((pz_hn i (ml 180 n) (ml 181 n) : Nat) : Int) = ((7 * K + part : Nat) : Int) := by omega
        rw [er1]
        have hw1 := pz_writeM (d := d) (n0 := n0) (ml := ml) (mr := mr) (c := c) (s := s) (σ := σ) (row := 7 * K + part) ht1 hF hn hs hg (by omega) v1 hc (by omega)
        rw [pz_tx_te hte] at hw1
        have ek1 : pz_cm mi (mi 184 i) = (k i).1 := by rw [ek]
        have ek2 : pz_cm mi (mi 185 i) = (k i).2 := by rw [ek]
        rw [ek1] at hw1
        refine pz_Rn_e (Nat.le_refl _) hw1 ?_
        rintro _ _ ⟨m1, ⟨rfl, rfl⟩, f1, nc1, l1, l1', t1, -, t1'⟩
        have te1 := pz_te_fr f1 (by decide) (by decide)
        have c1 := pz_tx_c (mi := mi0) (σ := σ) 40 [(k i).1] nm cc
        have len1 := pz_tx_len (mi := mi0) (σ := σ) 40 [(k i).1] nm cc
        generalize hx1 : pz_tx mi0 σ 40 [(k i).1] nm cc = X1 at *
        obtain ⟨L1, nm1, cc1⟩ := X1
        dsimp only at nc1 l1 t1 c1 len1 ⊢
        refine pz_g140_120 ⟨by omega, by omega, by omega, by omega, ?_⟩
        have er2 : ((7 * K : Nat) : Int) + 2 + 2 * ((pz_hn i (ml 180 n) (ml 181 n) : Nat) : Int) = ((7 * K + part + 1 : Nat) : Int) := by omega
        rw [er2, ei0, f1.1 185 (by decide) (by decide)]
        have cn1 := pz_mn_te te1 (f1.2 24 (by decide)) (f1.1 184 (by decide) (by decide)) (f1.1 185 (by decide) (by decide)) hcn
        have hs1 := pz_mS_te te1 (f1.1 182 (by decide) (by decide)) hs
        have hw2 := pz_writeM (d := d) (n0 := n0) (ml := ml) (mr := mr) (c := c) (s := s) (σ := σ) (row := 7 * K + part + 1) (x := mi 185 i) (pz_tm_te te1 ht1) hF hn hs1 hg (by omega) (by rw [pz_vm_te te1]; exact v2) nc1 (by omega)
        rw [pz_tx_te (pz_te_trans hte te1), pz_cm_te te1, ek2] at hw2
        refine pz_Rn_e (Nat.le_refl _) hw2 ?_
        rintro _ _ ⟨m2, ⟨rfl, rfl⟩, f2, nc2, l2, l2', t2, -, t2'⟩
        have te2 := pz_te_fr f2 (by decide) (by decide)
        have c2 := pz_tx_c (mi := mi0) (σ := σ) 40 [(k i).2] nm1 cc1
        have len2 := pz_tx_len (mi := mi0) (σ := σ) 40 [(k i).2] nm1 cc1
        generalize hx2 : pz_tx mi0 σ 40 [(k i).2] nm1 cc1 = X2 at *
        obtain ⟨L2, nm2, cc2⟩ := X2
        dsimp only at nc2 l2 t2 c2 len2 ⊢
        refine pz_g140_139 ⟨by omega, by omega, ?_⟩
        rw [em, ei]
        refine (ih (i + 1) (part + 2) nm2 cc2 (fun p => if p = part + 1 then L2 else if p = part then L1 else T p) m2 (pz_te_trans hte (pz_te_trans te1 te2)) (pz_mS_te te2 (f2.1 182 (by decide) (by decide)) hs1) (pz_mn_te te2 (f2.2 24 (by decide)) (f2.1 184 (by decide) (by decide)) (f2.1 185 (by decide) (by decide)) cn1) (by omega) (fun _ => by omega) (fun _ => by omega) (by rw [f2.1 189 (by decide) (by decide), f1.1 189 (by decide) (by decide)]; exact hK1) nc2 (by omega) ?_).mono (Nat.le_refl _) ?_
        · intro p hp
          by_cases e1 : p = part + 1
          · subst e1
            rw [if_pos rfl]
            refine ⟨?_, len2, fun j hj => ?_⟩
            · rw [show 7 * K + (part + 1) = 7 * K + part + 1 by omega, l2]
              omega
            · have := t2 j hj
              rw [Nat.zero_add] at this
              exact this
          · rw [if_neg e1]
            by_cases e0 : p = part
            · subst e0
              rw [if_pos rfl]
              refine ⟨?_, len1, fun j hj => ?_⟩
              · rw [l2' _ (by omega), l1]
                omega
              · have := t1 j hj
                rw [Nat.zero_add] at this
                rw [← this]
                unfold pz_E
                rw [t2' _ (by omega)]
            · rw [if_neg e0]
              refine pz_rM_fr ?_ (fun j hj => ?_) (hT p hp)
              · rw [l2' _ (by omega), l1' _ (by omega)]
              · rw [t2' _ (by omega), t1' _ (by omega)]
        · rintro _ _ ⟨m3, g1, g2, g3, g4, g5, g6, g7, g8, g9⟩
          exact ⟨m3, g1, pz_fr_trans (pz_fr_trans (pz_fr_sub (by decide) (by decide) f1) (pz_fr_sub (by decide) (by decide) f2)) g2, g3, fun j hj => by rw [g4 j hj, f2.1 189 (by decide) (by decide), f1.1 189 (by decide) (by decide)], g5, fun j hj => by rw [g6 j hj, f2.1 193 (by decide) (by decide), f1.1 193 (by decide) (by decide)], fun j hj => by rw [g7 j hj, l2' _ (by omega), l1' _ (by omega)], fun j hj => by rw [g8 j hj, t2' _ (by omega), t1' _ (by omega)], g9⟩
    · rw [if_neg hb] at hsu
      rw [if_neg hb, if_neg (fun h => hb h.1)]
      refine pz_g140_90 ⟨fun h => absurd rfl h, fun _ => ⟨by omega, ?_⟩⟩
      have em : ((pz_hn i (ml 180 n) (ml 181 n) : Nat) : Int) = ((pz_hn (i + 1) (ml 180 n) (ml 181 n) : Nat) : Int) := by omega
      rw [em, ei]
      exact ih (i + 1) part nm cc T mi hte hs hcn (by omega) (fun h => by have := hp3 (by omega); omega) (fun h => hp7 (by omega)) hK1 hc hcc hT
/-- the reference's tell -/
theorem pz_tellM (ht : pz_tm mi) (hF : F ≤ 40) (hF1 : 1 ≤ F) (hn : n < 63) (hs : pz_mS mi F n σ) (hg : pz_gd σ) (hN : N ≤ 120) (hcn : pz_mn mi F N k) {A : List (Nat × (Nat → List Int))} (hA : pz_AM mi A) (hA1 : A.length < 20) :
    pz_Rn (d + 4) 140 (0, [], [(0, .inr (.inr (some 165))), (1, .inl (n : Int))], pz_hp n0 mi ml mr c s, true) (fun o h => ∃ mi', (o = .inl none ∧ h = pz_hp n0 mi' ml mr c s) ∧ pz_fr [187, 189, 191, 192, 193, 194] [44] mi mi' ∧ (∀ j, j ≠ 0 → mi' 189 j = mi 189 j) ∧ pz_AM mi' (A ++ [pz_tl mi (σ, ml 180 n, ml 181 n) N k])) := by
  obtain ⟨a1, a2, a3⟩ := hA
  refine pz_g140_0 ⟨by omega, fun x2 e2 => ?_⟩
  have ex : x2 = ((7 * A.length : Nat) : Int) := by omega
  rw [ex]
  refine pz_tn1 (d := d + 3) 240 0 mi rfl (fun w hw => absurd hw (Nat.not_lt_zero _)) ?_
  intro m1 f1 z1 z1'
  refine pz_tn2 (d := d + 3) (base := 7 * A.length) (by omega) 7 0 m1 rfl (fun w hw => absurd hw (Nat.not_lt_zero _)) ?_
  intro m2 f2 z2 z2'
  have te1 := pz_te_fr f1 (by decide) (by decide)
  have te2 := pz_te_fr f2 (by decide) (by decide)
  have te12 := pz_te_trans te1 te2
  have nc2 : pz_nM m2 (fun _ => none) 0 := by
    refine ⟨fun w hw => ?_, ?_, fun w i h => nomatch h⟩
    · show m2 194 w = 0
      rw [f2.1 194 (by decide) (by decide)]
      exact z1 w hw
    · rw [f2.2 44 (by decide)]
      exact z1'
  have hs2 : pz_mS m2 F n σ := pz_mS_te te12 (by rw [f2.1 182 (by decide) (by decide), f1.1 182 (by decide) (by decide)]) hs
  have hw := pz_writeM (d := d) (n0 := n0) (ml := ml) (mr := mr) (c := c) (s := s) (σ := σ) (row := 7 * A.length) (x := 3000) (pz_tm_te te12 ht) hF hn hs2 hg (by omega) (.inl ⟨by decide, by omega⟩) nc2 (by decide)
  have c3000 : pz_cm m2 3000 = 0 := by rw [pz_cm_v (by decide)]; decide
  rw [pz_tx_te te12, c3000] at hw
  refine pz_Rn_e (Nat.le_refl _) hw ?_
  rintro _ _ ⟨m3, ⟨rfl, rfl⟩, f3, nc3, l3, l3', t3, -, t3'⟩
  have te3 := pz_te_fr f3 (by decide) (by decide)
  have te13 := pz_te_trans te12 te3
  have cb := pz_tx_c (mi := mi) (σ := σ) 40 [0] (fun _ => none) 0
  have lb := pz_tx_len (mi := mi) (σ := σ) 40 [0] (fun _ => none) 0
  refine pz_g140_69 ?_
  have cn3 := pz_mn_te te13 ((f3.2 24 (by decide)).trans ((f2.2 24 (by decide)).trans (f1.2 24 (by decide)))) (by rw [f3.1 184 (by decide) (by decide), f2.1 184 (by decide) (by decide), f1.1 184 (by decide) (by decide)]) (by rw [f3.1 185 (by decide) (by decide), f2.1 185 (by decide) (by decide), f1.1 185 (by decide) (by decide)]) hcn
  have h0 : pz_hn 0 (ml 180 n) (ml 181 n) = 0 := rfl
  have lp := pz_tl1 (d := d) (n0 := n0) (ml := ml) (mr := mr) (c := c) (s := s) (σ := σ) (k := k) ht hF hn hg hN (K := A.length) hA1 N 0 1 (pz_tx mi σ 40 [0] (fun _ => none) 0).2.1 (pz_tx mi σ 40 [0] (fun _ => none) 0).2.2 (fun p => if p = 0 then (pz_tx mi σ 40 [0] (fun _ => none) 0).1 else []) m3 te13 (pz_mS_te te3 (f3.1 182 (by decide) (by decide)) hs2) cn3 (by omega) (fun _ => by rw [h0]) (fun h => absurd h (by rw [h0]; decide)) (by rw [f3.1 189 (by decide) (by decide), f2.1 189 (by decide) (by decide), f1.1 189 (by decide) (by decide)]; exact a1) nc3 (by omega) ?_
  · refine lp.mono (Nat.le_refl _) ?_
    rintro _ _ ⟨m4, g1, g2, g3, g4, g5, g6, g7, g8, g9⟩
    refine ⟨m4, g1, pz_fr_trans (pz_fr_trans (pz_fr_trans (pz_fr_sub (by decide) (by decide) f1) (pz_fr_sub (by decide) (by decide) f2)) (pz_fr_sub (by decide) (by decide) f3)) g2, fun j hj => ?_, ?_, ?_, ?_⟩
    · rw [g4 j hj, f3.1 189 (by decide) (by decide), f2.1 189 (by decide) (by decide), f1.1 189 (by decide) (by decide)]
    · rw [g3, List.length_append, List.length_singleton]
    · rw [List.length_append, List.length_singleton]
      omega
    · intro a x hax
      by_cases ha : a < A.length
      · rw [List.getElem?_append_left ha] at hax
        obtain ⟨h1, h2⟩ := a3 a x hax
        refine ⟨?_, fun p hp => ?_⟩
        · rw [g6 a (by omega), f3.1 193 (by decide) (by decide), f2.1 193 (by decide) (by decide), f1.1 193 (by decide) (by decide)]
          exact h1
        · refine pz_rM_fr ?_ (fun i hi => ?_) (h2 p hp)
          · rw [g7 _ (by omega), l3' _ (by omega), z2' _ (by omega), f1.1 192 (by decide) (by decide)]
          · rw [g8 _ (by omega), t3' _ (by omega), f2.1 191 (by decide) (by decide), f1.1 191 (by decide) (by decide)]
      · have ea : a = A.length := by
          have := List.getElem?_eq_some_iff.mp hax
          obtain ⟨hlt, -⟩ := this
          rw [List.length_append, List.length_singleton] at hlt
          omega
        subst ea
        rw [List.getElem?_append_right (Nat.le_refl _), Nat.sub_self] at hax
        cases hax
        exact ⟨g5, fun p hp => g9 p hp⟩
  · intro p hp
    by_cases e : p = 0
    · subst e
      rw [if_pos rfl]
      refine ⟨?_, lb, fun i hi => ?_⟩
      · rw [Nat.add_zero, l3]
        omega
      · have := t3 i hi
        rw [Nat.zero_add] at this
        rw [Nat.add_zero]
        exact this
    · rw [if_neg e]
      refine ⟨?_, Nat.zero_le _, fun i hi => absurd hi (Nat.not_lt_zero _)⟩
      rw [l3' _ (by omega), z2 p hp]
      rfl
end pzT1
