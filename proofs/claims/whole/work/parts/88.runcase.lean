/-! The law's case of run. -/
section pzX7
variable {n0 : Nat} {mi mi' : Nat → Nat → Int} {ml ml' : Nat → Nat → Int64} {mr : Nat → Nat → Option Nat} {c s : Nat} {xs : Nat → Int} {B : Int} {Q : pz_O → pz_H → Prop} {a4 : Int}
theorem pz_ts_w (te : pz_te mi mi') (g : ∀ p, 6 ≤ p → p ≤ 12 → mi' p = mi p) {F nb N : Nat} {k : Nat → Nat × Nat} (x : pz_tk) : pz_ts mi' F nb N k x = pz_ts mi F nb N k x := by
  unfold pz_ts
  rw [g 7 (by decide) (by decide), g 8 (by decide) (by decide), g 9 (by decide) (by decide), g 10 (by decide) (by decide), g 11 (by decide) (by decide), g 12 (by decide) (by decide), pz_cs_te te, pz_sm_te te, pz_df_te te]
theorem pz_stp_w (te : pz_te mi mi') (g : ∀ p, 6 ≤ p → p ≤ 12 → mi' p = mi p) {F nb N : Nat} {k : Nat → Nat × Nat} {t : Lean.RArray pz_tk} : pz_stp mi' F nb N k t = pz_stp mi F nb N k t := by
  unfold pz_stp
  rw [pz_ts_w te g]
theorem pz_qst_w (te : pz_te mi mi') (g : ∀ p, 6 ≤ p → p ≤ 12 → mi' p = mi p) (q : pz_Q1) (A : List (Nat × (Nat → List Int))) (cn : Nat → Int) : pz_qst mi' q A cn = pz_qst mi q A cn := by
  unfold pz_qst
  rw [pz_stp_w te g]
  cases pz_stp mi q.1 q.2.1 q.2.2.1 q.2.2.2.1 q.2.2.2.2 with
  | none => rfl
  | some z => simp only [pz_A1_te te]
theorem pz_qrun_w (te : pz_te mi mi') (g : ∀ p, 6 ≤ p → p ≤ 12 → mi' p = mi p) {one : Bool} : ∀ (n : Nat) (Ω : pz_QS), pz_qrun mi' n one Ω = pz_qrun mi n one Ω := by
  intro n
  induction n with
  | zero => exact fun _ => rfl
  | succ n ih =>
    intro Ω
    obtain ⟨st, q, A, cn⟩ := Ω
    cases q with
    | none => rfl
    | some q =>
      unfold pz_qrun
      dsimp only
      rw [pz_qst_w te g, ih]
theorem pz_vx_w (g : mi' 6 = mi 6) {F nb N : Nat} {ra : Option (Lean.RArray pz_tk) × Option pz_an} (h : pz_vx mi F nb N ra) : pz_vx mi' F nb N ra := by
  refine ⟨?_, h.2⟩
  have h1 := h.1
  cases e : ra.1 with
  | none => trivial
  | some t =>
    rw [e] at h1
    exact pz_vT_6 (by rw [g]; exact Int.le_refl _) h1
theorem pz_QR_w (te : pz_te mi mi') (g : ∀ p, 6 ≤ p → p ≤ 12 → mi' p = mi p) {one : Bool} : ∀ (n : Nat) (Ω : pz_QS), pz_QR mi n one Ω → pz_QR mi' n one Ω := by
  intro n
  induction n with
  | zero => exact fun _ _ => trivial
  | succ n ih =>
    intro Ω h
    obtain ⟨st, q, A, cn⟩ := Ω
    cases q with
    | none => trivial
    | some q =>
      unfold pz_QR at h ⊢
      dsimp only at h ⊢
      rw [pz_stp_w te g, pz_qst_w te g]
      exact ⟨fun F' ra nb' N' k' h1 h2 => pz_vx_w (g 6 (by decide) (by decide)) (h.1 F' ra nb' N' k' h1 h2), fun h1 h2 => ih _ (h.2 h1 h2)⟩
theorem pz_QM_hi {Ω : pz_QS} (te : pz_te mi mi') (ht' : pz_tm mi') (hg' : pz_gl mi') (hr' : pz_re4 mi') (q : ∀ p, 175 ≤ p → mi' p = mi p) (j : ∀ j, j ≠ 0 → mi' 165 j = mi 165 j) (g : ∀ p, p = 180 ∨ p = 181 → ml' p = ml p) (h : pz_QM mi ml Ω) : pz_QM mi' ml' Ω := by
  obtain ⟨st, o, A, cn⟩ := Ω
  obtain ⟨c1, c2, c3, c4⟩ := h
  refine ⟨by rw [j 14 (by decide)]; exact c1, pz_AM_fr (by rw [q 189 (by decide)]) (q 191 (by decide)) (q 192 (by decide)) (q 193 (by decide)) c2, by rw [q 189 (by decide)]; exact c3, ?_⟩
  cases o with
  | none => exact c4
  | some o =>
    refine ⟨c4.1, ?_⟩
    obtain ⟨⟨-, -, -, w4, w5, w6, w7, w8, w9, w10⟩, r2, n, U, A, m, r3, r4, r5⟩ := c4.2
    refine ⟨⟨ht', hg', hr', by rw [j 28 (by decide)]; exact w4, w5, w6, by rw [j 29 (by decide)]; exact w7, w8, w9, pz_mn_te te (j 24 (by decide)) (q 184 (by decide)) (q 185 (by decide)) w10⟩, by rw [j 14 (by decide)]; exact r2, n, U, A, m, by rw [j 13 (by decide)]; exact r3, pz_mv_fr r4 (j 12 (by decide)) (fun v _ _ => by rw [q 176 (by decide)]), ?_⟩
    refine pz_mT_fr _ _ _ (fun v hv => ?_) (pz_mT_P (fun a b c e f x hx => ⟨hx.1, hx.2.1, pz_mR_te te hx.2.2.1, hx.2.2.2⟩) _ _ _ r5)
    exact ⟨by rw [q 175 (by decide)], by rw [q 176 (by decide)], by rw [q 177 (by decide)], by rw [q 178 (by decide)], by rw [q 179 (by decide)], pz_rwf_eq (q 182 (by decide)) v, by rw [g 180 (by decide)], by rw [g 181 (by decide)]⟩
theorem pz_QC_lo {Ω : pz_QS} (te : pz_te mi mi') (ht' : pz_tm mi') (hg' : pz_gl mi') (hr' : pz_re4 mi') (q : ∀ p, p < 165 → mi' p = mi p) (g : ∀ p, p < 165 → ml' p = ml p) (h : pz_QC mi ml mr Ω) : pz_QC mi' ml' mr Ω := by
  obtain ⟨st, o, A, cn⟩ := Ω
  obtain ⟨c1, c2, c3, c4⟩ := h
  refine ⟨by rw [q 13 (by decide)]; exact c1, pz_AC_fr (fun p hp => q p (by omega)) c2, by rw [q 148 (by decide)]; exact c3, ?_⟩
  cases o with
  | none => exact c4
  | some o =>
    refine ⟨c4.1, ?_⟩
    obtain ⟨⟨-, -, -, w4, w5, w6, w7, w8, w9, w10⟩, r2, p, U, S, r3, r4, r5⟩ := c4.2
    have nd : ∀ p, pz_nd p → mi' p = mi p ∧ mi' (p + 1) = mi (p + 1) ∧ ml' (p + 1) = ml (p + 1) := by
      intro p hp
      unfold pz_nd at hp
      exact ⟨q p (by omega), q (p + 1) (by omega), g (p + 1) (by omega)⟩
    refine ⟨⟨ht', hg', hr', by rw [q 13 (by decide)]; exact w4, w5, w6, by rw [q 150 (by decide)]; exact w7, w8, w9, pz_cn_te te (q 13 (by decide)) (q 146 (by decide)) (q 147 (by decide)) w10⟩, by rw [q 13 (by decide)]; exact r2, p, U, S, r3, pz_iv_nodes r4 (q 16 (by decide)) (fun p hp => (nd p hp).1), ?_⟩
    refine pz_cT_fr _ _ _ (fun v hv => ?_) (pz_cT_P (fun a b c e f x hx => ⟨hx.1, hx.2.1, pz_cS_te te (by rw [q 150 (by decide)]; exact Int.le_refl _) (fun j _ => ⟨by rw [q 151 (by decide)], by rw [q 152 (by decide)], by rw [q 153 (by decide)]⟩) hx.2.2.1, hx.2.2.2⟩) _ _ _ r5)
    have hn := (pz_cT_nd _ _ _ r5).2 v hv
    exact ⟨(nd v hn).1, (nd v hn).2.1, (nd v hn).2.2, rfl⟩
theorem pz_QV_qrun {Ω : pz_QS} (h : mi 6 = mi' 6) (hv : pz_QV mi Ω) : pz_QV mi' Ω := pz_QV_6 (by rw [h]; exact Int.le_refl _) hv
set_option maxHeartbeats 1000000 in
theorem pz_zc8 {Ω : pz_QS} {f : Int} (hf : (mi 0 ((a4 + 2).toNat) = 0 ∧ f = 0) ∨ (mi 0 ((a4 + 2).toNat) ≠ 0 ∧ f = 1)) (hB : B ≤ 900000) (hI : pz_LI xs B Ω mi ml mr) (hb : 0 ≤ a4 ∧ a4 + 5 ≤ (n0 : Int) ∧ n0 ≤ 2560) (IH : pz_IH n0 c s xs B a4 Q) : pz_Rn 29 81 (0, [], [(0, .inr (.inr (some 1))), (1, .inl (mi 0 ((a4 + 1).toNat))), (2, .inl f), (3, .inr (.inr (some 195)))], pz_hp n0 mi ml mr c s, true) (pz_K 30 148 674 [] [(0, .inr (.inr (some 0))), (1, .inr (.inr (some 1))), (2, .inr (.inr (some 165))), (3, .inr (.inr (some 195))), (4, .inl a4)] Q false) := by
  have hI' := hI
  obtain ⟨h1, h2, h3, h4, h5, h6, h7, h8⟩ := hI'
  generalize e1 : mi 0 ((a4 + 1).toNat) = x1
  have hb1 : 0 ≤ a4 ∧ a4 ≤ 2560 := by omega
  have c13 : mi 13 13 = (Ω.1 : Int) := h4.1
  have m14 : mi 165 14 = (Ω.1 : Int) := h5.1
  have bad : ∀ x : Int, (x = 1 ∧ ¬ (0 ≤ x1 ∧ x1 ≤ 200)) ∨ (x = 2 ∧ (0 ≤ x1 ∧ x1 ≤ 200) ∧ Ω.1 = 0) → pz_K 30 148 674 [] [(0, .inr (.inr (some 0))), (1, .inr (.inr (some 1))), (2, .inr (.inr (some 165))), (3, .inr (.inr (some 195))), (4, .inl a4)] Q false (.inl (some (.inl x))) (pz_hp n0 mi ml mr (c + 1) (s + 6)) := by
    intro x hx
    have tail : ∀ v : Int, pz_Rn 30 148 (703, [.inl v], [(0, .inr (.inr (some 0))), (1, .inr (.inr (some 1))), (2, .inr (.inr (some 165))), (3, .inr (.inr (some 195))), (4, .inl a4), (5, .inl x)], pz_hp n0 (pz_up mi 165 0 x) ml mr (c + 1) (s + 6), true) Q := fun v => pz_t703 hb1 pz_up_at (fun h => absurd h (by omega)) (IH Ω _ _ _ _ _ (pz_LI_B2 (pz_LI_w0 pz_w0_1 hI)) (Nat.le_refl _) (Nat.le_refl _))
    have tl : ∀ f : Int, pz_Rn 29 141 (0, [], [(0, .inr (.inr (some 165))), (1, .inl x1), (2, .inl f)], pz_hp n0 mi ml mr (c + 1) (s + 6), true) (pz_K 30 148 700 [] [(0, .inr (.inr (some 0))), (1, .inr (.inr (some 1))), (2, .inr (.inr (some 165))), (3, .inr (.inr (some 195))), (4, .inl a4), (5, .inl x)] Q true) := by
      intro f
      refine pz_g141_0 ⟨fun h => ?_, fun h => ⟨fun h9 => ⟨fun h10 => absurd h10 (by omega), fun h10 => ?_⟩, fun h9 => ?_⟩⟩
      · have ex : x = 1 := by omega
        subst ex
        exact tail 0
      · have ex : x = 2 := by omega
        subst ex
        exact tail 0
      · have ex : x = 1 := by omega
        subst ex
        exact tail 0
    refine pz_g148_677 ⟨by omega, by omega, by omega, by omega, fun _ => ?_, fun _ => ?_⟩
    · rw [e1]
      exact tl 0
    · rw [e1]
      exact tl 1
  refine pz_g81_0 (pz_g80_0 ⟨fun h => pz_kx1 rfl (bad 1 (by omega)), fun h => ⟨fun h9 => pz_kx1 rfl (bad 1 (by omega)), fun h9 => ⟨fun h10 => ?_, fun h10 => pz_kx1 rfl (bad 2 (by omega))⟩⟩⟩)
  obtain ⟨one, hone⟩ : ∃ one : Bool, (f = 0 ∧ one = false) ∨ (f ≠ 0 ∧ one = true) := by
    by_cases hz : f = 0
    · exact ⟨_, .inl ⟨hz, rfl⟩⟩
    · exact ⟨_, .inr ⟨hz, rfl⟩⟩
  obtain ⟨n, hn⟩ : ∃ n : Nat, x1 = (n : Int) := ⟨x1.toNat, by omega⟩
  have rc := pz_runC1 (d := 21) (n0 := n0) (c := c) (s := s) (mi0 := mi) (steps := x1) hone n 0 Ω mi ml mr (by omega) (by omega) (fun _ _ => rfl) h4 h6 (by omega)
  refine pz_Rn.mono (Nat.le_refl _) rc ?_
  rintro _ _ ⟨mi1, ml1, mr1, ⟨rfl, rfl⟩, cf, hQC, hQV, hQR, h7'⟩
  generalize hr : pz_qrun mi n one Ω = R at hQC hQV h7'
  obtain ⟨cf1, cf2⟩ := cf
  refine pz_g81_8 ⟨by decide, ?_⟩
  have f0 : mi1 0 = mi 0 := cf1 0 (by decide)
  have f165 : mi1 165 = mi 165 := cf1 165 (by decide)
  have te1 : pz_te mi mi1 := pz_te_13 cf1
  have k1 : pz_tm mi1 := pz_tm_te te1 h1
  have k2 : pz_gl mi1 := pz_gl_13 cf1 h2
  have k3 : pz_re4 mi1 := pz_re_13 cf1 h3
  -- the reference
  have te2 : pz_te mi (pz_up mi1 165 0 0) := pz_te_trans te1 ⟨pz_upq (by decide), pz_upq (by decide), pz_upq (by decide), pz_upq (by decide), pz_upq (by decide), pz_upq (by decide), pz_upq (by decide), pz_up_ot (by decide)⟩
  have g2 : ∀ p, 6 ≤ p → p ≤ 12 → pz_up mi1 165 0 0 p = mi p := fun p _ hp => (pz_upq (by omega)).trans (cf1 p (by omega))
  have j2 : ∀ j, j ≠ 0 → pz_up mi1 165 0 0 165 j = mi 165 j := fun j hj => (pz_up_ot hj).trans (by rw [f165])
  have l1 : pz_tm (pz_up mi1 165 0 0) := pz_tm_te te2 h1
  have l2 : pz_gl (pz_up mi1 165 0 0) := by
    have g : ∀ p, p ≠ 165 → (p < 13 ∨ 165 ≤ p) → pz_up mi1 165 0 0 p = mi p := fun p hp hp2 => (pz_upq hp).trans (cf1 p hp2)
    unfold pz_gl pz_gl1 pz_isT
    rw [g 2 (by decide) (by decide), g 6 (by decide) (by decide), g 7 (by decide) (by decide), g 8 (by decide) (by decide), g 9 (by decide) (by decide), g 10 (by decide) (by decide), g 11 (by decide) (by decide), j2 5 (by decide), g 169 (by decide) (by decide), g 170 (by decide) (by decide), g 171 (by decide) (by decide), g 172 (by decide) (by decide), g 173 (by decide) (by decide)]
    exact h2
  have l3 : pz_re4 (pz_up mi1 165 0 0) := by
    unfold pz_re4
    rw [g2 6 (by decide) (by decide), g2 12 (by decide) (by decide), (pz_upq (by decide)).trans (cf1 174 (by decide))]
    exact h3
  generalize hw : (Int32.ofInt ((0 + R.1 : Nat) : Int)).toInt64 = w
  have hQM : pz_QM (pz_up mi1 165 0 0) (pz_up ml1 195 0 w) Ω := pz_QM_hi te2 l1 l2 l3 (fun p hp => (pz_upq (by omega)).trans (cf1 p (by omega))) j2 (fun p hp => (pz_upq (by omega)).trans (cf2 p (by omega))) h5
  have m14' : mi1 165 14 = (Ω.1 : Int) := by rw [f165]; exact m14
  have main : ∀ f : Int, ((f = 0 ∧ one = false) ∨ (f ≠ 0 ∧ one = true)) → pz_Rn 29 141 (0, [], [(0, .inr (.inr (some 165))), (1, .inl x1), (2, .inl f)], pz_hp n0 mi1 (pz_up ml1 195 0 w) mr1 c s, true) (pz_K 30 148 700 [] [(0, .inr (.inr (some 0))), (1, .inr (.inr (some 1))), (2, .inr (.inr (some 165))), (3, .inr (.inr (some 195))), (4, .inl a4), (5, .inl 0)] Q true) := by
    intro f hone
    refine pz_g141_0 ⟨fun h => absurd h (by omega), fun h => ⟨fun _ => ⟨fun _ => ?_, fun h11 => absurd h11 (by omega)⟩, fun h11 => absurd h11 (by omega)⟩⟩
    have rm := pz_runM1 (d := 19) (n0 := n0) (c := c) (s := s) (mr := mr1) (mi0 := pz_up mi1 165 0 0) (ml0 := pz_up ml1 195 0 w) l1 l2 l3 (steps := x1) hone n 0 0 Ω _ _ (by omega) (by omega) (.inr rfl) pz_mg_refl hQM (pz_QV_qrun (g2 6 (by decide) (by decide)).symm h6) (pz_QR_w te2 g2 n Ω hQR) (by omega)
    rw [pz_qrun_w te2 g2, hr] at rm
    refine pz_Rn.mono (Nat.le_refl _) rm ?_
    rintro _ _ ⟨mi3, ml3, ⟨rfl, rfl⟩, mg, hQM3⟩
    have z0 : mi3 165 0 = 0 := by rw [mg.2.1.1]; exact pz_up_at
    have z195 : ml3 195 0 = w := by rw [mg.2.2 195 (by decide) (by decide)]; exact pz_up_at
    refine pz_t703 hb1 z0 (fun _ => by rw [z195]; exact hw.symm) (IH R.2 _ _ _ _ _ ?_ (by omega) (by omega))
    have te3 : pz_te mi1 mi3 := pz_te_trans ⟨pz_upq (by decide), pz_upq (by decide), pz_upq (by decide), pz_upq (by decide), pz_upq (by decide), pz_upq (by decide), pz_upq (by decide), pz_up_ot (by decide)⟩ (pz_mg_te mg)
    have q3 : ∀ p, p < 165 → mi3 p = mi1 p := fun p hp => (mg.1 p (.inl hp)).trans (pz_upq (by omega))
    have n1 := pz_tm_te (pz_mg_te mg) l1
    have n2 := pz_mg_gl mg l2
    have n3 := pz_mg_re mg l3
    refine ⟨n1, n2, n3, pz_QC_lo te3 n1 n2 n3 q3 (fun p hp => (mg.2.2 p (by omega) (by omega)).trans (pz_upq (by omega))) hQC, hQM3, pz_QV_qrun ?_ hQV, ⟨h7'.1, ?_⟩, ?_⟩
    · rw [q3 6 (by decide), cf1 6 (by decide)]
    · omega
    · rw [q3 0 (by decide), f0]
      exact h8
  refine pz_g148_677 ⟨by omega, by omega, by omega, by omega, fun h11 => ?_, fun h11 => ?_⟩
  · rw [f0] at h11 ⊢
    rw [e1]
    exact main 0 (by rcases hone with ho | ho; exact .inl ⟨rfl, ho.2⟩; omega)
  · rw [f0] at h11 ⊢
    rw [e1]
    exact main 1 (by rcases hone with ho | ho; omega; exact .inr ⟨by decide, ho.2⟩)
end pzX7
