/-! What the law keeps between calls. -/
def pz_LI (xs : Nat → Int) (B : Int) (Ω : pz_QS) (mi : Nat → Nat → Int) (ml : Nat → Nat → Int64) (mr : Nat → Nat → Option Nat) : Prop := pz_tm mi ∧ pz_gl mi ∧ pz_re4 mi ∧ pz_QC mi ml mr Ω ∧ pz_QM mi ml Ω ∧ pz_QV mi Ω ∧ (0 ≤ Ω.2.2.2 7 ∧ Ω.2.2.2 7 ≤ B) ∧ mi 0 = xs
/-- terms and goals may have grown, the question stands -/
def pz_tg (mi : Nat → Nat → Int) (ml : Nat → Nat → Int64) (mi' : Nat → Nat → Int) (ml' : Nat → Nat → Int64) : Prop := mi 2 3 ≤ mi' 2 3 ∧ (∀ t : Nat, (t : Int) < mi 2 3 → mi' 3 t = mi 3 t ∧ mi' 4 t = mi 4 t) ∧ mi 6 6 ≤ mi' 6 6 ∧ (∀ p, (p = 0 ∨ (13 ≤ p ∧ p < 165) ∨ 175 ≤ p) → mi' p = mi p) ∧ (∀ j, j ≠ 0 → j ≠ 1 → j ≠ 5 → mi' 165 j = mi 165 j) ∧ ∀ p, p ≠ 195 → ml' p = ml p
section pzX1
variable {d n0 : Nat} {mi mi' : Nat → Nat → Int} {ml ml' : Nat → Nat → Int64} {mr : Nat → Nat → Option Nat} {F : Int} {σ : Nat → Option Nat} {N : Nat} {k : Nat → Nat × Nat}
theorem pz_vs_tg (ht : pz_tm mi) (ht' : pz_tm mi') (g : pz_tg mi ml mi' ml') {x : Int} (hx : pz_vs mi F x) : pz_vs mi' F x ∧ pz_cs mi' x = pz_cs mi x := by
  obtain ⟨x0, x1, x2⟩ := hx
  obtain ⟨g1, g2, -⟩ := g
  rcases x2 with x2 | x2
  · have e := g2 (x % 41).toNat (by omega)
    refine ⟨⟨x0, x1, .inl (by omega)⟩, ?_⟩
    unfold pz_cs
    rw [e.1, e.2]
  · refine ⟨⟨x0, x1, .inr x2⟩, ?_⟩
    have e : (x % 41).toNat = 40 := by omega
    unfold pz_cs
    rw [e, ht.2.2.2.1, ht.2.2.2.2.1, ht'.2.2.2.1, ht'.2.2.2.2.1]
theorem pz_vm_tg (ht : pz_tm mi) (ht' : pz_tm mi') (g : pz_tg mi ml mi' ml') {x : Int} (hx : pz_vm mi F x) : pz_vm mi' F x ∧ pz_cm mi' x = pz_cm mi x := by
  obtain ⟨g1, g2, -⟩ := g
  rcases hx with hx | ⟨x1, x2, x3, x4⟩
  · refine ⟨.inl hx, ?_⟩
    unfold pz_cm
    rw [if_pos hx.1, if_pos hx.1]
  · refine ⟨.inr ⟨x1, x2, by omega, x4⟩, ?_⟩
    have e := g2 ((x - 1) / 64).toNat (by omega)
    have t := (ht.2.2.2.2.2 ((x - 1) / 64).toNat (by omega))
    have t' := (ht'.2.2.2.2.2 ((x - 1) / 64).toNat (by omega))
    unfold pz_cm
    rw [t.1, t.2.1, t'.1, t'.2.1, e.1, e.2]
theorem pz_cS_tg (ht : pz_tm mi) (ht' : pz_tm mi') (g : pz_tg mi ml mi' ml') {b : Int} (h : pz_cS mi F b σ) : pz_cS mi' F b σ := by
  obtain ⟨l, h1, h2, h3, h4⟩ := h
  have q := g.2.2.2.1
  refine ⟨l, pz_ch_up (by rw [q 150 (by decide)]; exact Int.le_refl _) (fun j _ => ⟨by rw [q 151 (by decide)], by rw [q 152 (by decide)], by rw [q 153 (by decide)]⟩) h1, h2, fun e he => ⟨(h3 e he).1, (pz_vs_tg ht ht' g (h3 e he).2).1⟩, fun v => ?_⟩
  rw [h4 v]
  cases e : pz_lk l v with
  | none => rfl
  | some x => exact congrArg some (pz_vs_tg ht ht' g (h3 _ (pz_lk_mem e)).2).2.symm
theorem pz_mR_tg (ht : pz_tm mi) (ht' : pz_tm mi') (g : pz_tg mi ml mi' ml') {row : Nat → Int} (h : pz_mR mi F row σ) : pz_mR mi' F row σ := by
  intro v
  refine ⟨fun hv => ?_, (h v).2⟩
  have h1 := (h v).1 hv
  cases e : σ v with
  | none =>
    rw [e] at h1
    exact h1
  | some a =>
    rw [e] at h1
    have h2 := pz_vm_tg ht ht' g h1.1
    exact ⟨h2.1, h2.2.trans h1.2⟩
theorem pz_cn_tg (ht : pz_tm mi) (ht' : pz_tm mi') (g : pz_tg mi ml mi' ml') (h : pz_cn mi F N k) : pz_cn mi' F N k := by
  have q := g.2.2.2.1
  unfold pz_cn
  rw [q 13 (by decide), q 146 (by decide), q 147 (by decide)]
  refine ⟨h.1, fun i hi => ?_⟩
  have h1 := pz_vs_tg ht ht' g (h.2 i hi).1
  have h2 := pz_vs_tg ht ht' g (h.2 i hi).2.1
  exact ⟨h1.1, h2.1, by rw [h1.2, h2.2]; exact (h.2 i hi).2.2⟩
theorem pz_mn_tg (ht : pz_tm mi) (ht' : pz_tm mi') (g : pz_tg mi ml mi' ml') (h : pz_mn mi F N k) : pz_mn mi' F N k := by
  have q := g.2.2.2.1
  unfold pz_mn
  rw [g.2.2.2.2.1 24 (by decide) (by decide) (by decide), q 184 (by decide), q 185 (by decide)]
  refine ⟨h.1, fun i hi => ?_⟩
  have h1 := pz_vm_tg ht ht' g (h.2 i hi).1
  have h2 := pz_vm_tg ht ht' g (h.2 i hi).2.1
  exact ⟨h1.1, h2.1, by rw [h1.2, h2.2]; exact (h.2 i hi).2.2⟩
theorem pz_R1_tg (ht' : pz_tm mi') (hg' : pz_gl mi') (hr' : pz_re4 mi') (g : pz_tg mi ml mi' ml') {F nb N : Nat} {t : Lean.RArray pz_tk} (h : pz_R1 mi ml mr F nb N k t) : pz_R1 mi' ml' mr F nb N k t := by
  obtain ⟨⟨ht, -, -, w4, w5, w6, w7, w8, w9, w10⟩, r2, p, U, S, r3, r4, r5⟩ := h
  have q := g.2.2.2.1
  have nd : ∀ p, pz_nd p → mi' p = mi p ∧ mi' (p + 1) = mi (p + 1) := by
    intro p hp
    unfold pz_nd at hp
    exact ⟨q p (by omega), q (p + 1) (by omega)⟩
  refine ⟨⟨ht', hg', hr', by rw [q 13 (by decide)]; exact w4, w5, w6, by rw [q 150 (by decide)]; exact w7, w8, w9, pz_cn_tg ht ht' g w10⟩, by rw [q 13 (by decide)]; exact r2, p, U, S, r3, pz_iv_nodes r4 (q 16 (by decide)) (fun p hp => (nd p hp).1), ?_⟩
  refine pz_cT_fr _ _ _ (fun v hv => ?_) (pz_cT_P (fun a b c e f x hx => ⟨hx.1, hx.2.1, pz_cS_tg ht ht' g hx.2.2.1, hx.2.2.2⟩) _ _ _ r5)
  have hn := (pz_cT_nd _ _ _ r5).2 v hv
  have hn2 : v + 1 ≠ 195 := by
    unfold pz_nd at hn
    omega
  exact ⟨(nd v hn).1, (nd v hn).2, g.2.2.2.2.2 _ hn2, rfl⟩
theorem pz_R2_tg (ht' : pz_tm mi') (hg' : pz_gl mi') (hr' : pz_re4 mi') (g : pz_tg mi ml mi' ml') {F nb N : Nat} {t : Lean.RArray pz_tk} (h : pz_R2 mi ml F nb N k t) : pz_R2 mi' ml' F nb N k t := by
  obtain ⟨⟨ht, -, -, w4, w5, w6, w7, w8, w9, w10⟩, r2, n, U, A, m, r3, r4, r5⟩ := h
  have q := g.2.2.2.1
  have j := g.2.2.2.2.1
  refine ⟨⟨ht', hg', hr', by rw [j 28 (by decide) (by decide) (by decide)]; exact w4, w5, w6, by rw [j 29 (by decide) (by decide) (by decide)]; exact w7, w8, w9, pz_mn_tg ht ht' g w10⟩, by rw [j 14 (by decide) (by decide) (by decide)]; exact r2, n, U, A, m, by rw [j 13 (by decide) (by decide) (by decide)]; exact r3, pz_mv_fr r4 (j 12 (by decide) (by decide) (by decide)) (fun v _ _ => by rw [q 176 (by decide)]), ?_⟩
  refine pz_mT_fr _ _ _ (fun v hv => ?_) (pz_mT_P (fun a b c e f x hx => ⟨hx.1, hx.2.1, pz_mR_tg ht ht' g hx.2.2.1, hx.2.2.2⟩) _ _ _ r5)
  exact ⟨by rw [q 175 (by decide)], by rw [q 176 (by decide)], by rw [q 177 (by decide)], by rw [q 178 (by decide)], by rw [q 179 (by decide)], pz_rwf_eq (q 182 (by decide)) v, by rw [g.2.2.2.2.2 180 (by decide)], by rw [g.2.2.2.2.2 181 (by decide)]⟩
theorem pz_QC_tg (ht' : pz_tm mi') (hg' : pz_gl mi') (hr' : pz_re4 mi') (g : pz_tg mi ml mi' ml') {Ω : pz_QS} (h : pz_QC mi ml mr Ω) : pz_QC mi' ml' mr Ω := by
  obtain ⟨st, q, A, cn⟩ := Ω
  obtain ⟨c1, c2, c3, c4⟩ := h
  have e := g.2.2.2.1
  refine ⟨by rw [e 13 (by decide)]; exact c1, pz_AC_fr (fun p hp => e p (by omega)) c2, by rw [e 148 (by decide)]; exact c3, ?_⟩
  cases q with
  | none => exact c4
  | some q => exact ⟨c4.1, pz_R1_tg ht' hg' hr' g c4.2⟩
theorem pz_QM_tg (ht' : pz_tm mi') (hg' : pz_gl mi') (hr' : pz_re4 mi') (g : pz_tg mi ml mi' ml') {Ω : pz_QS} (h : pz_QM mi ml Ω) : pz_QM mi' ml' Ω := by
  obtain ⟨st, q, A, cn⟩ := Ω
  obtain ⟨c1, c2, c3, c4⟩ := h
  have e := g.2.2.2.1
  refine ⟨by rw [g.2.2.2.2.1 14 (by decide) (by decide) (by decide)]; exact c1, pz_AM_fr (by rw [e 189 (by decide)]) (e 191 (by decide)) (e 192 (by decide)) (e 193 (by decide)) c2, by rw [e 189 (by decide)]; exact c3, ?_⟩
  cases q with
  | none => exact c4
  | some q => exact ⟨c4.1, pz_R2_tg ht' hg' hr' g c4.2⟩
theorem pz_LI_tg {xs : Nat → Int} {B : Int} {Ω : pz_QS} (ht' : pz_tm mi') (hg' : pz_gl mi') (hr' : pz_re4 mi') (g : pz_tg mi ml mi' ml') (h : pz_LI xs B Ω mi ml mr) : pz_LI xs B Ω mi' ml' mr := by
  obtain ⟨h1, h2, h3, h4, h5, h6, h7, h8⟩ := h
  exact ⟨ht', hg', hr', pz_QC_tg ht' hg' hr' g h4, pz_QM_tg ht' hg' hr' g h5, pz_QV_6 g.2.2.1 h6, h7, (g.2.2.2.1 0 (by decide)).trans h8⟩
/-- nothing of weight has changed -/
def pz_w0 (mi : Nat → Nat → Int) (ml : Nat → Nat → Int64) (mi' : Nat → Nat → Int) (ml' : Nat → Nat → Int64) : Prop := (∀ p, p ≠ 165 → mi' p = mi p) ∧ (∀ j, j ≠ 0 → mi' 165 j = mi 165 j) ∧ ∀ p, p ≠ 195 → ml' p = ml p
theorem pz_LI_w0 {xs : Nat → Int} {B : Int} {Ω : pz_QS} (g : pz_w0 mi ml mi' ml') (h : pz_LI xs B Ω mi ml mr) : pz_LI xs B Ω mi' ml' mr := by
  obtain ⟨g1, g2, g3⟩ := g
  have h' := h
  obtain ⟨h1, h2, h3, h4, h5, h6, h7, h8⟩ := h'
  refine pz_LI_tg ?_ ?_ ?_ ⟨?_, ?_, ?_, ?_, ?_, g3⟩ h
  · exact pz_tm_te ⟨g1 _ (by decide), g1 _ (by decide), g1 _ (by decide), g1 _ (by decide), g1 _ (by decide), g1 _ (by decide), g1 _ (by decide), g2 1 (by decide)⟩ h1
  · unfold pz_gl pz_gl1 pz_isT
    rw [g1 2 (by decide), g1 6 (by decide), g1 7 (by decide), g1 8 (by decide), g1 9 (by decide), g1 10 (by decide), g1 11 (by decide), g2 5 (by decide), g1 169 (by decide), g1 170 (by decide), g1 171 (by decide), g1 172 (by decide), g1 173 (by decide)]
    exact h2
  · unfold pz_re4
    rw [g1 6 (by decide), g1 12 (by decide), g1 174 (by decide)]
    exact h3
  · rw [g1 2 (by decide)]
    exact Int.le_refl _
  · intro t _
    rw [g1 3 (by decide), g1 4 (by decide)]
    exact ⟨rfl, rfl⟩
  · rw [g1 6 (by decide)]
    exact Int.le_refl _
  · intro p hp
    exact g1 p (by omega)
  · intro j j0 _ _
    exact g2 j j0
theorem pz_w0_0 {v : Int} {w : Int64} : pz_w0 mi ml (pz_up mi 165 0 v) (pz_up ml 195 0 w) := ⟨fun p hp => pz_upq hp, fun j hj => pz_up_ot hj, fun p hp => pz_upq hp⟩
theorem pz_w0_1 {v : Int} : pz_w0 mi ml (pz_up mi 165 0 v) ml := ⟨fun p hp => pz_upq hp, fun j hj => pz_up_ot hj, fun p _ => rfl⟩
end pzX1
