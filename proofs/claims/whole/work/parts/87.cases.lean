/-! The law's cases but ask and run. -/
section pzX6
variable {n0 : Nat} {mi : Nat → Nat → Int} {ml : Nat → Nat → Int64} {mr : Nat → Nat → Option Nat} {c s : Nat} {xs : Nat → Int} {B : Int} {Ω : pz_QS} {Q : pz_O → pz_H → Prop} {a4 : Int}
theorem pz_LI_B2 {mi : Nat → Nat → Int} {ml : Nat → Nat → Int64} {mr : Nat → Nat → Option Nat} (h : pz_LI xs B Ω mi ml mr) : pz_LI xs (B + 200) Ω mi ml mr := pz_LI_B (by omega) h
theorem pz_zc0 (hI : pz_LI xs B Ω mi ml mr) (hb : 0 ≤ a4 ∧ a4 + 5 ≤ (n0 : Int) ∧ n0 ≤ 2560) (IH : pz_IH n0 c s xs B a4 Q) : pz_Rn 29 6 (0, [], [(0, .inr (.inr (some 1))), (1, .inl (mi 0 ((a4 + 1).toNat))), (2, .inr (.inr (some 195)))], pz_hp n0 mi ml mr c s, true) (pz_K 30 148 112 [] [(0, .inr (.inr (some 0))), (1, .inr (.inr (some 1))), (2, .inr (.inr (some 165))), (3, .inr (.inr (some 195))), (4, .inl a4)] Q false) := by
  have hI' := hI
  obtain ⟨⟨t1, t2, t3, -⟩, ⟨u1, u2, u3, -⟩, -, ⟨-, qc1, qc2, -⟩, ⟨-, qm1, qm2, -⟩, -⟩ := hI'
  generalize e1 : mi 0 ((a4 + 1).toNat) = x1
  have hb1 : 0 ≤ a4 ∧ a4 ≤ 2560 := by omega
  obtain ⟨e, he⟩ := pz_3 (0 ≤ x1 ∧ x1 < 10) (mi 2 3)
  refine pz_c6 (d := 25) he t1 (fun e0 => ?_) (fun x hx hx0 => ?_)
  · have f0 : (pz_ac mi 0 x1 (-1)) 0 = mi 0 := pz_ac_o (by decide)
    have f1 : (pz_ac mi 0 x1 (-1)) 165 1 = mi 2 3 := by
      rw [pz_ac_o (by decide)]
      exact t3
    have f5 : (pz_ac mi 0 x1 (-1)) 165 5 = mi 6 6 := by
      rw [pz_ac_o (by decide)]
      exact u3
    generalize hm : (pz_ac mi 0 x1 (-1)) = m1 at f0 f1 f5
    refine pz_g148_115 ⟨by omega, by omega, ?_⟩
    rw [f0, e1]
    refine pz_m101 (d := 28) (e := e) (by rw [f1]; exact he) (by omega) (by omega) (fun _ => ?_) (fun x hx hx0 => absurd (hx.trans e0) hx0)
    refine pz_t127 hb1 ?_ (fun _ => ?_) (IH Ω _ _ _ _ _ (pz_LI_B2 ?_) (by omega) (by omega))
    · simp [pz_am1, pz_up]
    · rw [f1, pz_up_at]
    · subst hm
      exact pz_LI_tn hI (by omega) (by omega)
  · refine pz_g148_115 ⟨by omega, by omega, ?_⟩
    rw [e1]
    refine pz_m101 (d := 28) (e := e) (by rw [t3]; exact he) (by omega) (by omega) (fun e0 => absurd (hx.trans e0) hx0) (fun y hy _ => ?_)
    exact pz_t127 hb1 (by rw [pz_up_at]; exact hy.trans hx.symm) (fun h => absurd h hx0) (IH Ω _ _ _ _ _ (pz_LI_B2 (pz_LI_w0 pz_w0_1 hI)) (Nat.le_refl _) (Nat.le_refl _))
theorem pz_zc1 (hI : pz_LI xs B Ω mi ml mr) (hb : 0 ≤ a4 ∧ a4 + 5 ≤ (n0 : Int) ∧ n0 ≤ 2560) (IH : pz_IH n0 c s xs B a4 Q) : pz_Rn 29 8 (0, [], [(0, .inr (.inr (some 1))), (1, .inl (mi 0 ((a4 + 1).toNat))), (2, .inr (.inr (some 195)))], pz_hp n0 mi ml mr c s, true) (pz_K 30 148 168 [] [(0, .inr (.inr (some 0))), (1, .inr (.inr (some 1))), (2, .inr (.inr (some 165))), (3, .inr (.inr (some 195))), (4, .inl a4)] Q false) := by
  have hI' := hI
  obtain ⟨⟨t1, t2, t3, -⟩, ⟨u1, u2, u3, -⟩, -, ⟨-, qc1, qc2, -⟩, ⟨-, qm1, qm2, -⟩, -⟩ := hI'
  generalize e1 : mi 0 ((a4 + 1).toNat) = x1
  have hb1 : 0 ≤ a4 ∧ a4 ≤ 2560 := by omega
  obtain ⟨e, he⟩ := pz_3 (0 ≤ x1 ∧ x1 < 6) (mi 2 3)
  refine pz_c8 (d := 25) he t1 (fun e0 => ?_) (fun x hx hx0 => ?_)
  · have f0 : (pz_ac mi 1 x1 (-1)) 0 = mi 0 := pz_ac_o (by decide)
    have f1 : (pz_ac mi 1 x1 (-1)) 165 1 = mi 2 3 := by
      rw [pz_ac_o (by decide)]
      exact t3
    have f5 : (pz_ac mi 1 x1 (-1)) 165 5 = mi 6 6 := by
      rw [pz_ac_o (by decide)]
      exact u3
    generalize hm : (pz_ac mi 1 x1 (-1)) = m1 at f0 f1 f5
    refine pz_g148_171 ⟨by omega, by omega, ?_⟩
    rw [f0, e1]
    refine pz_m103 (d := 28) (e := e) (by rw [f1]; exact he) (by omega) (by omega) (fun _ => ?_) (fun x hx hx0 => absurd (hx.trans e0) hx0)
    refine pz_t183 hb1 ?_ (fun _ => ?_) (IH Ω _ _ _ _ _ (pz_LI_B2 ?_) (by omega) (by omega))
    · simp [pz_am1, pz_up]
    · rw [f1, pz_up_at]
    · subst hm
      exact pz_LI_tn hI (by omega) (by omega)
  · refine pz_g148_171 ⟨by omega, by omega, ?_⟩
    rw [e1]
    refine pz_m103 (d := 28) (e := e) (by rw [t3]; exact he) (by omega) (by omega) (fun e0 => absurd (hx.trans e0) hx0) (fun y hy _ => ?_)
    exact pz_t183 hb1 (by rw [pz_up_at]; exact hy.trans hx.symm) (fun h => absurd h hx0) (IH Ω _ _ _ _ _ (pz_LI_B2 (pz_LI_w0 pz_w0_1 hI)) (Nat.le_refl _) (Nat.le_refl _))
theorem pz_zc2 (hI : pz_LI xs B Ω mi ml mr) (hb : 0 ≤ a4 ∧ a4 + 5 ≤ (n0 : Int) ∧ n0 ≤ 2560) (IH : pz_IH n0 c s xs B a4 Q) : pz_Rn 29 11 (0, [], [(0, .inr (.inr (some 1))), (1, .inl (mi 0 ((a4 + 1).toNat))), (2, .inl (mi 0 ((a4 + 2).toNat))), (3, .inr (.inr (some 195)))], pz_hp n0 mi ml mr c s, true) (pz_K 30 148 230 [] [(0, .inr (.inr (some 0))), (1, .inr (.inr (some 1))), (2, .inr (.inr (some 165))), (3, .inr (.inr (some 195))), (4, .inl a4)] Q false) := by
  have hI' := hI
  obtain ⟨⟨t1, t2, t3, -⟩, ⟨u1, u2, u3, -⟩, -, ⟨-, qc1, qc2, -⟩, ⟨-, qm1, qm2, -⟩, -⟩ := hI'
  generalize e1 : mi 0 ((a4 + 1).toNat) = x1
  generalize e2 : mi 0 ((a4 + 2).toNat) = x2
  have hb1 : 0 ≤ a4 ∧ a4 ≤ 2560 := by omega
  obtain ⟨e, he⟩ := pz_3 (0 ≤ x1 ∧ x1 < mi 2 3 ∧ 0 ≤ x2 ∧ x2 < mi 2 3) (mi 2 3)
  refine pz_c11 (d := 25) he t1 (fun e0 => ?_) (fun x hx hx0 => ?_)
  · have f0 : (pz_ac mi 2 x1 x2) 0 = mi 0 := pz_ac_o (by decide)
    have f1 : (pz_ac mi 2 x1 x2) 165 1 = mi 2 3 := by
      rw [pz_ac_o (by decide)]
      exact t3
    have f5 : (pz_ac mi 2 x1 x2) 165 5 = mi 6 6 := by
      rw [pz_ac_o (by decide)]
      exact u3
    generalize hm : (pz_ac mi 2 x1 x2) = m1 at f0 f1 f5
    refine pz_g148_233 ⟨by omega, by omega, by omega, by omega, ?_⟩
    rw [f0, e1, e2]
    refine pz_m105 (d := 28) (e := e) (by rw [f1]; exact he) (by omega) (by omega) (fun _ => ?_) (fun x hx hx0 => absurd (hx.trans e0) hx0)
    refine pz_t251 hb1 ?_ (fun _ => ?_) (IH Ω _ _ _ _ _ (pz_LI_B2 ?_) (by omega) (by omega))
    · simp [pz_am1, pz_up]
    · rw [f1, pz_up_at]
    · subst hm
      exact pz_LI_tn hI (by omega) (by omega)
  · refine pz_g148_233 ⟨by omega, by omega, by omega, by omega, ?_⟩
    rw [e1, e2]
    refine pz_m105 (d := 28) (e := e) (by rw [t3]; exact he) (by omega) (by omega) (fun e0 => absurd (hx.trans e0) hx0) (fun y hy _ => ?_)
    exact pz_t251 hb1 (by rw [pz_up_at]; exact hy.trans hx.symm) (fun h => absurd h hx0) (IH Ω _ _ _ _ _ (pz_LI_B2 (pz_LI_w0 pz_w0_1 hI)) (Nat.le_refl _) (Nat.le_refl _))
theorem pz_zc3 {f : Int} (hf : (mi 0 ((a4 + 1).toNat) = 0 ∧ f = 0) ∨ (mi 0 ((a4 + 1).toNat) ≠ 0 ∧ f = 1)) (hI : pz_LI xs B Ω mi ml mr) (hb : 0 ≤ a4 ∧ a4 + 5 ≤ (n0 : Int) ∧ n0 ≤ 2560) (IH : pz_IH n0 c s xs B a4 Q) : pz_Rn 29 14 (0, [], [(0, .inr (.inr (some 1))), (1, .inl f), (2, .inl (mi 0 ((a4 + 2).toNat))), (3, .inl (mi 0 ((a4 + 3).toNat))), (4, .inr (.inr (some 195)))], pz_hp n0 mi ml mr c s, true) (pz_K 30 148 312 [] [(0, .inr (.inr (some 0))), (1, .inr (.inr (some 1))), (2, .inr (.inr (some 165))), (3, .inr (.inr (some 195))), (4, .inl a4)] Q false) := by
  have hI' := hI
  obtain ⟨⟨t1, t2, t3, -⟩, ⟨u1, u2, u3, -⟩, -, ⟨-, qc1, qc2, -⟩, ⟨-, qm1, qm2, -⟩, -⟩ := hI'
  generalize e2 : mi 0 ((a4 + 2).toNat) = x2
  generalize e3 : mi 0 ((a4 + 3).toNat) = x3
  have hb1 : 0 ≤ a4 ∧ a4 ≤ 2560 := by omega
  obtain ⟨k, hk⟩ : ∃ k : Int, (f = 0 ∧ k = 1) ∨ (f ≠ 0 ∧ k = 0) := by
    by_cases h : f = 0
    · exact ⟨_, .inl ⟨h, rfl⟩⟩
    · exact ⟨_, .inr ⟨h, rfl⟩⟩
  obtain ⟨e, he⟩ := pz_3 (0 ≤ x2 ∧ x2 < mi 2 3 ∧ 0 ≤ x3 ∧ x3 < mi 2 3) (mi 6 6)
  refine pz_c14 (d := 26) hk he u1 (fun e0 => ?_) (fun x hx hx0 => ?_)
  · have f0 : (pz_gc mi k x2 x3) 0 = mi 0 := pz_gc_o (by decide)
    have f1 : (pz_gc mi k x2 x3) 165 1 = mi 2 3 := by
      rw [pz_gc_o (by decide)]
      exact t3
    have f5 : (pz_gc mi k x2 x3) 165 5 = mi 6 6 := by
      rw [pz_gc_o (by decide)]
      exact u3
    generalize hm : (pz_gc mi k x2 x3) = m1 at f0 f1 f5
    refine pz_g148_315 ⟨by omega, by omega, fun h1 => ⟨by omega, by omega, by omega, by omega, ?_⟩, fun h1 => ⟨by omega, by omega, by omega, by omega, ?_⟩⟩
    · rw [f0] at h1
      have ef : f = 0 := by omega
      subst ef
      rw [f0, e2, e3]
      refine pz_m107 (d := 28) (e := e) hk (by rw [f1, f5]; exact he) (by omega) (by omega) (fun _ => ?_) (fun x hx hx0 => absurd (hx.trans e0) hx0)
      refine pz_t347 hb1 ?_ (fun _ => ?_) (IH Ω _ _ _ _ _ (pz_LI_B2 ?_) (by omega) (by omega))
      · simp [pz_gm1, pz_up]
      · rw [f5, pz_up_at]
      · subst hm
        exact pz_LI_gn hI (by omega) (.inl ⟨by omega, ⟨by omega, by omega⟩, ⟨by omega, by omega⟩⟩)
    · rw [f0] at h1
      have ef : f = 1 := by omega
      subst ef
      rw [f0, e2, e3]
      refine pz_m107 (d := 28) (e := e) hk (by rw [f1, f5]; exact he) (by omega) (by omega) (fun _ => ?_) (fun x hx hx0 => absurd (hx.trans e0) hx0)
      refine pz_t347 hb1 ?_ (fun _ => ?_) (IH Ω _ _ _ _ _ (pz_LI_B2 ?_) (by omega) (by omega))
      · simp [pz_gm1, pz_up]
      · rw [f5, pz_up_at]
      · subst hm
        exact pz_LI_gn hI (by omega) (.inl ⟨by omega, ⟨by omega, by omega⟩, ⟨by omega, by omega⟩⟩)
  · refine pz_g148_315 ⟨by omega, by omega, fun h1 => ⟨by omega, by omega, by omega, by omega, ?_⟩, fun h1 => ⟨by omega, by omega, by omega, by omega, ?_⟩⟩
    · have ef : f = 0 := by omega
      subst ef
      rw [e2, e3]
      refine pz_m107 (d := 28) (e := e) hk (by rw [t3, u3]; exact he) (by omega) (by omega) (fun e0 => absurd (hx.trans e0) hx0) (fun y hy _ => ?_)
      exact pz_t347 hb1 (by rw [pz_up_at]; exact hy.trans hx.symm) (fun h => absurd h hx0) (IH Ω _ _ _ _ _ (pz_LI_B2 (pz_LI_w0 pz_w0_1 hI)) (Nat.le_refl _) (Nat.le_refl _))
    · have ef : f = 1 := by omega
      subst ef
      rw [e2, e3]
      refine pz_m107 (d := 28) (e := e) hk (by rw [t3, u3]; exact he) (by omega) (by omega) (fun e0 => absurd (hx.trans e0) hx0) (fun y hy _ => ?_)
      exact pz_t347 hb1 (by rw [pz_up_at]; exact hy.trans hx.symm) (fun h => absurd h hx0) (IH Ω _ _ _ _ _ (pz_LI_B2 (pz_LI_w0 pz_w0_1 hI)) (Nat.le_refl _) (Nat.le_refl _))
theorem pz_zc4 {f : Int} (hf : (mi 0 ((a4 + 1).toNat) = 0 ∧ f = 0) ∨ (mi 0 ((a4 + 1).toNat) ≠ 0 ∧ f = 1)) (hI : pz_LI xs B Ω mi ml mr) (hb : 0 ≤ a4 ∧ a4 + 5 ≤ (n0 : Int) ∧ n0 ≤ 2560) (IH : pz_IH n0 c s xs B a4 Q) : pz_Rn 29 17 (0, [], [(0, .inr (.inr (some 1))), (1, .inl f), (2, .inl (mi 0 ((a4 + 2).toNat))), (3, .inl (mi 0 ((a4 + 3).toNat))), (4, .inr (.inr (some 195)))], pz_hp n0 mi ml mr c s, true) (pz_K 30 148 408 [] [(0, .inr (.inr (some 0))), (1, .inr (.inr (some 1))), (2, .inr (.inr (some 165))), (3, .inr (.inr (some 195))), (4, .inl a4)] Q false) := by
  have hI' := hI
  obtain ⟨⟨t1, t2, t3, -⟩, ⟨u1, u2, u3, -⟩, -, ⟨-, qc1, qc2, -⟩, ⟨-, qm1, qm2, -⟩, -⟩ := hI'
  generalize e2 : mi 0 ((a4 + 2).toNat) = x2
  generalize e3 : mi 0 ((a4 + 3).toNat) = x3
  have hb1 : 0 ≤ a4 ∧ a4 ≤ 2560 := by omega
  obtain ⟨k, hk⟩ : ∃ k : Int, (f = 0 ∧ k = 3) ∨ (f ≠ 0 ∧ k = 2) := by
    by_cases h : f = 0
    · exact ⟨_, .inl ⟨h, rfl⟩⟩
    · exact ⟨_, .inr ⟨h, rfl⟩⟩
  obtain ⟨e, he⟩ := pz_3 (0 ≤ x2 ∧ x2 < mi 6 6 ∧ 0 ≤ x3 ∧ x3 < mi 6 6) (mi 6 6)
  refine pz_c17 (d := 26) hk he u1 (fun e0 => ?_) (fun x hx hx0 => ?_)
  · have f0 : (pz_gc mi k x2 x3) 0 = mi 0 := pz_gc_o (by decide)
    have f1 : (pz_gc mi k x2 x3) 165 1 = mi 2 3 := by
      rw [pz_gc_o (by decide)]
      exact t3
    have f5 : (pz_gc mi k x2 x3) 165 5 = mi 6 6 := by
      rw [pz_gc_o (by decide)]
      exact u3
    generalize hm : (pz_gc mi k x2 x3) = m1 at f0 f1 f5
    refine pz_g148_411 ⟨by omega, by omega, fun h1 => ⟨by omega, by omega, by omega, by omega, ?_⟩, fun h1 => ⟨by omega, by omega, by omega, by omega, ?_⟩⟩
    · rw [f0] at h1
      have ef : f = 0 := by omega
      subst ef
      rw [f0, e2, e3]
      refine pz_m109 (d := 28) (e := e) hk (by rw [f5]; exact he) (by omega) (by omega) (fun _ => ?_) (fun x hx hx0 => absurd (hx.trans e0) hx0)
      refine pz_t443 hb1 ?_ (fun _ => ?_) (IH Ω _ _ _ _ _ (pz_LI_B2 ?_) (by omega) (by omega))
      · simp [pz_gm1, pz_up]
      · rw [f5, pz_up_at]
      · subst hm
        exact pz_LI_gn hI (by omega) (.inr ⟨by omega, by omega, by omega, by omega, by omega⟩)
    · rw [f0] at h1
      have ef : f = 1 := by omega
      subst ef
      rw [f0, e2, e3]
      refine pz_m109 (d := 28) (e := e) hk (by rw [f5]; exact he) (by omega) (by omega) (fun _ => ?_) (fun x hx hx0 => absurd (hx.trans e0) hx0)
      refine pz_t443 hb1 ?_ (fun _ => ?_) (IH Ω _ _ _ _ _ (pz_LI_B2 ?_) (by omega) (by omega))
      · simp [pz_gm1, pz_up]
      · rw [f5, pz_up_at]
      · subst hm
        exact pz_LI_gn hI (by omega) (.inr ⟨by omega, by omega, by omega, by omega, by omega⟩)
  · refine pz_g148_411 ⟨by omega, by omega, fun h1 => ⟨by omega, by omega, by omega, by omega, ?_⟩, fun h1 => ⟨by omega, by omega, by omega, by omega, ?_⟩⟩
    · have ef : f = 0 := by omega
      subst ef
      rw [e2, e3]
      refine pz_m109 (d := 28) (e := e) hk (by rw [u3]; exact he) (by omega) (by omega) (fun e0 => absurd (hx.trans e0) hx0) (fun y hy _ => ?_)
      exact pz_t443 hb1 (by rw [pz_up_at]; exact hy.trans hx.symm) (fun h => absurd h hx0) (IH Ω _ _ _ _ _ (pz_LI_B2 (pz_LI_w0 pz_w0_1 hI)) (Nat.le_refl _) (Nat.le_refl _))
    · have ef : f = 1 := by omega
      subst ef
      rw [e2, e3]
      refine pz_m109 (d := 28) (e := e) hk (by rw [u3]; exact he) (by omega) (by omega) (fun e0 => absurd (hx.trans e0) hx0) (fun y hy _ => ?_)
      exact pz_t443 hb1 (by rw [pz_up_at]; exact hy.trans hx.symm) (fun h => absurd h hx0) (IH Ω _ _ _ _ _ (pz_LI_B2 (pz_LI_w0 pz_w0_1 hI)) (Nat.le_refl _) (Nat.le_refl _))
theorem pz_zc5 (hI : pz_LI xs B Ω mi ml mr) (hb : 0 ≤ a4 ∧ a4 + 5 ≤ (n0 : Int) ∧ n0 ≤ 2560) (IH : pz_IH n0 c s xs B a4 Q) : pz_Rn 29 21 (0, [], [(0, .inr (.inr (some 1))), (1, .inl (mi 0 ((a4 + 1).toNat))), (2, .inl (mi 0 ((a4 + 2).toNat))), (3, .inl (mi 0 ((a4 + 3).toNat))), (4, .inl (mi 0 ((a4 + 4).toNat))), (5, .inr (.inr (some 195)))], pz_hp n0 mi ml mr c s, true) (pz_K 30 148 502 [] [(0, .inr (.inr (some 0))), (1, .inr (.inr (some 1))), (2, .inr (.inr (some 165))), (3, .inr (.inr (some 195))), (4, .inl a4)] Q false) := by
  have hI' := hI
  obtain ⟨⟨t1, t2, t3, -⟩, ⟨u1, u2, u3, -⟩, -, ⟨-, qc1, qc2, -⟩, ⟨-, qm1, qm2, -⟩, -⟩ := hI'
  generalize e1 : mi 0 ((a4 + 1).toNat) = x1
  generalize e2 : mi 0 ((a4 + 2).toNat) = x2
  generalize e3 : mi 0 ((a4 + 3).toNat) = x3
  generalize e4 : mi 0 ((a4 + 4).toNat) = x4
  have hb1 : 0 ≤ a4 ∧ a4 ≤ 2560 := by omega
  obtain ⟨e, he⟩ := pz_3 (0 ≤ x1 ∧ x1 < 4 ∧ 0 ≤ x2 ∧ x2 < mi 2 3 ∧ 0 ≤ x3 ∧ x3 < mi 2 3 ∧ 0 ≤ x4 ∧ x4 < mi 2 3) (mi 6 6)
  refine pz_c21 (d := 25) he u1 (fun e0 => ?_) (fun x hx hx0 => ?_)
  · change pz_K 30 148 502 [] _ Q false (.inl (some (.inl 0))) (pz_hp n0 (pz_gk mi x1 x2 x3 x4) (pz_up ml 195 0 ((Int32.ofInt (mi 6 6)).toInt64)) mr c s)
    have f0 : (pz_gk mi x1 x2 x3 x4) 0 = mi 0 := pz_gk_o (by decide)
    have f1 : (pz_gk mi x1 x2 x3 x4) 165 1 = mi 2 3 := by
      rw [pz_gk_o (by decide)]
      exact t3
    have f5 : (pz_gk mi x1 x2 x3 x4) 165 5 = mi 6 6 := by
      rw [pz_gk_o (by decide)]
      exact u3
    generalize hm : (pz_gk mi x1 x2 x3 x4) = m1 at f0 f1 f5
    refine pz_g148_505 ⟨by omega, by omega, by omega, by omega, by omega, by omega, by omega, by omega, ?_⟩
    rw [f0, e1, e2, e3, e4]
    refine pz_m110 (d := 28) (e := e) (by rw [f1, f5]; exact he) (by omega) (by omega) (fun _ => ?_) (fun x hx hx0 => absurd (hx.trans e0) hx0)
    refine pz_t535 hb1 ?_ (fun _ => ?_) (IH Ω _ _ _ _ _ (pz_LI_B2 ?_) (by omega) (by omega))
    · simp [pz_gk2, pz_gm1, pz_up]
    · rw [f5, pz_up_at]
    · subst hm
      exact pz_LI_ck hI (by omega) ⟨by omega, by omega, ⟨by omega, by omega⟩, ⟨by omega, by omega⟩, ⟨by omega, by omega⟩⟩
  · refine pz_g148_505 ⟨by omega, by omega, by omega, by omega, by omega, by omega, by omega, by omega, ?_⟩
    rw [e1, e2, e3, e4]
    refine pz_m110 (d := 28) (e := e) (by rw [t3, u3]; exact he) (by omega) (by omega) (fun e0 => absurd (hx.trans e0) hx0) (fun y hy _ => ?_)
    exact pz_t535 hb1 (by rw [pz_up_at]; exact hy.trans hx.symm) (fun h => absurd h hx0) (IH Ω _ _ _ _ _ (pz_LI_B2 (pz_LI_w0 pz_w0_1 hI)) (Nat.le_refl _) (Nat.le_refl _))
theorem pz_zc6 (hI : pz_LI xs B Ω mi ml mr) (hb : 0 ≤ a4 ∧ a4 + 5 ≤ (n0 : Int) ∧ n0 ≤ 2560) (IH : pz_IH n0 c s xs B a4 Q) : pz_Rn 29 23 (0, [], [(0, .inr (.inr (some 1))), (1, .inl (mi 0 ((a4 + 1).toNat))), (2, .inl (mi 0 ((a4 + 2).toNat)))], pz_hp n0 mi ml mr c s, true) (pz_K 30 148 581 [] [(0, .inr (.inr (some 0))), (1, .inr (.inr (some 1))), (2, .inr (.inr (some 165))), (3, .inr (.inr (some 195))), (4, .inl a4)] Q false) := by
  have hI' := hI
  obtain ⟨⟨t1, t2, t3, -⟩, ⟨u1, u2, u3, -⟩, -, ⟨-, qc1, qc2, -⟩, ⟨-, qm1, qm2, -⟩, -⟩ := hI'
  generalize e1 : mi 0 ((a4 + 1).toNat) = x1
  generalize e2 : mi 0 ((a4 + 2).toNat) = x2
  have hb1 : 0 ≤ a4 ∧ a4 ≤ 2560 := by omega
  obtain ⟨e, he⟩ := pz_2 (0 ≤ x1 ∧ x1 < 4 ∧ -1 ≤ x2 ∧ x2 < mi 6 6)
  refine pz_c23 (d := 26) he u1 (fun e0 => ?_) (fun x hx hx0 => ?_)
  · have f0 : pz_up mi 12 x1.toNat x2 0 = mi 0 := pz_upq (by decide)
    have f5 : pz_up mi 12 x1.toNat x2 165 5 = mi 6 6 := by
      rw [pz_upq (by decide)]
      exact u3
    refine pz_g148_584 ⟨by omega, by omega, by omega, by omega, ?_⟩
    rw [f0, e1, e2]
    refine pz_m111 (d := 28) (e := e) (by rw [f5]; exact he) (by omega) (fun _ => ?_) (fun x hx hx0 => absurd (hx.trans e0) hx0)
    refine pz_t602 hb1 ?_ (IH Ω _ _ _ _ _ (pz_LI_B2 ?_) (by omega) (by omega))
    · simp [pz_up]
    · refine pz_LI_def (n := x1.toNat) (v := x2) hI ⟨by omega, by omega⟩ ?_ ?_ ?_ ?_ ?_ (fun _ _ => rfl)
      · simp [pz_up]
      · simp [pz_up]
      · intro p hp t ht
        simp only [List.mem_cons, List.not_mem_nil, or_false] at hp
        rcases hp with rfl | rfl <;> simp [pz_up, ht]
      · intro p hp
        simp only [List.mem_cons, List.not_mem_nil, or_false, not_or] at hp
        rw [pz_upq hp.2.2, pz_upq hp.2.1, pz_upq hp.1]
      · intro j hj
        rw [pz_upq (by decide), pz_up_ot hj, pz_upq (by decide)]
  · refine pz_g148_584 ⟨by omega, by omega, by omega, by omega, ?_⟩
    rw [e1, e2]
    refine pz_m111 (d := 28) (e := e) (by rw [u3]; exact he) (by omega) (fun e0 => absurd (hx.trans e0) hx0) (fun y hy _ => ?_)
    exact pz_t602 hb1 (by rw [pz_up_at]; exact hy.trans hx.symm) (IH Ω _ _ _ _ _ (pz_LI_B2 (pz_LI_w0 pz_w0_1 hI)) (Nat.le_refl _) (Nat.le_refl _))
theorem pz_zc9 (hI : pz_LI xs B Ω mi ml mr) (hb : 0 ≤ a4 ∧ a4 + 5 ≤ (n0 : Int) ∧ n0 ≤ 2560) (IH : pz_IH n0 c s xs B a4 Q) : pz_Rn 29 142 (0, [], [(0, .inr (.inr (some 1)))], pz_hp n0 mi ml mr c s, true) (pz_K 30 148 737 [] [(0, .inr (.inr (some 0))), (1, .inr (.inr (some 1))), (2, .inr (.inr (some 165))), (3, .inr (.inr (some 195))), (4, .inl a4)] Q true) := by
  have hI' := hI
  obtain ⟨⟨t1, t2, t3, -⟩, ⟨u1, u2, u3, -⟩, -, ⟨qc0, qc1, qc2, -⟩, ⟨qm0, qm1, qm2, -⟩, -⟩ := hI'
  have hb1 : 0 ≤ a4 ∧ a4 ≤ 2560 := by omega
  refine pz_g142_0 (pz_g148_740 (pz_g143_0 (pz_g148_744 ⟨fun _ => ⟨by omega, ?_⟩, fun h => absurd ?_ h⟩)))
  · exact IH Ω _ _ _ _ _ (pz_LI_B2 (pz_LI_w0 pz_w0_1 hI)) (by omega) (by omega)
  · rw [qc0, qm0]
theorem pz_zc10 (hI : pz_LI xs B Ω mi ml mr) (hb : 0 ≤ a4 ∧ a4 + 5 ≤ (n0 : Int) ∧ n0 ≤ 2560) (IH : pz_IH n0 c s xs B a4 Q) : pz_Rn 29 84 (0, [], [(0, .inr (.inr (some 1))), (1, .inl (mi 0 ((a4 + 1).toNat))), (2, .inr (.inr (some 195)))], pz_hp n0 mi ml mr c s, true) (pz_K 30 148 757 [] [(0, .inr (.inr (some 0))), (1, .inr (.inr (some 1))), (2, .inr (.inr (some 165))), (3, .inr (.inr (some 195))), (4, .inl a4)] Q false) := by
  have hI' := hI
  obtain ⟨⟨t1, t2, t3, -⟩, ⟨u1, u2, u3, -⟩, -, ⟨-, qc1, qc2, -⟩, ⟨-, qm1, qm2, -⟩, -⟩ := hI'
  generalize e1 : mi 0 ((a4 + 1).toNat) = x1
  have hb1 : 0 ≤ a4 ∧ a4 ≤ 2560 := by omega
  obtain ⟨e, he⟩ := pz_2 (0 ≤ x1 ∧ x1 < 8)
  refine pz_c84 (d := 27) he (fun e0 => ?_) (fun x hx hx0 => ?_)
  · refine pz_g148_760 ⟨by omega, by omega, ?_⟩
    rw [e1]
    refine pz_m145 (d := 28) (e := e) he (fun _ => ?_) (fun x hx hx0 => absurd (hx.trans e0) hx0)
    refine pz_t772 hb1 pz_up_at (fun _ => ?_) (IH Ω _ _ _ _ _ (pz_LI_B2 (pz_LI_w0 pz_w0_0 hI)) (by omega) (by omega))
    rw [pz_up_at]
    rw [qc2 x1.toNat (by omega), qm2 x1.toNat (by omega)]
  · refine pz_g148_760 ⟨by omega, by omega, ?_⟩
    rw [e1]
    refine pz_m145 (d := 28) (e := e) he (fun e0 => absurd (hx.trans e0) hx0) (fun y hy _ => ?_)
    exact pz_t772 hb1 (by rw [pz_up_at]; exact hy.trans hx.symm) (fun h => absurd h hx0) (IH Ω _ _ _ _ _ (pz_LI_B2 (pz_LI_w0 pz_w0_1 hI)) (Nat.le_refl _) (Nat.le_refl _))
theorem pz_zc11 (hI : pz_LI xs B Ω mi ml mr) (hb : 0 ≤ a4 ∧ a4 + 5 ≤ (n0 : Int) ∧ n0 ≤ 2560) (IH : pz_IH n0 c s xs B a4 Q) : pz_Rn 29 88 (0, [], [(0, .inr (.inr (some 1))), (1, .inl (mi 0 ((a4 + 1).toNat))), (2, .inl (mi 0 ((a4 + 2).toNat))), (3, .inl (mi 0 ((a4 + 3).toNat))), (4, .inr (.inr (some 195)))], pz_hp n0 mi ml mr c s, true) (pz_K 30 148 825 [] [(0, .inr (.inr (some 0))), (1, .inr (.inr (some 1))), (2, .inr (.inr (some 165))), (3, .inr (.inr (some 195))), (4, .inl a4)] Q false) := by
  have hI' := hI
  obtain ⟨⟨t1, t2, t3, -⟩, ⟨u1, u2, u3, -⟩, -, ⟨-, qc1, qc2, -⟩, ⟨-, qm1, qm2, -⟩, -⟩ := hI'
  generalize e1 : mi 0 ((a4 + 1).toNat) = x1
  generalize e2 : mi 0 ((a4 + 2).toNat) = x2
  generalize e3 : mi 0 ((a4 + 3).toNat) = x3
  have hb1 : 0 ≤ a4 ∧ a4 ≤ 2560 := by omega
  obtain ⟨e, he⟩ := pz_2 (0 ≤ x1 ∧ x1 < (Ω.2.2.1.length : Int) ∧ 0 ≤ x2 ∧ x2 < 7)
  refine pz_c88 (d := 26) qc1 he (fun e0 => ?_) (fun x hx hx0 => ?_)
  · refine pz_g148_828 ⟨by omega, by omega, by omega, by omega, by omega, by omega, ?_⟩
    rw [e1, e2, e3]
    refine pz_m146 (d := 28) (e := e) qm1 he (fun _ => ?_) (fun x hx hx0 => absurd (hx.trans e0) hx0)
    refine pz_t852 hb1 pz_up_at (fun _ => ?_) (IH Ω _ _ _ _ _ (pz_LI_B2 (pz_LI_w0 pz_w0_0 hI)) (by omega) (by omega))
    rw [pz_up_at]
    
  · refine pz_g148_828 ⟨by omega, by omega, by omega, by omega, by omega, by omega, ?_⟩
    rw [e1, e2, e3]
    refine pz_m146 (d := 28) (e := e) qm1 he (fun e0 => absurd (hx.trans e0) hx0) (fun y hy _ => ?_)
    exact pz_t852 hb1 (by rw [pz_up_at]; exact hy.trans hx.symm) (fun h => absurd h hx0) (IH Ω _ _ _ _ _ (pz_LI_B2 (pz_LI_w0 pz_w0_1 hI)) (Nat.le_refl _) (Nat.le_refl _))
theorem pz_zc12 (hI : pz_LI xs B Ω mi ml mr) (hb : 0 ≤ a4 ∧ a4 + 5 ≤ (n0 : Int) ∧ n0 ≤ 2560) (IH : pz_IH n0 c s xs B a4 Q) : pz_Rn 29 90 (0, [], [(0, .inr (.inr (some 1))), (1, .inl (mi 0 ((a4 + 1).toNat))), (2, .inr (.inr (some 195)))], pz_hp n0 mi ml mr c s, true) (pz_K 30 148 893 [] [(0, .inr (.inr (some 0))), (1, .inr (.inr (some 1))), (2, .inr (.inr (some 165))), (3, .inr (.inr (some 195))), (4, .inl a4)] Q false) := by
  have hI' := hI
  obtain ⟨⟨t1, t2, t3, -⟩, ⟨u1, u2, u3, -⟩, -, ⟨-, qc1, qc2, -⟩, ⟨-, qm1, qm2, -⟩, -⟩ := hI'
  generalize e1 : mi 0 ((a4 + 1).toNat) = x1
  have hb1 : 0 ≤ a4 ∧ a4 ≤ 2560 := by omega
  obtain ⟨e, he⟩ := pz_2 (0 ≤ x1 ∧ x1 < (Ω.2.2.1.length : Int))
  refine pz_c90 (d := 26) qc1 he (fun e0 => ?_) (fun x hx hx0 => ?_)
  · refine pz_g148_896 ⟨by omega, by omega, ?_⟩
    rw [e1]
    refine pz_m147 (d := 28) (e := e) qm1 he (fun _ => ?_) (fun x hx hx0 => absurd (hx.trans e0) hx0)
    refine pz_t908 hb1 pz_up_at (fun _ => ?_) (IH Ω _ _ _ _ _ (pz_LI_B2 (pz_LI_w0 pz_w0_0 hI)) (by omega) (by omega))
    rw [pz_up_at]
    have hlt : x1.toNat < Ω.2.2.1.length := by omega
    have hx : Ω.2.2.1[x1.toNat]? = some Ω.2.2.1[x1.toNat] := List.getElem?_eq_getElem hlt
    rw [(qc1.2.2 _ _ hx).1, (qm1.2.2 _ _ hx).1]
  · refine pz_g148_896 ⟨by omega, by omega, ?_⟩
    rw [e1]
    refine pz_m147 (d := 28) (e := e) qm1 he (fun e0 => absurd (hx.trans e0) hx0) (fun y hy _ => ?_)
    exact pz_t908 hb1 (by rw [pz_up_at]; exact hy.trans hx.symm) (fun h => absurd h hx0) (IH Ω _ _ _ _ _ (pz_LI_B2 (pz_LI_w0 pz_w0_1 hI)) (Nat.le_refl _) (Nat.le_refl _))
end pzX6
