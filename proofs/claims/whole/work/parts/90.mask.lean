/-! ask, the reference; the law's case of ask. -/
section pzX9
variable {d n0 : Nat} {mi mi' : Nat → Nat → Int} {ml ml' : Nat → Nat → Int64} {mr mr' : Nat → Nat → Option Nat} {c s : Nat} {Q : pz_O → pz_H → Prop} {a1 : Int}
theorem pz_kL27 : ∀ (n i : Nat) (mi : Nat → Nat → Int), i + n = 64 → (∀ j : Nat, j < i → mi 176 j = (j : Int) + 1) → (∀ mi', (∀ j : Nat, j < 64 → mi' 176 j = (j : Int) + 1) → (∀ p, p ≠ 176 → mi' p = mi p) → pz_Rn d 112 (0, [], [(0, .inr (.inr (some 165))), (1, .inl 0)], pz_hp n0 (pz_up mi' 165 12 0) ml mr c s, true) (pz_K (d + 1) 113 56 [.inr (.inr (some 165))] [(0, .inr (.inr (some 165))), (1, .inl a1)] Q true)) → pz_Rn (d + 1) 113 (27, [], [(0, .inr (.inr (some 165))), (1, .inl a1), (2, .inl (i : Int))], pz_hp n0 mi ml mr c s, true) Q := by
  intro n
  induction n with
  | zero =>
    intro i mi hi h K
    exact pz_g113_27 ⟨fun _ => K mi (fun j hj => h j (by omega)) (fun _ _ => rfl), fun h2 => absurd h2 (by omega)⟩
  | succ n ih =>
    intro i mi hi h K
    refine pz_g113_27 ⟨fun h2 => absurd h2 (by omega), fun _ => ⟨by omega, by omega, by omega, ?_⟩⟩
    have et : ((i : Int)).toNat = i := by omega
    rw [et]
    refine ih (i + 1) (pz_up mi 176 i ((i : Int) + 1)) (by omega) (fun j hj => ?_) (fun mi' k1 k2 => K mi' k1 (fun p hp => (k2 p hp).trans (pz_upq hp)))
    by_cases e : j = i
    · subst e
      exact pz_up_at
    · rw [pz_up_ot e]
      exact h j (by omega)
theorem pz_kL84 : ∀ (n i : Nat) (mi : Nat → Nat → Int), i + n = 240 → mi 165 13 = 0 → (∀ j : Nat, j < i → mi 182 j = 0) → (∀ mi', (∀ j : Nat, j < 240 → mi' 182 j = 0) → (∀ p, p ≠ 182 → mi' p = mi p) → pz_Rn (d + 1) 113 (155, [], [(0, .inr (.inr (some 165))), (2, .inl 0)], pz_hp n0 (pz_up (pz_up (pz_up (pz_up mi' 165 14 1) 165 28 1) 165 29 0) 165 24 0) (pz_up (pz_up ml 180 0 (Int64.ofNat 0)) 181 0 (Int64.ofNat 0)) mr c s, true) Q) → pz_Rn (d + 1) 113 (84, [], [(0, .inr (.inr (some 165))), (2, .inl (i : Int))], pz_hp n0 mi ml mr c s, true) Q := by
  intro n
  induction n with
  | zero =>
    intro i mi hi h13 h K
    refine pz_g113_84 ⟨fun _ => ⟨by omega, by omega, ?_⟩, fun h2 => absurd h2 (by omega)⟩
    rw [h13]
    exact K mi (fun j hj => h j (by omega)) (fun _ _ => rfl)
  | succ n ih =>
    intro i mi hi h13 h K
    refine pz_g113_84 ⟨fun h2 => absurd h2 (by omega), fun _ => ⟨by omega, by omega, by omega, by omega, ?_⟩⟩
    have et : (240 * mi 165 13 + (i : Int)).toNat = i := by omega
    rw [et]
    refine ih (i + 1) (pz_up mi 182 i 0) (by omega) (by rw [pz_upq (by decide)]; exact h13) (fun j hj => ?_) (fun mi' k1 k2 => K mi' k1 (fun p hp => (k2 p hp).trans (pz_upq hp)))
    by_cases e : j = i
    · subst e
      exact pz_up_at
    · rw [pz_up_ot e]
      exact h j (by omega)
theorem pz_kL155 : ∀ (n i : Nat) (mi : Nat → Nat → Int), i + n = 8 → (∀ j : Nat, j < i → mi 189 j = 0) → (∀ mi', (∀ j : Nat, j < 8 → mi' 189 j = 0) → (∀ p, p ≠ 189 → mi' p = mi p) → Q (.inl none) (pz_hp n0 (pz_up (pz_up mi' 189 1 1) 189 4 1) ml mr c s)) → pz_Rn (d + 1) 113 (155, [], [(0, .inr (.inr (some 165))), (2, .inl (i : Int))], pz_hp n0 mi ml mr c s, true) Q := by
  intro n
  induction n with
  | zero =>
    intro i mi hi h K
    exact pz_g113_155 ⟨fun _ => K mi (fun j hj => h j (by omega)) (fun _ _ => rfl), fun h2 => absurd h2 (by omega)⟩
  | succ n ih =>
    intro i mi hi h K
    refine pz_g113_155 ⟨fun h2 => absurd h2 (by omega), fun _ => ⟨by omega, by omega, ?_⟩⟩
    have et : ((i : Int)).toNat = i := by omega
    rw [et]
    refine ih (i + 1) (pz_up mi 189 i 0) (by omega) (fun j hj => ?_) (fun mi' k1 k2 => K mi' k1 (fun p hp => (k2 p hp).trans (pz_upq hp)))
    by_cases e : j = i
    · subst e
      exact pz_up_at
    · rw [pz_up_ot e]
      exact h j (by omega)
set_option maxHeartbeats 1000000 in
theorem pz_askM {g : Nat} (h1 : pz_tm mi) (h2 : pz_gl mi) (h3 : pz_re4 mi) (K : ∀ mi' ml', pz_mg (pz_up mi 165 0 0) ml mi' ml' → pz_tm mi' → pz_gl mi' → pz_re4 mi' → pz_QM mi' ml' (pz_Wa g) → Q (.inl none) (pz_hp n0 mi' ml' mr c s)) : pz_Rn (d + 1) 113 (27, [], [(0, .inr (.inr (some 165))), (1, .inl (g : Int)), (2, .inl 0)], pz_hp n0 (pz_up mi 165 0 0) ml mr c s, true) Q := by
  refine pz_kL27 64 0 _ (by decide) (fun j hj => absurd hj (Nat.not_lt_zero _)) (fun m1 f1 o1 => ?_)
  refine pz_Rn_c (Nat.le_refl _) (pz_createC (n := 0) pz_up_at (by decide)) ?_
  refine pz_g113_59 ⟨by decide, by decide, ?_⟩
  generalize hm2 : pz_up (pz_up (pz_up (pz_up (pz_up (pz_up m1 165 12 0) 165 12 (pz_up m1 165 12 0 176 0)) 175 0 0) 165 13 ((0 : Nat) : Int)) 178 (((0 : Nat) : Int).toNat) (g : Int)) 179 (((0 : Nat) : Int).toNat) 0 = m2
  have e176 : pz_up m1 165 12 0 176 0 = 1 := by
    rw [pz_upq (by decide), f1 0 (by decide)]
    rfl
  rw [e176] at hm2
  have o2 : ∀ p, p ∉ [165, 175, 178, 179] → m2 p = m1 p := by
    intro p hp
    simp only [List.mem_cons, List.not_mem_nil, or_false, not_or] at hp
    rw [← hm2, pz_upq hp.2.2.2, pz_upq hp.2.2.1, pz_upq hp.1, pz_upq hp.2.1, pz_upq hp.1, pz_upq hp.1]
  have j2 : ∀ j, j ≠ 12 → j ≠ 13 → m2 165 j = m1 165 j := by
    intro j j1 j2
    rw [← hm2, pz_upq (by decide), pz_upq (by decide), pz_up_ot j2, pz_upq (by decide), pz_up_ot j1, pz_up_ot j1]
  have v2 : m2 165 12 = 1 ∧ m2 165 13 = 0 ∧ m2 175 0 = 0 ∧ m2 178 0 = (g : Int) ∧ m2 179 0 = 0 := by
    rw [← hm2]
    simp [pz_up]
  refine pz_kL84 240 0 m2 (by decide) v2.2.1 (fun j hj => absurd hj (Nat.not_lt_zero _)) (fun m3 f3 o3 => ?_)
  generalize hm4 : pz_up (pz_up (pz_up (pz_up m3 165 14 1) 165 28 1) 165 29 0) 165 24 0 = m4
  have o4 : ∀ p, p ≠ 165 → m4 p = m3 p := by
    intro p hp
    rw [← hm4, pz_upq hp, pz_upq hp, pz_upq hp, pz_upq hp]
  have j4 : ∀ j, j ≠ 14 → j ≠ 28 → j ≠ 29 → j ≠ 24 → m4 165 j = m3 165 j := by
    intro j j1 j2 j3 j5
    rw [← hm4, pz_up_ot j5, pz_up_ot j3, pz_up_ot j2, pz_up_ot j1]
  have v4 : m4 165 14 = 1 ∧ m4 165 28 = 1 ∧ m4 165 29 = 0 ∧ m4 165 24 = 0 := by
    rw [← hm4]
    simp [pz_up]
  refine pz_kL155 8 0 m4 (by decide) (fun j hj => absurd hj (Nat.not_lt_zero _)) (fun m5 f5 o5 => ?_)
  generalize hm6 : pz_up (pz_up m5 189 1 1) 189 4 1 = m6
  have o6 : ∀ p, p ≠ 189 → m6 p = m5 p := by
    intro p hp
    rw [← hm6, pz_upq hp, pz_upq hp]
  have v6 : ∀ j, j < 8 → m6 189 j = pz_cn0 j := by
    intro j hj
    rw [← hm6]
    have hj : j = 0 ∨ j = 1 ∨ j = 2 ∨ j = 3 ∨ j = 4 ∨ j = 5 ∨ j = 6 ∨ j = 7 := by omega
    rcases hj with rfl | rfl | rfl | rfl | rfl | rfl | rfl | rfl <;> simp [pz_up, pz_cn0, f5]
  have o46 : ∀ p, p ≠ 165 → p ≠ 189 → m6 p = m3 p := fun p p1 p2 => (o6 p p2).trans ((o5 p p2).trans (o4 p p1))
  have o36 : ∀ p, p ∉ [165, 175, 178, 179, 182, 189] → m6 p = m1 p := by
    intro p hp
    simp only [List.mem_cons, List.not_mem_nil, or_false, not_or] at hp
    rw [o46 p hp.1 hp.2.2.2.2.2, o3 p hp.2.2.2.2.1, o2 p (by simp; omega)]
  have e165 : m6 165 = m4 165 := (o6 165 (by decide)).trans (o5 165 (by decide))
  have j6 : ∀ j, j ∉ [12, 13, 14, 24, 28, 29] → m6 165 j = pz_up mi 165 0 0 165 j := by
    intro j hj
    simp only [List.mem_cons, List.not_mem_nil, or_false, not_or] at hj
    rw [e165, j4 j hj.2.2.1 hj.2.2.2.2.1 hj.2.2.2.2.2 hj.2.2.2.1, o3 165 (by decide), j2 j hj.1 hj.2.1, o1 165 (by decide)]
  have mg : pz_mg (pz_up mi 165 0 0) ml m6 (pz_up (pz_up ml 180 0 (Int64.ofNat 0)) 181 0 (Int64.ofNat 0)) := by
    refine ⟨fun p hp => ?_, ⟨j6 0 (by decide), j6 1 (by decide), j6 5 (by decide)⟩, fun p p1 p2 => ?_⟩
    · rw [o36 p (by simp; omega), o1 p (by omega)]
    · rw [pz_upq p2, pz_upq p1]
  have te0 : pz_te mi (pz_up mi 165 0 0) := ⟨pz_upq (by decide), pz_upq (by decide), pz_upq (by decide), pz_upq (by decide), pz_upq (by decide), pz_upq (by decide), pz_upq (by decide), pz_up_ot (by decide)⟩
  have k1 : pz_tm m6 := pz_tm_te (pz_mg_te mg) (pz_tm_te te0 h1)
  have k2 : pz_gl m6 := by
    refine pz_mg_gl mg ?_
    unfold pz_gl pz_gl1 pz_isT
    rw [pz_upq (show 2 ≠ 165 by decide), pz_upq (show 6 ≠ 165 by decide), pz_upq (show 7 ≠ 165 by decide), pz_upq (show 8 ≠ 165 by decide), pz_upq (show 9 ≠ 165 by decide), pz_upq (show 10 ≠ 165 by decide), pz_upq (show 11 ≠ 165 by decide), pz_up_ot (show 5 ≠ 0 by decide), pz_upq (show 169 ≠ 165 by decide), pz_upq (show 170 ≠ 165 by decide), pz_upq (show 171 ≠ 165 by decide), pz_upq (show 172 ≠ 165 by decide), pz_upq (show 173 ≠ 165 by decide)]
    exact h2
  have k3 : pz_re4 m6 := by
    refine pz_mg_re mg ?_
    unfold pz_re4
    rw [pz_upq (show 6 ≠ 165 by decide), pz_upq (show 12 ≠ 165 by decide), pz_upq (show 174 ≠ 165 by decide)]
    exact h3
  refine K m6 _ mg k1 k2 k3 ?_
  have e176b : ∀ j : Nat, j < 64 → m6 176 j = (j : Int) + 1 := by
    intro j hj
    rw [o36 176 (by decide)]
    exact f1 j hj
  have e12 : m6 165 12 = 1 := by
    rw [e165, j4 12 (by decide) (by decide) (by decide) (by decide), o3 165 (by decide)]
    exact v2.1
  have e13 : m6 165 13 = 0 := by
    rw [e165, j4 13 (by decide) (by decide) (by decide) (by decide), o3 165 (by decide)]
    exact v2.2.1
  refine ⟨?_, ⟨?_, by show (0 : Nat) ≤ 20; decide, fun a x h => (nomatch h)⟩, v6, rfl, ⟨k1, k2, k3, ?_, by show (1 : Nat) ≤ 40; decide, by show 1 ≤ (1 : Nat); decide, ?_, by show (0 : Nat) ≤ 1000; decide, by show (0 : Nat) ≤ 120; decide, ?_, fun i hi => absurd hi (Nat.not_lt_zero _)⟩, ?_, 0, [0], [], 1, e13, ⟨by decide, e12, fun j _ hj => e176b j hj, List.Perm.refl _⟩, rfl, ?_, ?_, ?_, ?_, ?_, ?_⟩
  · rw [e165]
    exact v4.1
  · exact v6 0 (by decide)
  · rw [e165]
    exact v4.2.1
  · rw [e165]
    exact v4.2.2.1
  · rw [e165]
    exact v4.2.2.2
  · rw [e165]
    exact v4.1
  · rw [o46 175 (by decide) (by decide), o3 175 (by decide)]
    exact v2.2.2.1
  · rw [o46 178 (by decide) (by decide), o3 178 (by decide)]
    exact v2.2.2.2.1
  · rw [o46 179 (by decide) (by decide), o3 179 (by decide)]
    exact v2.2.2.2.2
  · intro v
    refine ⟨fun hv => ?_, fun _ => rfl⟩
    show pz_rwf m6 0 v = 0
    unfold pz_rwf
    rw [if_pos hv, o46 182 (by decide) (by decide)]
    exact f3 _ (by omega)
  · rw [pz_upq (by decide)]
    exact pz_up_at
  · exact pz_up_at
theorem pz_zc7 {xs : Nat → Int} {B a4 : Int} {Ω : pz_QS} (hI : pz_LI xs B Ω mi ml mr) (hb : 0 ≤ a4 ∧ a4 + 5 ≤ (n0 : Int) ∧ n0 ≤ 2560) (IH : pz_IH n0 c s xs B a4 Q) : pz_Rn 29 38 (0, [], [(0, .inr (.inr (some 1))), (1, .inl (mi 0 ((a4 + 1).toNat)))], pz_hp n0 mi ml mr c s, true) (pz_K 30 148 623 [] [(0, .inr (.inr (some 0))), (1, .inr (.inr (some 1))), (2, .inr (.inr (some 165))), (3, .inr (.inr (some 195))), (4, .inl a4)] Q false) := by
  have hI' := hI
  obtain ⟨h1, h2, h3, h4, h5, h6, h7, h8⟩ := hI'
  generalize e1 : mi 0 ((a4 + 1).toNat) = x1
  have hb1 : 0 ≤ a4 ∧ a4 ≤ 2560 := by omega
  have u3 : mi 165 5 = mi 6 6 := h2.2.2.1
  refine pz_g38_0 (pz_g37_0 (pz_is15 (fun h => ?_) (fun h => ?_)))
  · refine pz_g37_8 ⟨fun h9 => absurd rfl h9, fun _ => pz_kx1 rfl (pz_g148_626 ⟨by omega, by omega, ?_⟩)⟩
    rw [e1]
    refine pz_g113_0 (pz_is108 (fun _ => ?_) (fun h9 => absurd h9 (by omega)))
    refine pz_g113_6 ⟨fun _ => ?_, fun h9 => absurd rfl h9⟩
    exact pz_t638 hb1 pz_up_at (IH Ω _ _ _ _ _ (pz_LI_B2 (pz_LI_w0 pz_w0_1 hI)) (Nat.le_refl _) (Nat.le_refl _))
  · refine pz_g37_8 ⟨fun _ => ?_, fun h9 => absurd h9 (by decide)⟩
    obtain ⟨g, hg⟩ : ∃ g : Nat, x1 = (g : Int) := ⟨x1.toNat, by omega⟩
    subst hg
    refine pz_Rn_e (d' := 27) (by omega) (pz_askC (d := 24) h1 h2 h3) ?_
    rintro _ _ ⟨m1, l1, r1, ⟨rfl, rfl⟩, cf, hQC⟩
    refine pz_g37_19 (pz_g38_5 (pz_g148_626 ⟨by omega, by omega, ?_⟩))
    have f0 : m1 0 = mi 0 := cf.1 0 (by decide)
    rw [f0, e1]
    have te1 := pz_te_13 cf.1
    have k1 := pz_tm_te te1 h1
    have k2 := pz_gl_13 cf.1 h2
    have k3 := pz_re_13 cf.1 h3
    have f5 : m1 165 5 = mi 6 6 := by rw [cf.1 165 (by decide)]; exact u3
    refine pz_g113_0 (pz_is108 (fun h9 => absurd h9 (by omega)) (fun _ => ?_))
    refine pz_g113_6 ⟨fun h9 => absurd h9 (by decide), fun _ => ?_⟩
    refine pz_askM (d := 28) k1 k2 k3 (fun m2 l2 mg n1 n2 n3 hQM => ?_)
    have z0 : m2 165 0 = 0 := by rw [mg.2.1.1]; exact pz_up_at
    refine pz_t638 hb1 z0 (IH (pz_Wa g) _ _ _ _ _ ?_ (by omega) (by omega))
    have q3 : ∀ p, p < 165 → m2 p = m1 p := fun p hp => (mg.1 p (.inl hp)).trans (pz_upq (by omega))
    have te3 : pz_te m1 m2 := pz_te_trans ⟨pz_upq (by decide), pz_upq (by decide), pz_upq (by decide), pz_upq (by decide), pz_upq (by decide), pz_upq (by decide), pz_upq (by decide), pz_up_ot (by decide)⟩ (pz_mg_te mg)
    refine ⟨n1, n2, n3, pz_QC_lo te3 n1 n2 n3 q3 (fun p hp => mg.2.2 p (by omega) (by omega)) hQC, hQM, ⟨⟨?_, Nat.zero_lt_one, fun a => .inr rfl, fun j _ hj => ?_⟩, ?_⟩, ⟨Int.le_refl _, ?_⟩, ?_⟩
    · rw [q3 6 (by decide), cf.1 6 (by decide)]
      exact h.2
    · have hz : (List.range 128).all (fun j => pz_hs (Int64.ofNat 0) (Int64.ofNat 0) j == false) = true := by decide +kernel
      exact beq_iff_eq.mp (List.all_eq_true.mp hz j (List.mem_range.mpr hj))
    · show (1 : Nat) ≤ 60
      decide
    · show (0 : Int) ≤ B + 200
      omega
    · rw [q3 0 (by decide), f0]
      exact h8
end pzX9
