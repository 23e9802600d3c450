/-! ask, the class. -/
def pz_cn0 : Nat → Int := fun j => if j = 1 ∨ j = 4 then 1 else 0
/-- the question behind ask -/
def pz_Wa (g : Nat) : pz_QS := (1, some (1, 0, 0, fun _ => (0, 0), .leaf (g, 0, fun _ => none, Int64.ofNat 0, Int64.ofNat 0)), [], pz_cn0)
section pzX8
variable {d n0 : Nat} {mi mi' : Nat → Nat → Int} {ml ml' : Nat → Nat → Int64} {mr mr' : Nat → Nat → Option Nat} {c s : Nat}
theorem pz_clrE {S : List Nat} (hc : pz_cC mi mr (mr 14 3) S) (hp : S.Perm pz_NDL) (h16 : ∀ j, 0 < j → j < 4 → mi 16 j = 0) (h0 : mi 16 0 = 64) : pz_iv mi mr [] S := by
  have hk : ∀ p ∈ pz_NDL, mi p 0 = 0 := fun p h => (pz_cC_k hc p (hp.mem_iff.mpr h)).2
  refine ⟨⟨?_, ?_⟩, hc, hp⟩
  · intro k hk4
    by_cases e : k = 0
    · subst e
      have e1 : pz_ckd mi 0 pz_NDL = pz_NDL.length := by
        unfold pz_ckd
        refine List.countP_eq_length.mpr (fun p h => ?_)
        rw [hk p h]
        rfl
      rw [e1, pz_NDLl, h0]
      rfl
    · have e1 : pz_ckd mi k pz_NDL = 0 := by
        unfold pz_ckd
        refine List.countP_eq_zero.mpr (fun p h => ?_)
        rw [hk p h, decide_eq_true_eq]
        omega
      rw [e1, h16 k (by omega) hk4]
      rfl
  · intro p h
    rw [hk p (pz_NDLm.mpr h)]
    decide
theorem pz_clrL : ∀ (n i : Nat) (mi : Nat → Nat → Int) (mr : Nat → Nat → Option Nat) (S : List Nat), i + n = 64 → pz_cC mi mr (mr 14 3) S → S.Perm ((List.range i).map (fun k => 17 + 2 * k)) → (∀ j, 0 < j → j < 4 → mi 16 j = 0) → pz_Rn (d + 1) 26 (20, [], [(0, .inr (.inr (some 14))), (1, .inl (i : Int))], pz_hp n0 mi ml mr c s, true) (fun o h => ∃ mi' mr', (o = .inl none ∧ h = pz_hp n0 mi' ml mr' c s) ∧ (∃ S', pz_iv mi' mr' [] S') ∧ ∀ p, ¬ pz_nd p → p ≠ 16 → mi' p = mi p) := by
  intro n
  induction n with
  | zero =>
    intro i mi mr S hi hc hp h16
    have ei : i = 64 := by omega
    subst ei
    refine pz_g26_20 ⟨fun _ => ⟨pz_up mi 16 0 64, mr, ⟨rfl, rfl⟩, ⟨S, ?_⟩, fun p _ h => pz_upq h⟩, fun h => absurd h (by decide)⟩
    refine pz_clrE (pz_cC_fr (fun p h => ⟨?_, rfl⟩) hc) hp (fun j h1 h2 => ?_) pz_up_at
    · have := (pz_cC_k hc p h).1
      unfold pz_nd at this
      rw [pz_upq (by omega)]
    · rw [pz_up_ot (by omega)]
      exact h16 j h1 h2
  | succ n ih =>
    intro i mi mr S hi hc hp h16
    refine pz_g26_20 ⟨fun h => absurd h (by omega), fun _ => ⟨by omega, by omega, by omega, by omega, ?_⟩⟩
    have et : ((i : Int)).toNat = i := by omega
    have e1 : (i : Int) + 1 = ((i + 1 : Nat) : Int) := by omega
    rw [et, e1]
    have hin : ∀ q ∈ S, q < 17 + 2 * i ∧ 17 ≤ q := by
      intro q hq
      have := hp.mem_iff.mp hq
      rw [List.mem_map] at this
      obtain ⟨k, hk, rfl⟩ := this
      rw [List.mem_range] at hk
      omega
    have nd : pz_nd (17 + 2 * i) := ⟨by omega, by omega, by omega⟩
    refine pz_Rn.mono (Nat.le_refl _) (ih (i + 1) (pz_up mi (17 + 2 * i) 0 0) _ ((17 + 2 * i) :: S) (by omega) ⟨pz_up_at, nd, pz_up_at, ?_⟩ ?_ ?_) ?_
    · rw [pz_upq (by omega), pz_up_at]
      refine pz_cC_fr (fun q hq => ?_) hc
      have := hin q hq
      rw [pz_upq (by omega), pz_upq (by omega), pz_upq (by omega)]
      exact ⟨rfl, rfl⟩
    · rw [List.range_succ, List.map_append]
      exact (hp.cons _).trans (List.perm_append_singleton _ _).symm
    · intro j h1 h2
      rw [pz_upq (by omega)]
      exact h16 j h1 h2
    · rintro _ _ ⟨mi', mr', h1, h2, h3⟩
      exact ⟨mi', mr', h1, h2, fun p hp1 hp2 => (h3 p hp1 hp2).trans (pz_upq (fun e => hp1 (e ▸ nd)))⟩
/-- Tree.clear -/
theorem pz_clrC : pz_Rn (d + 1) 26 (0, [], [(0, .inr (.inr (some 14)))], pz_hp n0 mi ml mr c s, true) (fun o h => ∃ mi' mr', (o = .inl none ∧ h = pz_hp n0 mi' ml mr' c s) ∧ (∃ S', pz_iv mi' mr' [] S') ∧ ∀ p, ¬ pz_nd p → p ≠ 16 → mi' p = mi p) := by
  refine pz_g26_0 (pz_g25x16_0 (pz_g25x16_5 ⟨fun h => absurd h (by decide), fun _ => ⟨by decide, by decide, pz_g25x16_5 ⟨fun h => absurd h (by decide), fun _ => ⟨by decide, by decide, pz_g25x16_5 ⟨fun h => absurd h (by decide), fun _ => ⟨by decide, by decide, pz_g25x16_5 ⟨fun h => absurd h (by decide), fun _ => ⟨by decide, by decide, pz_g25x16_5 ⟨fun _ => ?_, fun h => absurd h (by decide)⟩⟩⟩⟩⟩⟩⟩⟩⟩))
  refine pz_g26_18 ?_
  refine pz_Rn.mono (Nat.le_refl _) (pz_clrL 64 0 _ _ [] (by decide) (by show pz_up (pz_up mr 14 2 none) 14 3 none 14 3 = none; exact pz_up_at) (List.Perm.refl _) ?_) ?_
  · intro j h1 h2
    have hj : j = 1 ∨ j = 2 ∨ j = 3 := by omega
    rcases hj with rfl | rfl | rfl <;> simp [pz_up]
  · rintro _ _ ⟨mi', mr', h1, h2, h3⟩
    refine ⟨mi', mr', h1, h2, fun p hp1 hp2 => (h3 p hp1 hp2).trans ?_⟩
    rw [pz_upq hp2, pz_upq hp2, pz_upq hp2, pz_upq hp2]
set_option maxHeartbeats 1000000 in
/-- Question.start -/
theorem pz_askC {g : Nat} (h1 : pz_tm mi) (h2 : pz_gl mi) (h3 : pz_re4 mi) : pz_Rn (d + 3) 36 (0, [], [(0, .inr (.inr (some 13))), (1, .inl (g : Int))], pz_hp n0 mi ml mr c s, true) (fun o h => ∃ mi' ml' mr', (o = .inl none ∧ h = pz_hp n0 mi' ml' mr' c s) ∧ pz_cf mi ml mi' ml' ∧ pz_QC mi' ml' mr' (pz_Wa g)) := by
  refine pz_g36_0 (pz_g24_0 (pz_g36_7 (pz_Rn_e (d' := d + 1) (by omega) pz_clrC ?_)))
  rintro _ _ ⟨m1, r1, ⟨rfl, rfl⟩, ⟨S, hiv⟩, f1⟩
  have nd : ∀ p, pz_nd p → 17 ≤ p ∧ p ≤ 143 := fun p h => ⟨h.1, h.2.1⟩
  have g1 : ∀ p, (p < 16 ∨ 143 < p) → p ≠ 150 → m1 p = mi p := fun p hp h150 => (f1 p (fun h => by have := nd p h; omega) (by omega)).trans (by rw [pz_upq h150, pz_upq h150])
  have g150 : m1 150 5 = 0 := by
    rw [f1 150 (fun h => by have := nd _ h; omega) (by decide), pz_up_ot (by decide), pz_up_at]
  refine pz_g36_14 (pz_g27_0 (.inl rfl) (pz_g36_21 ?_))
  generalize hm2 : pz_up (pz_up (pz_up (pz_up (pz_up m1 149 0 (-1)) 159 8 0) 13 11 0) 13 12 1) 13 14 0 = m2
  generalize hl2 : pz_up (pz_up ml 149 1 (Int64.ofNat 0)) 149 2 (Int64.ofNat 0) = l2
  have a1 : ∀ p, p ≠ 149 → p ≠ 159 → p ≠ 13 → m2 p = m1 p := by
    intro p p1 p2 p3
    rw [← hm2, pz_upq p3, pz_upq p3, pz_upq p3, pz_upq p2, pz_upq p1]
  have a2 : m2 149 0 = -1 ∧ m2 159 8 = 0 ∧ m2 13 11 = 0 ∧ m2 13 12 = 1 := by
    rw [← hm2]
    simp [pz_up]
  have a3 : ∀ p, p ≠ 149 → l2 p = ml p := by
    intro p p1
    rw [← hl2, pz_upq p1, pz_upq p1]
  have a4 : l2 149 1 = Int64.ofNat 0 ∧ l2 149 2 = Int64.ofNat 0 := by
    rw [← hl2]
    exact ⟨by rw [pz_up_ot (by decide), pz_up_at], pz_up_at⟩
  have hiv2 : pz_iv m2 r1 [] S := pz_iv_nodes hiv (a1 16 (by decide) (by decide) (by decide)) (fun p hp => a1 p (by have := nd p hp; omega) (by have := nd p hp; omega) (by have := nd p hp; omega))
  cases S with
  | nil =>
    have := hiv2.2.2.length_eq
    rw [pz_NDLl] at this
    cases this
  | cons q S =>
    refine pz_Rn_e (d' := d + 2) (by omega) (pz_newC (d := d) hiv2 (.inl rfl) (by have := (pz_iv_nd hiv2).2.2 q (List.mem_cons_self ..); have := nd q this; omega)) ?_
    rintro _ _ ⟨m3, l3, r3, ⟨rfl, rfl⟩, hq, hiv3, ⟨b1, b2, b3, b4, b5⟩, b13, c0, c3, c4, c5, c6, c7⟩
    refine pz_g36_61 (pz_g35_0 (pz_g36_81 ?_))
    generalize hm4 : pz_up (pz_up m3 13 13 1) 148 7 0 = m4
    have d1 : ∀ p, p ≠ 13 → p ≠ 148 → m4 p = m3 p := by
      intro p p1 p2
      rw [← hm4, pz_upq p2, pz_upq p1]
    have d2 : m4 13 13 = 1 ∧ m4 148 7 = 0 ∧ m4 13 11 = 0 ∧ m4 13 12 = 1 := by
      rw [← hm4]
      refine ⟨by rw [pz_upq (by decide), pz_up_at], pz_up_at, ?_, ?_⟩
      · rw [pz_upq (by decide), pz_up_ot (by decide), b13]
        exact a2.2.2.1
      · rw [pz_upq (by decide), pz_up_ot (by decide), b13]
        exact a2.2.2.2
    have hiv4 : pz_iv m4 (pz_up r3 14 2 (some q)) [q] S := pz_iv_fr hiv3 (d1 16 (by decide) (by decide)) (fun p hp => by rw [d1 p (by have := nd p hp; omega) (by have := nd p hp; omega)]) (pz_up_ot (by decide)) (fun p hp => by rw [pz_upq (by have := nd p ((pz_iv_nd hiv3).2.2 p hp); omega)])
    have hqq := nd q hq
    have t4 : pz_cT pz_PT m4 l3 (pz_up r3 14 2 (some q)) (.leaf (g, 0, fun _ => none, Int64.ofNat 0, Int64.ofNat 0)) q [q] := ⟨rfl, hq, by rw [d1 q (by omega) (by omega)]; exact c0, trivial⟩
    obtain ⟨n1, n2, n3, -⟩ := pz_iv_n hiv4 t4
    have e150 : m4 150 5 = 0 := by
      rw [d1 150 (by decide) (by decide), b2 150 (by decide) (by decide), a1 150 (by decide) (by decide) (by decide)]
      exact g150
    have e159 : m4 159 8 = 0 := by
      rw [d1 159 (by decide) (by decide), b2 159 (by decide) (by decide)]
      exact a2.2.1
    generalize hm5 : pz_up (pz_up (pz_up (pz_up (pz_up (pz_up (pz_up m4 148 0 (m4 159 8)) 148 1 (m4 16 1)) 148 2 (m4 16 2)) 148 3 (m4 16 3)) 148 4 (m4 13 12)) 148 5 (m4 150 5)) 148 6 (m4 13 11) = m5
    have o5 : ∀ p, p ≠ 148 → m5 p = m4 p := by
      intro p p1
      rw [← hm5, pz_upq p1, pz_upq p1, pz_upq p1, pz_upq p1, pz_upq p1, pz_upq p1, pz_upq p1]
    have c148 : ∀ j, j < 8 → m5 148 j = pz_cn0 j := by
      intro j hj
      rw [← hm5, e159, n1, n2, n3, d2.2.2.2, e150, d2.2.2.1]
      have hj : j = 0 ∨ j = 1 ∨ j = 2 ∨ j = 3 ∨ j = 4 ∨ j = 5 ∨ j = 6 ∨ j = 7 := by omega
      rcases hj with rfl | rfl | rfl | rfl | rfl | rfl | rfl | rfl <;> simp [pz_up, pz_cn0, pz_nT, d2.2.1]
    have cf5 : pz_cf mi ml m5 l3 := by
      refine ⟨fun p hp => ?_, fun p hp => ?_⟩
      · rw [o5 p (by omega), d1 p (by omega) (by omega), b2 p (by omega) (by omega), a1 p (by omega) (by omega) (by omega), g1 p (by omega) (by omega)]
      · rw [(b3 p (by omega)).1, a3 p (by omega)]
    refine ⟨m5, l3, _, ⟨rfl, rfl⟩, cf5, ?_⟩
    have te := pz_te_13 cf5.1
    have hiv5 : pz_iv m5 (pz_up r3 14 2 (some q)) [q] S := pz_iv_nodes hiv4 (o5 16 (by decide)) (fun p hp => o5 p (by have := nd p hp; omega))
    refine ⟨?_, ⟨?_, by show (0 : Nat) ≤ 20; decide, fun a x h => (nomatch h)⟩, c148, rfl, ⟨pz_tm_te te h1, pz_gl_13 cf5.1 h2, pz_re_13 cf5.1 h3, ?_, by show (1 : Nat) ≤ 40; decide, by show 1 ≤ (1 : Nat); decide, ?_, by show (0 : Nat) ≤ 1000; decide, by show (0 : Nat) ≤ 120; decide, ?_, fun i hi => absurd hi (Nat.not_lt_zero _)⟩, ?_, q, [q], S, pz_up_at, hiv5, rfl, hq, ?_, ?_, ?_, ⟨[], ?_, List.Pairwise.nil, fun e he => (nomatch he), fun _ => rfl⟩, ?_, ?_⟩
    · rw [o5 13 (by decide)]
      exact d2.1
    · rw [o5 159 (by decide)]
      exact e159
    · rw [o5 13 (by decide)]
      exact d2.2.2.2
    · rw [o5 150 (by decide)]
      exact e150
    · rw [o5 13 (by decide)]
      exact d2.2.2.1
    · rw [o5 13 (by decide)]
      exact d2.1
    · rw [o5 q (by omega), d1 q (by omega) (by omega)]
      exact c0
    · rw [o5 q (by omega), d1 q (by omega) (by omega)]
      exact c3
    · rw [o5 q (by omega), d1 q (by omega) (by omega)]
      exact c4
    · show m5 (q + 1) 0 = -1
      rw [o5 (q + 1) (by omega), d1 (q + 1) (by omega) (by omega), c5]
      exact a2.1
    · rw [c6]
      exact a4.1
    · rw [c7]
      exact a4.2
end pzX8
