/-! The class's stepTask: CALL; all kinds. -/
section pzF
variable {d n0 : Nat} {mi mi' : Nat → Nat → Int} {ml ml' : Nat → Nat → Int64} {mr mr' : Nat → Nat → Option Nat} {c s : Nat} {σ : Nat → Option Nat} {V S W : List Nat} {F nb N : Nat} {k : Nat → Nat × Nat}
theorem pz_cS_hi {G b : Int} {v : Nat} (h : pz_cS mi G b σ) (hv : 6 * G ≤ (v : Int)) : σ v = none := by
  obtain ⟨l, g1, g2, g3, g4⟩ := h
  rw [g4 v]
  cases e : pz_lk l v with
  | none => rfl
  | some x =>
    have := (g3 _ (pz_lk_mem e)).1
    exact absurd this (by show ¬ ((v : Int) < 6 * G); omega)
theorem pz_b1_te {v x : Int} (h0 : 0 ≤ mi 150 5) : pz_te mi (pz_b1 mi v x) := pz_te_fr (pz_b1_f v x h0).1 (by decide) (by decide)
set_option maxHeartbeats 2000000 in
theorem pz_task_call (hW : pz_cW mi F nb N k) {q : Nat} {x : pz_tk} (hiv : pz_iv mi mr (q :: V) S) (hS : 2 ≤ S.length) (hc : pz_cT (pz_P1 mi (F : Int)) mi ml mr (.leaf x) q [q]) (hx : (x.1 : Int) < mi 6 6) (hxf : x.2.1 < F) (hk : mi 7 x.1 = 4) (hl : mi 155 5 = 0) (h14 : mi 13 14 = 0) :
    pz_Rn (d + 5) 64 (0, [], [(0, .inr (.inr (some 13))), (1, .inr (.inr (some q)))], pz_hp n0 mi ml mr c s, true) (pz_oT n0 c s V nb mi ml mr (if mi 12 (mi 11 x.1).toNat < 0 then some (F, (none, none), nb, N, k)
      else if F = 40 ∨ 1000 < nb + 3 then none
      else some (F + 1, (some (.leaf ((mi 12 (mi 11 x.1).toNat).toNat, F, pz_ub (pz_ub (pz_ub x.2.2.1 (6 * F) (pz_cs mi ((x.2.1 : Int) * 41 + mi 8 x.1))) (6 * F + 1) (pz_cs mi ((x.2.1 : Int) * 41 + mi 9 x.1))) (6 * F + 2) (pz_cs mi ((x.2.1 : Int) * 41 + mi 10 x.1)), x.2.2.2)), none), nb + 3, N, k))) := by
  have hc0 := hc
  obtain ⟨-, hq, c1, hP⟩ := hc
  have hP' := hP
  obtain ⟨c3, c4, c5, c6, c7⟩ := hP'
  obtain ⟨w1, w2, w3, w4, w5, w6, w7, w8, w9, w10⟩ := hW
  obtain ⟨g40, gl⟩ := pz_gl_f w2 hx
  have t2 := w1.2.1
  have eg : (mi q 3).toNat = x.1 := by rw [c3]; omega
  have hgl : pz_isT mi (mi 8 x.1) ∧ pz_isT mi (mi 9 x.1) ∧ pz_isT mi (mi 10 x.1) ∧ 0 ≤ mi 11 x.1 ∧ mi 11 x.1 < 4 := by
    obtain ⟨-, gl⟩ := gl
    rcases gl with gl | gl | gl
    · omega
    · omega
    · exact ⟨gl.2.1, gl.2.2.1, gl.2.2.2.1, gl.2.2.2.2.1, gl.2.2.2.2.2.1⟩
  obtain ⟨h8, h9, h10, h11, h11b⟩ := hgl
  have hqn := hq
  obtain ⟨n1, n2, n3⟩ := hqn
  obtain ⟨v1, v2, v3, v4⟩ := pz_V_ne hiv
  refine pz_g64_0 ⟨q, rfl, hq, by rw [c3]; omega, fun x3 e3 => ?_⟩
  rw [eg, hk] at e3
  refine ⟨fun h => absurd h (by omega), fun h => absurd h (by omega), fun h => absurd h (by omega), fun h => absurd h (by omega), fun _ => ?_, fun h => absurd h (by omega)⟩
  have vs8 : pz_vs mi (F : Int) ((x.2.1 : Int) * 41 + mi 8 x.1) := pz_vs_it w1 (by omega) h8
  have vs9 : pz_vs mi (F : Int) ((x.2.1 : Int) * 41 + mi 9 x.1) := pz_vs_it w1 (by omega) h9
  have vs10 : pz_vs mi (F : Int) ((x.2.1 : Int) * 41 + mi 10 x.1) := pz_vs_it w1 (by omega) h10
  obtain ⟨h8a, h8b⟩ := h8
  obtain ⟨h9a, h9b⟩ := h9
  obtain ⟨h10a, h10b⟩ := h10
  have st : pz_Rn (d + 4) 46 (0, [], [(0, .inr (.inr (some 13))), (1, .inr (.inr (some q)))], pz_hp n0 mi ml mr c s, true) (pz_oT n0 c s V nb mi ml mr (if mi 12 (mi 11 x.1).toNat < 0 then some (F, (none, none), nb, N, k)
      else if F = 40 ∨ 1000 < nb + 3 then none
      else some (F + 1, (some (.leaf ((mi 12 (mi 11 x.1).toNat).toNat, F, pz_ub (pz_ub (pz_ub x.2.2.1 (6 * F) (pz_cs mi ((x.2.1 : Int) * 41 + mi 8 x.1))) (6 * F + 1) (pz_cs mi ((x.2.1 : Int) * 41 + mi 9 x.1))) (6 * F + 2) (pz_cs mi ((x.2.1 : Int) * 41 + mi 10 x.1)), x.2.2.2)), none), nb + 3, N, k))) := by
    refine pz_g46_0 ⟨q, rfl, hq, fun x2 e2 => ?_⟩
    rw [c3] at e2
    have ex2 : x2.toNat = x.1 := by omega
    rw [ex2]
    refine ⟨by omega, ⟨h11, h11b⟩, fun x5 e5 => ⟨fun h0 => ⟨fun h => absurd h (by omega), fun _ => ⟨by omega, fun x9 e9 => ⟨by omega, ?_⟩⟩⟩, fun h0 => ?_⟩⟩
    · rw [if_neg (by omega)]
      have em : pz_up mi 150 6 (mi (q + 1) 0) q 4 = (x.2.1 : Int) := by rw [pz_upq (by omega)]; exact c4
      rw [em]
      refine pz_Rn_c (d' := 0) (by omega) (pz_spot (by omega) (by omega)) ?_
      have f1 : pz_fr [150, 151, 152, 153, 154] [] mi (pz_up mi 150 6 (mi (q + 1) 0)) := pz_fr_up (by decide) (by decide)
      have d1 : pz_up mi 150 6 (mi (q + 1) 0) 150 5 = (nb : Int) := by rw [pz_up_ot (by decide)]; exact w7
      have s1 : pz_up mi 150 6 (mi (q + 1) 0) 150 6 = mi (q + 1) 0 := pz_up_at
      have lo1 : pz_lo nb mi (pz_up mi 150 6 (mi (q + 1) 0)) := pz_lo_eq (pz_upq (by decide)) (pz_upq (by decide)) (pz_upq (by decide))
      generalize pz_up mi 150 6 (mi (q + 1) 0) = m1 at *
      refine pz_g46_91 ?_
      refine pz_Rn_c (d' := 0) (by omega) (pz_bindA (by omega) (by omega)) ?_
      obtain ⟨f2, b2, b2', lo2⟩ := pz_b1_f (mi := m1) x9 ((x.2.1 : Int) * 41 + mi 8 x.1) (by omega)
      have te1 := pz_te_fr f1 (by decide) (by decide)
      have te2 := pz_te_fr f2 (by decide) (by decide)
      have ef2 : ∀ p, p ∉ [150, 151, 152, 153, 154] → p ≠ 165 → pz_b1 m1 x9 ((x.2.1 : Int) * 41 + mi 8 x.1) p = mi p := fun p h1 h2 => (f2.1 p h1 h2).trans (f1.1 p h1 h2)
      have nin : ∀ p, (p < 150 ∨ 154 < p) → p ∉ [150, 151, 152, 153, 154] := by
        intro p hp
        simp only [List.mem_cons, List.not_mem_nil, or_false]
        omega
      refine pz_g46_94 ⟨by omega, q, rfl, hq, by omega, ?_⟩
      rw [ex2, ef2 q (nin q (by omega)) (by omega), ef2 9 (by decide) (by decide), c4]
      refine pz_Rn_c (d' := 0) (by omega) (pz_spot (by omega) (by omega)) ?_
      refine pz_g46_118 ?_
      refine pz_Rn_c (d' := 0) (by omega) (pz_bindA (by omega) (by omega)) ?_
      generalize hm2 : pz_b1 m1 x9 ((x.2.1 : Int) * 41 + mi 8 x.1) = m2 at *
      obtain ⟨f3, b3, b3', lo3⟩ := pz_b1_f (mi := m2) (x9 + 1) ((x.2.1 : Int) * 41 + mi 9 x.1) (by omega)
      have te3 := pz_te_fr f3 (by decide) (by decide)
      have ef3 : ∀ p, p ∉ [150, 151, 152, 153, 154] → p ≠ 165 → pz_b1 m2 (x9 + 1) ((x.2.1 : Int) * 41 + mi 9 x.1) p = mi p := fun p h1 h2 => (f3.1 p h1 h2).trans (ef2 p h1 h2)
      refine pz_g46_121 ⟨by omega, q, rfl, hq, by omega, ?_⟩
      rw [ex2, ef3 q (nin q (by omega)) (by omega), ef3 10 (by decide) (by decide), c4]
      refine pz_Rn_c (d' := 0) (by omega) (pz_spot (by omega) (by omega)) ?_
      refine pz_g46_145 ?_
      refine pz_Rn_c (d' := 0) (by omega) (pz_bindA (by omega) (by omega)) ?_
      generalize hm3 : pz_b1 m2 (x9 + 1) ((x.2.1 : Int) * 41 + mi 9 x.1) = m3 at *
      obtain ⟨f4, b4, b4', lo4⟩ := pz_b1_f (mi := m3) (x9 + 2) ((x.2.1 : Int) * 41 + mi 10 x.1) (by omega)
      have te4 := pz_te_fr f4 (by decide) (by decide)
      have ef4 : ∀ p, p ∉ [150, 151, 152, 153, 154] → p ≠ 165 → pz_b1 m3 (x9 + 2) ((x.2.1 : Int) * 41 + mi 10 x.1) p = mi p := fun p h1 h2 => (f4.1 p h1 h2).trans (ef3 p h1 h2)
      have F4 : pz_fr [150, 151, 152, 153, 154] [] mi (pz_b1 m3 (x9 + 2) ((x.2.1 : Int) * 41 + mi 10 x.1)) := pz_fr_trans (pz_fr_trans (pz_fr_trans f1 f2) f3) f4
      have LO4 : pz_lo nb mi (pz_b1 m3 (x9 + 2) ((x.2.1 : Int) * 41 + mi 10 x.1)) := pz_lo_trans (pz_lo_trans (pz_lo_trans lo1 (lo2 nb (by omega))) (lo3 nb (by omega))) (lo4 nb (by omega))
      generalize hm4 : pz_b1 m3 (x9 + 2) ((x.2.1 : Int) * 41 + mi 10 x.1) = m4 at *
      refine pz_g46_148 ⟨q, rfl, hq, ?_⟩
      have e1312 : pz_up m4 (q + 1) 0 (m4 150 6) 13 12 = (F : Int) := by
        rw [pz_upq (by omega), ef4 13 (by decide) (by decide)]
        exact w4
      rw [e1312]
      refine pz_Rn_c (d' := 0) (v := none) (H := pz_hp n0 (pz_up (pz_up (pz_up m4 (q + 1) 0 (m4 150 6)) q 3 x5) q 4 (F : Int)) ml mr c s) (by omega) (pz_g32_0 hq ⟨rfl, rfl⟩) ?_
      have e1312b : pz_up (pz_up (pz_up m4 (q + 1) 0 (m4 150 6)) q 3 x5) q 4 (F : Int) 13 12 = (F : Int) := by
        rw [pz_upq (by omega), pz_upq (by omega)]
        exact e1312
      refine pz_g46_171 ⟨by rw [e1312b]; omega, ?_⟩
      rw [e1312b]
      -- what stands at the end
      have z1 : ∀ p, p ≠ 13 → p ≠ q → p ≠ q + 1 → pz_up (pz_up (pz_up (pz_up m4 (q + 1) 0 (m4 150 6)) q 3 x5) q 4 (F : Int)) 13 12 ((F : Int) + 1) p = m4 p := by
        intro p h1 h2 h3
        rw [pz_upq h1, pz_upq h2, pz_upq h2, pz_upq h3]
      have z13 : ∀ j, j ≠ 12 → pz_up (pz_up (pz_up (pz_up m4 (q + 1) 0 (m4 150 6)) q 3 x5) q 4 (F : Int)) 13 12 ((F : Int) + 1) 13 j = m4 13 j := by
        intro j hj
        rw [pz_up_ot hj, pz_upq (by omega), pz_upq (by omega), pz_upq (by omega)]
      have z12 : pz_up (pz_up (pz_up (pz_up m4 (q + 1) 0 (m4 150 6)) q 3 x5) q 4 (F : Int)) 13 12 ((F : Int) + 1) 13 12 = (F : Int) + 1 := pz_up_at
      have zq0 : pz_up (pz_up (pz_up (pz_up m4 (q + 1) 0 (m4 150 6)) q 3 x5) q 4 (F : Int)) 13 12 ((F : Int) + 1) q 0 = 1 := by
        rw [pz_upq (by omega), pz_up_ot (by decide), pz_up_ot (by decide), pz_upq (by omega), ef4 q (nin q (by omega)) (by omega)]
        exact c1
      have zq3 : pz_up (pz_up (pz_up (pz_up m4 (q + 1) 0 (m4 150 6)) q 3 x5) q 4 (F : Int)) 13 12 ((F : Int) + 1) q 3 = x5 := by
        rw [pz_upq (by omega), pz_up_ot (by decide), pz_up_at]
      have zq4 : pz_up (pz_up (pz_up (pz_up m4 (q + 1) 0 (m4 150 6)) q 3 x5) q 4 (F : Int)) 13 12 ((F : Int) + 1) q 4 = (F : Int) := by
        rw [pz_upq (by omega), pz_up_at]
      have zs : pz_up (pz_up (pz_up (pz_up m4 (q + 1) 0 (m4 150 6)) q 3 x5) q 4 (F : Int)) 13 12 ((F : Int) + 1) (q + 1) 0 = m4 150 6 := by
        rw [pz_upq (by omega), pz_upq (by omega), pz_upq (by omega), pz_up_at]
      generalize pz_up (pz_up (pz_up (pz_up m4 (q + 1) 0 (m4 150 6)) q 3 x5) q 4 (F : Int)) 13 12 ((F : Int) + 1) = m7 at *
      have m16 : m7 16 = mi 16 := by rw [z1 16 (by decide) (by omega) (by omega), ef4 16 (by decide) (by decide)]
      have mk : ∀ p, pz_nd p → m7 p 0 = mi p 0 := by
        intro p hp
        obtain ⟨p1, p2, p3⟩ := hp
        by_cases e : p = q
        · rw [e, zq0, c1]
        · rw [z1 p (by omega) e (by omega), ef4 p (nin p (by omega)) (by omega)]
      have iv7 : pz_iv m7 mr ([q] ++ V) S := pz_iv_fr hiv m16 mk rfl (fun _ _ => rfl)
      have FS : pz_fs V mi ml mr m7 ml mr := by
        refine ⟨fun v hv => ?_, fun p hp h13 => ?_, fun p hp => ⟨fun _ => rfl, fun _ => rfl⟩, fun j j1 j2 j3 => ?_, fun j _ => rfl⟩
        · obtain ⟨⟨p1, p2, p3⟩, hn⟩ := v1 v hv
          have hvq : v ≠ q := fun e => hn (by rw [e]; exact List.mem_cons_self)
          rw [z1 v (by omega) hvq (by omega), z1 (v + 1) (by omega) (by omega) (by omega), ef4 v (nin v (by omega)) (by omega), ef4 (v + 1) (nin (v + 1) (by omega)) (by omega)]
          exact ⟨rfl, rfl, rfl, rfl⟩
        · by_cases e : p = 165
          · rw [e, z1 165 (by decide) (by omega) (by omega)]
            funext j
            exact F4.2 j List.not_mem_nil
          · rw [z1 p h13 (by omega) (by omega), ef4 p (nin p (by omega)) e]
        · rw [z13 j j2, ef4 13 (by decide) (by decide)]
      have LO7 : pz_lo nb mi m7 := pz_lo_trans LO4 (pz_lo_eq (z1 151 (by decide) (by omega) (by omega)) (z1 152 (by decide) (by omega) (by omega)) (z1 153 (by decide) (by omega) (by omega)))
      have m150 : m7 150 = m4 150 := z1 150 (by decide) (by omega) (by omega)
      have m14 : m7 13 14 = 0 := by rw [z13 14 (by decide), ef4 13 (by decide) (by decide)]; exact h14
      by_cases hov : F = 40 ∨ 1000 < nb + 3
      · rw [if_pos hov]
        refine ⟨m7, ml, mr, [q], S, some q, (some (.leaf x), none), ⟨rfl, rfl⟩, iv7, fun h => absurd rfl h, FS, LO7, by rw [m150]; omega, ?_, ⟨q, rfl, rfl, hq, zq0, trivial⟩, m14⟩
        show 500 < m7 155 5 ∨ 1000 < m7 150 5 ∨ 40 < m7 13 12 ∨ 120 < m7 13 11
        rw [z12, m150]
        rcases hov with hov | hov
        · right
          right
          left
          omega
        · right
          left
          by_cases u1 : m2 150 5 ≤ 1000
          · have u2 := b3' u1
            by_cases u3 : m3 150 5 ≤ 1000
            · have := b4' u3
              have := b2' (by omega)
              omega
            · omega
          · omega
      · rw [if_neg hov]
        have hF40 : F < 40 := by omega
        have hnb3 : nb + 3 ≤ 1000 := by omega
        have u2 := b2' (by omega)
        have u3 := b3' (by omega)
        have u4 := b4' (by omega)
        have ev0 : x9 = ((6 * F : Nat) : Int) := by omega
        have ev1 : x9 + 1 = ((6 * F + 1 : Nat) : Int) := by omega
        have ev2 : x9 + 2 = ((6 * F + 2 : Nat) : Int) := by omega
        have em2 : m2 = pz_bh m1 ((6 * F : Nat) : Int) ((x.2.1 : Int) * 41 + mi 8 x.1) := by
          rw [← hm2, ← ev0]
          unfold pz_b1
          rw [if_pos (by omega)]
        have em3 : m3 = pz_bh m2 ((6 * F + 1 : Nat) : Int) ((x.2.1 : Int) * 41 + mi 9 x.1) := by
          rw [← hm3, ← ev1]
          unfold pz_b1
          rw [if_pos (by omega)]
        have em4 : m4 = pz_bh m3 ((6 * F + 2 : Nat) : Int) ((x.2.1 : Int) * 41 + mi 10 x.1) := by
          rw [← hm4, ← ev2]
          unfold pz_b1
          rw [if_pos (by omega)]
        have hσ : ∀ v : Nat, 6 * F ≤ v → x.2.2.1 v = none := fun v hv => pz_cS_hi c5 (by omega)
        have cs1 : pz_cS m1 ((F + 1 : Nat) : Int) (m1 150 6) x.2.2.1 := by
          rw [s1]
          exact pz_cS_mono (by omega) (pz_cS_te te1 (by omega) (fun j hj => lo1 j (by omega)) c5)
        have cs2 := pz_cS_b cs1 (v := 6 * F) (x := (x.2.1 : Int) * 41 + mi 8 x.1) (by omega) (by omega) (hσ _ (Nat.le_refl _)) (by rw [pz_vs_te te1]; exact pz_vs_mono (by omega) vs8)
        rw [← em2, pz_cs_te te1] at cs2
        have te02 := pz_te_trans te1 te2
        have cs3 := pz_cS_b cs2 (v := 6 * F + 1) (x := (x.2.1 : Int) * 41 + mi 9 x.1) (by omega) (by omega) (by rw [pz_ub_ne (by omega)]; exact hσ _ (by omega)) (by rw [pz_vs_te te02]; exact pz_vs_mono (by omega) vs9)
        rw [← em3, pz_cs_te te02] at cs3
        have te03 := pz_te_trans te02 te3
        have cs4 := pz_cS_b cs3 (v := 6 * F + 2) (x := (x.2.1 : Int) * 41 + mi 10 x.1) (by omega) (by omega) (by rw [pz_ub_ne (by omega), pz_ub_ne (by omega)]; exact hσ _ (by omega)) (by rw [pz_vs_te te03]; exact pz_vs_mono (by omega) vs10)
        rw [← em4, pz_cs_te te03] at cs4
        have te7 : pz_te m4 m7 := ⟨z1 2 (by decide) (by omega) (by omega), z1 3 (by decide) (by omega) (by omega), z1 4 (by decide) (by omega) (by omega), z1 5 (by decide) (by omega) (by omega), z1 166 (by decide) (by omega) (by omega), z1 167 (by decide) (by omega) (by omega), z1 168 (by decide) (by omega) (by omega), by rw [z1 165 (by decide) (by omega) (by omega)]⟩
        have cs7 : pz_cS m7 ((F + 1 : Nat) : Int) (m4 150 6) _ := pz_cS_te te7 (by rw [m150]; exact Int.le_refl _) (fun j _ => ⟨by rw [z1 151 (by decide) (by omega) (by omega)], by rw [z1 152 (by decide) (by omega) (by omega)], by rw [z1 153 (by decide) (by omega) (by omega)]⟩) cs4
        have te07 := pz_te_trans (pz_te_trans te03 te4) te7
        refine ⟨m7, ml, mr, [q], S, some q, (_, none), ⟨rfl, rfl⟩, iv7, fun h => absurd rfl h, FS, LO7, by rw [m150]; omega, rfl, ?_, ?_, hnb3, w9, ?_, ?_, ⟨q, rfl, rfl, hq, zq0, ?_⟩, m14, trivial⟩
        · rw [z12]
          omega
        · rw [m150]
          omega
        · unfold pz_cn
          rw [z13 11 (by decide), ef4 13 (by decide) (by decide), z1 146 (by decide) (by omega) (by omega), z1 147 (by decide) (by omega) (by omega), ef4 146 (by decide) (by decide), ef4 147 (by decide) (by decide), pz_vs_te te07, pz_cs_te te07]
          exact pz_cn_mono (by omega) w10
        · rw [z1 155 (by decide) (by omega) (by omega), ef4 155 (by decide) (by decide), hl]
          decide
        · rw [zq3, zq4, zs]
          exact ⟨by show x5 = (((mi 12 (mi 11 x.1).toNat).toNat : Nat) : Int); omega, rfl, cs7, c6, c7⟩
    · rw [if_pos (by omega)]
      refine pz_Rn_c (d' := 1) (by omega) (pz_giveC (d := 0) v2 hiv.1) ?_
      refine pz_g46_35 ?_
      have G : pz_tf [q] mi ml mr (pz_tu mi q 0) ml (pz_up (pz_up (pz_up mr q 1 none) q 2 (mr 14 3)) 14 3 (some q)) := pz_tf_give v2 List.mem_cons_self
      have iv2 := (pz_iv_give (U' := V) hiv (List.Perm.refl _)).2
      have e13 : pz_tu mi q 0 13 = mi 13 := (pz_tu_f (mi := mi) (k := 0) v2).2.2 13 (by omega) (by decide)
      generalize pz_tu mi q 0 = m2 at *
      generalize pz_up (pz_up (pz_up mr q 1 none) q 2 (mr 14 3)) 14 3 (some q) = r2 at *
      exact ⟨m2, ml, r2, [], q :: S, none, (none, none), ⟨rfl, rfl⟩, iv2, fun h => absurd rfl h, pz_fs_tf v1 G, pz_lo_eq (G.2.1 151 (by decide) (by decide)) (G.2.1 152 (by decide) (by decide)) (G.2.1 153 (by decide) (by decide)), by rw [G.2.1 150 (by decide) (by decide), w7]; omega, rfl, by rw [e13]; exact w4, by rw [G.2.1 150 (by decide) (by decide)]; exact w7, w8, w9, pz_cn_tf G w10, by rw [G.2.1 155 (by decide) (by decide), hl]; decide, ⟨rfl, rfl⟩, by show m2 13 14 = 0; rw [e13]; exact h14, trivial⟩
  refine pz_Rn_e (Nat.le_refl _) st ?_
  rintro o h ⟨m, l, r, X, S', x', ra, ⟨rfl, rfl⟩, hh⟩
  exact pz_g64_65 ⟨m, l, r, X, S', x', ra, ⟨rfl, rfl⟩, hh⟩
/-- Question.stepTask -/
theorem pz_taskC (hW : pz_cW mi F nb N k) {q : Nat} {x : pz_tk} (hiv : pz_iv mi mr (q :: V) S) (hS : 2 ≤ S.length) (hc : pz_cT (pz_P1 mi (F : Int)) mi ml mr (.leaf x) q [q]) (hx : pz_vt1 mi F N x) (hl : mi 155 5 = 0) (h14 : mi 13 14 = 0) :
    pz_Rn (d + 5) 64 (0, [], [(0, .inr (.inr (some 13))), (1, .inr (.inr (some q)))], pz_hp n0 mi ml mr c s, true) (pz_oT n0 c s V nb mi ml mr (pz_ts mi F nb N k x)) := by
  obtain ⟨x1, x2, x3, x4⟩ := hx
  obtain ⟨g40, gl⟩ := pz_gl_f hW.2.1 x1
  have w5 := hW.2.2.2.2.1
  unfold pz_ts
  by_cases k0 : mi 7 x.1 = 0
  · rw [if_pos k0]
    have hc' := hc
    obtain ⟨-, hq, c1, c3, c4, c5, c6, c7⟩ := hc'
    have hT : pz_isT mi (mi 8 x.1) ∧ pz_isT mi (mi 9 x.1) := by
      obtain ⟨-, gl⟩ := gl
      rcases gl with gl | gl | gl
      · exact ⟨gl.2.1, gl.2.2.1⟩
      · omega
      · omega
    have sm := pz_st_same (d := d) (n0 := n0) (ml := ml) (mr := mr) (c := c) (s := s) (r := 500) (Q := pz_oT n0 c s V nb mi ml mr (pz_rt F (pz_sm mi x.2.2.1 k N (ml (q + 1) 1) (ml (q + 1) 2) nb 500 (pz_cs mi ((x.2.1 : Int) * 41 + mi 8 x.1), pz_cs mi ((x.2.1 : Int) * 41 + mi 9 x.1))))) hW.1 (F := (F : Int)) (by omega) hW.2.2.2.2.2.2.2.2.1 hq c3 g40 k0 c4 (by omega) rfl rfl hT.1 hT.2 c5 x3 (Nat.le_refl _) (by rw [hl]; decide) hW.2.2.2.2.2.2.1 hW.2.2.2.2.2.2.2.1 hW.2.2.2.2.2.2.2.2.2 (fun b mi' ml' ha => pz_tsk_give hW hiv hS ha)
    rw [c6, c7] at sm
    exact sm
  · rw [if_neg k0]
    by_cases k1 : mi 7 x.1 = 1
    · rw [if_pos k1]
      have hc' := hc
      obtain ⟨-, hq, c1, c3, c4, c5, c6, c7⟩ := hc'
      have hT : pz_isT mi (mi 8 x.1) ∧ pz_isT mi (mi 9 x.1) := by
        obtain ⟨-, gl⟩ := gl
        rcases gl with gl | gl | gl
        · exact ⟨gl.2.1, gl.2.2.1⟩
        · omega
        · omega
      have sm := pz_st_diff (d := d) (n0 := n0) (ml := ml) (mr := mr) (c := c) (s := s) (r := 500) (Q := pz_oT n0 c s V nb mi ml mr (pz_rt F (pz_df mi x.2.2.1 k N (ml (q + 1) 1) (ml (q + 1) 2) nb 500 (pz_cs mi ((x.2.1 : Int) * 41 + mi 8 x.1), pz_cs mi ((x.2.1 : Int) * 41 + mi 9 x.1))))) hW.1 (F := (F : Int)) (by omega) hW.2.2.2.2.2.2.2.2.1 hq c3 g40 k1 c4 (by omega) rfl rfl hT.1 hT.2 c5 x3 (Nat.le_refl _) (by rw [hl]; decide) hW.2.2.2.2.2.2.1 hW.2.2.2.2.2.2.2.1 hW.2.2.2.2.2.2.2.2.2 (fun b mi' ml' ha => pz_tsk_give hW hiv hS ha)
      rw [c6, c7] at sm
      exact sm
    · rw [if_neg k1]
      by_cases k2 : mi 7 x.1 = 2
      · rw [if_pos k2]
        exact pz_task_and hW hiv hS hc x1 x2 k2 hl h14
      · rw [if_neg k2]
        by_cases k3 : mi 7 x.1 = 3
        · rw [if_pos k3]
          exact pz_task_or hW hiv hS hc x1 k3 hl h14
        · rw [if_neg k3]
          exact pz_task_call hW hiv hS hc x1 x2 (by obtain ⟨-, gl⟩ := gl; rcases gl with gl | gl | gl <;> omega) hl h14
end pzF
