/-! The reference's stepTask: CALL; all kinds. -/
section pzK1
variable {d n0 : Nat} {mi mi' : Nat → Nat → Int} {ml ml' : Nat → Nat → Int64} {mr : Nat → Nat → Option Nat} {c s : Nat} {σ : Nat → Option Nat} {V A W : List Nat} {m F nb N : Nat} {k : Nat → Nat × Nat}
/-- a binding more in a row -/
theorem pz_mR_b {G : Int} {row row' : Nat → Int} {v : Nat} {z : Int} (h : pz_mR mi G row σ) (hv : v < 240) (hvG : (v : Int) < 6 * G) (hz : pz_vm mi G z) (h1 : row' v = z) (h2 : ∀ u, u ≠ v → row' u = row u) : pz_mR mi G row' (pz_ub σ v (pz_cm mi z)) := by
  intro u
  by_cases e : u = v
  · subst e
    rw [pz_ub_eq, h1]
    exact ⟨fun _ => ⟨hz, rfl⟩, fun h => absurd h (by omega)⟩
  · rw [pz_ub_ne e, h2 u e]
    exact h u
set_option maxHeartbeats 2000000 in
theorem pz_mtask_call (hW : pz_mW mi F nb N k) {n : Nat} {x : pz_tk} (hv : pz_mv mi (n :: V) A m) (hc : pz_mT (pz_P2 mi (F : Int)) mi ml (.leaf x) n [n]) (hx : (x.1 : Int) < mi 6 6) (hxf : x.2.1 < F) (hk : mi 7 x.1 = 4) (h32 : mi 165 32 = -1) (ho : mi 165 31 = 0) :
    pz_Rn (d + 8) 134 (0, [], [(0, .inr (.inr (some 165))), (1, .inl (n : Int))], pz_hp n0 mi ml mr c s, true) (pz_oM n0 mr c s V mi ml (if mi 12 (mi 11 x.1).toNat < 0 then some (F, (none, none), nb, N, k)
      else if F = 40 ∨ 1000 < nb + 3 then none
      else some (F + 1, (some (.leaf ((mi 12 (mi 11 x.1).toNat).toNat, F, pz_ub (pz_ub (pz_ub x.2.2.1 (6 * F) (pz_cs mi ((x.2.1 : Int) * 41 + mi 8 x.1))) (6 * F + 1) (pz_cs mi ((x.2.1 : Int) * 41 + mi 9 x.1))) (6 * F + 2) (pz_cs mi ((x.2.1 : Int) * 41 + mi 10 x.1)), x.2.2.2)), none), nb + 3, N, k))) := by
  obtain ⟨-, c1, c3, c4, c5, c6, c7⟩ := hc
  obtain ⟨w1, w2, w3, w4, w5, w6, w7, w8, w9, w10⟩ := hW
  obtain ⟨g40, gk, gl⟩ := pz_gl_f w2 hx
  have t2 := w1.2.1
  have hgl : pz_isT mi (mi 8 x.1) ∧ pz_isT mi (mi 9 x.1) ∧ pz_isT mi (mi 10 x.1) ∧ 0 ≤ mi 11 x.1 ∧ mi 11 x.1 < 4 ∧ mi 170 x.1 = mi 11 x.1 ∧ mi 171 x.1 = mi 8 x.1 ∧ mi 172 x.1 = mi 9 x.1 ∧ mi 173 x.1 = mi 10 x.1 := by
    rcases gl with gl | gl | gl
    · omega
    · omega
    · exact gl.2
  obtain ⟨h8, h9, h10, h11, h11b, e170, e171, e172, e173⟩ := hgl
  obtain ⟨n62, vne⟩ := pz_mV_ne hv
  have en : ((n : Int)).toNat = n := by omega
  have eg : ((x.1 : Int)).toNat = x.1 := by omega
  obtain ⟨q8, v8⟩ := pz_cm_it (f := x.2.1) w1 (F := (F : Int)) (by omega) h8 (by omega)
  obtain ⟨q9, v9⟩ := pz_cm_it (f := x.2.1) w1 (F := (F : Int)) (by omega) h9 (by omega)
  obtain ⟨q10, v10⟩ := pz_cm_it (f := x.2.1) w1 (F := (F : Int)) (by omega) h10 (by omega)
  obtain ⟨h8a, h8b⟩ := h8
  obtain ⟨h9a, h9b⟩ := h9
  obtain ⟨h10a, h10b⟩ := h10
  obtain ⟨r1, r2, r3⟩ := w3 (mi 11 x.1).toNat (by omega)
  refine pz_g134_0 ⟨by omega, fun x2 e2 => ?_⟩
  rw [en, c3] at e2
  subst e2
  refine ⟨by omega, fun x4 e4 => ?_⟩
  rw [eg, gk, hk] at e4
  subst e4
  refine ⟨fun h => absurd h (by decide), fun _ => ⟨fun _ => ⟨fun h => absurd rfl h, fun _ => ?_⟩, fun h => absurd h (by decide)⟩⟩
  have st : pz_Rn (d + 7) 132 (0, [], [(0, .inr (.inr (some 165))), (1, .inl (n : Int)), (2, .inl (x.1 : Int))], pz_hp n0 mi ml mr c s, true) (pz_oM n0 mr c s V mi ml (if mi 12 (mi 11 x.1).toNat < 0 then some (F, (none, none), nb, N, k)
      else if F = 40 ∨ 1000 < nb + 3 then none
      else some (F + 1, (some (.leaf ((mi 12 (mi 11 x.1).toNat).toNat, F, pz_ub (pz_ub (pz_ub x.2.2.1 (6 * F) (pz_cs mi ((x.2.1 : Int) * 41 + mi 8 x.1))) (6 * F + 1) (pz_cs mi ((x.2.1 : Int) * 41 + mi 9 x.1))) (6 * F + 2) (pz_cs mi ((x.2.1 : Int) * 41 + mi 10 x.1)), x.2.2.2)), none), nb + 3, N, k))) := by
    refine pz_g132_0 ?_
    rw [eg, e170]
    refine ⟨by omega, ⟨h11, h11b⟩, fun x3 e3 => ?_⟩
    rw [r1] at e3
    have over : F = 40 ∨ 1000 < nb + 3 → 0 ≤ x3 → pz_oM n0 mr c s V mi ml (if mi 12 (mi 11 x.1).toNat < 0 then some (F, (none, none), nb, N, k)
      else if F = 40 ∨ 1000 < nb + 3 then none
      else some (F + 1, (some (.leaf ((mi 12 (mi 11 x.1).toNat).toNat, F, pz_ub (pz_ub (pz_ub x.2.2.1 (6 * F) (pz_cs mi ((x.2.1 : Int) * 41 + mi 8 x.1))) (6 * F + 1) (pz_cs mi ((x.2.1 : Int) * 41 + mi 9 x.1))) (6 * F + 2) (pz_cs mi ((x.2.1 : Int) * 41 + mi 10 x.1)), x.2.2.2)), none), nb + 3, N, k)) (.inl (some (.inl (n : Int)))) (pz_hp n0 (pz_up mi 165 31 1) ml mr c s) := by
      intro hov h3
      rw [if_neg (by omega), if_pos hov]
      refine ⟨_, ml, [n], A, m, (n : Int), (some (.leaf x), none), ⟨rfl, rfl⟩, pz_mv_fr hv (pz_up_ot (by decide)) (fun _ _ _ => by rw [pz_upq (by decide)]), fun h => absurd rfl h, ⟨fun v _ => ⟨by rw [pz_upq (by decide)], by rw [pz_upq (by decide)], by rw [pz_upq (by decide)], by rw [pz_upq (by decide)], by rw [pz_upq (by decide)], pz_rwf_eq (pz_upq (by decide)) v, rfl, rfl⟩, fun p hp => pz_upq (by omega), fun j hj => pz_up_ot (fun e => hj (by rw [e]; decide)), fun _ _ _ => rfl⟩, pz_up_at, ⟨n, rfl, rfl, by rw [pz_upq (by decide)]; exact c1, trivial⟩, ?_⟩
      show _ = (-1 : Int)
      rw [pz_up_ot (by decide)]
      exact h32
    refine ⟨fun h3 => ⟨fun hf => over (.inl (by omega)) (by omega), fun hf => ⟨by omega, fun hb => ⟨by omega, fun x9 e9 => ?_⟩, fun hb => over (.inr (by omega)) (by omega)⟩⟩, fun h3 => ?_⟩
    · rw [if_neg (by omega), if_neg (by omega)]
      rw [en, c4] at e9
      subst e9
      have eF : (240 * (n : Int) + 6 * mi 165 28) = ((240 * n + 6 * F : Nat) : Int) := by omega
      -- the three bindings
      refine pz_g132_63 ⟨fun h => absurd h (by decide), fun _ => ⟨by omega, by omega, by omega, by omega, fun h => absurd rfl h, fun _ => ⟨by omega, ?_⟩⟩⟩
      rw [eg, e171]
      refine pz_Rn_c (d' := 0) (by omega) (pz_itemC (by omega) (by omega)) ?_
      refine pz_g132_129 ⟨by omega, by omega, ?_⟩
      have i0 : (240 * (n : Int) + 6 * mi 165 28 + 0).toNat = 240 * n + 6 * F := by omega
      rw [i0]
      have f1 : pz_fr [182] [] mi (pz_up mi 182 (240 * n + 6 * F) (1 + 64 * mi 8 x.1 + (x.2.1 : Int))) := pz_fr_up (by decide) (by decide)
      have g1 : ∀ u, u ≠ 240 * n + 6 * F → pz_up mi 182 (240 * n + 6 * F) (1 + 64 * mi 8 x.1 + (x.2.1 : Int)) 182 u = mi 182 u := fun u hu => pz_up_ot hu
      have g1' : pz_up mi 182 (240 * n + 6 * F) (1 + 64 * mi 8 x.1 + (x.2.1 : Int)) 182 (240 * n + 6 * F) = 1 + 64 * mi 8 x.1 + (x.2.1 : Int) := pz_up_at
      generalize pz_up mi 182 (240 * n + 6 * F) (1 + 64 * mi 8 x.1 + (x.2.1 : Int)) = m1 at *
      have k28 : m1 165 28 = (F : Int) := (f1.2 28 (by decide)).trans w4
      refine pz_g132_63 ⟨fun h => absurd h (by decide), fun _ => ⟨by omega, by omega, by omega, by omega, fun _ => ⟨fun h => absurd rfl h, fun _ => ⟨by omega, ?_⟩⟩, fun h => absurd h (by decide)⟩⟩
      rw [eg, f1.1 172 (by decide) (by decide), e172]
      refine pz_Rn_c (d' := 0) (by omega) (pz_itemC (by omega) (by omega)) ?_
      refine pz_g132_129 ⟨by omega, by omega, ?_⟩
      have i1 : (240 * (n : Int) + 6 * m1 165 28 + (0 + 1)).toNat = 240 * n + 6 * F + 1 := by omega
      rw [i1]
      have f2 : pz_fr [182] [] mi (pz_up m1 182 (240 * n + 6 * F + 1) (1 + 64 * mi 9 x.1 + (x.2.1 : Int))) := pz_fr_trans f1 (pz_fr_up (by decide) (by decide))
      have g2 : ∀ u, u ≠ 240 * n + 6 * F + 1 → pz_up m1 182 (240 * n + 6 * F + 1) (1 + 64 * mi 9 x.1 + (x.2.1 : Int)) 182 u = m1 182 u := fun u hu => pz_up_ot hu
      have g2' : pz_up m1 182 (240 * n + 6 * F + 1) (1 + 64 * mi 9 x.1 + (x.2.1 : Int)) 182 (240 * n + 6 * F + 1) = 1 + 64 * mi 9 x.1 + (x.2.1 : Int) := pz_up_at
      generalize pz_up m1 182 (240 * n + 6 * F + 1) (1 + 64 * mi 9 x.1 + (x.2.1 : Int)) = m2 at *
      have k28b : m2 165 28 = (F : Int) := (f2.2 28 (by decide)).trans w4
      refine pz_g132_63 ⟨fun h => absurd h (by decide), fun _ => ⟨by omega, by omega, by omega, by omega, fun _ => ⟨fun _ => ⟨by omega, ?_⟩, fun h => absurd h (by decide)⟩, fun h => absurd h (by decide)⟩⟩
      rw [eg, f2.1 173 (by decide) (by decide), e173]
      refine pz_Rn_c (d' := 0) (by omega) (pz_itemC (by omega) (by omega)) ?_
      refine pz_g132_129 ⟨by omega, by omega, ?_⟩
      have i2 : (240 * (n : Int) + 6 * m2 165 28 + (0 + 1 + 1)).toNat = 240 * n + 6 * F + 2 := by omega
      rw [i2]
      have f3 : pz_fr [182] [] mi (pz_up m2 182 (240 * n + 6 * F + 2) (1 + 64 * mi 10 x.1 + (x.2.1 : Int))) := pz_fr_trans f2 (pz_fr_up (by decide) (by decide))
      have g3 : ∀ u, u ≠ 240 * n + 6 * F + 2 → pz_up m2 182 (240 * n + 6 * F + 2) (1 + 64 * mi 10 x.1 + (x.2.1 : Int)) 182 u = m2 182 u := fun u hu => pz_up_ot hu
      have g3' : pz_up m2 182 (240 * n + 6 * F + 2) (1 + 64 * mi 10 x.1 + (x.2.1 : Int)) 182 (240 * n + 6 * F + 2) = 1 + 64 * mi 10 x.1 + (x.2.1 : Int) := pz_up_at
      generalize pz_up m2 182 (240 * n + 6 * F + 2) (1 + 64 * mi 10 x.1 + (x.2.1 : Int)) = m3 at *
      have k28c : m3 165 28 = (F : Int) := (f3.2 28 (by decide)).trans w4
      have k29c : m3 165 29 = (nb : Int) := (f3.2 29 (by decide)).trans w7
      refine pz_g132_63 ⟨fun _ => ⟨by omega, by omega, by omega, by omega, ?_⟩, fun h => absurd h (by decide)⟩
      rw [en, k28c, k29c]
      -- what stands at the end
      have z1 : ∀ p, p ≠ 165 → p ≠ 178 → p ≠ 179 → pz_up (pz_up (pz_up (pz_up m3 165 29 ((nb : Int) + 3)) 178 n x3) 179 n (F : Int)) 165 28 ((F : Int) + 1) p = m3 p := by
        intro p h1 h2 h3
        rw [pz_upq h1, pz_upq h3, pz_upq h2, pz_upq h1]
      have z165 : ∀ j, j ≠ 28 → j ≠ 29 → pz_up (pz_up (pz_up (pz_up m3 165 29 ((nb : Int) + 3)) 178 n x3) 179 n (F : Int)) 165 28 ((F : Int) + 1) 165 j = m3 165 j := by
        intro j h1 h2
        rw [pz_up_ot h1, pz_upq (by decide), pz_upq (by decide), pz_up_ot h2]
      have z28 : pz_up (pz_up (pz_up (pz_up m3 165 29 ((nb : Int) + 3)) 178 n x3) 179 n (F : Int)) 165 28 ((F : Int) + 1) 165 28 = (F : Int) + 1 := pz_up_at
      have z29 : pz_up (pz_up (pz_up (pz_up m3 165 29 ((nb : Int) + 3)) 178 n x3) 179 n (F : Int)) 165 28 ((F : Int) + 1) 165 29 = (nb : Int) + 3 := by rw [pz_up_ot (by decide), pz_upq (by decide), pz_upq (by decide), pz_up_at]
      have zn8 : pz_up (pz_up (pz_up (pz_up m3 165 29 ((nb : Int) + 3)) 178 n x3) 179 n (F : Int)) 165 28 ((F : Int) + 1) 178 n = x3 := by rw [pz_upq (by decide), pz_upq (by decide), pz_up_at]
      have zn9 : pz_up (pz_up (pz_up (pz_up m3 165 29 ((nb : Int) + 3)) 178 n x3) 179 n (F : Int)) 165 28 ((F : Int) + 1) 179 n = (F : Int) := by rw [pz_upq (by decide), pz_up_at]
      have zo8 : ∀ v, v ≠ n → pz_up (pz_up (pz_up (pz_up m3 165 29 ((nb : Int) + 3)) 178 n x3) 179 n (F : Int)) 165 28 ((F : Int) + 1) 178 v = m3 178 v := fun v hvn => by rw [pz_upq (by decide), pz_upq (by decide), pz_up_ot hvn, pz_upq (by decide)]
      have zo9 : ∀ v, v ≠ n → pz_up (pz_up (pz_up (pz_up m3 165 29 ((nb : Int) + 3)) 178 n x3) 179 n (F : Int)) 165 28 ((F : Int) + 1) 179 v = m3 179 v := fun v hvn => by rw [pz_upq (by decide), pz_up_ot hvn, pz_upq (by decide), pz_upq (by decide)]
      generalize pz_up (pz_up (pz_up (pz_up m3 165 29 ((nb : Int) + 3)) 178 n x3) 179 n (F : Int)) 165 28 ((F : Int) + 1) = m7 at *
      have y1 : ∀ p, p ≠ 165 → p ≠ 178 → p ≠ 179 → p ≠ 182 → m7 p = mi p := fun p h1 h2 h3 h4 => (z1 p h1 h2 h3).trans (f3.1 p (by rw [List.mem_singleton]; exact h4) h1)
      have y165 : ∀ j, j ≠ 28 → j ≠ 29 → m7 165 j = mi 165 j := fun j h1 h2 => (z165 j h1 h2).trans (f3.2 j (by simp))
      have row : ∀ u, u < 240 → u ≠ 6 * F → u ≠ 6 * F + 1 → u ≠ 6 * F + 2 → m7 182 (240 * n + u) = mi 182 (240 * n + u) := by
        intro u hu h1 h2 h3
        rw [z1 182 (by decide) (by decide) (by decide), g3 _ (by omega), g2 _ (by omega), g1 _ (by omega)]
      have rwo : ∀ v, v ≠ n → pz_rwf m7 v = pz_rwf mi v := by
        intro v hvn
        funext u
        unfold pz_rwf
        by_cases hu : u < 240
        · rw [if_pos hu, if_pos hu, z1 182 (by decide) (by decide) (by decide), g3 _ (by omega), g2 _ (by omega), g1 _ (by omega)]
        · rw [if_neg hu, if_neg hu]
      have te7 : pz_te mi m7 := ⟨y1 2 (by decide) (by decide) (by decide) (by decide), y1 3 (by decide) (by decide) (by decide) (by decide), y1 4 (by decide) (by decide) (by decide) (by decide), y1 5 (by decide) (by decide) (by decide) (by decide), y1 166 (by decide) (by decide) (by decide) (by decide), y1 167 (by decide) (by decide) (by decide) (by decide), y1 168 (by decide) (by decide) (by decide) (by decide), y165 1 (by decide) (by decide)⟩
      have hσ : ∀ v : Nat, 6 * F ≤ v → x.2.2.1 v = none := fun v hvv => (c5 v).2 (by omega)
      have b0 : pz_mR mi ((F + 1 : Nat) : Int) (pz_rwf mi n) x.2.2.1 := pz_mR_mono (by omega) c5
      have b1 := pz_mR_b (row' := fun u => if u = 6 * F then 1 + 64 * mi 8 x.1 + (x.2.1 : Int) else pz_rwf mi n u) b0 (v := 6 * F) (by omega) (by omega) (pz_vm_mono (by omega) v8) (if_pos rfl) (fun u hu => if_neg hu)
      have b2 := pz_mR_b (row' := fun u => if u = 6 * F + 1 then 1 + 64 * mi 9 x.1 + (x.2.1 : Int) else if u = 6 * F then 1 + 64 * mi 8 x.1 + (x.2.1 : Int) else pz_rwf mi n u) b1 (v := 6 * F + 1) (by omega) (by omega) (pz_vm_mono (by omega) v9) (if_pos rfl) (fun u hu => if_neg hu)
      have b3 := pz_mR_b (row' := pz_rwf m7 n) b2 (v := 6 * F + 2) (z := 1 + 64 * mi 10 x.1 + (x.2.1 : Int)) (by omega) (by omega) (pz_vm_mono (by omega) v10) (by
        unfold pz_rwf
        rw [if_pos (by omega), z1 182 (by decide) (by decide) (by decide), show 240 * n + (6 * F + 2) = 240 * n + 6 * F + 2 by omega]
        exact g3') (fun u hu => by
        unfold pz_rwf
        by_cases hu2 : u < 240
        · rw [if_pos hu2, z1 182 (by decide) (by decide) (by decide), g3 _ (by omega)]
          by_cases e1 : u = 6 * F + 1
          · subst e1
            rw [if_pos rfl, show 240 * n + (6 * F + 1) = 240 * n + 6 * F + 1 by omega]
            exact g2'
          · rw [if_neg e1, g2 _ (by omega)]
            by_cases e0 : u = 6 * F
            · subst e0
              rw [if_pos rfl]
              exact g1'
            · rw [if_neg e0, g1 _ (by omega), if_pos hu2]
        · rw [if_neg hu2, if_neg (by omega), if_neg (by omega), if_neg hu2])
      rw [q8, q9, q10] at b3
      refine ⟨m7, ml, [n], A, m, (n : Int), (_, none), ⟨rfl, rfl⟩, ?_, fun h => absurd rfl h, ⟨fun v hvv => ?_, fun p hp => y1 p (by omega) (by omega) (by omega) (by omega), fun j hj => y165 j (fun e => hj (by rw [e]; decide)) (fun e => hj (by rw [e]; decide)), fun _ _ _ => rfl⟩, rfl, ?_, ?_, ?_, ?_, ⟨n, rfl, rfl, ?_, ?_⟩, ?_⟩
      · exact pz_mv_fr hv (y165 12 (by decide) (by decide)) (fun v _ _ => by rw [y1 176 (by decide) (by decide) (by decide) (by decide)])
      · have hvn : v ≠ n := fun e => vne v hvv (by rw [e]; exact List.mem_cons_self)
        refine ⟨by rw [y1 175 (by decide) (by decide) (by decide) (by decide)], by rw [y1 176 (by decide) (by decide) (by decide) (by decide)], by rw [y1 177 (by decide) (by decide) (by decide) (by decide)], ?_, ?_, rwo v hvn, rfl, rfl⟩
        · rw [zo8 v hvn, f3.1 178 (by decide) (by decide)]
        · rw [zo9 v hvn, f3.1 179 (by decide) (by decide)]
      · rw [y165 31 (by decide) (by decide)]
        exact ho
      · rw [z28]
        omega
      · rw [z29]
        omega
      · refine pz_mn_te te7 (y165 24 (by decide) (by decide)) (y1 184 (by decide) (by decide) (by decide) (by decide)) (y1 185 (by decide) (by decide) (by decide) (by decide)) ?_
        exact ⟨w10.1, fun i hi => ⟨pz_vm_mono (by omega) (w10.2 i hi).1, pz_vm_mono (by omega) (w10.2 i hi).2.1, (w10.2 i hi).2.2⟩⟩
      · rw [y1 175 (by decide) (by decide) (by decide) (by decide)]
        exact c1
      · rw [zn8, zn9]
        exact ⟨by show x3 = (((mi 12 (mi 11 x.1).toNat).toNat : Nat) : Int); omega, rfl, pz_mR_te te7 b3, c6, c7⟩
      · show _ = (-1 : Int)
        rw [y165 32 (by decide) (by decide)]
        exact h32
    · rw [if_pos (by omega)]
      refine pz_Rn_c (d' := 0) (by omega) (pz_freeC (by omega)) ?_
      refine pz_g132_22 ?_
      have G : pz_nfr [n] mi ml (pz_up (pz_up mi 176 n (mi 165 12)) 165 12 (n : Int)) ml := pz_nf_free List.mem_cons_self
      have v2 := (pz_mv_give (U' := V) hv (List.Perm.refl _)).2
      refine ⟨_, ml, [], n :: A, m, -1, (none, none), ⟨rfl, rfl⟩, v2, fun h => absurd rfl h, pz_ns_nf vne G, rfl, (G.2.2.1 31 (by decide) (by decide)).trans ho, (G.2.2.1 28 (by decide) (by decide)).trans w4, (G.2.2.1 29 (by decide) (by decide)).trans w7, pz_mn_nf G w10, ⟨rfl, rfl⟩, ?_⟩
      show _ = (-1 : Int)
      rw [pz_up_ot (by decide), pz_upq (by decide)]
      exact h32
  refine pz_Rn_e (Nat.le_refl _) st ?_
  rintro o h ⟨m', l, X, A', m'', x', ra, ⟨rfl, rfl⟩, hh⟩
  exact pz_g134_71 ⟨m', l, X, A', m'', x', ra, ⟨rfl, rfl⟩, hh⟩
/-- the reference's stepTask -/
theorem pz_mtaskC (hW : pz_mW mi F nb N k) {n : Nat} {x : pz_tk} (hv : pz_mv mi (n :: V) A m) (hU : V.length ≤ 59) (hc : pz_mT (pz_P2 mi (F : Int)) mi ml (.leaf x) n [n]) (hx : pz_vt1 mi F N x) (hl : mi 165 27 = 0) (h32 : mi 165 32 = -1) (ho : mi 165 31 = 0) :
    pz_Rn (d + 8) 134 (0, [], [(0, .inr (.inr (some 165))), (1, .inl (n : Int))], pz_hp n0 mi ml mr c s, true) (pz_oM n0 mr c s V mi ml (pz_ts mi F nb N k x)) := by
  obtain ⟨x1, x2, x3, x4⟩ := hx
  have hc' := hc
  obtain ⟨-, c1, c3, c4, c5, c6, c7⟩ := hc'
  obtain ⟨g40, gk, gl⟩ := pz_gl_f hW.2.1 x1
  have w5 := hW.2.2.2.2.1
  obtain ⟨n62, vne⟩ := pz_mV_ne hv
  have en : ((n : Int)).toNat = n := by omega
  have eg : ((x.1 : Int)).toNat = x.1 := by omega
  unfold pz_ts
  by_cases k01 : mi 7 x.1 = 0 ∨ mi 7 x.1 = 1
  · have hT : pz_isT mi (mi 8 x.1) ∧ pz_isT mi (mi 9 x.1) ∧ mi 170 x.1 = mi 8 x.1 ∧ mi 171 x.1 = mi 9 x.1 := by
      rcases gl with gl | gl | gl
      · exact gl.2
      · omega
      · omega
    refine pz_g134_0 ⟨by omega, fun y2 e2 => ?_⟩
    rw [en, c3] at e2
    subst e2
    refine ⟨by omega, fun y4 e4 => ?_⟩
    rw [eg, gk] at e4
    rcases k01 with k0 | k1
    · rw [if_pos k0]
      rw [k0] at e4
      subst e4
      refine ⟨fun _ => ?_, fun h => absurd rfl h⟩
      have sm := pz_sameM (d := d) (n0 := n0) (ml := ml) (mr := mr) (c := c) (s := s) (r := 500) hW.1 (F := (F : Int)) (by omega) hW.2.2.2.2.2.2.2.2.1 (by omega) g40 c4 (by omega) hT.2.2.1 hT.2.2.2 hT.1 hT.2.1 (pz_mS_R.mpr c5) x3 (Nat.le_refl _) (by rw [hl]; decide) ho hW.2.2.2.2.2.2.1 hW.2.2.2.2.2.2.2.1 hW.2.2.2.2.2.2.2.2.2
      rw [c6, c7] at sm
      refine pz_Rn_e (Nat.le_refl _) sm ?_
      rintro _ _ ⟨m1, l1, b, ⟨rfl, rfl⟩, ha⟩
      have fr := pz_mtsk_free (d := d) (n0 := n0) (mr := mr) (c := c) (s := s) hW hv ha h32
      refine pz_g134_33 ⟨fun h => ?_, fun h => ?_⟩
      · rw [if_pos h] at fr
        exact fr
      · rw [if_neg h] at fr
        exact fr
    · rw [if_neg (by omega), if_pos k1]
      rw [k1] at e4
      subst e4
      refine ⟨fun h => absurd h (by decide), fun _ => ⟨fun h => absurd rfl h, fun _ => ?_⟩⟩
      have sm := pz_differM (d := d) (n0 := n0) (ml := ml) (mr := mr) (c := c) (s := s) (r := 500) hW.1 (F := (F : Int)) (by omega) hW.2.2.2.2.2.2.2.2.1 (by omega) g40 c4 (by omega) hT.2.2.1 hT.2.2.2 hT.1 hT.2.1 (pz_mS_R.mpr c5) x3 (Nat.le_refl _) (by rw [hl]; decide) ho hW.2.2.2.2.2.2.1 hW.2.2.2.2.2.2.2.1 hW.2.2.2.2.2.2.2.2.2
      rw [c6, c7] at sm
      refine pz_Rn_e (Nat.le_refl _) sm ?_
      rintro _ _ ⟨m1, l1, b, ⟨rfl, rfl⟩, ha⟩
      have fr := pz_mtsk_free (d := d) (n0 := n0) (mr := mr) (c := c) (s := s) hW hv ha h32
      refine pz_g134_45 ⟨fun h => ?_, fun h => ?_⟩
      · rw [if_pos h] at fr
        exact fr
      · rw [if_neg h] at fr
        exact fr
  · rw [if_neg (by omega), if_neg (by omega)]
    by_cases k2 : mi 7 x.1 = 2
    · rw [if_pos k2]
      exact pz_mtask_and hW hv hU hc x1 x2 k2 h32 ho
    · rw [if_neg k2]
      by_cases k3 : mi 7 x.1 = 3
      · rw [if_pos k3]
        exact pz_mtask_or hW hv hU hc x1 k3 h32 ho
      · rw [if_neg k3]
        exact pz_mtask_call hW hv hc x1 x2 (by rcases gl with gl | gl | gl <;> omega) h32 ho
end pzK1
