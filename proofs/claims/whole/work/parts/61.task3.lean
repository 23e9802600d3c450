/-! The class's stepTask: EITHER, BOTH. -/
section pzE
variable {d n0 : Nat} {mi mi' : Nat → Nat → Int} {ml ml' : Nat → Nat → Int64} {mr mr' : Nat → Nat → Option Nat} {c s : Nat} {σ : Nat → Option Nat} {V S W : List Nat} {F nb N : Nat} {k : Nat → Nat × Nat}
theorem pz_sd1 {q : Nat} (h : pz_nd q) : pz_sd (q + 1) := by
  obtain ⟨h1, h2, h3⟩ := h
  exact .inr ⟨by omega, by omega, by omega⟩
theorem pz_nd_of {q1 q2 : Nat} (h : pz_iv mi mr (q1 :: V) (q2 :: S)) : q1 ≠ q2 := fun e => (pz_V_ne h).2.2.1 q2 List.mem_cons_self e.symm
set_option maxHeartbeats 1000000 in
/-- two new tasks under a node -/
theorem pz_task_or (hW : pz_cW mi F nb N k) {q : Nat} {x : pz_tk} (hiv : pz_iv mi mr (q :: V) S) (hS : 2 ≤ S.length) (hc : pz_cT (pz_P1 mi (F : Int)) mi ml mr (.leaf x) q [q]) (hx : (x.1 : Int) < mi 6 6) (hk : mi 7 x.1 = 3) (hl : mi 155 5 = 0) (h14 : mi 13 14 = 0) :
    pz_Rn (d + 5) 64 (0, [], [(0, .inr (.inr (some 13))), (1, .inr (.inr (some q)))], pz_hp n0 mi ml mr c s, true) (pz_oT n0 c s V nb mi ml mr (some (F, (some (.branch 0 (.leaf ((mi 8 x.1).toNat, x.2)) (.leaf ((mi 9 x.1).toNat, x.2))), none), nb, N, k))) := by
  obtain ⟨-, hq, c1, hP⟩ := hc
  have hP' := hP
  obtain ⟨c3, c4, c5, c6, c7⟩ := hP'
  obtain ⟨w1, w2, w3, w4, w5, w6, w7, w8, w9, w10⟩ := hW
  obtain ⟨g40, gl⟩ := pz_gl_f w2 hx
  have eg : (mi q 3).toNat = x.1 := by rw [c3]; omega
  have hgl : 0 ≤ mi 8 x.1 ∧ 0 ≤ mi 9 x.1 := by
    obtain ⟨-, gl⟩ := gl
    rcases gl with gl | gl | gl
    · omega
    · omega
    · omega
  refine pz_g64_0 ⟨q, rfl, hq, by rw [c3]; omega, fun x3 e3 => ?_⟩
  rw [eg, hk] at e3
  refine ⟨fun h => absurd h (by omega), fun h => absurd h (by omega), fun h => absurd h (by omega), fun _ => ?_, fun h => absurd h (by omega), fun h => absurd h (by omega)⟩
  cases S with
  | nil => exact absurd hS (by decide)
  | cons q1 S1 =>
    cases S1 with
    | nil => exact absurd hS (by rw [List.length_singleton]; decide)
    | cons q2 S2 =>
      have hqn := hq
      obtain ⟨n1, n2, n3⟩ := hqn
      obtain ⟨v1, v2, v3, v4⟩ := pz_V_ne hiv
      have q1n : pz_nd q1 := (pz_iv_nd hiv).2.2 q1 List.mem_cons_self
      have q2n : pz_nd q2 := (pz_iv_nd hiv).2.2 q2 (List.mem_cons_of_mem _ List.mem_cons_self)
      have q1q : q1 ≠ q := v3 q1 List.mem_cons_self
      have q2q : q2 ≠ q := v3 q2 (List.mem_cons_of_mem _ List.mem_cons_self)
      have q1n' := q1n
      obtain ⟨a1, a2, a3⟩ := q1n'
      have q2n' := q2n
      obtain ⟨b1, b2, b3⟩ := q2n'
      have st : pz_Rn (d + 4) 41 (0, [], [(0, .inr (.inr (some 13))), (1, .inr (.inr (some q)))], pz_hp n0 mi ml mr c s, true) (fun o h => ∃ mi' ml' mr', (o = .inl (some (.inr (.inr (some q)))) ∧ h = pz_hp n0 mi' ml' mr' c s) ∧ pz_iv mi' mr' ((q :: ([q1] ++ [q2])) ++ V) S2 ∧ pz_tf [q, q1, q2] mi ml mr mi' ml' mr' ∧ mi' 13 = mi 13 ∧ pz_cT (pz_P1 mi (F : Int)) mi' ml' mr' (.branch 0 (.leaf ((mi 8 x.1).toNat, x.2)) (.leaf ((mi 9 x.1).toNat, x.2))) q (q :: ([q1] ++ [q2]))) := by
        refine pz_g41_0 ⟨q, rfl, hq, by rw [c3]; omega, ?_⟩
        rw [eg]
        refine pz_Rn_e (d' := 2) (by omega) (pz_newC (d := 0) hiv (pz_sd1 hq) (by omega)) ?_
        rintro _ _ ⟨m1, l1, r1, ⟨rfl, rfl⟩, -, iv1, t1, e1, u0, u3, u4, s0, s1, s2⟩
        have q2q1 : q2 ≠ q1 := fun e => pz_nd_of iv1 e.symm
        obtain ⟨k1, k2, k3, k4⟩ := t1.1 q hq (fun e => q1q (List.mem_singleton.mp e).symm)
        refine pz_g41_27 ⟨q, rfl, hq, by rw [k1, c3]; omega, ?_⟩
        rw [k1, eg, t1.2.1 9 (by decide) (by decide)]
        refine pz_Rn_e (d' := 2) (by omega) (pz_newC (d := 0) iv1 (pz_sd1 hq) (by omega)) ?_
        rintro _ _ ⟨m2, l2, r2, ⟨rfl, rfl⟩, -, iv2, t2, e2, x0, x3', x4, y0, y1, y2⟩
        refine pz_g41_55 ?_
        refine pz_Rn_c (d' := 1) (by omega) (pz_sumC (d := 0) hq iv2.1) ?_
        refine pz_g41_66 ?_
        have uf := pz_tu_f (mi := m2) (k := 2) hq
        have hw : q ∈ [q, q1, q2] := by simp
        have t3 : pz_tf [q, q1, q2] m2 l2 r2 (pz_tu m2 q 2) l2 (pz_up (pz_up r2 q 1 (some q1)) q 2 (some q2)) := pz_tf_trans (pz_tf_trans (pz_tf_tu hq hw) (pz_tf_mr hq hw)) (pz_tf_mr hq hw)
        obtain ⟨j1, j2, j3, j4⟩ := t2.1 q1 q1n (fun e => q2q1 (List.mem_singleton.mp e).symm)
        refine ⟨_, _, _, ⟨rfl, rfl⟩, ?_, pz_tf_trans (pz_tf_trans (pz_tf_mono (fun v hv => by rw [List.mem_singleton.mp hv]; simp) t1) (pz_tf_mono (fun v hv => by rw [List.mem_singleton.mp hv]; simp) t2)) t3, ?_, ?_⟩
        · obtain ⟨i1, i2, i3⟩ := iv2
          refine ⟨pz_tu_hm hq (by decide) i1, ?_, ?_⟩
          · rw [pz_upq (by omega), pz_upq (by omega)]
            refine pz_cC_fr (fun v hv => ?_) i2
            have hvn := (pz_cC_k i2 v hv).1
            have hvq : v ≠ q := v3 v (List.mem_cons_of_mem _ (List.mem_cons_of_mem _ hv))
            rw [uf.2.2 v hvq (by have := hvn.1; omega), pz_upq hvq, pz_upq hvq]
            exact ⟨rfl, rfl⟩
          · refine List.Perm.trans ?_ i3
            simp only [List.perm_iff_count, List.count_append, List.count_cons, List.count_nil]
            intro z
            omega
        · rw [uf.2.2 13 (by omega) (by decide), e2, e1]
        · refine ⟨q1, q2, [q1], [q2], rfl, hq, uf.1, ?_, pz_up_at, ⟨rfl, q1n, ?_, ?_⟩, ⟨rfl, q2n, ?_, ?_⟩⟩
          · rw [pz_up_ot (by decide), pz_up_at]
          · rw [uf.2.2 q1 q1q (by omega), j1]
            exact u0
          · rw [uf.2.2 q1 q1q (by omega), uf.2.2 (q1 + 1) (by omega) (by omega), j1, j2, j3, u3, u4, s0, s1, s2]
            exact ⟨by show _ = (((mi 8 x.1).toNat : Nat) : Int); omega, c4, c5, c6, c7⟩
          · rw [uf.2.2 q2 q2q (by omega)]
            exact x0
          · rw [uf.2.2 q2 q2q (by omega), uf.2.2 (q2 + 1) (by omega) (by omega), x3', x4, y0, y1, y2, k2, k3]
            exact ⟨by show _ = (((mi 9 x.1).toNat : Nat) : Int); omega, c4, c5, c6, c7⟩
      refine pz_Rn_e (Nat.le_refl _) st ?_
      rintro _ _ ⟨m, l, r, ⟨rfl, rfl⟩, iv, t, e13, ct⟩
      refine pz_g64_53 ⟨m, l, r, q :: ([q1] ++ [q2]), S2, some q, (some (.branch 0 (.leaf ((mi 8 x.1).toNat, x.2)) (.leaf ((mi 9 x.1).toNat, x.2))), none), ⟨rfl, rfl⟩, iv, fun h => absurd rfl h, pz_fs_tf (fun v hv => ⟨(v1 v hv).1, fun hn => ?_⟩) t, pz_lo_eq (t.2.1 151 (by decide) (by decide)) (t.2.1 152 (by decide) (by decide)) (t.2.1 153 (by decide) (by decide)), by rw [t.2.1 150 (by decide) (by decide), w7]; omega, rfl, by rw [e13]; exact w4, by rw [t.2.1 150 (by decide) (by decide)]; exact w7, w8, w9, pz_cn_tf t w10, by rw [t.2.1 155 (by decide) (by decide), hl]; decide, ⟨q, rfl, pz_cT_P (fun _ _ _ _ _ _ h => pz_P1_tf t h) _ _ _ ct⟩, by show m 13 14 = 0; rw [e13]; exact h14, trivial⟩
      rcases List.mem_cons.mp hn with e | hn
      · exact (v1 v hv).2 (by rw [e]; exact List.mem_cons_self)
      · refine v4 v hv ?_
        rcases List.mem_cons.mp hn with e | hn
        · rw [e]
          exact List.mem_cons_self
        · rw [List.mem_singleton.mp hn]
          exact List.mem_cons_of_mem _ List.mem_cons_self
set_option maxHeartbeats 1000000 in
theorem pz_task_and (hW : pz_cW mi F nb N k) {q : Nat} {x : pz_tk} (hiv : pz_iv mi mr (q :: V) S) (hS : 2 ≤ S.length) (hc : pz_cT (pz_P1 mi (F : Int)) mi ml mr (.leaf x) q [q]) (hx : (x.1 : Int) < mi 6 6) (hxf : x.2.1 < F) (hk : mi 7 x.1 = 2) (hl : mi 155 5 = 0) (h14 : mi 13 14 = 0) :
    pz_Rn (d + 5) 64 (0, [], [(0, .inr (.inr (some 13))), (1, .inr (.inr (some q)))], pz_hp n0 mi ml mr c s, true) (pz_oT n0 c s V nb mi ml mr (some (F, (some (.branch (64 * (mi 9 x.1).toNat + x.2.1 + 1) (.leaf ((mi 8 x.1).toNat, x.2)) (.leaf x)), none), nb, N, k))) := by
  obtain ⟨-, hq, c1, hP⟩ := hc
  have hP' := hP
  obtain ⟨c3, c4, c5, c6, c7⟩ := hP'
  obtain ⟨w1, w2, w3, w4, w5, w6, w7, w8, w9, w10⟩ := hW
  obtain ⟨g40, gl⟩ := pz_gl_f w2 hx
  have eg : (mi q 3).toNat = x.1 := by rw [c3]; omega
  have hgl : 0 ≤ mi 8 x.1 ∧ 0 ≤ mi 9 x.1 := by
    obtain ⟨-, gl⟩ := gl
    rcases gl with gl | gl | gl
    · omega
    · omega
    · omega
  refine pz_g64_0 ⟨q, rfl, hq, by rw [c3]; omega, fun x3 e3 => ?_⟩
  rw [eg, hk] at e3
  refine ⟨fun h => absurd h (by omega), fun h => absurd h (by omega), fun _ => ?_, fun h => absurd h (by omega), fun h => absurd h (by omega), fun h => absurd h (by omega)⟩
  cases S with
  | nil => exact absurd hS (by decide)
  | cons q1 S1 =>
    have hqn := hq
    obtain ⟨n1, n2, n3⟩ := hqn
    obtain ⟨v1, v2, v3, v4⟩ := pz_V_ne hiv
    have q1n : pz_nd q1 := (pz_iv_nd hiv).2.2 q1 List.mem_cons_self
    have q1q : q1 ≠ q := v3 q1 List.mem_cons_self
    have q1n' := q1n
    obtain ⟨a1, a2, a3⟩ := q1n'
    have st : pz_Rn (d + 4) 42 (0, [], [(0, .inr (.inr (some 13))), (1, .inr (.inr (some q)))], pz_hp n0 mi ml mr c s, true) (fun o h => ∃ mi' ml' mr', (o = .inl (some (.inr (.inr (some q)))) ∧ h = pz_hp n0 mi' ml' mr' c s) ∧ pz_iv mi' mr' ((q :: [q1]) ++ V) S1 ∧ pz_tf [q, q1] mi ml mr mi' ml' mr' ∧ mi' 13 = mi 13 ∧ pz_cT (pz_P1 mi (F : Int)) mi' ml' mr' (.branch (64 * (mi 9 x.1).toNat + x.2.1 + 1) (.leaf ((mi 8 x.1).toNat, x.2)) (.leaf x)) q (q :: [q1])) := by
      refine pz_g42_0 ⟨q, rfl, hq, by rw [c3]; omega, ?_⟩
      rw [eg]
      refine pz_Rn_e (d' := 2) (by omega) (pz_newC (d := 0) hiv (pz_sd1 hq) (by omega)) ?_
      rintro _ _ ⟨m1, l1, r1, ⟨rfl, rfl⟩, -, iv1, t1, e1, u0, u3, u4, s0, s1, s2⟩
      obtain ⟨k1, k2, k3, k4⟩ := t1.1 q hq (fun e => q1q (List.mem_singleton.mp e).symm)
      refine pz_g42_28 ⟨q, rfl, hq, ?_⟩
      refine pz_Rn_c (d' := 0) (by omega) (pz_turnC hq (by decide) iv1.1) ?_
      have uf := pz_tu_f (mi := m1) (k := 3) hq
      have g3 : pz_tu m1 q 3 q 3 = (x.1 : Int) := by rw [uf.2.1 3 (by decide), k1]; exact c3
      have g4 : pz_tu m1 q 3 q 4 = (x.2.1 : Int) := by rw [uf.2.1 4 (by decide), k1]; exact c4
      have g9 : pz_tu m1 q 3 9 = mi 9 := by rw [uf.2.2 9 (by omega) (by decide), t1.2.1 9 (by decide) (by decide)]
      refine pz_g42_40 ⟨q, rfl, hq, by rw [g3]; omega, ?_⟩
      rw [g3, g4, g9, show ((x.1 : Int)).toNat = x.1 by omega]
      refine pz_Rn_c (d' := 0) (v := none) (H := pz_hp n0 (pz_up (pz_up (pz_tu m1 q 3) q 3 (mi 9 x.1)) q 4 (x.2.1 : Int)) l1 (pz_up r1 q 1 (some q1)) c s) (by omega) (pz_g32_0 hq ⟨rfl, rfl⟩) ?_
      refine pz_g42_60 ?_
      have hw : q ∈ [q, q1] := by simp
      have t3 : pz_tf [q, q1] m1 l1 r1 (pz_up (pz_up (pz_tu m1 q 3) q 3 (mi 9 x.1)) q 4 (x.2.1 : Int)) l1 (pz_up r1 q 1 (some q1)) := pz_tf_trans (pz_tf_trans (pz_tf_trans (pz_tf_tu hq hw) (pz_tf_mr hq hw)) (pz_tf_mi hq hw)) (pz_tf_mi hq hw)
      refine ⟨_, _, _, ⟨rfl, rfl⟩, ?_, pz_tf_trans (pz_tf_mono (fun v hv => by rw [List.mem_singleton.mp hv]; simp) t1) t3, ?_, ?_⟩
      · have iv2 : pz_iv (pz_tu m1 q 3) r1 (q1 :: q :: V) S1 := by
          obtain ⟨i1, i2, i3⟩ := iv1
          refine ⟨pz_tu_hm hq (by decide) i1, ?_, i3⟩
          refine pz_cC_fr (fun v hv => ?_) i2
          have hvn := (pz_cC_k i2 v hv).1
          have hvq : v ≠ q := v3 v (List.mem_cons_of_mem _ hv)
          rw [uf.2.2 v hvq (by have := hvn.1; omega)]
          exact ⟨rfl, rfl⟩
        refine pz_iv_perm (pz_iv_fr iv2 ?_ (fun p hp => ?_) ?_ (fun v hv => ?_)) ?_
        · rw [pz_upq (by omega), pz_upq (by omega)]
        · by_cases e : p = q
          · subst e
            rw [pz_up_ot (by decide), pz_up_ot (by decide)]
          · rw [pz_upq e, pz_upq e]
        · rw [pz_upq (by omega)]
        · rw [pz_upq (v3 v (List.mem_cons_of_mem _ hv))]
        · simp only [List.perm_iff_count, List.count_append, List.count_cons, List.count_nil]
          intro z
          omega
      · rw [pz_upq (by omega), pz_upq (by omega), uf.2.2 13 (by omega) (by decide), e1]
      · refine ⟨q1, [q1], rfl, hq, ?_, ?_, ?_, pz_up_at, ⟨rfl, q1n, ?_, ?_⟩⟩
        · rw [pz_up_ot (by decide), pz_up_ot (by decide)]
          exact uf.1
        · rw [pz_up_ot (by decide), pz_up_at]
          show mi 9 x.1 = (((64 * (mi 9 x.1).toNat + x.2.1) / 64 : Nat) : Int)
          omega
        · rw [pz_up_at]
          show (x.2.1 : Int) = (((64 * (mi 9 x.1).toNat + x.2.1) % 64 : Nat) : Int)
          omega
        · rw [pz_upq q1q, pz_upq q1q, uf.2.2 q1 q1q (by omega)]
          exact u0
        · rw [pz_upq q1q, pz_upq q1q, pz_upq (by omega), pz_upq (by omega), uf.2.2 q1 q1q (by omega), uf.2.2 (q1 + 1) (by omega) (by omega), u3, u4, s0, s1, s2]
          exact ⟨by show _ = (((mi 8 x.1).toNat : Nat) : Int); omega, c4, c5, c6, c7⟩
    refine pz_Rn_e (Nat.le_refl _) st ?_
    rintro _ _ ⟨m, l, r, ⟨rfl, rfl⟩, iv, t, e13, ct⟩
    refine pz_g64_59 ⟨m, l, r, q :: [q1], S1, some q, (some (.branch (64 * (mi 9 x.1).toNat + x.2.1 + 1) (.leaf ((mi 8 x.1).toNat, x.2)) (.leaf x)), none), ⟨rfl, rfl⟩, iv, fun h => absurd rfl h, pz_fs_tf (fun v hv => ⟨(v1 v hv).1, fun hn => ?_⟩) t, pz_lo_eq (t.2.1 151 (by decide) (by decide)) (t.2.1 152 (by decide) (by decide)) (t.2.1 153 (by decide) (by decide)), by rw [t.2.1 150 (by decide) (by decide), w7]; omega, rfl, by rw [e13]; exact w4, by rw [t.2.1 150 (by decide) (by decide)]; exact w7, w8, w9, pz_cn_tf t w10, by rw [t.2.1 155 (by decide) (by decide), hl]; decide, ⟨q, rfl, pz_cT_P (fun _ _ _ _ _ _ h => pz_P1_tf t h) _ _ _ ct⟩, by show m 13 14 = 0; rw [e13]; exact h14, trivial⟩
    rcases List.mem_cons.mp hn with e | hn
    · exact (v1 v hv).2 (by rw [e]; exact List.mem_cons_self)
    · refine v4 v hv ?_
      rw [List.mem_singleton.mp hn]
      exact List.mem_cons_self
end pzE
