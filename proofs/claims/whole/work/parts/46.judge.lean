/-! The class's goBack and judge. -/
section pzg
variable {d n0 : Nat} {mi mi' : Nat → Nat → Int} {ml : Nat → Nat → Int64} {mr : Nat → Nat → Option Nat} {c s : Nat} {F : Int} {σ σ0 : Nat → Option Nat} {Q : pz_O → pz_H → Prop} {nb0 : Nat}
/-- what goBack leaves of the spread, when it has come to binding k -/
def pz_gb (nb0 k : Nat) (mi mi' : Nat → Nat → Int) : Prop := ∀ v : Nat, ((∃ j : Nat, nb0 ≤ j ∧ j < k ∧ mi 151 j = v) → mi' 154 v = -1) ∧ ((∀ j : Nat, nb0 ≤ j → j < k → mi 151 j ≠ v) → mi' 154 v = mi 154 v)
theorem pz_gb1 {mi0 : Nat → Nat → Int} {st : Int} (hr : ∀ j : Nat, nb0 ≤ j → (j : Int) < mi0 150 5 → 0 ≤ mi0 151 j ∧ mi0 151 j < 246) (hm : mi0 150 5 ≤ 1001) : ∀ (n k : Nat) (mi : Nat → Nat → Int), nb0 ≤ k → (k : Int) + n = mi0 150 5 → pz_fr [154] [] mi0 mi → pz_gb nb0 k mi0 mi →
    pz_Rn d 58 (2, [], [(0, .inr (.inr (some 150))), (1, .inl st), (3, .inl (k : Int))], pz_hp n0 mi ml mr c s, true) (fun o h => ∃ mi', (o = .inl none ∧ h = pz_hp n0 mi' ml mr c s) ∧ pz_fr [150, 154] [] mi0 mi' ∧ mi' 150 5 = mi0 150 5 ∧ mi' 150 6 = st ∧ pz_gb nb0 (mi0 150 5).toNat mi0 mi') := by
  intro n
  induction n with
  | zero =>
    intro k mi h1 h2 hf hg
    have e0 : mi 150 = mi0 150 := hf.1 150 (by decide) (by decide)
    have ek : (mi0 150 5).toNat = k := by omega
    refine pz_g58_2 ⟨fun _ => ⟨_, ⟨rfl, rfl⟩, pz_fr_trans (pz_fr_sub (by decide) (by decide) hf) (pz_fr_up (by decide) (by decide)), ?_, pz_up_at, ?_⟩, fun h => absurd h (by rw [e0]; omega)⟩
    · rw [pz_up_ot (by decide), e0]
    · rw [ek]
      intro v
      rw [pz_upq (by decide)]
      exact hg v
  | succ n ih =>
    intro k mi h1 h2 hf hg
    have e0 : mi 150 = mi0 150 := hf.1 150 (by decide) (by decide)
    have e1 : mi 151 = mi0 151 := hf.1 151 (by decide) (by decide)
    have hk := hr k h1 (by omega)
    have ek : ((k : Int)).toNat = k := by omega
    refine pz_g58_2 ⟨fun h => absurd h (by rw [e0]; omega), fun _ => ⟨by omega, ?_⟩⟩
    rw [ek, e1]
    refine ⟨hk, by omega, ?_⟩
    have e2 : (k : Int) + 1 = ((k + 1 : Nat) : Int) := by omega
    rw [e2]
    refine ih (k + 1) _ (by omega) (by omega) (pz_fr_trans hf (pz_fr_up (by decide) (by decide))) ?_
    intro v
    by_cases ev : v = (mi0 151 k).toNat
    · subst ev
      rw [pz_up_at]
      refine ⟨fun _ => rfl, fun h => absurd ?_ (h k h1 (by omega))⟩
      omega
    · rw [pz_up_ot ev]
      refine ⟨fun h => (hg v).1 ?_, fun h => (hg v).2 (fun j g1 g2 => h j g1 (by omega))⟩
      obtain ⟨j, g1, g2, g3⟩ := h
      refine ⟨j, g1, ?_, g3⟩
      by_cases ej : j = k
      · subst ej
        exact absurd (by omega) ev
      · omega
/-- Bindings.goBack -/
theorem pz_goBack {st : Int} (hr : ∀ j : Nat, nb0 ≤ j → (j : Int) < mi 150 5 → 0 ≤ mi 151 j ∧ mi 151 j < 246) (hm : mi 150 5 ≤ 1001) (h0 : (nb0 : Int) ≤ mi 150 5) :
    pz_Rn d 58 (0, [], [(0, .inr (.inr (some 150))), (1, .inl st), (2, .inl (nb0 : Int))], pz_hp n0 mi ml mr c s, true) (fun o h => ∃ mi', (o = .inl none ∧ h = pz_hp n0 mi' ml mr c s) ∧ pz_fr [150, 154] [] mi mi' ∧ mi' 150 5 = mi 150 5 ∧ mi' 150 6 = st ∧ pz_gb nb0 (mi 150 5).toNat mi mi') := by
  refine pz_g58_0 (pz_gb1 hr hm ((mi 150 5).toNat - nb0) nb0 mi (Nat.le_refl _) (by omega) pz_fr_refl ?_)
  intro v
  refine ⟨fun h => ?_, fun _ => rfl⟩
  obtain ⟨j, g1, g2, -⟩ := h
  omega
theorem pz_gb_sp (h : pz_cI mi F σ0 σ nb0) (te : pz_te mi mi') (hg : pz_gb nb0 (mi 150 5).toNat mi mi') : pz_sp mi' F σ0 := by
  obtain ⟨s1, s2, s3, s4, s5, s6⟩ := h
  intro v
  have hv := hg v
  by_cases hj : ∃ j : Nat, nb0 ≤ j ∧ j < (mi 150 5).toNat ∧ mi 151 j = v
  · obtain ⟨j, g1, g2, g3⟩ := hj
    have h5 := s5 j g1 (by omega)
    rw [g3] at h5
    have h6 : σ0 v = none := h5.2.2
    rw [h6]
    refine ⟨fun _ => ?_, fun _ => rfl⟩
    show mi' 154 v < 0
    rw [hv.1 ⟨j, g1, g2, g3⟩]
    decide
  · have e : σ v = σ0 v := by
      rcases s6 v with e | ⟨j, g1, g2, g3⟩
      · exact e
      · exact absurd ⟨j, g1, by omega, g3⟩ hj
    rw [hv.2 (fun j g1 g2 g3 => hj ⟨j, g1, g2, g3⟩), ← e, pz_vs_te te, pz_cs_te te]
    exact s1 v
/-- what the class keeps between matches -/
theorem pz_cI0 {nb : Nat} (h1 : pz_sp mi F σ) (h2 : pz_gd σ) (h3 : pz_cS mi F (mi 150 6) σ) (h4 : mi 150 5 = (nb : Int)) : pz_cI mi F σ σ nb := ⟨h1, h2, h3, by omega, fun j g1 g2 => absurd g2 (by omega), fun v => .inl rfl⟩
/-- how judge ends -/
def pz_jQ (n0 : Nat) (ml : Nat → Nat → Int64) (mr : Nat → Nat → Option Nat) (c s : Nat) (F : Int) (σ : Nat → Option Nat) (nb : Nat) (mi : Nat → Nat → Int) (x : Option pz_mE) : pz_O → pz_H → Prop := fun o h => ∃ mi' b, (o = .inl (some (.inl b)) ∧ h = pz_hp n0 mi' ml mr c s) ∧ pz_fr [150, 151, 152, 153, 154, 155, 156, 157, 158] [] mi mi' ∧ (b = 0 ∨ b = 1 ∨ b = 2) ∧ pz_lo nb mi mi' ∧ mi' 150 6 = mi 150 6 ∧ match x with
  | none => (mi' 155 5 = 501 ∨ mi' 150 5 = 1001) ∧ (0 ≤ mi' 155 5 ∧ mi' 155 5 ≤ 501) ∧ (nb : Int) ≤ mi' 150 5 ∧ mi' 150 5 ≤ 1001
  | some (q, _, nb', _, r') => b = (if q then (if nb' = nb then 0 else 2) else 1) ∧ mi' 155 5 = 500 - (r' : Int) ∧ r' ≤ 500 ∧ mi' 150 5 = nb' ∧ nb ≤ nb' ∧ nb' ≤ 1000 ∧ pz_cI mi' F σ σ nb'
/-- Matcher.judge -/
theorem pz_judgeC (ht : pz_tm mi) (hF : F ≤ 40) {nb r : Nat} {x y : Int} (hx : pz_vs mi F x) (hy : pz_vs mi F y) (hr : r ≤ 500) (hl : mi 155 5 = 500 - (r : Int)) (hmd : mi 150 5 = (nb : Int)) (hnb : nb ≤ 1000) (hc : pz_cI mi F σ σ nb) :
    pz_Rn (d + 3) 59 (0, [], [(0, .inr (.inr (some 155))), (1, .inl x), (2, .inl y)], pz_hp n0 mi ml mr c s, true) (pz_jQ n0 ml mr c s F σ nb mi (pz_ma mi 501 σ nb [] r [(pz_cs mi x, pz_cs mi y)])) := by
  refine pz_g59_0 (fun x1 e1 x2 e2 => ?_)
  rw [hmd] at e2
  subst e2
  refine pz_Rn_e (Nat.le_refl _) (pz_matchC (d := d) ht hF hx hy hr hl hmd hnb hc) ?_
  rintro _ _ ⟨m1, b, ⟨rfl, rfl⟩, f1, hb, l1, hp⟩
  have te1 := pz_te_fr f1 (by decide) (by decide)
  have rng : (nb : Int) ≤ m1 150 5 ∧ m1 150 5 ≤ 1001 ∧ ∀ j : Nat, nb ≤ j → (j : Int) < m1 150 5 → 0 ≤ m1 151 j ∧ m1 151 j < 246 := by
    cases ex : pz_ma mi 501 σ nb [] r [(pz_cs mi x, pz_cs mi y)] with
    | none =>
      rw [ex] at hp
      exact hp.2.2
    | some z =>
      obtain ⟨q, σ', nb', tr', r'⟩ := z
      rw [ex] at hp
      obtain ⟨g1, g2, g3, g4, g5, g6⟩ := hp
      obtain ⟨s1, s2, s3, s4, s5, s6⟩ := g6
      refine ⟨s4, by omega, fun j h1 h2 => ?_⟩
      have := s5 j h1 h2
      omega
  have fin : ∀ (t : Int) (m2 : Nat → Nat → Int), (t = 1 ∧ m1 150 5 = nb ∨ t = 0 ∧ m1 150 5 ≠ nb) → pz_fr [150, 154] [] m1 m2 → m2 150 5 = m1 150 5 → m2 150 6 = x1 → pz_gb nb (m1 150 5).toNat m1 m2 → pz_Rn (d + 3) 59 (54, [], [(5, .inl b), (6, .inl t)], pz_hp n0 m2 ml mr c s, true) (pz_jQ n0 ml mr c s F σ nb mi (pz_ma mi 501 σ nb [] r [(pz_cs mi x, pz_cs mi y)])) := by
    intro t m2 htt f2 g5 g6 gg
    have te2 := pz_te_fr f2 (by decide) (by decide)
    have l2 : pz_lo nb mi m2 := pz_lo_trans l1 (pz_lo_eq (f2.1 151 (by decide) (by decide)) (f2.1 152 (by decide) (by decide)) (f2.1 153 (by decide) (by decide)))
    have F2 : pz_fr [150, 151, 152, 153, 154, 155, 156, 157, 158] [] mi m2 := pz_fr_trans f1 (pz_fr_sub (by decide) (by decide) f2)
    have e155 : m2 155 = m1 155 := f2.1 155 (by decide) (by decide)
    have key : ∀ b' : Int, (b = 0 → b' = 1) → (b ≠ 0 → t = 0 → b' = 2) → (b ≠ 0 → t ≠ 0 → b' = 0) → pz_jQ n0 ml mr c s F σ nb mi (pz_ma mi 501 σ nb [] r [(pz_cs mi x, pz_cs mi y)]) (.inl (some (.inl b'))) (pz_hp n0 m2 ml mr c s) := by
      intro b' h1 h2 h3
      refine ⟨m2, b', ⟨rfl, rfl⟩, F2, by omega, l2, by rw [g6, e1], ?_⟩
      cases ex : pz_ma mi 501 σ nb [] r [(pz_cs mi x, pz_cs mi y)] with
      | none =>
        rw [ex] at hp
        obtain ⟨o1, o2, o3, o4, o5⟩ := hp
        show (m2 155 5 = 501 ∨ m2 150 5 = 1001) ∧ (0 ≤ m2 155 5 ∧ m2 155 5 ≤ 501) ∧ (nb : Int) ≤ m2 150 5 ∧ m2 150 5 ≤ 1001
        rw [e155, g5]
        exact ⟨o1, o2, o3, o4⟩
      | some z =>
        obtain ⟨q, σ', nb', tr', r'⟩ := z
        rw [ex] at hp
        obtain ⟨o1, o2, o3, o4, o5, o6⟩ := hp
        have hsp := pz_gb_sp o6 te2 gg
        have s4 := o6.2.2.2.1
        show b' = (if q then (if nb' = nb then 0 else 2) else 1) ∧ m2 155 5 = 500 - (r' : Int) ∧ r' ≤ 500 ∧ m2 150 5 = nb' ∧ nb ≤ nb' ∧ nb' ≤ 1000 ∧ pz_cI m2 F σ σ nb'
        refine ⟨?_, by rw [e155]; exact o2, o3, by omega, by omega, o5, ?_⟩
        · cases q with
          | false =>
            have : b = 0 := o1
            rw [h1 this]
            rfl
          | true =>
            have hb1 : b = 1 := o1
            show b' = if nb' = nb then 0 else 2
            by_cases en : nb' = nb
            · rw [if_pos en]
              refine h3 (by omega) ?_
              omega
            · rw [if_neg en]
              refine h2 (by omega) ?_
              omega
        · refine pz_cI0 hsp hc.2.1 ?_ (by omega)
          rw [g6, e1]
          refine pz_cS_te (pz_te_trans te1 te2) (by omega) (fun j hj => ?_) hc.2.2.1
          exact l2 j (by omega)
    refine pz_g59_54 ⟨fun h1 => ⟨fun h2 => ?_, fun h2 => ?_⟩, fun h1 => ?_⟩
    · exact key 2 (fun h => absurd h h1) (fun _ _ => rfl) (fun _ h => absurd h2 h)
    · exact key 0 (fun h => absurd h h1) (fun _ h => absurd h h2) (fun _ _ => rfl)
    · exact key 1 (fun _ => rfl) (fun h => absurd h1 h) (fun h => absurd h1 h)
  refine pz_g59_23 ⟨fun h => ?_, fun h => ?_⟩
  · refine pz_Rn_e (d' := 0) (Nat.zero_le _) (pz_goBack rng.2.2 rng.2.1 rng.1) ?_
    rintro _ _ ⟨m2, ⟨rfl, rfl⟩, f2, g5, g6, gg⟩
    exact fin 0 m2 (.inr ⟨rfl, h⟩) f2 g5 g6 gg
  · refine pz_Rn_e (d' := 0) (Nat.zero_le _) (pz_goBack rng.2.2 rng.2.1 rng.1) ?_
    rintro _ _ ⟨m2, ⟨rfl, rfl⟩, f2, g5, g6, gg⟩
    exact fin 1 m2 (.inl ⟨rfl, h⟩) f2 g5 g6 gg
end pzg
