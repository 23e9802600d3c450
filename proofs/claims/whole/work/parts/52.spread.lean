/-! The class's spreadOut and matchTerms. -/
section pzo
variable {d n0 : Nat} {mi mi' : Nat → Nat → Int} {ml ml' : Nat → Nat → Int64} {mr : Nat → Nat → Option Nat} {c s : Nat} {F : Int} {σ : Nat → Option Nat}
theorem pz_fl154 {a : Int} : ∀ (n k : Nat) (mi : Nat → Nat → Int), k + n = 246 → pz_Rn d 25 (5, [], [(0, .inr (.inr (some 154))), (1, .inl a), (2, .inl (k : Int)), (3, .inl 246)], pz_hp n0 mi ml mr c s, true) (fun o h => ∃ mi', (o = .inl none ∧ h = pz_hp n0 mi' ml mr c s) ∧ pz_fr [154] [] mi mi' ∧ (∀ v, k ≤ v → v < 246 → mi' 154 v = a) ∧ ∀ v, v < k → mi' 154 v = mi 154 v) := by
  intro n
  induction n with
  | zero =>
    intro k mi hk
    exact pz_g25x154_5 ⟨fun _ => ⟨mi, ⟨rfl, rfl⟩, pz_fr_refl, fun v h1 h2 => absurd h2 (by omega), fun v _ => rfl⟩, fun h => absurd h (by omega)⟩
  | succ n ih =>
    intro k mi hk
    have ek : ((k : Int)).toNat = k := by omega
    have e1 : (k : Int) + 1 = ((k + 1 : Nat) : Int) := by omega
    refine pz_g25x154_5 ⟨fun h => absurd h (by omega), fun _ => ⟨by omega, by omega, ?_⟩⟩
    rw [ek, e1]
    refine (ih (k + 1) (pz_up mi 154 k a) (by omega)).mono (Nat.le_refl _) ?_
    rintro _ _ ⟨m, g1, g2, g3, g4⟩
    refine ⟨m, g1, pz_fr_trans (pz_fr_up (by decide) (by decide)) g2, fun v h1 h2 => ?_, fun v hv => ?_⟩
    · by_cases e : v = k
      · subst e
        rw [g4 v (by omega), pz_up_at]
      · exact g3 v (by omega) h2
    · rw [g4 v (by omega), pz_up_ot (by omega)]
theorem pz_lk_mem {l : List (Nat × Int)} {v : Nat} {x : Int} (h : pz_lk l v = some x) : (v, x) ∈ l := by
  induction l with
  | nil => cases h
  | cons e r ih =>
    unfold pz_lk at h
    split at h
    · rename_i he
      cases h
      rw [← he]
      exact List.mem_cons_self
    · exact List.mem_cons_of_mem _ (ih h)
theorem pz_lk_not {l : List (Nat × Int)} {v : Nat} (h : v ∉ l.map (fun e => e.1)) : pz_lk l v = none := by
  cases e : pz_lk l v with
  | none => rfl
  | some x => exact absurd (List.mem_map.mpr ⟨(v, x), pz_lk_mem e, rfl⟩) h
theorem pz_so1 : ∀ (l : List (Nat × Int)) (b : Int) (i : Nat) (mi : Nat → Nat → Int), pz_ch mi b l → (l.map (fun e => e.1)).Nodup → (∀ e ∈ l, e.1 < 246) → mi 150 5 ≤ 1001 → i + l.length ≤ 246 →
    pz_Rn (d + 1) 47 (17, [], [(0, .inr (.inr (some 150))), (2, .inl b), (3, .inl (i : Int))], pz_hp n0 mi ml mr c s, true) (fun o h => ∃ mi', (o = .inl none ∧ h = pz_hp n0 mi' ml mr c s) ∧ pz_fr [154] [] mi mi' ∧ ∀ v, mi' 154 v = (pz_lk l v).getD (mi 154 v)) := by
  intro l
  induction l with
  | nil =>
    intro b i mi hc hn hv hm hi
    have hb : b = -1 := hc
    have fin : (fun o h => ∃ mi', (o = .inl none ∧ h = pz_hp n0 mi' ml mr c s) ∧ pz_fr [154] [] mi mi' ∧ ∀ v, mi' 154 v = (pz_lk [] v).getD (mi 154 v)) (.inl none : pz_O) (pz_hp n0 mi ml mr c s) := ⟨mi, ⟨rfl, rfl⟩, pz_fr_refl, fun v => rfl⟩
    exact pz_g47_17 ⟨fun _ => fin, fun _ => ⟨fun _ => fin, fun h => absurd h (by omega)⟩⟩
  | cons e r ih =>
    intro b i mi hc hn hv hm hi
    unfold pz_ch at hc
    obtain ⟨c1, c2, c3, c4, c5⟩ := hc
    rw [List.map_cons, List.nodup_cons] at hn
    have he := hv e List.mem_cons_self
    rw [List.length_cons] at hi
    have e1 : (i : Int) + 1 = ((i + 1 : Nat) : Int) := by omega
    refine pz_g47_17 ⟨fun h => absurd h (by omega), fun _ => ⟨fun h => absurd h (by omega), fun _ => ⟨by omega, by omega, by omega, by omega, fun x ex => ⟨by omega, ?_⟩⟩⟩⟩
    subst ex
    rw [c3, c4, e1]
    have ee : ((e.1 : Int)).toNat = e.1 := by omega
    rw [ee]
    have f1 : pz_fr [154] [] mi (pz_up mi 154 e.1 e.2) := pz_fr_up (by decide) (by decide)
    have c5' : pz_ch (pz_up mi 154 e.1 e.2) (mi 153 b.toNat) r := by
      refine pz_ch_up ?_ (fun j hj => ⟨?_, ?_, ?_⟩) c5
      · rw [pz_upq (by decide)]
        exact Int.le_refl _
      · rw [pz_upq (by decide)]
      · rw [pz_upq (by decide)]
      · rw [pz_upq (by decide)]
    refine (ih (mi 153 b.toNat) (i + 1) _ c5' hn.2 (fun q hq => hv q (List.mem_cons_of_mem _ hq)) (by rw [pz_upq (by decide)]; exact hm) (by omega)).mono (Nat.le_refl _) ?_
    rintro _ _ ⟨m, g1, g2, g3⟩
    refine ⟨m, g1, pz_fr_trans f1 g2, fun v => ?_⟩
    rw [g3 v]
    have eu : pz_lk (e :: r) v = if e.1 = v then some e.2 else pz_lk r v := rfl
    rw [eu]
    by_cases hv2 : e.1 = v
    · subst hv2
      rw [if_pos rfl, pz_lk_not hn.1]
      show pz_up mi 154 e.1 e.2 154 e.1 = e.2
      exact pz_up_at
    · rw [if_neg hv2, pz_up_ot (fun h => hv2 h.symm)]
/-- Bindings.spreadOut -/
theorem pz_spreadC (hF : F ≤ 40) {b : Int} (h : pz_cS mi F b σ) (hm : mi 150 5 ≤ 1001) :
    pz_Rn (d + 1) 47 (0, [], [(0, .inr (.inr (some 150))), (1, .inl b)], pz_hp n0 mi ml mr c s, true) (fun o h => ∃ mi', (o = .inl none ∧ h = pz_hp n0 mi' ml mr c s) ∧ pz_fr [150, 154] [] mi mi' ∧ mi' 150 5 = mi 150 5 ∧ mi' 150 6 = b ∧ pz_sp mi' F σ) := by
  obtain ⟨l, g1, g2, g3, g4⟩ := h
  refine pz_g47_0 ?_
  refine pz_Rn_e (d' := 0) (Nat.zero_le _) (pz_g25x154_0 (pz_fl154 246 0 mi rfl)) ?_
  rintro _ _ ⟨m1, ⟨rfl, rfl⟩, f1, hf, -⟩
  refine pz_g47_8 ?_
  have f2 : pz_fr [150, 154] [] mi (pz_up m1 150 6 b) := pz_fr_trans (pz_fr_sub (by decide) (by decide) f1) (pz_fr_up (by decide) (by decide))
  have e0 : m1 150 = mi 150 := f1.1 150 (by decide) (by decide)
  have e5 : pz_up m1 150 6 b 150 5 = mi 150 5 := by rw [pz_up_ot (by decide), e0]
  have e6 : pz_up m1 150 6 b 150 6 = b := pz_up_at
  have e4 : ∀ v, v < 246 → pz_up m1 150 6 b 154 v = -1 := fun v hv => by rw [pz_upq (by decide)]; exact hf v (Nat.zero_le _) hv
  generalize pz_up m1 150 6 b = m2 at *
  have te2 := pz_te_fr f2 (by decide) (by decide)
  have hlen : l.length ≤ 240 := by
    have := pz_nd_len (N := 240) g2 (fun x hx => by
      obtain ⟨e, he, rfl⟩ := List.mem_map.mp hx
      have := (g3 e he).1
      show e.1 < 240
      omega)
    rw [List.length_map] at this
    exact this
  have hch : pz_ch m2 b l := pz_ch_up (by rw [e5]; exact Int.le_refl _) (fun j _ => ⟨by rw [f2.1 151 (by decide) (by decide)], by rw [f2.1 152 (by decide) (by decide)], by rw [f2.1 153 (by decide) (by decide)]⟩) g1
  refine (pz_so1 l b 0 m2 hch g2 (fun e he => by have := (g3 e he).1; omega) (by rw [e5]; exact hm) (by omega)).mono (Nat.le_refl _) ?_
  rintro _ _ ⟨m3, k1, k2, k3⟩
  refine ⟨m3, k1, pz_fr_trans f2 (pz_fr_sub (by decide) (by decide) k2), ?_, ?_, ?_⟩
  · rw [k2.1 150 (by decide) (by decide)]
    exact e5
  · rw [k2.1 150 (by decide) (by decide)]
    exact e6
  · have te3 := pz_te_trans te2 (pz_te_fr k2 (by decide) (by decide))
    intro v
    refine ⟨fun hv => ?_, fun hv => ?_⟩
    · rw [k3 v, g4 v, pz_vs_te te3, pz_cs_te te3]
      cases e : pz_lk l v with
      | none =>
        show m2 154 v < 0
        rw [e4 v hv]
        decide
      | some x => exact ⟨(g3 _ (pz_lk_mem e)).2, rfl⟩
    · rw [g4 v]
      cases e : pz_lk l v with
      | none => rfl
      | some x =>
        have := (g3 _ (pz_lk_mem e)).1
        exact absurd this (by show ¬ ((v : Int) < 6 * F); omega)
/-- a task's state, as the class keeps it -/
def pz_P1 (mi : Nat → Nat → Int) (F : Int) (g f b : Int) (lo hi : Int64) (x : Nat × Nat × (Nat → Option Nat) × Int64 × Int64) : Prop := g = (x.1 : Int) ∧ f = (x.2.1 : Int) ∧ pz_cS mi F b x.2.2.1 ∧ lo = x.2.2.2.1 ∧ hi = x.2.2.2.2
/-- what matchTerms leaves -/
def pz_tQ (n0 : Nat) (mr : Nat → Nat → Option Nat) (c s : Nat) (F : Int) (σ : Nat → Option Nat) (lo hi : Int64) (nb : Nat) (mi : Nat → Nat → Int) (ml : Nat → Nat → Int64) (x : Option pz_mE) : pz_O → pz_H → Prop := fun o h => ∃ mi' ml' b, (o = .inl (some (.inl b)) ∧ h = pz_hp n0 mi' ml' mr c s) ∧ pz_fr [149, 150, 151, 152, 153, 154, 155, 156, 157, 158] [] mi mi' ∧ (b = 0 ∨ b = 1) ∧ pz_lo nb mi mi' ∧ (∀ p, p ≠ 149 → ml' p = ml p) ∧ ml' 149 1 = lo ∧ ml' 149 2 = hi ∧ match x with
  | none => pz_ov1 mi' nb
  | some (q, σ', nb', _, r') => b = (if q then 1 else 0) ∧ mi' 155 5 = 500 - (r' : Int) ∧ r' ≤ 500 ∧ mi' 150 5 = nb' ∧ nb ≤ nb' ∧ nb' ≤ 1000 ∧ pz_cI mi' F σ' σ' nb' ∧ mi' 149 0 = mi' 150 6
theorem pz_copyC {p q : Nat} (hp : pz_sd p) (hq : pz_sd q) (hne : q ≠ p) : pz_Rn d 33 (0, [], [(0, .inr (.inr (some p))), (1, .inr (.inr (some q)))], pz_hp n0 mi ml mr c s, true) (fun o h => o = .inl none ∧ h = pz_hp n0 (pz_up mi p 0 (mi q 0)) (pz_lg2 ml p (ml q 1, ml q 2)) mr c s) := by
  refine pz_g33_0 hp hq ⟨rfl, ?_⟩
  have e : pz_up ml p 1 (ml q 1) q 2 = ml q 2 := by rw [pz_upq hne]
  rw [e]
  rfl
theorem pz_lg2_f {p : Nat} {z : Int64 × Int64} : pz_lg2 ml p z p 1 = z.1 ∧ pz_lg2 ml p z p 2 = z.2 ∧ ∀ q, q ≠ p → pz_lg2 ml p z q = ml q := by
  unfold pz_lg2
  refine ⟨?_, ?_, fun q hq => ?_⟩
  · rw [pz_up_ot (by decide), pz_up_at]
  · rw [pz_up_at]
  · rw [pz_upq hq, pz_upq hq]
/-- a term in a frame, on both sides -/
theorem pz_vs_it (ht : pz_tm mi) {f t : Int} (h1 : 0 ≤ f ∧ f < F) (h2 : pz_isT mi t) : pz_vs mi F (f * 41 + t) := by
  have t2 := ht.2.1
  obtain ⟨h3, h4⟩ := h2
  refine ⟨by omega, by omega, .inl (by omega)⟩
/-- Question.matchTerms -/
theorem pz_termsC (ht : pz_tm mi) (hF : F ≤ 40) {q g f nb r : Nat} {one two : Int} (hq : pz_nd q) (hg : mi q 3 = (g : Int)) (hg4 : g < 40) (hf : mi q 4 = (f : Int)) (hfF : (f : Int) < F) (h8 : mi 8 g = one) (h9 : mi 9 g = two) (ho : pz_isT mi one) (htw : pz_isT mi two) (hS : pz_cS mi F (mi (q + 1) 0) σ) (hgd : pz_gd σ) (hr : r ≤ 500) (hl : mi 155 5 = 500 - (r : Int)) (hmd : mi 150 5 = (nb : Int)) (hnb : nb ≤ 1000) :
    pz_Rn (d + 3) 55 (0, [], [(0, .inr (.inr (some 13))), (1, .inr (.inr (some q)))], pz_hp n0 mi ml mr c s, true) (pz_tQ n0 mr c s F σ (ml (q + 1) 1) (ml (q + 1) 2) nb mi ml (pz_ma mi 501 σ nb [] r [(pz_cs mi (f * 41 + one), pz_cs mi (f * 41 + two))])) := by
  have hq1 : pz_sd (q + 1) := by
    obtain ⟨a1, a2, a3⟩ := hq
    exact .inr ⟨by omega, by omega, by omega⟩
  have hqn := hq
  obtain ⟨a1, a2, a3⟩ := hqn
  have t2 := ht.2.1
  refine pz_g55_0 ⟨q, rfl, hq, ?_⟩
  refine pz_Rn_c (d' := 0) (by omega) (pz_copyC (.inl rfl) hq1 (by omega)) ?_
  obtain ⟨l1, l2, l3⟩ := pz_lg2_f (ml := ml) (p := 149) (z := (ml (q + 1) 1, ml (q + 1) 2))
  generalize pz_lg2 ml 149 (ml (q + 1) 1, ml (q + 1) 2) = ml1 at *
  have f1 : pz_fr [149] [] mi (pz_up mi 149 0 (mi (q + 1) 0)) := pz_fr_up (by decide) (by decide)
  have te1 := pz_te_fr f1 (by decide) (by decide)
  generalize pz_up mi 149 0 (mi (q + 1) 0) = m1 at *
  refine pz_g55_11 ⟨q, rfl, hq, ?_⟩
  have e1 : ∀ p, p ≠ 149 → p ≠ 165 → m1 p = mi p := fun p h1 h2 => f1.1 p (by rw [List.mem_singleton]; exact h1) h2
  rw [e1 (q + 1) (by omega) (by omega)]
  have hS1 : pz_cS m1 F (mi (q + 1) 0) σ := pz_cS_te te1 (by rw [e1 150 (by decide) (by decide)]; exact Int.le_refl _) (fun j _ => ⟨by rw [e1 151 (by decide) (by decide)], by rw [e1 152 (by decide) (by decide)], by rw [e1 153 (by decide) (by decide)]⟩) hS
  refine pz_Rn_e (d' := 1) (by omega) (pz_spreadC (d := 0) hF hS1 (by rw [e1 150 (by decide) (by decide)]; omega)) ?_
  rintro _ _ ⟨m2, ⟨rfl, rfl⟩, f2, g5, g6, hsp⟩
  have te2 := pz_te_fr f2 (by decide) (by decide)
  have te12 := pz_te_trans te1 te2
  have e2 : ∀ p, p ≠ 149 → p ≠ 150 → p ≠ 154 → p ≠ 165 → m2 p = mi p := fun p h1 h2 h3 h4 => (f2.1 p (by simp [h2, h3]) h4).trans (e1 p h1 h4)
  have q2 : m2 q = mi q := e2 q (by omega) (by omega) (by omega) (by omega)
  have t28 : m2 8 = mi 8 := e2 8 (by decide) (by decide) (by decide) (by decide)
  have t29 : m2 9 = mi 9 := e2 9 (by decide) (by decide) (by decide) (by decide)
  have eg : ((g : Int)).toNat = g := by omega
  refine pz_g55_25 ⟨q, rfl, hq, ?_⟩
  rw [q2, hg, hf, eg, t28, h8]
  obtain ⟨o1, o2⟩ := ho
  obtain ⟨w1, w2⟩ := htw
  refine ⟨by omega, ?_⟩
  refine pz_Rn_c (d' := 0) (by omega) (pz_spot (by omega) (by omega)) ?_
  refine pz_g55_48 ⟨q, rfl, hq, ?_⟩
  rw [q2, hg, hf, eg, t29, h9]
  refine ⟨by omega, ?_⟩
  refine pz_Rn_c (d' := 0) (by omega) (pz_spot (by omega) (by omega)) ?_
  refine pz_g55_67 ?_
  have e155 : m2 155 = mi 155 := e2 155 (by decide) (by decide) (by decide) (by decide)
  have d2 : m2 150 5 = (nb : Int) := by rw [g5, e1 150 (by decide) (by decide)]; exact hmd
  have hS2 : pz_cS m2 F (m2 150 6) σ := by
    rw [g6]
    exact pz_cS_te te2 (by rw [g5]; exact Int.le_refl _) (fun j _ => ⟨by rw [f2.1 151 (by decide) (by decide)], by rw [f2.1 152 (by decide) (by decide)], by rw [f2.1 153 (by decide) (by decide)]⟩) hS1
  have hx : pz_vs m2 F ((f : Int) * 41 + one) := by
    rw [pz_vs_te te12]
    exact pz_vs_it ht (by omega) ⟨o1, o2⟩
  have hy : pz_vs m2 F ((f : Int) * 41 + two) := by
    rw [pz_vs_te te12]
    exact pz_vs_it ht (by omega) ⟨w1, w2⟩
  have hm := pz_matchC (d := d) (n0 := n0) (ml := ml1) (mr := mr) (c := c) (s := s) (pz_tm_te te12 ht) hF hx hy hr (by rw [e155]; exact hl) d2 hnb (pz_cI0 hsp hgd hS2 d2)
  rw [pz_ma_te te12, pz_cs_te te12] at hm
  refine pz_Rn_e (Nat.le_refl _) hm ?_
  rintro _ _ ⟨m3, b, ⟨rfl, rfl⟩, f3, hb, lo3, hp⟩
  have F3 : pz_fr [149, 150, 151, 152, 153, 154, 155, 156, 157, 158] [] mi m3 := pz_fr_trans (pz_fr_trans (pz_fr_sub (by decide) (by decide) f1) (pz_fr_sub (by decide) (by decide) f2)) (pz_fr_sub (by decide) (by decide) f3)
  have L3 : pz_lo nb mi m3 := pz_lo_trans (pz_lo_eq (e2 151 (by decide) (by decide) (by decide) (by decide)) (e2 152 (by decide) (by decide) (by decide) (by decide)) (e2 153 (by decide) (by decide) (by decide) (by decide))) lo3
  have f4 : pz_fr [149] [] m3 (pz_up m3 149 0 (m3 150 6)) := pz_fr_up (by decide) (by decide)
  have e4 : ∀ p, p ≠ 149 → p ≠ 165 → pz_up m3 149 0 (m3 150 6) p = m3 p := fun p h1 h2 => f4.1 p (by rw [List.mem_singleton]; exact h1) h2
  refine pz_g55_70 ⟨hb, _, ml1, b, ⟨rfl, rfl⟩, pz_fr_trans F3 (pz_fr_sub (by decide) (by decide) f4), hb, pz_lo_trans L3 (pz_lo_eq (e4 151 (by decide) (by decide)) (e4 152 (by decide) (by decide)) (e4 153 (by decide) (by decide))), l3, l1, l2, ?_⟩
  cases ex : pz_ma mi 501 σ nb [] r [(pz_cs mi (f * 41 + one), pz_cs mi (f * 41 + two))] with
  | none =>
    rw [ex] at hp
    show pz_ov1 _ nb
    unfold pz_ov1
    rw [e4 155 (by decide) (by decide), e4 150 (by decide) (by decide)]
    exact ⟨hp.1, hp.2.1, hp.2.2.1, hp.2.2.2.1⟩
  | some z =>
    obtain ⟨qq, σ', nb', tr', r'⟩ := z
    rw [ex] at hp
    obtain ⟨u1, u2, u3, u4, u5, u6⟩ := hp
    have s4 := u6.2.2.2.1
    refine ⟨u1, by rw [e4 155 (by decide) (by decide)]; exact u2, u3, by rw [e4 150 (by decide) (by decide)]; exact u4, by omega, u5, ?_, ?_⟩
    · refine pz_cI_te (pz_te_fr f4 (by decide) (by decide)) (e4 150 (by decide) (by decide)) (e4 151 (by decide) (by decide)) (e4 152 (by decide) (by decide)) (e4 153 (by decide) (by decide)) (e4 154 (by decide) (by decide)) ?_
      exact pz_cI0 u6.1 u6.2.1 u6.2.2.1 u4
    · rw [pz_up_at, e4 150 (by decide) (by decide)]
end pzo
