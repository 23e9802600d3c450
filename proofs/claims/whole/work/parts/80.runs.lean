/-! Runs of steps, without a heap; the class's run. -/
abbrev pz_Q1 : Type := Nat × Nat × Nat × (Nat → Nat × Nat) × Lean.RArray pz_tk
abbrev pz_QS : Type := Nat × Option pz_Q1 × List (Nat × (Nat → List Int)) × (Nat → Int)
def pz_fuB (res : Option (Nat × (Option (Lean.RArray pz_tk) × Option pz_an) × Nat × Nat × (Nat → Nat × Nat))) (K : Nat) : Bool := match res with
  | none => true
  | some (_, ra, _, _, _) => decide (60 < pz_sz ra.1) || (ra.2.isSome && decide (20 ≤ K))
theorem pz_fuB_iff {res : Option (Nat × (Option (Lean.RArray pz_tk) × Option pz_an) × Nat × Nat × (Nat → Nat × Nat))} {K : Nat} : pz_fuB res K = true ↔ pz_fu res K := by
  cases res with
  | none => exact ⟨fun _ => trivial, fun _ => rfl⟩
  | some z =>
    obtain ⟨F', ra, nb', N', k'⟩ := z
    obtain ⟨rt, ans⟩ := ra
    unfold pz_fuB pz_fu
    cases ans with
    | none => simp
    | some an => simp
/-- a step: whether it counts, whether an answer came, the question behind it -/
def pz_qst (mi : Nat → Nat → Int) (q : pz_Q1) (A : List (Nat × (Nat → List Int))) (cn : Nat → Int) : Bool × Bool × pz_QS := match pz_stp mi q.1 q.2.1 q.2.2.1 q.2.2.2.1 q.2.2.2.2 with
  | none => (false, false, 3, none, A, cn)
  | some (F', ra, nb', N', k') => if pz_fuB (some (F', ra, nb', N', k')) A.length = true then (false, false, 3, none, A, cn) else (true, ra.2.isSome, (match ra.1 with
      | none => 2
      | some _ => 1), (match ra.1 with
      | none => none
      | some t' => some (F', nb', N', k', t')), pz_A1 mi A ra.2 N' k', pz_c1 (pz_A1 mi A ra.2 N' k') ra.1 F' nb' N' (cn 7 + 1))
def pz_qrun (mi : Nat → Nat → Int) (n : Nat) (one : Bool) (Ω : pz_QS) : Nat × pz_QS := match n with
  | 0 => (0, Ω)
  | n + 1 => match Ω.2.1 with
    | none => (0, Ω)
    | some q => if (pz_qst mi q Ω.2.2.1 Ω.2.2.2).1 = true then (if (one && (pz_qst mi q Ω.2.2.1 Ω.2.2.2).2.1) = true then (1, (pz_qst mi q Ω.2.2.1 Ω.2.2.2).2.2) else ((pz_qrun mi n one (pz_qst mi q Ω.2.2.1 Ω.2.2.2).2.2).1 + 1, (pz_qrun mi n one (pz_qst mi q Ω.2.2.1 Ω.2.2.2).2.2).2)) else (0, (pz_qst mi q Ω.2.2.1 Ω.2.2.2).2.2)
/-- all that a run comes by may stand -/
def pz_QR (mi : Nat → Nat → Int) (n : Nat) (one : Bool) (Ω : pz_QS) : Prop := match n with
  | 0 => True
  | n + 1 => match Ω.2.1 with
    | none => True
    | some q => (∀ F' ra nb' N' k', pz_stp mi q.1 q.2.1 q.2.2.1 q.2.2.2.1 q.2.2.2.2 = some (F', ra, nb', N', k') → ¬ pz_fu (some (F', ra, nb', N', k')) Ω.2.2.1.length → pz_vx mi F' nb' N' ra) ∧ ((pz_qst mi q Ω.2.2.1 Ω.2.2.2).1 = true → (one && (pz_qst mi q Ω.2.2.1 Ω.2.2.2).2.1) ≠ true → pz_QR mi n one (pz_qst mi q Ω.2.2.1 Ω.2.2.2).2.2)
def pz_QV (mi : Nat → Nat → Int) (Ω : pz_QS) : Prop := match Ω.2.1 with
  | none => True
  | some q => pz_vT mi q.1 q.2.2.1 q.2.2.2.2 ∧ pz_sz (some q.2.2.2.2) ≤ 60
def pz_Qc (mi : Nat → Nat → Int) (ml : Nat → Nat → Int64) (mr : Nat → Nat → Option Nat) (st : Nat) (q : Option pz_Q1) : Prop := match q with
  | none => st ≠ 1
  | some q => st = 1 ∧ pz_R1 mi ml mr q.1 q.2.1 q.2.2.1 q.2.2.2.1 q.2.2.2.2
/-- the class's question -/
def pz_QC (mi : Nat → Nat → Int) (ml : Nat → Nat → Int64) (mr : Nat → Nat → Option Nat) (Ω : pz_QS) : Prop := mi 13 13 = (Ω.1 : Int) ∧ pz_AC mi Ω.2.2.1 ∧ (∀ j, j < 8 → mi 148 j = Ω.2.2.2 j) ∧ pz_Qc mi ml mr Ω.1 Ω.2.1
section pzV1
variable {d n0 : Nat} {mi mi' : Nat → Nat → Int} {ml ml' : Nat → Nat → Int64} {mr mr' : Nat → Nat → Option Nat} {c s : Nat}
theorem pz_vT_6 (h : mi 6 6 ≤ mi' 6 6) {F N : Nat} : ∀ {t : Lean.RArray pz_tk}, pz_vT mi F N t → pz_vT mi' F N t := by
  intro t
  induction t with
  | leaf x => exact fun hx => ⟨by have := hx.1; omega, hx.2⟩
  | branch k a b iha ihb =>
    intro hx
    cases k with
    | zero => exact ⟨iha hx.1, ihb hx.2⟩
    | succ k => exact ⟨by have := hx.1; omega, hx.2.1, iha hx.2.2⟩
theorem pz_QV_6 (h : mi 6 6 ≤ mi' 6 6) {Ω : pz_QS} (hv : pz_QV mi Ω) : pz_QV mi' Ω := by
  obtain ⟨st, q, A, cn⟩ := Ω
  cases q with
  | none => trivial
  | some q => exact ⟨pz_vT_6 h hv.1, hv.2⟩
theorem pz_stp_13 (h : ∀ p, (p < 13 ∨ 165 ≤ p) → mi' p = mi p) {F nb N : Nat} {k : Nat → Nat × Nat} {t : Lean.RArray pz_tk} : pz_stp mi' F nb N k t = pz_stp mi F nb N k t := by
  unfold pz_stp
  rw [pz_ts_13 h]
theorem pz_A1_te (te : pz_te mi mi') {A : List (Nat × (Nat → List Int))} {ans : Option pz_an} {N : Nat} {k : Nat → Nat × Nat} : pz_A1 mi' A ans N k = pz_A1 mi A ans N k := by
  cases ans with
  | none => rfl
  | some an =>
    show A ++ [pz_tl mi' an N k] = A ++ [pz_tl mi an N k]
    rw [pz_tl_te te]
/-- what a step makes, by whether it is refused -/
theorem pz_qst_fu {q : pz_Q1} {A : List (Nat × (Nat → List Int))} {cn : Nat → Int} (h : pz_fu (pz_stp mi q.1 q.2.1 q.2.2.1 q.2.2.2.1 q.2.2.2.2) A.length) : pz_qst mi q A cn = (false, false, 3, none, A, cn) := by
  unfold pz_qst
  cases e : pz_stp mi q.1 q.2.1 q.2.2.1 q.2.2.2.1 q.2.2.2.2 with
  | none => rfl
  | some z =>
    obtain ⟨F', ra, nb', N', k'⟩ := z
    rw [e] at h
    dsimp only
    rw [if_pos (pz_fuB_iff.mpr h)]
theorem pz_qst_nf {q : pz_Q1} {A : List (Nat × (Nat → List Int))} {cn : Nat → Int} {F' nb' N' : Nat} {ra : Option (Lean.RArray pz_tk) × Option pz_an} {k' : Nat → Nat × Nat} (e : pz_stp mi q.1 q.2.1 q.2.2.1 q.2.2.2.1 q.2.2.2.2 = some (F', ra, nb', N', k')) (h : ¬ pz_fu (some (F', ra, nb', N', k')) A.length) : pz_qst mi q A cn = (true, ra.2.isSome, (match ra.1 with
      | none => 2
      | some _ => 1), (match ra.1 with
      | none => none
      | some t' => some (F', nb', N', k', t')), pz_A1 mi A ra.2 N' k', pz_c1 (pz_A1 mi A ra.2 N' k') ra.1 F' nb' N' (cn 7 + 1)) := by
  unfold pz_qst
  rw [e]
  dsimp only
  rw [if_neg (fun hb => h (pz_fuB_iff.mp hb))]
set_option maxHeartbeats 1000000 in
/-- RelationStream.run, its loop -/
theorem pz_runC1 {mi0 : Nat → Nat → Int} {steps a2 : Int} {one : Bool} (ha2 : (a2 = 0 ∧ one = false) ∨ (a2 ≠ 0 ∧ one = true)) : ∀ (n done : Nat) (Ω : pz_QS) (mi : Nat → Nat → Int) (ml : Nat → Nat → Int64) (mr : Nat → Nat → Option Nat), (done : Int) + n = steps → steps ≤ 200 → (∀ p, (p < 13 ∨ 165 ≤ p) → mi p = mi0 p) → pz_QC mi ml mr Ω → pz_QV mi0 Ω → (0 ≤ Ω.2.2.2 7 ∧ Ω.2.2.2 7 ≤ 1000000 - (n : Int)) →
    pz_Rn (d + 7) 80 (42, [], [(0, .inr (.inr (some 1))), (1, .inl steps), (2, .inl a2), (3, .inl (done : Int)), (4, .inl 0)], pz_hp n0 mi ml mr c s, true) (fun o h => ∃ mi' ml' mr', (o = .inl (some (.inl ((done + (pz_qrun mi0 n one Ω).1 : Nat) : Int))) ∧ h = pz_hp n0 mi' ml' mr' c s) ∧ pz_cf mi ml mi' ml' ∧ pz_QC mi' ml' mr' (pz_qrun mi0 n one Ω).2 ∧ pz_QV mi0 (pz_qrun mi0 n one Ω).2 ∧ pz_QR mi0 n one Ω ∧ (0 ≤ (pz_qrun mi0 n one Ω).2.2.2.2 7 ∧ (pz_qrun mi0 n one Ω).2.2.2.2 7 ≤ Ω.2.2.2 7 + (n : Int))) := by
  intro n
  induction n with
  | zero =>
    intro done Ω mi ml mr hd hst h13 hQ hV h7
    have e : pz_qrun mi0 0 one Ω = (0, Ω) := rfl
    rw [e]
    exact pz_g80_42 ⟨fun _ => ⟨mi, ml, mr, ⟨rfl, rfl⟩, ⟨fun _ _ => rfl, fun _ _ => rfl⟩, hQ, hV, trivial, h7.1, by show Ω.2.2.2 7 ≤ Ω.2.2.2 7 + ((0 : Nat) : Int); omega⟩, fun h => absurd h (by omega)⟩
  | succ n ih =>
    intro done Ω mi ml mr hd hst h13 hQ hV h7
    obtain ⟨st, q, A, cn⟩ := Ω
    obtain ⟨c1, c2, c3, c4⟩ := hQ
    refine pz_g80_42 ⟨fun h => absurd h (by omega), fun _ => ⟨fun h => absurd rfl h, fun _ => ?_⟩⟩
    cases q with
    | none =>
      have e : pz_qrun mi0 (n + 1) one (st, none, A, cn) = (0, (st, none, A, cn)) := rfl
      rw [e]
      have hst1 : mi 13 13 ≠ 1 := by
        have h1 : mi 13 13 = (st : Int) := c1
        have h2 : st ≠ 1 := c4
        omega
      refine pz_Rn_c (d' := d + 6) (v := some (.inl 0)) (H := pz_hp n0 mi ml mr c s) (by omega) (pz_g79_0 ⟨fun _ => ⟨rfl, rfl⟩, fun h => absurd h hst1⟩) ?_
      refine pz_g80_59 ⟨fun _ => ⟨mi, ml, mr, ⟨rfl, rfl⟩, ⟨fun _ _ => rfl, fun _ _ => rfl⟩, ⟨c1, c2, c3, c4⟩, hV, trivial, ?_⟩, fun h => absurd rfl h⟩
      have h7' : 0 ≤ cn 7 ∧ cn 7 ≤ 1000000 - ((n + 1 : Nat) : Int) := h7
      show 0 ≤ cn 7 ∧ cn 7 ≤ cn 7 + ((n + 1 : Nat) : Int)
      omega
    | some q =>
      obtain ⟨hst1, hR1⟩ := c4
      have hv : pz_vT mi q.1 q.2.2.1 q.2.2.2.2 := pz_vT_6 (by rw [h13 6 (by decide)]; exact Int.le_refl _) hV.1
      have h7' : 0 ≤ cn 7 ∧ cn 7 ≤ 1000000 - ((n + 1 : Nat) : Int) := h7
      have h148 : mi 148 7 = cn 7 := c3 7 (by decide)
      have te := pz_te_13 h13
      have stp := pz_stepC (d := d) (n0 := n0) (c := c) (s := s) (A := A) hR1 c2 hv hV.2 (by rw [h148]; omega)
      rw [pz_stp_13 h13] at stp
      refine pz_Rn_e (Nat.le_refl _) stp ?_
      rintro _ _ ⟨m1, l1, r1, b, ⟨rfl, rfl⟩, cf, hfu, hnf⟩
      have h13' : ∀ p, (p < 13 ∨ 165 ≤ p) → m1 p = mi0 p := fun p hp => (cf.1 p hp).trans (h13 p hp)
      have eR : pz_qrun mi0 (n + 1) one (st, some q, A, cn) = if (pz_qst mi0 q A cn).1 = true then (if (one && (pz_qst mi0 q A cn).2.1) = true then (1, (pz_qst mi0 q A cn).2.2) else ((pz_qrun mi0 n one (pz_qst mi0 q A cn).2.2).1 + 1, (pz_qrun mi0 n one (pz_qst mi0 q A cn).2.2).2)) else (0, (pz_qst mi0 q A cn).2.2) := rfl
      have eV : pz_QR mi0 (n + 1) one (st, some q, A, cn) = ((∀ F' ra nb' N' k', pz_stp mi0 q.1 q.2.1 q.2.2.1 q.2.2.2.1 q.2.2.2.2 = some (F', ra, nb', N', k') → ¬ pz_fu (some (F', ra, nb', N', k')) A.length → pz_vx mi0 F' nb' N' ra) ∧ ((pz_qst mi0 q A cn).1 = true → (one && (pz_qst mi0 q A cn).2.1) ≠ true → pz_QR mi0 n one (pz_qst mi0 q A cn).2.2)) := rfl
      by_cases hf : pz_fu (pz_stp mi0 q.1 q.2.1 q.2.2.1 q.2.2.2.1 q.2.2.2.2) A.length
      · obtain ⟨b0, s3, e148, ac⟩ := hfu hf
        subst b0
        rw [eR, eV, pz_qst_fu hf, if_neg (fun h => nomatch h)]
        refine pz_g80_59 ⟨fun _ => ⟨m1, l1, r1, ⟨rfl, rfl⟩, cf, ⟨s3, ac, ?_, ?_⟩, trivial, ⟨?_, ?_⟩, ?_⟩, fun h => absurd rfl h⟩
        · intro j hj
          rw [e148]
          exact c3 j hj
        · show (3 : Nat) ≠ 1
          decide
        · intro F' ra nb' N' k' e hn
          rw [e] at hf
          exact absurd hf hn
        · intro h
          exact nomatch h
        · show 0 ≤ cn 7 ∧ cn 7 ≤ cn 7 + ((n + 1 : Nat) : Int)
          omega
      · obtain ⟨F', ra, nb', N', k', es, b1, ac, a14, cnt, rE, vx⟩ := hnf hf
        subst b1
        rw [es] at hf
        have vx0 : pz_vx mi0 F' nb' N' ra := by
          obtain ⟨x1, x2⟩ := vx
          refine ⟨?_, x2⟩
          cases er : ra.1 with
          | none => trivial
          | some t' =>
            rw [er] at x1
            exact pz_vT_6 (by rw [h13 6 (by decide)]; exact Int.le_refl _) x1
        rw [pz_A1_te te] at ac cnt
        have hq := pz_qst_nf (mi := mi0) (q := q) (A := A) (cn := cn) es hf
        have hQ1 : pz_QC m1 l1 r1 (pz_qst mi0 q A cn).2.2 := by
          rw [hq]
          refine ⟨?_, ac, fun j hj => ?_, ?_⟩
          · cases er : ra.1 with
            | none =>
              rw [er] at rE
              exact rE
            | some t' =>
              rw [er] at rE
              exact rE.2.1
          · rw [cnt j hj, h148]
          · cases er : ra.1 with
            | none =>
              show (2 : Nat) ≠ 1
              decide
            | some t' =>
              rw [er] at rE
              exact ⟨rfl, rE⟩
        have hV1 : pz_QV mi0 (pz_qst mi0 q A cn).2.2 := by
          rw [hq]
          cases er : ra.1 with
          | none => trivial
          | some t' =>
            have x1 := vx0.1
            rw [er] at x1
            refine ⟨x1, ?_⟩
            apply Classical.byContradiction
            intro hgt
            refine hf (.inl ?_)
            rw [er]
            have : ¬ pz_sz (some t') ≤ 60 := hgt
            omega
        have h71 : (pz_qst mi0 q A cn).2.2.2.2.2 7 = cn 7 + 1 := by
          rw [hq]
          rfl
        have hc1 : (pz_qst mi0 q A cn).1 = true := by rw [hq]
        have hans : (pz_qst mi0 q A cn).2.1 = ra.2.isSome := by rw [hq]
        have eVV : (∀ F' ra nb' N' k', pz_stp mi0 q.1 q.2.1 q.2.2.1 q.2.2.2.1 q.2.2.2.2 = some (F', ra, nb', N', k') → ¬ pz_fu (some (F', ra, nb', N', k')) A.length → pz_vx mi0 F' nb' N' ra) := by
          intro F2 ra2 nb2 N2 k2 e2 hn2
          rw [es] at e2
          cases e2
          exact vx0
        rw [eR, eV, if_pos hc1]
        have more : (one && (pz_qst mi0 q A cn).2.1) ≠ true → pz_Rn (d + 6 + 1) 80 (42, [], [(0, .inr (.inr (some 1))), (1, .inl steps), (2, .inl a2), (3, .inl ((done : Int) + 1)), (4, .inl 0)], pz_hp n0 m1 l1 r1 c s, true) (fun o h => ∃ mi' ml' mr', (o = .inl (some (.inl ((done + (if (one && (pz_qst mi0 q A cn).2.1) = true then (1, (pz_qst mi0 q A cn).2.2) else ((pz_qrun mi0 n one (pz_qst mi0 q A cn).2.2).1 + 1, (pz_qrun mi0 n one (pz_qst mi0 q A cn).2.2).2)).1 : Nat) : Int))) ∧ h = pz_hp n0 mi' ml' mr' c s) ∧ pz_cf mi ml mi' ml' ∧ pz_QC mi' ml' mr' (if (one && (pz_qst mi0 q A cn).2.1) = true then (1, (pz_qst mi0 q A cn).2.2) else ((pz_qrun mi0 n one (pz_qst mi0 q A cn).2.2).1 + 1, (pz_qrun mi0 n one (pz_qst mi0 q A cn).2.2).2)).2 ∧ pz_QV mi0 (if (one && (pz_qst mi0 q A cn).2.1) = true then (1, (pz_qst mi0 q A cn).2.2) else ((pz_qrun mi0 n one (pz_qst mi0 q A cn).2.2).1 + 1, (pz_qrun mi0 n one (pz_qst mi0 q A cn).2.2).2)).2 ∧ ((∀ F' ra nb' N' k', pz_stp mi0 q.1 q.2.1 q.2.2.1 q.2.2.2.1 q.2.2.2.2 = some (F', ra, nb', N', k') → ¬ pz_fu (some (F', ra, nb', N', k')) A.length → pz_vx mi0 F' nb' N' ra) ∧ ((pz_qst mi0 q A cn).1 = true → (one && (pz_qst mi0 q A cn).2.1) ≠ true → pz_QR mi0 n one (pz_qst mi0 q A cn).2.2)) ∧ (0 ≤ (if (one && (pz_qst mi0 q A cn).2.1) = true then (1, (pz_qst mi0 q A cn).2.2) else ((pz_qrun mi0 n one (pz_qst mi0 q A cn).2.2).1 + 1, (pz_qrun mi0 n one (pz_qst mi0 q A cn).2.2).2)).2.2.2.2 7 ∧ (if (one && (pz_qst mi0 q A cn).2.1) = true then (1, (pz_qst mi0 q A cn).2.2) else ((pz_qrun mi0 n one (pz_qst mi0 q A cn).2.2).1 + 1, (pz_qrun mi0 n one (pz_qst mi0 q A cn).2.2).2)).2.2.2.2 7 ≤ cn 7 + ((n + 1 : Nat) : Int))) := by
          intro hno
          rw [if_neg hno]
          have ed : (done : Int) + 1 = ((done + 1 : Nat) : Int) := by omega
          rw [ed]
          refine (ih (done + 1) (pz_qst mi0 q A cn).2.2 m1 l1 r1 (by omega) hst h13' hQ1 hV1 (by rw [h71]; omega)).mono (Nat.le_refl _) ?_
          rintro _ _ ⟨m2, l2, r2, ⟨rfl, rfl⟩, cf2, q2, v2, qr2, s2⟩
          rw [h71] at s2
          refine ⟨m2, l2, r2, ⟨?_, rfl⟩, ⟨fun p hp => (cf2.1 p hp).trans (cf.1 p hp), fun p hp => (cf2.2 p hp).trans (cf.2 p hp)⟩, q2, v2, ⟨eVV, fun _ _ => qr2⟩, s2.1, ?_⟩
          · congr 4
            dsimp only
            omega
          · have h2 := s2.2
            show (pz_qrun mi0 n one (pz_qst mi0 q A cn).2.2).2.2.2.2 7 ≤ cn 7 + ((n + 1 : Nat) : Int)
            omega
        refine pz_g80_59 ⟨fun h => absurd h (by decide), fun _ => ⟨by omega, fun h0 => more ?_, fun h0 => ⟨fun h14 => more ?_, fun h14 => ?_⟩⟩⟩
        · rcases ha2 with ⟨-, ho⟩ | ⟨h1, -⟩
          · rw [ho]
            simp
          · exact absurd h0 h1
        · rw [hans]
          rw [a14] at h14
          cases er : ra.2 with
          | none => simp
          | some an =>
            rw [er] at h14
            exact absurd h14 (show ¬ (1 : Int) = 0 by decide)
        · have ho : one = true := by
            rcases ha2 with ⟨h1, -⟩ | ⟨-, ho⟩
            · exact absurd h1 h0
            · exact ho
          have hs : ra.2.isSome = true := by
            rw [a14] at h14
            cases er : ra.2 with
            | none =>
              rw [er] at h14
              exact absurd rfl h14
            | some an => rfl
          have hyes : (one && (pz_qst mi0 q A cn).2.1) = true := by
            rw [hans, ho, hs]
            rfl
          rw [if_pos hyes]
          have ed : (done : Int) + 1 = ((done + 1 : Nat) : Int) := by omega
          rw [ed]
          have fin : (fun (o : pz_O) (h : pz_H) => ∃ mi' ml' mr', (o = .inl (some (.inl ((done + 1 : Nat) : Int))) ∧ h = pz_hp n0 mi' ml' mr' c s) ∧ pz_cf mi ml mi' ml' ∧ pz_QC mi' ml' mr' (pz_qst mi0 q A cn).2.2 ∧ pz_QV mi0 (pz_qst mi0 q A cn).2.2 ∧ ((∀ F' ra nb' N' k', pz_stp mi0 q.1 q.2.1 q.2.2.1 q.2.2.2.1 q.2.2.2.2 = some (F', ra, nb', N', k') → ¬ pz_fu (some (F', ra, nb', N', k')) A.length → pz_vx mi0 F' nb' N' ra) ∧ ((pz_qst mi0 q A cn).1 = true → (one && (pz_qst mi0 q A cn).2.1) ≠ true → pz_QR mi0 n one (pz_qst mi0 q A cn).2.2)) ∧ (0 ≤ (pz_qst mi0 q A cn).2.2.2.2.2 7 ∧ (pz_qst mi0 q A cn).2.2.2.2.2 7 ≤ cn 7 + ((n + 1 : Nat) : Int))) (.inl (some (.inl ((done + 1 : Nat) : Int)))) (pz_hp n0 m1 l1 r1 c s) := ⟨m1, l1, r1, ⟨rfl, rfl⟩, cf, hQ1, hV1, ⟨eVV, fun _ hno => absurd hyes hno⟩, by rw [h71]; omega⟩
          exact pz_g80_42 ⟨fun _ => fin, fun _ => ⟨fun _ => fin, fun h => absurd h (by decide)⟩⟩
end pzV1
