/-! The reference's run. -/
def pz_Qm (mi : Nat → Nat → Int) (ml : Nat → Nat → Int64) (st : Nat) (q : Option pz_Q1) : Prop := match q with
  | none => st ≠ 1
  | some q => st = 1 ∧ pz_R2 mi ml q.1 q.2.1 q.2.2.1 q.2.2.2.1 q.2.2.2.2
def pz_QM (mi : Nat → Nat → Int) (ml : Nat → Nat → Int64) (Ω : pz_QS) : Prop := mi 165 14 = (Ω.1 : Int) ∧ pz_AM mi Ω.2.2.1 ∧ (∀ j, j < 8 → mi 189 j = Ω.2.2.2 j) ∧ pz_Qm mi ml Ω.1 Ω.2.1
/-- what the reference never touches while it runs: the class, terms, goals -/
def pz_mg (mi : Nat → Nat → Int) (ml : Nat → Nat → Int64) (mi' : Nat → Nat → Int) (ml' : Nat → Nat → Int64) : Prop := (∀ p, (p < 165 ∨ (165 < p ∧ p < 175)) → mi' p = mi p) ∧ (mi' 165 0 = mi 165 0 ∧ mi' 165 1 = mi 165 1 ∧ mi' 165 5 = mi 165 5) ∧ ∀ p, p ≠ 180 → p ≠ 181 → ml' p = ml p
section pzW1
variable {d n0 : Nat} {mi mi' : Nat → Nat → Int} {ml ml' : Nat → Nat → Int64} {mr : Nat → Nat → Option Nat} {c s : Nat}
theorem pz_mg_te (h : pz_mg mi ml mi' ml') : pz_te mi mi' := ⟨h.1 2 (by decide), h.1 3 (by decide), h.1 4 (by decide), h.1 5 (by decide), h.1 166 (by decide), h.1 167 (by decide), h.1 168 (by decide), h.2.1.2.1⟩
theorem pz_mg_gl (h : pz_mg mi ml mi' ml') (hg : pz_gl mi) : pz_gl mi' := by
  have g := h.1
  unfold pz_gl pz_gl1 pz_isT
  rw [g 2 (by decide), g 6 (by decide), g 7 (by decide), g 8 (by decide), g 9 (by decide), g 10 (by decide), g 11 (by decide), h.2.1.2.2, g 169 (by decide), g 170 (by decide), g 171 (by decide), g 172 (by decide), g 173 (by decide)]
  exact hg
theorem pz_mg_re (h : pz_mg mi ml mi' ml') (hg : pz_re4 mi) : pz_re4 mi' := by
  have g := h.1
  unfold pz_re4
  rw [g 6 (by decide), g 12 (by decide), g 174 (by decide)]
  exact hg
theorem pz_mg_ts (h : pz_mg mi ml mi' ml') {F nb N : Nat} {k : Nat → Nat × Nat} (x : pz_tk) : pz_ts mi' F nb N k x = pz_ts mi F nb N k x := by
  have te := pz_mg_te h
  have g := h.1
  unfold pz_ts
  rw [g 7 (by decide), g 8 (by decide), g 9 (by decide), g 10 (by decide), g 11 (by decide), g 12 (by decide), pz_cs_te te, pz_sm_te te, pz_df_te te]
theorem pz_mg_stp (h : pz_mg mi ml mi' ml') {F nb N : Nat} {k : Nat → Nat × Nat} {t : Lean.RArray pz_tk} : pz_stp mi' F nb N k t = pz_stp mi F nb N k t := by
  unfold pz_stp
  rw [pz_mg_ts h]
theorem pz_mg_refl : pz_mg mi ml mi ml := ⟨fun _ _ => rfl, ⟨rfl, rfl, rfl⟩, fun _ _ _ => rfl⟩
theorem pz_mg_trans {mi'' : Nat → Nat → Int} {ml'' : Nat → Nat → Int64} (h : pz_mg mi ml mi' ml') (h' : pz_mg mi' ml' mi'' ml'') : pz_mg mi ml mi'' ml'' := ⟨fun p hp => (h'.1 p hp).trans (h.1 p hp), ⟨h'.2.1.1.trans h.2.1.1, h'.2.1.2.1.trans h.2.1.2.1, h'.2.1.2.2.trans h.2.1.2.2⟩, fun p h1 h2 => (h'.2.2 p h1 h2).trans (h.2.2 p h1 h2)⟩
theorem pz_AM_fr {A : List (Nat × (Nat → List Int))} (h0 : mi' 189 0 = mi 189 0) (h1 : mi' 191 = mi 191) (h2 : mi' 192 = mi 192) (h3 : mi' 193 = mi 193) (ha : pz_AM mi A) : pz_AM mi' A := by
  unfold pz_AM pz_rM pz_E
  rw [h0, h1, h2, h3]
  exact ha
set_option maxHeartbeats 2000000 in
/-- the reference's run, its loop -/
theorem pz_runM1 {mi0 : Nat → Nat → Int} {ml0 : Nat → Nat → Int64} (w1 : pz_tm mi0) (w2 : pz_gl mi0) (w3 : pz_re4 mi0) {steps a2 : Int} {one : Bool} (ha2 : (a2 = 0 ∧ one = false) ∨ (a2 ≠ 0 ∧ one = true)) : ∀ (n done : Nat) (a4 : Int) (Ω : pz_QS) (mi : Nat → Nat → Int) (ml : Nat → Nat → Int64), (done : Int) + n = steps → steps ≤ 200 → (one = false ∨ a4 = 0) → pz_mg mi0 ml0 mi ml → pz_QM mi ml Ω → pz_QV mi0 Ω → pz_QR mi0 n one Ω → (0 ≤ Ω.2.2.2 7 ∧ Ω.2.2.2 7 ≤ 1000000 - (n : Int)) →
    pz_Rn (d + 10) 141 (45, [], [(0, .inr (.inr (some 165))), (1, .inl steps), (2, .inl a2), (3, .inl (done : Int)), (4, .inl a4)], pz_hp n0 mi ml mr c s, true) (fun o h => ∃ mi' ml', (o = .inl (some (.inl ((done + (pz_qrun mi0 n one Ω).1 : Nat) : Int))) ∧ h = pz_hp n0 mi' ml' mr c s) ∧ pz_mg mi0 ml0 mi' ml' ∧ pz_QM mi' ml' (pz_qrun mi0 n one Ω).2) := by
  intro n
  induction n with
  | zero =>
    intro done a4 Ω mi ml hd hst h4 hg hQ hV hR h7
    have e : pz_qrun mi0 0 one Ω = (0, Ω) := rfl
    rw [e]
    exact pz_g141_45 ⟨fun _ => ⟨mi, ml, ⟨rfl, rfl⟩, hg, hQ⟩, fun h => absurd h (by omega)⟩
  | succ n ih =>
    intro done a4 Ω mi ml hd hst h4 hg hQ hV hR h7
    obtain ⟨st, q, A, cn⟩ := Ω
    obtain ⟨c1, c2, c3, c4⟩ := hQ
    cases q with
    | none =>
      have e : pz_qrun mi0 (n + 1) one (st, none, A, cn) = (0, (st, none, A, cn)) := rfl
      rw [e]
      have hst1 : mi 165 14 ≠ 1 := by
        have h1 : mi 165 14 = (st : Int) := c1
        have h2 : st ≠ 1 := c4
        omega
      exact pz_g141_45 ⟨fun h => absurd h (by omega), fun _ => ⟨fun _ => ⟨mi, ml, ⟨rfl, rfl⟩, hg, c1, c2, c3, c4⟩, fun h => absurd h hst1⟩⟩
    | some q =>
      obtain ⟨hst1, hR1⟩ := c4
      have hs1 : mi 165 14 = 1 := by
        have h1 : mi 165 14 = (st : Int) := c1
        have h2 : st = 1 := hst1
        omega
      have h66 : mi 6 6 = mi0 6 6 := by rw [hg.1 6 (by decide)]
      have hv : pz_vT mi q.1 q.2.2.1 q.2.2.2.2 := pz_vT_6 (by omega) hV.1
      have h7' : 0 ≤ cn 7 ∧ cn 7 ≤ 1000000 - ((n + 1 : Nat) : Int) := h7
      obtain ⟨hVx, hRn⟩ := hR
      have te0 := pz_mg_te hg
      have sd := pz_stepM (d := d) (n0 := n0) (mr := mr) (c := c) (s := s) (K := A.length) hR1 hv hV.2 c2.1
      rw [pz_mg_stp hg] at sd
      have eR : pz_qrun mi0 (n + 1) one (st, some q, A, cn) = if (pz_qst mi0 q A cn).1 = true then (if (one && (pz_qst mi0 q A cn).2.1) = true then (1, (pz_qst mi0 q A cn).2.2) else ((pz_qrun mi0 n one (pz_qst mi0 q A cn).2.2).1 + 1, (pz_qrun mi0 n one (pz_qst mi0 q A cn).2.2).2)) else (0, (pz_qst mi0 q A cn).2.2) := rfl
      have body : pz_Rn (d + 9) 137 (0, [], [(0, .inr (.inr (some 165)))], pz_hp n0 mi ml mr c s, true) (pz_K (d + 9 + 1) 141 68 [] [(0, .inr (.inr (some 165))), (1, .inl steps), (2, .inl a2), (3, .inl (done : Int))] (fun o h => ∃ mi' ml', (o = .inl (some (.inl ((done + (pz_qrun mi0 (n + 1) one (st, some q, A, cn)).1 : Nat) : Int))) ∧ h = pz_hp n0 mi' ml' mr c s) ∧ pz_mg mi0 ml0 mi' ml' ∧ pz_QM mi' ml' (pz_qrun mi0 (n + 1) one (st, some q, A, cn)).2) true) := by
        refine pz_Rn_e (Nat.le_refl _) sd ?_
        rintro _ _ ⟨m1, l1, b, ⟨rfl, rfl⟩, mf, hfu, hnf⟩
        obtain ⟨mf1, mf2, mf3⟩ := mf
        have hg1 : pz_mg mi0 ml0 m1 l1 := ⟨fun p hp => (mf1 p (by omega)).trans (hg.1 p hp), ⟨(mf2 0 (by decide)).trans hg.2.1.1, (mf2 1 (by decide)).trans hg.2.1.2.1, (mf2 5 (by decide)).trans hg.2.1.2.2⟩, fun p h1 h2 => (mf3 p h1 h2).trans (hg.2.2 p h1 h2)⟩
        by_cases hf : pz_fu (pz_stp mi0 q.1 q.2.1 q.2.2.1 q.2.2.2.1 q.2.2.2.2) A.length
        · have b0 := hfu hf
          subst b0
          rw [eR, pz_qst_fu hf, if_neg (fun h => nomatch h)]
          refine pz_g141_71 ⟨fun h => absurd rfl h, fun _ => ⟨_, l1, ⟨rfl, rfl⟩, ⟨fun p hp => ?_, ⟨?_, ?_, ?_⟩, hg1.2.2⟩, pz_up_at, ?_, fun j hj => ?_, ?_⟩⟩
          · rw [pz_upq (by omega)]
            exact hg1.1 p hp
          · rw [pz_up_ot (by decide)]
            exact hg1.2.1.1
          · rw [pz_up_ot (by decide)]
            exact hg1.2.1.2.1
          · rw [pz_up_ot (by decide)]
            exact hg1.2.1.2.2
          · refine pz_AM_fr ?_ ?_ ?_ ?_ c2
            · rw [pz_upq (by decide), mf1 189 (by decide)]
            · rw [pz_upq (by decide), mf1 191 (by decide)]
            · rw [pz_upq (by decide), mf1 192 (by decide)]
            · rw [pz_upq (by decide), mf1 193 (by decide)]
          · rw [pz_upq (by decide), mf1 189 (by decide)]
            exact c3 j hj
          · show (3 : Nat) ≠ 1
            decide
        · obtain ⟨F', ra, nb', N', k', es, b1, n1, n2, n3, e28, e29, mn1, am1, X1, A1, mm1, v1, lf1⟩ := hnf hf
          subst b1
          have hf' := hf
          rw [es] at hf'
          have hvx := hVx F' ra nb' N' k' es hf'
          obtain ⟨x1, x2, x3, x4, x5, x6⟩ := hvx
          have hq := pz_qst_nf (mi := mi0) (q := q) (A := A) (cn := cn) es hf'
          have hc1 : (pz_qst mi0 q A cn).1 = true := by rw [hq]
          have hans : (pz_qst mi0 q A cn).2.1 = ra.2.isSome := by rw [hq]
          have h71 : (pz_qst mi0 q A cn).2.2.2.2.2 7 = cn 7 + 1 := by
            rw [hq]
            rfl
          have hV1 : pz_QV mi0 (pz_qst mi0 q A cn).2.2 := by
            rw [hq]
            cases er : ra.1 with
            | none => trivial
            | some t' =>
              rw [er] at x1
              refine ⟨x1, ?_⟩
              apply Classical.byContradiction
              intro hgt
              refine hf' (.inl ?_)
              rw [er]
              have : ¬ pz_sz (some t') ≤ 60 := hgt
              omega
          have ed : (done : Int) + 1 = ((done + 1 : Nat) : Int) := by omega
          -- on to the loop's head, with what the step left
          have next : ∀ (m5 : Nat → Nat → Int) (f5 : Int), (ra.2 = none → f5 = 0) → pz_mg mi0 ml0 m5 l1 → pz_QM m5 l1 (pz_qst mi0 q A cn).2.2 → (f5 = 0 ∨ f5 = 1) → (ra.2 ≠ none → f5 = 1) → pz_Rn (d + 9 + 1) 141 (45, [], [(0, .inr (.inr (some 165))), (1, .inl steps), (2, .inl a2), (3, .inl ((done : Int) + 1)), (4, .inl f5)], pz_hp n0 m5 l1 mr c s, true) (fun o h => ∃ mi' ml', (o = .inl (some (.inl ((done + (pz_qrun mi0 (n + 1) one (st, some q, A, cn)).1 : Nat) : Int))) ∧ h = pz_hp n0 mi' ml' mr c s) ∧ pz_mg mi0 ml0 mi' ml' ∧ pz_QM mi' ml' (pz_qrun mi0 (n + 1) one (st, some q, A, cn)).2) := by
            intro m5 f5 hf5 hg5 hQ5 hf01 hf51
            rw [eR, if_pos hc1, ed]
            by_cases hyes : (one && (pz_qst mi0 q A cn).2.1) = true
            · rw [if_pos hyes]
              have ho : one = true := by
                cases one with
                | true => rfl
                | false => exact absurd hyes (by simp)
              have hs : ra.2 ≠ none := by
                rw [hans] at hyes
                intro e
                rw [e] at hyes
                exact absurd hyes (by simp)
              have h51 := hf51 hs
              have fin : (fun (o : pz_O) (h : pz_H) => ∃ mi' ml', (o = .inl (some (.inl ((done + 1 : Nat) : Int))) ∧ h = pz_hp n0 mi' ml' mr c s) ∧ pz_mg mi0 ml0 mi' ml' ∧ pz_QM mi' ml' (pz_qst mi0 q A cn).2.2) (.inl (some (.inl ((done + 1 : Nat) : Int)))) (pz_hp n0 m5 l1 mr c s) := ⟨m5, l1, ⟨rfl, rfl⟩, hg5, hQ5⟩
              refine pz_g141_45 ⟨fun _ => fin, fun _ => ⟨fun _ => fin, fun _ => ⟨fun h0 => ?_, fun _ => ⟨fun _ => fin, fun h0 => absurd h0 (by omega)⟩⟩⟩⟩
              rcases ha2 with ⟨-, ho2⟩ | ⟨h1, -⟩
              · rw [ho] at ho2
                exact nomatch ho2
              · exact absurd h0 h1
            · rw [if_neg hyes]
              have hone : one = false ∨ f5 = 0 := by
                cases ho : one with
                | false => exact .inl rfl
                | true =>
                  refine .inr (hf5 ?_)
                  cases er : ra.2 with
                  | none => rfl
                  | some an =>
                    refine absurd ?_ hyes
                    rw [hans, er, ho]
                    rfl
              refine (ih (done + 1) f5 (pz_qst mi0 q A cn).2.2 m5 l1 (by omega) hst hone hg5 hQ5 hV1 (hRn hc1 hyes) (by rw [h71]; omega)).mono (Nat.le_refl _) ?_
              rintro _ _ ⟨m6, l6, ⟨rfl, rfl⟩, g1, g2⟩
              refine ⟨m6, l6, ⟨?_, rfl⟩, g1, g2⟩
              congr 4
              dsimp only
              omega
          -- what is left is the next question
          have qm : ∀ m5 : Nat → Nat → Int, pz_mg mi0 ml0 m5 l1 → (∀ p, (175 ≤ p ∧ p ≤ 185) → m5 p = m1 p) → m5 165 12 = m1 165 12 → m5 165 13 = m1 165 13 → m5 165 24 = m1 165 24 → m5 165 28 = m1 165 28 → m5 165 29 = m1 165 29 → (ra.1 = none → m5 165 14 = 2) → (ra.1 ≠ none → m5 165 14 = 1) → pz_AM m5 (pz_A1 mi0 A ra.2 N' k') → (∀ j, j < 8 → m5 189 j = pz_c1 (pz_A1 mi0 A ra.2 N' k') ra.1 F' nb' N' (cn 7 + 1) j) → pz_QM m5 l1 (pz_qst mi0 q A cn).2.2 := by
            intro m5 hg5 p1 p12 p13 p24 p28 p29 p14 p14' pA pc
            rw [hq]
            have te5 := pz_mg_te hg5
            have te15 : pz_te m1 m5 := by
              have t1 := pz_mg_te hg1
              exact ⟨by rw [te5.1, t1.1], by rw [te5.2.1, t1.2.1], by rw [te5.2.2.1, t1.2.2.1], by rw [te5.2.2.2.1, t1.2.2.2.1], by rw [te5.2.2.2.2.1, t1.2.2.2.2.1], by rw [te5.2.2.2.2.2.1, t1.2.2.2.2.2.1], by rw [te5.2.2.2.2.2.2.1, t1.2.2.2.2.2.2.1], by rw [te5.2.2.2.2.2.2.2, t1.2.2.2.2.2.2.2]⟩
            cases er : ra.1 with
            | none =>
              refine ⟨?_, pA, ?_, ?_⟩
              · show m5 165 14 = ((2 : Nat) : Int)
                rw [p14 er]
                rfl
              · intro j hj
                have := pc j hj
                rw [er] at this
                exact this
              · show (2 : Nat) ≠ 1
                decide
            | some t' =>
              rw [er] at lf1
              obtain ⟨nn, hnn, hct⟩ := lf1
              refine ⟨?_, pA, ?_, rfl, ⟨pz_tm_te te5 w1, pz_mg_gl hg5 w2, pz_mg_re hg5 w3, ?_, x4, x3, ?_, x6, x5, ?_⟩, ?_, nn, X1, A1, mm1, ?_, ?_, ?_⟩
              · show m5 165 14 = ((1 : Nat) : Int)
                rw [p14' (by rw [er]; exact fun h => nomatch h)]
                rfl
              · intro j hj
                have := pc j hj
                rw [er] at this
                exact this
              · show m5 165 28 = (F' : Int)
                rw [p28]
                exact e28
              · show m5 165 29 = (nb' : Int)
                rw [p29]
                exact e29
              · exact pz_mn_te te15 p24 (p1 184 (by decide)) (p1 185 (by decide)) mn1
              · exact p14' (by rw [er]; exact fun h => nomatch h)
              · rw [p13]
                exact hnn
              · exact pz_mv_fr v1 p12 (fun v _ _ => by rw [p1 176 (by decide)])
              · exact pz_mT_P (fun _ _ _ _ _ _ h => pz_P2_te te15 h) _ _ _ (pz_mT_eq (fun p hp => p1 p (by omega)) hct)
          refine pz_g141_71 ⟨fun _ => ⟨by omega, ?_⟩, fun h => absurd h (by decide)⟩
          refine pz_g141_87 ⟨fun h => absurd h (by decide), fun _ => ⟨by decide, by decide, by decide, by decide, ?_⟩⟩
          refine pz_g141_87 ⟨fun h => absurd h (by decide), fun _ => ⟨by decide, by decide, by decide, by decide, ?_⟩⟩
          refine pz_g141_87 ⟨fun h => absurd h (by decide), fun _ => ⟨by decide, by decide, by decide, by decide, ?_⟩⟩
          have y0 : pz_up (pz_up (pz_up m1 189 ((1 : Int) + 0).toNat (m1 190 (0 : Int).toNat)) 189 ((1 : Int) + (0 + 1)).toNat (pz_up m1 189 ((1 : Int) + 0).toNat (m1 190 (0 : Int).toNat) 190 ((0 : Int) + 1).toNat)) 189 ((1 : Int) + (0 + 1 + 1)).toNat (pz_up (pz_up m1 189 ((1 : Int) + 0).toNat (m1 190 (0 : Int).toNat)) 189 ((1 : Int) + (0 + 1)).toNat (pz_up m1 189 ((1 : Int) + 0).toNat (m1 190 (0 : Int).toNat) 190 ((0 : Int) + 1).toNat) 190 ((0 : Int) + 1 + 1).toNat) = pz_up (pz_up (pz_up m1 189 1 (m1 190 0)) 189 2 (m1 190 1)) 189 3 (m1 190 2) := rfl
          rw [y0, n1, n2, n3]
          have y1 : ∀ p, p ≠ 189 → pz_up (pz_up (pz_up m1 189 1 ((pz_nO ra.1).1 : Int)) 189 2 ((pz_nO ra.1).2.1 : Int)) 189 3 ((pz_nO ra.1).2.2 : Int) p = m1 p := fun p hp => by rw [pz_upq hp, pz_upq hp, pz_upq hp]
          have y3 : pz_up (pz_up (pz_up m1 189 1 ((pz_nO ra.1).1 : Int)) 189 2 ((pz_nO ra.1).2.1 : Int)) 189 3 ((pz_nO ra.1).2.2 : Int) 189 0 = m1 189 0 ∧ pz_up (pz_up (pz_up m1 189 1 ((pz_nO ra.1).1 : Int)) 189 2 ((pz_nO ra.1).2.1 : Int)) 189 3 ((pz_nO ra.1).2.2 : Int) 189 1 = ((pz_nO ra.1).1 : Int) ∧ pz_up (pz_up (pz_up m1 189 1 ((pz_nO ra.1).1 : Int)) 189 2 ((pz_nO ra.1).2.1 : Int)) 189 3 ((pz_nO ra.1).2.2 : Int) 189 2 = ((pz_nO ra.1).2.1 : Int) ∧ pz_up (pz_up (pz_up m1 189 1 ((pz_nO ra.1).1 : Int)) 189 2 ((pz_nO ra.1).2.1 : Int)) 189 3 ((pz_nO ra.1).2.2 : Int) 189 3 = ((pz_nO ra.1).2.2 : Int) ∧ pz_up (pz_up (pz_up m1 189 1 ((pz_nO ra.1).1 : Int)) 189 2 ((pz_nO ra.1).2.1 : Int)) 189 3 ((pz_nO ra.1).2.2 : Int) 189 7 = m1 189 7 := ⟨rfl, rfl, rfl, rfl, rfl⟩
          generalize pz_up (pz_up (pz_up m1 189 1 ((pz_nO ra.1).1 : Int)) 189 2 ((pz_nO ra.1).2.1 : Int)) 189 3 ((pz_nO ra.1).2.2 : Int) = m2 at *
          obtain ⟨y30, y31, y32, y33, y37⟩ := y3
          have c7 : m2 189 7 = cn 7 := by rw [y37, mf1 189 (by decide)]; exact c3 7 (by decide)
          have e24 : m2 165 24 = (N' : Int) := by rw [y1 165 (by decide)]; exact mn1.1
          have e28' : m2 165 28 = (F' : Int) := by rw [y1 165 (by decide)]; exact e28
          have e29' : m2 165 29 = (nb' : Int) := by rw [y1 165 (by decide)]; exact e29
          refine pz_g141_87 ⟨fun _ => ⟨by omega, ?_⟩, fun h => absurd h (by decide)⟩
          rw [e24, e28', e29', c7]
          have z1 : ∀ p, p ≠ 189 → pz_up (pz_up (pz_up (pz_up m2 189 4 (F' : Int)) 189 5 (nb' : Int)) 189 6 (N' : Int)) 189 7 (cn 7 + 1) p = m1 p := fun p hp => by rw [pz_upq hp, pz_upq hp, pz_upq hp, pz_upq hp, y1 p hp]
          have z3 : pz_up (pz_up (pz_up (pz_up m2 189 4 (F' : Int)) 189 5 (nb' : Int)) 189 6 (N' : Int)) 189 7 (cn 7 + 1) 189 0 = m1 189 0 := y30
          have z4 : ∀ j, j < 8 → j ≠ 0 → ∀ A' : List (Nat × (Nat → List Int)), pz_up (pz_up (pz_up (pz_up m2 189 4 (F' : Int)) 189 5 (nb' : Int)) 189 6 (N' : Int)) 189 7 (cn 7 + 1) 189 j = pz_c1 A' ra.1 F' nb' N' (cn 7 + 1) j := by
            intro j hj hj0 A'
            match j, hj with
            | 0, _ => exact absurd rfl hj0
            | 1, _ => exact y31
            | 2, _ => exact y32
            | 3, _ => exact y33
            | 4, _ => rfl
            | 5, _ => rfl
            | 6, _ => rfl
            | 7, _ => rfl
          have e32 : m2 165 32 = m1 165 32 := by rw [y1 165 (by decide)]
          have e13 : m2 165 13 = m1 165 13 := by rw [y1 165 (by decide)]
          rw [e32, e13]
          generalize pz_up (pz_up (pz_up (pz_up m2 189 4 (F' : Int)) 189 5 (nb' : Int)) 189 6 (N' : Int)) 189 7 (cn 7 + 1) = m3 at *
          have e14 : m3 165 14 = 1 := by
            rw [z1 165 (by decide), mf2 14 (by decide)]
            exact hs1
          have hg3 : pz_mg mi0 ml0 m3 l1 := ⟨fun p hp => (z1 p (by omega)).trans (hg1.1 p hp), by rw [z1 165 (by decide)]; exact hg1.2.1, hg1.2.2⟩
          have hroot : m1 165 13 = -1 ↔ ra.1 = none := by
            cases er : ra.1 with
            | none =>
              rw [er] at lf1
              exact ⟨fun _ => rfl, fun _ => lf1.1⟩
            | some t' =>
              rw [er] at lf1
              obtain ⟨nn, hnn, -⟩ := lf1
              exact ⟨fun h => absurd h (by omega), fun h => nomatch h⟩
          have AM3 : pz_AM m3 A := pz_AM_fr (by rw [z3, mf1 189 (by decide)]) (by rw [z1 191 (by decide), mf1 191 (by decide)]) (by rw [z1 192 (by decide), mf1 192 (by decide)]) (by rw [z1 193 (by decide), mf1 193 (by decide)]) c2
          cases ea : ra.2 with
          | none =>
            rw [ea] at am1
            have a32 : m1 165 32 = -1 := am1
            have eA : pz_A1 mi0 A ra.2 N' k' = A := by rw [ea]; rfl
            have cnt : ∀ m5 : Nat → Nat → Int, m5 189 = m3 189 → ∀ j, j < 8 → m5 189 j = pz_c1 (pz_A1 mi0 A ra.2 N' k') ra.1 F' nb' N' (cn 7 + 1) j := by
              intro m5 hm5 j hj
              rw [hm5, eA]
              by_cases hj0 : j = 0
              · subst hj0
                exact AM3.1
              · exact z4 j hj hj0 A
            refine ⟨fun _ => ⟨fun hr => ?_, fun hr => ?_⟩, fun h => absurd a32 h⟩
            · refine next m3 0 (fun _ => rfl) hg3 (qm m3 hg3 (fun p hp => z1 p (by omega)) (by rw [z1 165 (by decide)]) (by rw [z1 165 (by decide)]) (by rw [z1 165 (by decide)]) (by rw [z1 165 (by decide)]) (by rw [z1 165 (by decide)]) (fun h => absurd (hroot.mpr h) hr) (fun _ => e14) (by rw [eA]; exact AM3) (cnt m3 rfl)) (.inl rfl) (fun h => absurd ea h)
            · have hg4 : pz_mg mi0 ml0 (pz_up m3 165 14 2) l1 := ⟨fun p hp => by rw [pz_upq (by omega)]; exact hg3.1 p hp, ⟨by rw [pz_up_ot (by decide)]; exact hg3.2.1.1, by rw [pz_up_ot (by decide)]; exact hg3.2.1.2.1, by rw [pz_up_ot (by decide)]; exact hg3.2.1.2.2⟩, hg3.2.2⟩
              refine next _ 0 (fun _ => rfl) hg4 (qm _ hg4 (fun p hp => by rw [pz_upq (by omega)]; exact z1 p (by omega)) (by rw [pz_up_ot (by decide), z1 165 (by decide)]) (by rw [pz_up_ot (by decide), z1 165 (by decide)]) (by rw [pz_up_ot (by decide), z1 165 (by decide)]) (by rw [pz_up_ot (by decide), z1 165 (by decide)]) (by rw [pz_up_ot (by decide), z1 165 (by decide)]) (fun _ => pz_up_at) (fun h => absurd (hroot.mp hr) h) (by rw [eA]; exact pz_AM_fr (by rw [pz_upq (by decide)]) (pz_upq (by decide)) (pz_upq (by decide)) (pz_upq (by decide)) AM3) (cnt _ (pz_upq (by decide)))) (.inl rfl) (fun h => absurd ea h)
          | some an =>
            rw [ea] at am1 x2
            obtain ⟨na, hna, hna63, hP⟩ := am1
            have hP0 := hP 0 0
            have te13 : pz_te m1 m3 := ⟨z1 2 (by decide), z1 3 (by decide), z1 4 (by decide), z1 5 (by decide), z1 166 (by decide), z1 167 (by decide), z1 168 (by decide), by rw [z1 165 (by decide)]⟩
            have hmS : pz_mS m3 (F' : Int) na an.1 := by
              refine pz_mS_R.mpr ?_
              rw [pz_rwf_eq (z1 182 (by decide)) na]
              exact pz_mR_te te13 hP0.2.2.1
            have l180 : l1 180 na = an.2.1 := hP0.2.2.2.1
            have l181 : l1 181 na = an.2.2 := hP0.2.2.2.2
            have hA20 : A.length < 20 := by
              apply Classical.byContradiction
              intro hge
              exact hf' (.inr ⟨by rw [ea]; exact (fun e => nomatch e), by omega⟩)
            have te03 : pz_te mi0 m3 := pz_mg_te hg3
            have mn3 : pz_mn m3 (F' : Int) N' k' := pz_mn_te te13 (by rw [z1 165 (by decide)]) (z1 184 (by decide)) (z1 185 (by decide)) mn1
            refine ⟨fun h => absurd h (by omega), fun _ => ?_⟩
            rw [hna]
            have tl := pz_tellM (d := d) (n0 := n0) (ml := l1) (mr := mr) (c := c) (s := s) (pz_tm_te te03 w1) (F := (F' : Int)) (by omega) (by omega) hna63 hmS x2.1 x5 mn3 AM3 hA20
            rw [l180, l181, pz_tl_te te03] at tl
            refine pz_Rn_e (d' := d + 4) (by omega) tl ?_
            rintro _ _ ⟨m4, ⟨rfl, rfl⟩, f4, c4', AM4⟩
            have eA : pz_A1 mi0 A ra.2 N' k' = A ++ [pz_tl mi0 an N' k'] := by rw [ea]; rfl
            have o4 : ∀ p, p ≠ 165 → (p < 187 ∨ p = 190 ∨ p = 188 ∨ 194 < p) → m4 p = m3 p := by
              intro p hp hp2
              exact f4.1 p (by simp only [List.mem_cons, List.not_mem_nil, or_false]; omega) hp
            have o165 : ∀ j, j ≠ 44 → m4 165 j = m3 165 j := fun j hj => f4.2 j (by rw [List.mem_singleton]; exact hj)
            have hg4 : pz_mg mi0 ml0 m4 l1 := ⟨fun p hp => (o4 p (by omega) (by omega)).trans (hg3.1 p hp), ⟨by rw [o165 0 (by decide)]; exact hg3.2.1.1, by rw [o165 1 (by decide)]; exact hg3.2.1.2.1, by rw [o165 5 (by decide)]; exact hg3.2.1.2.2⟩, hg3.2.2⟩
            have cnt : ∀ m5 : Nat → Nat → Int, m5 189 = m4 189 → ∀ j, j < 8 → m5 189 j = pz_c1 (pz_A1 mi0 A ra.2 N' k') ra.1 F' nb' N' (cn 7 + 1) j := by
              intro m5 hm5 j hj
              rw [hm5, eA]
              by_cases hj0 : j = 0
              · subst hj0
                exact AM4.1
              · rw [c4' j hj0]
                exact z4 j hj hj0 _
            have b165 : ∀ j, j ≠ 44 → m4 165 j = m1 165 j := fun j hj => (o165 j hj).trans (by rw [z1 165 (by decide)])
            refine pz_g141_185 ⟨fun hr => ?_, fun hr => ?_⟩
            · rw [b165 13 (by decide)] at hr
              refine next m4 1 (fun h => absurd (h.symm.trans ea) (fun e => nomatch e)) hg4 (qm m4 hg4 (fun p hp => (o4 p (by omega) (by omega)).trans (z1 p (by omega))) (b165 12 (by decide)) (b165 13 (by decide)) (b165 24 (by decide)) (b165 28 (by decide)) (b165 29 (by decide)) (fun h => absurd (hroot.mpr h) hr) (fun _ => by rw [o165 14 (by decide)]; exact e14) (by rw [eA]; exact AM4) (cnt m4 rfl)) (.inr rfl) (fun _ => rfl)
            · rw [b165 13 (by decide)] at hr
              have hg5 : pz_mg mi0 ml0 (pz_up m4 165 14 2) l1 := ⟨fun p hp => by rw [pz_upq (by omega)]; exact hg4.1 p hp, ⟨by rw [pz_up_ot (by decide)]; exact hg4.2.1.1, by rw [pz_up_ot (by decide)]; exact hg4.2.1.2.1, by rw [pz_up_ot (by decide)]; exact hg4.2.1.2.2⟩, hg4.2.2⟩
              refine next _ 1 (fun h => absurd (h.symm.trans ea) (fun e => nomatch e)) hg5 (qm _ hg5 (fun p hp => by rw [pz_upq (by omega)]; exact (o4 p (by omega) (by omega)).trans (z1 p (by omega))) (by rw [pz_up_ot (by decide)]; exact b165 12 (by decide)) (by rw [pz_up_ot (by decide)]; exact b165 13 (by decide)) (by rw [pz_up_ot (by decide)]; exact b165 24 (by decide)) (by rw [pz_up_ot (by decide)]; exact b165 28 (by decide)) (by rw [pz_up_ot (by decide)]; exact b165 29 (by decide)) (fun _ => pz_up_at) (fun h => absurd (hroot.mp hr) h) (by rw [eA]; exact pz_AM_fr (by rw [pz_upq (by decide)]) (pz_upq (by decide)) (pz_upq (by decide)) (pz_upq (by decide)) AM4) (cnt _ (pz_upq (by decide)))) (.inr rfl) (fun _ => rfl)
      refine pz_g141_45 ⟨fun h => absurd h (by omega), fun _ => ⟨fun h => absurd hs1 h, fun _ => ⟨fun _ => body, fun h0 => ⟨fun h1 => ?_, fun _ => body⟩⟩⟩⟩
      rcases h4 with h4 | h4
      · rcases ha2 with ⟨h2, -⟩ | ⟨-, h2⟩
        · exact absurd h2 h0
        · rw [h4] at h2
          exact nomatch h2
      · exact absurd h4 h1
end pzW1
