/-! The class's step. -/
/-- the class's tree while a question goes on -/
def pz_R1 (mi : Nat → Nat → Int) (ml : Nat → Nat → Int64) (mr : Nat → Nat → Option Nat) (F nb N : Nat) (k : Nat → Nat × Nat) (t : Lean.RArray pz_tk) : Prop := pz_cW mi F nb N k ∧ mi 13 13 = 1 ∧ ∃ p U S, mr 14 2 = some p ∧ pz_iv mi mr U S ∧ pz_cT (pz_P1 mi (F : Int)) mi ml mr t p U
/-- what the class never touches while it steps: terms, goals, the reference -/
def pz_cf (mi : Nat → Nat → Int) (ml : Nat → Nat → Int64) (mi' : Nat → Nat → Int) (ml' : Nat → Nat → Int64) : Prop := (∀ p, (p < 13 ∨ 165 ≤ p) → mi' p = mi p) ∧ ∀ p, 165 ≤ p → ml' p = ml p
def pz_sz (t : Option (Lean.RArray pz_tk)) : Nat := (pz_nO t).1 + (pz_nO t).2.1 + (pz_nO t).2.2
/-- the answers behind a step -/
def pz_A1 (mi : Nat → Nat → Int) (A : List (Nat × (Nat → List Int))) (ans : Option pz_an) (N : Nat) (k : Nat → Nat × Nat) : List (Nat × (Nat → List Int)) := match ans with
  | none => A
  | some an => A ++ [pz_tl mi an N k]
/-- counts behind a step -/
def pz_c1 (A : List (Nat × (Nat → List Int))) (t : Option (Lean.RArray pz_tk)) (F nb N : Nat) (st : Int) (j : Nat) : Int := match j with
  | 0 => (A.length : Int)
  | 1 => ((pz_nO t).1 : Int)
  | 2 => ((pz_nO t).2.1 : Int)
  | 3 => ((pz_nO t).2.2 : Int)
  | 4 => (F : Int)
  | 5 => (nb : Int)
  | 6 => (N : Int)
  | _ => st
/-- a step that is refused -/
def pz_fu (res : Option (Nat × (Option (Lean.RArray pz_tk) × Option pz_an) × Nat × Nat × (Nat → Nat × Nat))) (K : Nat) : Prop := match res with
  | none => True
  | some (_, ra, _, _, _) => 60 < pz_sz ra.1 ∨ (ra.2 ≠ none ∧ 20 ≤ K)
def pz_ia (ans : Option pz_an) : Int := match ans with
  | none => 0
  | some _ => 1
/-- what a step leaves: no tree, or one -/
def pz_rE (mi : Nat → Nat → Int) (ml : Nat → Nat → Int64) (mr : Nat → Nat → Option Nat) (F nb N : Nat) (k : Nat → Nat × Nat) (t : Option (Lean.RArray pz_tk)) : Prop := match t with
  | none => mi 13 13 = 2
  | some t' => pz_R1 mi ml mr F nb N k t'
/-- what a step that counts leaves may stand -/
def pz_vx (mi : Nat → Nat → Int) (F nb N : Nat) (ra : Option (Lean.RArray pz_tk) × Option pz_an) : Prop := pz_vO mi F N ra.1 ∧ pz_va N ra.2 ∧ 1 ≤ F ∧ F ≤ 40 ∧ N ≤ 120 ∧ nb ≤ 1000
/-- how a step ends -/
def pz_zQ (n0 c s : Nat) (A : List (Nat × (Nat → List Int))) (mi : Nat → Nat → Int) (ml : Nat → Nat → Int64) (res : Option (Nat × (Option (Lean.RArray pz_tk) × Option pz_an) × Nat × Nat × (Nat → Nat × Nat))) : pz_O → pz_H → Prop := fun o h => ∃ mi' ml' mr' b, (o = .inl (some (.inl b)) ∧ h = pz_hp n0 mi' ml' mr' c s) ∧ pz_cf mi ml mi' ml' ∧ (pz_fu res A.length → b = 0 ∧ mi' 13 13 = 3 ∧ mi' 148 = mi 148 ∧ pz_AC mi' A) ∧ (¬ pz_fu res A.length → ∃ F' ra nb' N' k', res = some (F', ra, nb', N', k') ∧ b = 1 ∧ pz_AC mi' (pz_A1 mi A ra.2 N' k') ∧ mi' 13 14 = pz_ia ra.2 ∧ (∀ j, j < 8 → mi' 148 j = pz_c1 (pz_A1 mi A ra.2 N' k') ra.1 F' nb' N' (mi 148 7 + 1) j) ∧ pz_rE mi' ml' mr' F' nb' N' k' ra.1 ∧ pz_vx mi F' nb' N' ra)
section pzQ
variable {d n0 : Nat} {mi mi' : Nat → Nat → Int} {ml ml' : Nat → Nat → Int64} {mr mr' : Nat → Nat → Option Nat} {c s : Nat} {F nb N : Nat} {k : Nat → Nat × Nat} {A : List (Nat × (Nat → List Int))}
/-- Question.isOver -/
theorem pz_ovrC (hm : pz_hm mi) : pz_Rn (d + 2) 70 (0, [], [(0, .inr (.inr (some 13)))], pz_hp n0 mi ml mr c s, true) (fun o h => ∃ b, (o = .inl (some (.inl b)) ∧ h = pz_hp n0 mi ml mr c s) ∧ (b = 0 ∨ b = 1) ∧ (b = 1 ↔ (pz_ovC mi ∨ 60 < mi 16 1 + mi 16 2 + mi 16 3 ∨ (mi 13 14 ≠ 0 ∧ 20 ≤ mi 159 8)))) := by
  have hb : ∀ j, j < 4 → 0 ≤ mi 16 j ∧ mi 16 j ≤ 64 := by
    intro j hj
    have h1 := hm.1 j hj
    have h2 := pz_ck_le (mi := mi) (k := j) (l := pz_NDL)
    rw [pz_NDLl] at h2
    omega
  have b1 := hb 1 (by decide)
  have b2 := hb 2 (by decide)
  have b3 := hb 3 (by decide)
  unfold pz_ovC
  have fin1 : ∀ {P : Prop}, P → (fun (o : pz_O) (h : pz_H) => ∃ b, (o = .inl (some (.inl b)) ∧ h = pz_hp n0 mi ml mr c s) ∧ (b = 0 ∨ b = 1) ∧ (b = 1 ↔ P)) (.inl (some (.inl 1))) (pz_hp n0 mi ml mr c s) := fun hP => ⟨1, ⟨rfl, rfl⟩, .inr rfl, ⟨fun _ => hP, fun _ => rfl⟩⟩
  have fin0 : ∀ {P : Prop}, ¬ P → (fun (o : pz_O) (h : pz_H) => ∃ b, (o = .inl (some (.inl b)) ∧ h = pz_hp n0 mi ml mr c s) ∧ (b = 0 ∨ b = 1) ∧ (b = 1 ↔ P)) (.inl (some (.inl 0))) (pz_hp n0 mi ml mr c s) := fun hP => ⟨0, ⟨rfl, rfl⟩, .inl rfl, ⟨fun h => absurd h (by decide), fun h => absurd h hP⟩⟩
  refine pz_g70_0 ?_
  refine pz_Rn_c (d' := 1) (by omega) (pz_overC (d := 0)) ?_
  by_cases h0 : 500 < mi 155 5 ∨ 1000 < mi 150 5
  · rw [if_pos h0]
    refine pz_g70_7 ⟨fun _ => fin1 (by omega), fun h => absurd h (by decide)⟩
  · rw [if_neg h0]
    refine pz_g70_7 ⟨fun h => absurd rfl h, fun _ => ⟨fun h1 => fin1 (by omega), fun h1 => ⟨fun h2 => fin1 (by omega), fun h2 => ?_⟩⟩⟩
    refine pz_Rn_c (d' := 0) (v := some (.inl (mi 16 1 + mi 16 2 + mi 16 3))) (H := pz_hp n0 mi ml mr c s) (by omega) (pz_g69_0 ⟨by omega, by omega, rfl, rfl⟩) ?_
    refine pz_g70_35 ⟨fun h3 => fin1 (by omega), fun h3 => ⟨fun h4 => fin0 (by omega), fun h4 => ⟨fun h5 => fin0 (by omega), fun h5 => fin1 (by omega)⟩⟩⟩
theorem pz_sx_P {P P' : Int → Int → Int → Int64 → Int64 → pz_tk → Prop} (hP : ∀ g f b lo hi x, P g f b lo hi x → P' g f b lo hi x) : ∀ (L : List (Nat × Nat × Lean.RArray pz_tk × List Nat)) (V : List Nat), pz_sx P mi ml mr L V → pz_sx P' mi ml mr L V := by
  intro L
  induction L with
  | nil => exact fun V h => h
  | cons e L ih =>
    intro V hs
    obtain ⟨V', h1, h2, h3, h4⟩ := hs
    refine ⟨V', h1, h2, ?_, ih V' h4⟩
    rcases h3 with ⟨u1, u2, r, u3, u4⟩ | h3
    · exact .inl ⟨u1, u2, r, u3, pz_cT_P hP _ _ _ u4⟩
    · exact .inr h3
theorem pz_AC_fr (h : ∀ p, (p = 159 ∨ p = 160 ∨ p = 161 ∨ p = 162) → mi' p = mi p) (ha : pz_AC mi A) : pz_AC mi' A := by
  unfold pz_AC pz_rC
  rw [h 159 (by omega), h 160 (by omega), h 161 (by omega), h 162 (by omega)]
  exact ha
/-- the counts of a tree or none, by kinds -/
theorem pz_lf_n {P : Int → Int → Int → Int64 → Int64 → pz_tk → Prop} {X S : List Nat} {t : Option (Lean.RArray pz_tk)} {x : Option Nat} (h : pz_iv mi mr X S) (hl : pz_lf P mi ml mr t x X) : mi 16 1 = ((pz_nO t).1 : Int) ∧ mi 16 2 = ((pz_nO t).2.1 : Int) ∧ mi 16 3 = ((pz_nO t).2.2 : Int) := by
  cases t with
  | some t =>
    obtain ⟨p, -, hc⟩ := hl
    have := pz_iv_n h hc
    exact ⟨this.1, this.2.1, this.2.2.1⟩
  | none =>
    obtain ⟨-, hX⟩ := hl
    subst hX
    obtain ⟨h1, h2, h3⟩ := h
    have e : ∀ j, j ≠ 0 → pz_ckd mi j pz_NDL = 0 := by
      intro j hj
      have := pz_cC_ck h2 hj
      unfold pz_ckd at this ⊢
      rw [← h3.countP_eq]
      exact this
    refine ⟨?_, ?_, ?_⟩
    · rw [h1.1 1 (by decide), e 1 (by decide)]
      rfl
    · rw [h1.1 2 (by decide), e 2 (by decide)]
      rfl
    · rw [h1.1 3 (by decide), e 3 (by decide)]
      rfl
/-- the end of a step that counts: counts are taken -/
theorem pz_tail {t : Option (Lean.RArray pz_tk)} {x : Option Nat} {F' nb' N' : Nat} {Q : pz_O → pz_H → Prop} (hx : mr 14 2 = x) (hxt : x = none ↔ t = none) (h7 : 0 ≤ mi 148 7 ∧ mi 148 7 ≤ 1000000) (n1 : mi 16 1 = ((pz_nO t).1 : Int)) (n2 : mi 16 2 = ((pz_nO t).2.1 : Int)) (n3 : mi 16 3 = ((pz_nO t).2.2 : Int)) (n4 : mi 13 12 = (F' : Int)) (n5 : mi 150 5 = (nb' : Int)) (n6 : mi 13 11 = (N' : Int)) (n0' : mi 159 8 = (A.length : Int))
    (K : ∀ m : Nat → Nat → Int, (∀ p, p ≠ 13 → p ≠ 148 → m p = mi p) → (∀ j, j ≠ 13 → m 13 j = mi 13 j) → m 13 13 = (if t = none then 2 else mi 13 13) → (∀ j, j < 8 → m 148 j = pz_c1 A t F' nb' N' (mi 148 7 + 1) j) → Q (.inl (some (.inl 1))) (pz_hp n0 m ml mr c s)) :
    ((mr 14 2 ≠ none → (-2147483648 ≤ (mi 148 7) + 1 ∧ (mi 148 7) + 1 ≤ 2147483647) ∧ pz_Rn (d + 1) 35 (0, [], [(0, .inr (.inr (some 13)))], pz_hp n0 (pz_up mi 148 7 ((mi 148 7) + 1)) ml mr c s, true) (pz_K (d + 1 + 1) 79 119 [] [] Q true)) ∧ (mr 14 2 = none → (-2147483648 ≤ (mi 148 7) + 1 ∧ (mi 148 7) + 1 ≤ 2147483647) ∧ pz_Rn (d + 1) 35 (0, [], [(0, .inr (.inr (some 13)))], pz_hp n0 (pz_up (pz_up mi 13 13 2) 148 7 ((mi 148 7) + 1)) ml mr c s, true) (pz_K (d + 1 + 1) 79 119 [] [] Q true))) := by
  have key : ∀ m0 : Nat → Nat → Int, (∀ p, p ≠ 13 → p ≠ 148 → m0 p = mi p) → (∀ j, j ≠ 13 → m0 13 j = mi 13 j) → m0 13 13 = (if t = none then 2 else mi 13 13) → m0 148 7 = mi 148 7 + 1 → pz_Rn (d + 1) 35 (0, [], [(0, .inr (.inr (some 13)))], pz_hp n0 m0 ml mr c s, true) (pz_K (d + 1 + 1) 79 119 [] [] Q true) := by
    intro m0 g1 g2 g3 g4
    refine pz_Rn_c (d' := 0) (v := none) (by omega) (pz_g35_0 ⟨rfl, rfl⟩) ?_
    refine pz_g79_122 ?_
    refine K _ (fun p h1 h2 => ?_) (fun j hj => ?_) ?_ (fun j hj => ?_)
    · rw [pz_upq h2, pz_upq h2, pz_upq h2, pz_upq h2, pz_upq h2, pz_upq h2, pz_upq h2]
      exact g1 p h1 h2
    · rw [pz_upq (by decide), pz_upq (by decide), pz_upq (by decide), pz_upq (by decide), pz_upq (by decide), pz_upq (by decide), pz_upq (by decide)]
      exact g2 j hj
    · rw [pz_upq (by decide), pz_upq (by decide), pz_upq (by decide), pz_upq (by decide), pz_upq (by decide), pz_upq (by decide), pz_upq (by decide)]
      exact g3
    · rw [g1 159 (by decide) (by decide), g1 16 (by decide) (by decide), g1 150 (by decide) (by decide), g2 12 (by decide), g2 11 (by decide), n1, n2, n3, n4, n5, n6, n0']
      match j, hj with
      | 0, _ =>
        rw [pz_up_ot (by decide), pz_up_ot (by decide), pz_up_ot (by decide), pz_up_ot (by decide), pz_up_ot (by decide), pz_up_ot (by decide), pz_up_at]
        rfl
      | 1, _ =>
        rw [pz_up_ot (by decide), pz_up_ot (by decide), pz_up_ot (by decide), pz_up_ot (by decide), pz_up_ot (by decide), pz_up_at]
        rfl
      | 2, _ =>
        rw [pz_up_ot (by decide), pz_up_ot (by decide), pz_up_ot (by decide), pz_up_ot (by decide), pz_up_at]
        rfl
      | 3, _ =>
        rw [pz_up_ot (by decide), pz_up_ot (by decide), pz_up_ot (by decide), pz_up_at]
        rfl
      | 4, _ =>
        rw [pz_up_ot (by decide), pz_up_ot (by decide), pz_up_at]
        rfl
      | 5, _ =>
        rw [pz_up_ot (by decide), pz_up_at]
        rfl
      | 6, _ =>
        rw [pz_up_at]
        rfl
      | 7, _ =>
        rw [pz_up_ot (by decide), pz_up_ot (by decide), pz_up_ot (by decide), pz_up_ot (by decide), pz_up_ot (by decide), pz_up_ot (by decide), pz_up_ot (by decide)]
        exact g4
  refine ⟨fun h => ⟨by omega, key _ (fun p h1 h2 => pz_upq h2) (fun j _ => by rw [pz_upq (by decide)]) ?_ pz_up_at⟩, fun h => ⟨by omega, key _ (fun p h1 h2 => by rw [pz_upq h2, pz_upq h1]) (fun j hj => by rw [pz_upq (by decide), pz_up_ot hj]) ?_ pz_up_at⟩⟩
  · rw [if_neg (fun e => h (hx.trans (hxt.mpr e))), pz_upq (by decide)]
  · rw [if_pos (hxt.mp (hx.symm.trans h)), pz_upq (by decide), pz_up_at]
end pzQ
