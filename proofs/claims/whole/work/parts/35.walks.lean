/-! Walks end within 246 steps, and go on doing so when a variable is bound. -/
theorem pz_pig (N : Nat) : ∀ (g : Nat → Nat), (∀ i, i ≤ N → g i < N) → ∃ i j, i < j ∧ j ≤ N ∧ g i = g j := by
  induction N with
  | zero => exact fun g h => absurd (h 0 (Nat.le_refl 0)) (by omega)
  | succ N ih =>
    intro g h
    by_cases hx : ∃ i, i ≤ N ∧ g i = g (N + 1)
    · obtain ⟨i, hi, e⟩ := hx
      exact ⟨i, N + 1, by omega, by omega, e⟩
    · have hn : ∀ i, i ≤ N → g i ≠ g (N + 1) := fun i hi e => hx ⟨i, hi, e⟩
      have hm := h (N + 1) (Nat.le_refl _)
      obtain ⟨i, j, h1, h2, e⟩ := ih (fun i => if g i = N then g (N + 1) else g i) (fun i hi => by
        have g1 := h i (by omega)
        have g2 := hn i hi
        split <;> omega)
      refine ⟨i, j, h1, by omega, ?_⟩
      have g1 := hn i (by omega)
      have g2 := hn j (by omega)
      split at e <;> split at e <;> omega
section pzx
variable {σ : Nat → Option Nat}
theorem pz_wk_rs {a : Nat} (h : pz_rs σ a) (n : Nat) : pz_wk σ n a = a := by
  cases n with
  | zero => rfl
  | succ n =>
    unfold pz_wk
    rcases h with h | h
    · rw [if_neg (by omega)]
    · rw [h]
      split <;> rfl
theorem pz_wk_to {a b : Nat} (h1 : a < 1000) (h : σ a = some b) (n : Nat) : pz_wk σ (n + 1) a = pz_wk σ n b := by
  show (if a < 1000 then match σ a with
    | some b => pz_wk σ n b
    | none => a
    else a) = _
  rw [if_pos h1, h]
theorem pz_rs_or (σ : Nat → Option Nat) (a : Nat) : pz_rs σ a ∨ (a < 1000 ∧ ∃ b, σ a = some b) := by
  by_cases h : a < 1000
  · cases e : σ a with
    | none => exact .inl (.inr e)
    | some b => exact .inr ⟨h, b, rfl⟩
  · exact .inl (.inl (by omega))
theorem pz_wk_add (m n a : Nat) : pz_wk σ (m + n) a = pz_wk σ n (pz_wk σ m a) := by
  induction m generalizing a with
  | zero => rw [Nat.zero_add]; rfl
  | succ m ih =>
    rcases pz_rs_or σ a with h | ⟨h1, b, h⟩
    · rw [pz_wk_rs h, pz_wk_rs h, pz_wk_rs h]
    · rw [show m + 1 + n = (m + n) + 1 by omega, pz_wk_to h1 h, pz_wk_to h1 h]
      exact ih b
theorem pz_wk_end (hb : ∀ v, v < 1000 → σ v ≠ none → v < 246) {n a : Nat} (h : pz_rs σ (pz_wk σ n a)) : pz_rs σ (pz_wk σ 246 a) := by
  apply Classical.byContradiction
  intro hn
  have h1 : ∀ i, i ≤ 246 → ¬ pz_rs σ (pz_wk σ i a) := by
    intro i hi hr
    apply hn
    rw [show 246 = i + (246 - i) by omega, pz_wk_add, pz_wk_rs hr]
    exact hr
  obtain ⟨i, j, hij, hj, e⟩ := pz_pig 246 (fun i => pz_wk σ i a) (fun i hi => by
    rcases pz_rs_or σ (pz_wk σ i a) with hr | ⟨g1, b, g2⟩
    · exact absurd hr (h1 i hi)
    · exact hb _ g1 (by rw [g2]; exact fun h => nomatch h))
  have h2 : ∀ k, ∃ i', i' < j ∧ pz_wk σ k a = pz_wk σ i' a := by
    intro k
    induction k with
    | zero => exact ⟨0, by omega, rfl⟩
    | succ k ih =>
      obtain ⟨i', hi', e'⟩ := ih
      have e1 : pz_wk σ (k + 1) a = pz_wk σ (i' + 1) a := by rw [pz_wk_add, pz_wk_add, e']
      by_cases hlt : i' + 1 < j
      · exact ⟨i' + 1, hlt, e1⟩
      · have : i' + 1 = j := by omega
        rw [this] at e1
        exact ⟨i, hij, e1.trans e.symm⟩
  obtain ⟨i', hi', e'⟩ := h2 n
  rw [e'] at h
  exact h1 i' (by omega) h
theorem pz_ub_ne {v b u : Nat} (h : u ≠ v) : pz_ub σ v b u = σ u := if_neg h
theorem pz_ub_eq {v b : Nat} : pz_ub σ v b v = some b := if_pos rfl
theorem pz_rs_ub {v b a : Nat} (h : pz_rs σ a) (hne : a ≠ v) : pz_rs (pz_ub σ v b) a := by
  rcases h with h | h
  · exact .inl h
  · exact .inr (by rw [pz_ub_ne hne]; exact h)
theorem pz_wk_ub {v b : Nat} (hv : σ v = none) : ∀ (n a : Nat), pz_wk σ n a ≠ v → pz_rs σ (pz_wk σ n a) → pz_wk (pz_ub σ v b) n a = pz_wk σ n a := by
  intro n
  induction n with
  | zero => exact fun a _ _ => rfl
  | succ n ih =>
    intro a h1 h2
    rcases pz_rs_or σ a with h | ⟨g1, c, g2⟩
    · rw [pz_wk_rs h] at h1 ⊢
      exact pz_wk_rs (pz_rs_ub h h1) _
    · have hne : a ≠ v := by intro e; rw [e, hv] at g2; cases g2
      have g3 : pz_ub σ v b a = some c := by rw [pz_ub_ne hne]; exact g2
      rw [pz_wk_to g1 g2] at h1 h2 ⊢
      rw [pz_wk_to g1 g3]
      exact ih c h1 h2
theorem pz_wk_hit {v b : Nat} (hv : σ v = none) : ∀ (n a : Nat), pz_wk σ n a = v → ∃ m, pz_wk (pz_ub σ v b) m a = v := by
  intro n
  induction n with
  | zero => exact fun a h => ⟨0, h⟩
  | succ n ih =>
    intro a h
    rcases pz_rs_or σ a with g | ⟨g1, c, g2⟩
    · rw [pz_wk_rs g] at h
      exact ⟨0, h⟩
    · have hne : a ≠ v := by intro e; rw [e, hv] at g2; cases g2
      have g3 : pz_ub σ v b a = some c := by rw [pz_ub_ne hne]; exact g2
      rw [pz_wk_to g1 g2] at h
      obtain ⟨m, hm⟩ := ih c h
      exact ⟨m + 1, by rw [pz_wk_to g1 g3]; exact hm⟩
/-- binding keeps walks ending -/
theorem pz_gd_ub {v b : Nat} (hg : pz_gd σ) (hb : ∀ u, u < 1000 → σ u ≠ none → u < 246) (hv : σ v = none) (hv2 : v < 246) (hne : pz_W σ b ≠ v) : pz_gd (pz_ub σ v b) := by
  intro a
  have hb2 : ∀ u, u < 1000 → pz_ub σ v b u ≠ none → u < 246 := by
    intro u hu hn
    by_cases e : u = v
    · omega
    · rw [pz_ub_ne e] at hn
      exact hb u hu hn
  by_cases ha : pz_W σ a = v
  · obtain ⟨m, hm⟩ := pz_wk_hit (b := b) hv 246 a ha
    refine pz_wk_end hb2 (n := m + (246 + 1)) ?_
    rw [pz_wk_add, hm, pz_wk_to (by omega) pz_ub_eq, pz_wk_ub hv 246 b hne (hg b)]
    exact pz_rs_ub (hg b) hne
  · show pz_rs _ (pz_wk _ 246 a)
    rw [pz_wk_ub hv 246 a ha (hg a)]
    exact pz_rs_ub (hg a) ha
end pzx
