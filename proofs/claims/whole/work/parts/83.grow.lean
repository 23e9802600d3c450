/-! A new term, a new goal, a definition: what the law keeps still stands. -/
section pzX2
variable {d n0 : Nat} {mi mi' : Nat → Nat → Int} {ml ml' : Nat → Nat → Int64} {mr : Nat → Nat → Option Nat} {xs : Nat → Int} {B : Int} {Ω : pz_QS}
theorem pz_LI_term {n : Nat} {k a b : Int} (h : pz_LI xs B Ω mi ml mr) (hn : mi 2 3 = (n : Int)) (hn2 : n < 40) (hk : (k = 0 ∧ 0 ≤ a ∧ a ≤ 9) ∨ (k = 1 ∧ 0 ≤ a ∧ a ≤ 5) ∨ (k = 2 ∧ 0 ≤ a ∧ a < (n : Int) ∧ 0 ≤ b ∧ b < (n : Int) ∧ mi' 168 n = b))
    (f1 : mi' 2 3 = (n : Int) + 1) (f2 : mi' 165 1 = (n : Int) + 1) (f3 : ∀ p, p ∈ [3, 4, 5, 166, 167, 168] → ∀ t, t ≠ n → mi' p t = mi p t) (f4 : mi' 3 n = k ∧ mi' 166 n = k ∧ mi' 4 n = a ∧ mi' 167 n = a ∧ mi' 5 n = b) (f5 : ∀ p, p ∉ [2, 3, 4, 5, 165, 166, 167, 168] → mi' p = mi p) (f6 : ∀ j, j ≠ 0 → j ≠ 1 → mi' 165 j = mi 165 j) (f7 : ∀ p, p ≠ 195 → ml' p = ml p) : pz_LI xs B Ω mi' ml' mr := by
  have h' := h
  obtain ⟨h1, h2, h3, -⟩ := h'
  obtain ⟨t1, t2, t3, t4, t5, t6⟩ := h1
  have ht : pz_tm mi' := by
    refine ⟨by omega, by omega, by omega, by rw [f3 3 (by decide) 40 (by omega)]; exact t4, by rw [f3 4 (by decide) 40 (by omega)]; exact t5, fun t ht => ?_⟩
    by_cases e : t = n
    · subst e
      unfold pz_tm1
      obtain ⟨g1, g2, g3, g4, g5⟩ := f4
      rw [g1, g2, g3, g4, g5]
      exact ⟨rfl, rfl, hk⟩
    · have g := t6 t (by omega)
      unfold pz_tm1 at g ⊢
      rw [f3 3 (by decide) t e, f3 4 (by decide) t e, f3 5 (by decide) t e, f3 166 (by decide) t e, f3 167 (by decide) t e, f3 168 (by decide) t e]
      exact g
  have i1 : ∀ x, pz_isT mi x → pz_isT mi' x := fun x hx => ⟨hx.1, by have := hx.2; omega⟩
  have hg : pz_gl mi' := by
    obtain ⟨g1, g2, g3, g4⟩ := h2
    unfold pz_gl
    rw [f5 6 (by decide), f6 5 (by decide) (by decide)]
    refine ⟨g1, g2, g3, fun g hg => ?_⟩
    have q := g4 g hg
    unfold pz_gl1 at q ⊢
    rw [f5 6 (by decide), f5 7 (by decide), f5 8 (by decide), f5 9 (by decide), f5 10 (by decide), f5 11 (by decide), f5 169 (by decide), f5 170 (by decide), f5 171 (by decide), f5 172 (by decide), f5 173 (by decide)]
    refine ⟨q.1, ?_⟩
    rcases q.2 with q | q | q
    · exact .inl ⟨q.1, i1 _ q.2.1, i1 _ q.2.2.1, q.2.2.2⟩
    · exact .inr (.inl q)
    · exact .inr (.inr ⟨q.1, i1 _ q.2.1, i1 _ q.2.2.1, i1 _ q.2.2.2.1, q.2.2.2.2⟩)
  have hr : pz_re4 mi' := by
    unfold pz_re4
    rw [f5 6 (by decide), f5 12 (by decide), f5 174 (by decide)]
    exact h3
  refine pz_LI_tg ht hg hr ⟨by omega, fun t ht => ⟨f3 3 (by decide) t (by omega), f3 4 (by decide) t (by omega)⟩, by rw [f5 6 (by decide)]; exact Int.le_refl _, fun p hp => f5 p ?_, fun j j0 j1 _ => f6 j j0 j1, f7⟩ h
  simp only [List.mem_cons, List.not_mem_nil, or_false]
  omega
theorem pz_LI_goal {n : Nat} (h : pz_LI xs B Ω mi ml mr) (hn : mi 6 6 = (n : Int)) (hn2 : n < 40) (hk : pz_gl1 mi' n)
    (f1 : mi' 6 6 = (n : Int) + 1) (f2 : mi' 165 5 = (n : Int) + 1) (f3 : ∀ p, p ∈ [7, 8, 9, 10, 11, 169, 170, 171, 172, 173] → ∀ t, t ≠ n → mi' p t = mi p t) (f5 : ∀ p, p ∉ [6, 7, 8, 9, 10, 11, 165, 169, 170, 171, 172, 173] → mi' p = mi p) (f6 : ∀ j, j ≠ 0 → j ≠ 5 → mi' 165 j = mi 165 j) (f7 : ∀ p, p ≠ 195 → ml' p = ml p) : pz_LI xs B Ω mi' ml' mr := by
  have h' := h
  obtain ⟨h1, h2, h3, -⟩ := h'
  have ht : pz_tm mi' := pz_tm_te ⟨f5 2 (by decide), f5 3 (by decide), f5 4 (by decide), f5 5 (by decide), f5 166 (by decide), f5 167 (by decide), f5 168 (by decide), f6 1 (by decide) (by decide)⟩ h1
  have hg : pz_gl mi' := by
    obtain ⟨g1, g2, g3, g4⟩ := h2
    refine ⟨by omega, by omega, by omega, fun g hg => ?_⟩
    by_cases e : g = n
    · subst e
      exact hk
    · have q := g4 g (by omega)
      unfold pz_gl1 pz_isT at q ⊢
      rw [f5 2 (by decide), f3 7 (by decide) g e, f3 8 (by decide) g e, f3 9 (by decide) g e, f3 10 (by decide) g e, f3 11 (by decide) g e, f3 169 (by decide) g e, f3 170 (by decide) g e, f3 171 (by decide) g e, f3 172 (by decide) g e, f3 173 (by decide) g e]
      refine ⟨q.1, ?_⟩
      rcases q.2 with q | q | q
      · exact .inl q
      · exact .inr (.inl ⟨q.1, q.2.1, by omega, q.2.2.2.1, by omega, q.2.2.2.2.2⟩)
      · exact .inr (.inr q)
  have hr : pz_re4 mi' := by
    intro r hr
    have q := h3 r hr
    rw [f5 12 (by decide), f5 174 (by decide)]
    exact ⟨q.1, q.2.1, by omega⟩
  refine pz_LI_tg ht hg hr ⟨by rw [f5 2 (by decide)]; exact Int.le_refl _, fun t _ => ⟨by rw [f5 3 (by decide)], by rw [f5 4 (by decide)]⟩, by omega, fun p hp => f5 p ?_, fun j j0 _ j5 => f6 j j0 j5, f7⟩ h
  simp only [List.mem_cons, List.not_mem_nil, or_false]
  omega
theorem pz_LI_def {n : Nat} {v : Int} (h : pz_LI xs B Ω mi ml mr) (hv : -1 ≤ v ∧ v < mi 6 6) (f1 : mi' 12 n = v) (f2 : mi' 174 n = v) (f3 : ∀ p, p ∈ [12, 174] → ∀ t, t ≠ n → mi' p t = mi p t) (f5 : ∀ p, p ∉ [12, 165, 174] → mi' p = mi p) (f6 : ∀ j, j ≠ 0 → mi' 165 j = mi 165 j) (f7 : ∀ p, p ≠ 195 → ml' p = ml p) : pz_LI xs B Ω mi' ml' mr := by
  have h' := h
  obtain ⟨h1, h2, h3, -⟩ := h'
  have ht : pz_tm mi' := pz_tm_te ⟨f5 2 (by decide), f5 3 (by decide), f5 4 (by decide), f5 5 (by decide), f5 166 (by decide), f5 167 (by decide), f5 168 (by decide), f6 1 (by decide)⟩ h1
  have hg : pz_gl mi' := by
    unfold pz_gl pz_gl1 pz_isT
    rw [f5 2 (by decide), f5 6 (by decide), f5 7 (by decide), f5 8 (by decide), f5 9 (by decide), f5 10 (by decide), f5 11 (by decide), f6 5 (by decide), f5 169 (by decide), f5 170 (by decide), f5 171 (by decide), f5 172 (by decide), f5 173 (by decide)]
    exact h2
  have hr : pz_re4 mi' := by
    intro r hr
    rw [f5 6 (by decide)]
    by_cases e : r = n
    · subst e
      rw [f1, f2]
      exact ⟨rfl, hv⟩
    · rw [f3 12 (by decide) r e, f3 174 (by decide) r e]
      exact h3 r hr
  refine pz_LI_tg ht hg hr ⟨by rw [f5 2 (by decide)]; exact Int.le_refl _, fun t _ => ⟨by rw [f5 3 (by decide)], by rw [f5 4 (by decide)]⟩, by rw [f5 6 (by decide)]; exact Int.le_refl _, fun p hp => f5 p ?_, fun j j0 _ _ => f6 j j0, f7⟩ h
  simp only [List.mem_cons, List.not_mem_nil, or_false]
  omega
end pzX2
