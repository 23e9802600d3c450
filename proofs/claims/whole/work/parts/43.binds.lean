/-! What the class keeps while it matches, and that a binding keeps it. -/
def pz_cI (mi : Nat → Nat → Int) (F : Int) (σ0 σ : Nat → Option Nat) (nb0 : Nat) : Prop := pz_sp mi F σ ∧ pz_gd σ ∧ pz_cS mi F (mi 150 6) σ ∧ (nb0 : Int) ≤ mi 150 5 ∧ (∀ j : Nat, nb0 ≤ j → (j : Int) < mi 150 5 → 0 ≤ mi 151 j ∧ mi 151 j < 6 * F ∧ σ0 (mi 151 j).toNat = none) ∧ ∀ v, σ v = σ0 v ∨ ∃ j : Nat, nb0 ≤ j ∧ (j : Int) < mi 150 5 ∧ mi 151 j = v
section pzc
variable {mi mi' : Nat → Nat → Int} {F : Int} {σ σ0 : Nat → Option Nat}
theorem pz_ch_up {b : Int} {l : List (Nat × Int)} (h0 : mi 150 5 ≤ mi' 150 5) (h1 : ∀ j : Nat, (j : Int) < mi 150 5 → mi' 151 j = mi 151 j ∧ mi' 152 j = mi 152 j ∧ mi' 153 j = mi 153 j) (h : pz_ch mi b l) : pz_ch mi' b l := by
  induction l generalizing b with
  | nil => exact h
  | cons e r ih =>
    unfold pz_ch at h ⊢
    obtain ⟨g1, g2, g3, g4, g5⟩ := h
    obtain ⟨q1, q2, q3⟩ := h1 b.toNat (by omega)
    rw [q1, q2, q3]
    exact ⟨g1, by omega, g3, g4, ih g5⟩
theorem pz_lk_in {l : List (Nat × Int)} {v : Nat} (h : v ∈ l.map (fun e => e.1)) : pz_lk l v ≠ none := by
  induction l with
  | nil => cases h
  | cons e r ih =>
    unfold pz_lk
    by_cases hv : e.1 = v
    · rw [if_pos hv]
      exact fun h => nomatch h
    · rw [if_neg hv]
      rcases List.mem_cons.mp h with h | h
      · exact absurd h.symm hv
      · exact ih h
theorem pz_cS_te {b : Int} (te : pz_te mi mi') (h0 : mi 150 5 ≤ mi' 150 5) (h1 : ∀ j : Nat, (j : Int) < mi 150 5 → mi' 151 j = mi 151 j ∧ mi' 152 j = mi 152 j ∧ mi' 153 j = mi 153 j) (h : pz_cS mi F b σ) : pz_cS mi' F b σ := by
  obtain ⟨l, g1, g2, g3, g4⟩ := h
  refine ⟨l, pz_ch_up h0 h1 g1, g2, ?_, ?_⟩
  · rw [pz_vs_te te]
    exact g3
  · rw [pz_cs_te te]
    exact g4
/-- what bind leaves -/
def pz_bh (mi : Nat → Nat → Int) (v x : Int) : Nat → Nat → Int := pz_up (pz_up (pz_up (pz_up (pz_up (pz_up mi 151 (mi 150 5).toNat v) 152 (mi 150 5).toNat x) 153 (mi 150 5).toNat (mi 150 6)) 154 v.toNat x) 150 6 (mi 150 5)) 150 5 (mi 150 5 + 1)
theorem pz_bh_fr (v x : Int) : pz_fr [150, 151, 152, 153, 154] [] mi (pz_bh mi v x) :=
  pz_fr_trans (pz_fr_up (by decide) (by decide)) (pz_fr_trans (pz_fr_up (by decide) (by decide)) (pz_fr_trans (pz_fr_up (by decide) (by decide)) (pz_fr_trans (pz_fr_up (by decide) (by decide)) (pz_fr_trans (pz_fr_up (by decide) (by decide)) (pz_fr_up (by decide) (by decide))))))
theorem pz_bh_f (v x : Int) : pz_bh mi v x 150 5 = mi 150 5 + 1 ∧ pz_bh mi v x 150 6 = mi 150 5 ∧ pz_bh mi v x 154 = pz_up mi 154 v.toNat x 154 ∧ (∀ j, j ≠ (mi 150 5).toNat → pz_bh mi v x 151 j = mi 151 j ∧ pz_bh mi v x 152 j = mi 152 j ∧ pz_bh mi v x 153 j = mi 153 j) ∧ pz_bh mi v x 151 (mi 150 5).toNat = v ∧ pz_bh mi v x 152 (mi 150 5).toNat = x ∧ pz_bh mi v x 153 (mi 150 5).toNat = mi 150 6 := by
  unfold pz_bh
  refine ⟨pz_up_at, ?_, ?_, fun j hj => ⟨?_, ?_, ?_⟩, ?_, ?_, ?_⟩
  · rw [pz_up_ot (by decide), pz_up_at]
  · rw [pz_upq (by decide), pz_upq (by decide)]
    funext j
    unfold pz_up
    simp
  all_goals simp [pz_up]
  all_goals exact fun h => absurd h hj
theorem pz_cI_b (ht : pz_tm mi) (hF : F ≤ 40) {nb0 : Nat} (h : pz_cI mi F σ0 σ nb0) {v : Nat} {x : Int} (hm : 0 ≤ mi 150 5) (hv : (v : Int) < 6 * F) (hn : σ v = none) (h0 : σ0 v = none) (hx : pz_vs mi F x) (hw : pz_W σ (pz_cs mi x) ≠ v) : pz_cI (pz_bh mi v x) F σ0 (pz_ub σ v (pz_cs mi x)) nb0 := by
  obtain ⟨s1, s2, s3, s4, s5, s6⟩ := h
  obtain ⟨b1, b2, b3, b4, b5, b6, b7⟩ := pz_bh_f (mi := mi) (v : Int) x
  have fr := pz_bh_fr (mi := mi) (v : Int) x
  have te := pz_te_fr fr (by decide) (by decide)
  have ev : ((v : Int)).toNat = v := by omega
  rw [ev] at b3
  have hlt : ∀ j : Nat, (j : Int) < mi 150 5 → j ≠ (mi 150 5).toNat := fun j hj => by omega
  refine ⟨?_, ?_, ?_, by omega, ?_, ?_⟩
  · intro u
    refine ⟨fun hu => ?_, fun hu => ?_⟩
    · rw [b3, pz_vs_te te, pz_cs_te te]
      by_cases e : u = v
      · subst e
        rw [pz_ub_eq, pz_up_at]
        exact ⟨hx, rfl⟩
      · rw [pz_ub_ne e, pz_up_ot e]
        exact (s1 u).1 hu
    · rw [pz_ub_ne (by omega)]
      exact (s1 u).2 hu
  · refine pz_gd_ub s2 (fun u hu hun => ?_) hn (by omega) hw
    apply Classical.byContradiction
    intro hc
    exact hun ((s1 u).2 (by omega))
  · obtain ⟨l, g1, g2, g3, g4⟩ := s3
    refine ⟨(v, x) :: l, ?_, ?_, ?_, ?_⟩
    · unfold pz_ch
      rw [b2, b5, b6, b7]
      exact ⟨hm, by omega, rfl, rfl, pz_ch_up (by omega) (fun j hj => b4 j (hlt j hj)) g1⟩
    · rw [List.map_cons, List.nodup_cons]
      refine ⟨fun hin => pz_lk_in hin ?_, g2⟩
      have := g4 v
      rw [hn] at this
      cases e : pz_lk l v with
      | none => rfl
      | some q => rw [e] at this; cases this
    · rw [pz_vs_te te]
      intro e he
      rcases List.mem_cons.mp he with rfl | he
      · exact ⟨hv, hx⟩
      · exact g3 e he
    · intro u
      rw [pz_cs_te te]
      unfold pz_lk
      by_cases e : v = u
      · subst e
        rw [if_pos rfl, pz_ub_eq]
        rfl
      · rw [if_neg e, pz_ub_ne (fun q => e q.symm)]
        exact g4 u
  · intro j hj hj2
    rw [b1] at hj2
    by_cases e : j = (mi 150 5).toNat
    · subst e
      rw [b5, ev]
      exact ⟨by omega, hv, h0⟩
    · rw [(b4 j e).1]
      exact s5 j hj (by omega)
  · intro u
    by_cases e : u = v
    · subst e
      exact .inr ⟨(mi 150 5).toNat, by omega, by rw [b1]; omega, b5⟩
    · rw [pz_ub_ne e]
      rcases s6 u with h6 | ⟨j, q1, q2, q3⟩
      · exact .inl h6
      · exact .inr ⟨j, q1, by rw [b1]; omega, by rw [(b4 j (hlt j q2)).1]; exact q3⟩
end pzc
