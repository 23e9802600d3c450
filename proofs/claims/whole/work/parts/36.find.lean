/-! The class's find, by walks. -/
section pzf
variable {d n0 : Nat} {mi : Nat → Nat → Int} {ml : Nat → Nat → Int64} {mr : Nat → Nat → Option Nat} {c s : Nat} {F : Int} {σ : Nat → Option Nat}
theorem pz_vs_f (ht : pz_tm mi) {x : Int} (hx : pz_vs mi F x) : (mi 3 (x % 41).toNat = 0 ∧ 0 ≤ mi 4 (x % 41).toNat ∧ mi 4 (x % 41).toNat ≤ 9) ∨ (mi 3 (x % 41).toNat = 1 ∧ 0 ≤ mi 4 (x % 41).toNat ∧ mi 4 (x % 41).toNat ≤ 5) ∨ (mi 3 (x % 41).toNat = 2 ∧ 0 ≤ mi 4 (x % 41).toNat ∧ mi 4 (x % 41).toNat < x % 41 ∧ 0 ≤ mi 5 (x % 41).toNat ∧ mi 5 (x % 41).toNat < x % 41 ∧ x % 41 < mi 2 3) := by
  obtain ⟨h1, h2, h3⟩ := hx
  obtain ⟨t1, t2, t3, t4, t5, t6⟩ := ht
  rcases h3 with h3 | h3
  · have h4 := t6 (x % 41).toNat (by omega)
    obtain ⟨-, -, h4⟩ := h4
    have e : (((x % 41).toNat : Nat) : Int) = x % 41 := by omega
    rw [e] at h4
    rcases h4 with h4 | h4 | h4
    · exact .inl h4
    · exact .inr (.inl h4)
    · exact .inr (.inr ⟨h4.1, h4.2.1, h4.2.2.1, h4.2.2.2.1, h4.2.2.2.2.1, h3⟩)
  · rw [h3]
    have e : (40 : Int).toNat = 40 := rfl
    rw [e, t4, t5]
    exact .inr (.inl ⟨rfl, by omega, by omega⟩)
theorem pz_cs_v {x : Int} (h : mi 3 (x % 41).toNat = 1) : pz_cs mi x = (x / 41 * 6 + mi 4 (x % 41).toNat).toNat := if_pos h
theorem pz_cs_n {x : Int} (h : mi 3 (x % 41).toNat ≠ 1) : pz_cs mi x = 1000 + x.toNat := if_neg h
theorem pz_find1 (ht : pz_tm mi) (hF : F ≤ 40) (hs : pz_sp mi F σ) : ∀ (n : Nat) (i x : Int), 0 ≤ i → i + n = 246 → pz_vs mi F x →
    pz_Rn d 49 (4, [], [(0, .inr (.inr (some 150))), (2, .inl x), (3, .inl i)], pz_hp n0 mi ml mr c s, true) (fun o h => ∃ y, (o = .inl (some (.inl y)) ∧ h = pz_hp n0 mi ml mr c s) ∧ pz_vs mi F y ∧ pz_cs mi y = pz_wk σ n (pz_cs mi x)) := by
  intro n
  induction n with
  | zero =>
    intro i x hi0 hi hx
    exact pz_g49_4 ⟨fun _ => ⟨x, ⟨rfl, rfl⟩, hx, rfl⟩, fun h => absurd h (by omega)⟩
  | succ n ih =>
    intro i x hi0 hi hx
    have hf := pz_vs_f ht hx
    have hx0 := hx
    obtain ⟨h1, h2, h3⟩ := hx0
    refine pz_g49_4 ⟨fun h => absurd h (by omega), fun _ => ⟨h1, fun t et => ?_⟩⟩
    subst et
    refine ⟨by omega, fun hk => ?_, fun hk => ?_⟩
    · refine ⟨h1, by omega, by omega, by omega, by omega, fun y ey => ⟨fun hy => ⟨by omega, ?_⟩, fun hy => ?_⟩⟩
      · have hv := (hs (x / 41 * 6 + mi 4 (x % 41).toNat).toNat).1 (by omega)
        rw [← ey] at hv
        have ec := pz_cs_v hk
        cases e : σ (x / 41 * 6 + mi 4 (x % 41).toNat).toNat with
        | none => rw [e] at hv; exact absurd hv (by omega)
        | some a =>
          rw [e] at hv
          have := ih (i + 1) y (by omega) (by omega) hv.1
          rw [hv.2] at this
          rw [ec, pz_wk_to (by omega) e]
          exact this
      · have hv := (hs (x / 41 * 6 + mi 4 (x % 41).toNat).toNat).1 (by omega)
        rw [← ey] at hv
        refine ⟨x, ⟨rfl, rfl⟩, hx, ?_⟩
        have ec := pz_cs_v hk
        cases e : σ (x / 41 * 6 + mi 4 (x % 41).toNat).toNat with
        | none =>
          rw [pz_wk_rs]
          right
          rw [ec]
          exact e
        | some a =>
          rw [e] at hv
          exact absurd hv.1.1 (by omega)
    · refine ⟨x, ⟨rfl, rfl⟩, hx, ?_⟩
      rw [pz_wk_rs]
      left
      rw [pz_cs_n hk]
      omega
/-- Bindings.find -/
theorem pz_find (ht : pz_tm mi) (hF : F ≤ 40) (hs : pz_sp mi F σ) {x : Int} (hx : pz_vs mi F x) :
    pz_Rn d 49 (0, [], [(0, .inr (.inr (some 150))), (1, .inl x)], pz_hp n0 mi ml mr c s, true) (fun o h => ∃ y, (o = .inl (some (.inl y)) ∧ h = pz_hp n0 mi ml mr c s) ∧ pz_vs mi F y ∧ pz_cs mi y = pz_W σ (pz_cs mi x)) :=
  pz_g49_0 (pz_find1 ht hF hs 246 0 x (by decide) rfl hx)
end pzf
