/-! The law's loop, and its start. -/
section pzX10
variable {n0 : Nat} {xs : Nat → Int}
theorem pz_wt_f {α : Type} {z : α} {f g : Nat → Nat → α} {p k : Nat} (h : f p k = g p k) : ∀ W : List (Nat × Option (Nat × α)), pz_wt z W f p k = pz_wt z W g p k := by
  intro W
  induction W with
  | nil => exact h
  | cons e r ih =>
    obtain ⟨q, o⟩ := e
    cases o with
    | none =>
      show (if p = q then z else pz_wt z r f p k) = (if p = q then z else pz_wt z r g p k)
      rw [ih]
    | some v =>
      obtain ⟨j, v⟩ := v
      show pz_up (pz_wt z r f) q j v p k = pz_up (pz_wt z r g) q j v p k
      unfold pz_up
      rw [ih]
theorem pz_wt_o {α : Type} {z : α} {f : Nat → Nat → α} {p k : Nat} : ∀ W : List (Nat × Option (Nat × α)), W.all (fun e => !(Nat.beq e.1 p)) = true → pz_wt z W f p k = f p k := by
  intro W
  induction W with
  | nil => exact fun _ => rfl
  | cons e r ih =>
    intro h
    rw [List.all_cons, Bool.and_eq_true] at h
    obtain ⟨q, o⟩ := e
    have hq : p ≠ q := by
      intro e
      subst e
      have h1 := h.1
      rw [Nat.beq_refl] at h1
      cases h1
    cases o with
    | none =>
      show (if p = q then z else pz_wt z r f p k) = f p k
      rw [if_neg hq]
      exact ih h.2
    | some v =>
      obtain ⟨j, v⟩ := v
      show pz_up (pz_wt z r f) q j v p k = f p k
      rw [pz_upq hq]
      exact ih h.2
theorem pz_i0_0 : pz_i0 xs 0 = xs := by
  funext k
  exact pz_wt_o pz_I0 (by decide +kernel)
def pz_j0 : Nat → Nat → Int := pz_wt 0 pz_I0 (fun _ _ => 0)
theorem pz_i0_j {p k : Nat} (h : p ≠ 0) : pz_i0 xs p k = pz_j0 p k := pz_wt_f (if_neg h) pz_I0
theorem pz_j0_all : ([(2, 3, 0), (165, 1, 0), (3, 40, 1), (4, 40, 0), (6, 6, 0), (165, 5, 0), (13, 13, 0), (159, 8, 0), (165, 14, 0)] : List (Nat × Nat × Int)).all (fun e => decide (pz_j0 e.1 e.2.1 = e.2.2)) = true := by decide +kernel
theorem pz_j0_8 : (List.range 8).all (fun j => decide (pz_j0 148 j = 0) && decide (pz_j0 189 j = 0)) = true := by decide +kernel
theorem pz_j0_4 : (List.range 4).all (fun j => decide (pz_j0 12 j = -1) && decide (pz_j0 174 j = -1)) = true := by decide +kernel
theorem pz_j0_f {p k : Nat} {v : Int} (h : p ≠ 0) (hm : (p, k, v) ∈ ([(2, 3, 0), (165, 1, 0), (3, 40, 1), (4, 40, 0), (6, 6, 0), (165, 5, 0), (13, 13, 0), (159, 8, 0), (165, 14, 0)] : List (Nat × Nat × Int))) : pz_i0 xs p k = v := (pz_i0_j h).trans (of_decide_eq_true (List.all_eq_true.mp pz_j0_all _ hm))
/-- at the start -/
theorem pz_LI_0 : pz_LI xs 0 (0, none, [], fun _ => 0) (pz_i0 xs) pz_l0 pz_r0 := by
  have a1 : pz_i0 xs 2 3 = 0 := pz_j0_f (by decide) (by decide)
  have a2 : pz_i0 xs 165 1 = 0 := pz_j0_f (by decide) (by decide)
  have a3 : pz_i0 xs 3 40 = 1 := pz_j0_f (by decide) (by decide)
  have a4 : pz_i0 xs 4 40 = 0 := pz_j0_f (by decide) (by decide)
  have a5 : pz_i0 xs 6 6 = 0 := pz_j0_f (by decide) (by decide)
  have a6 : pz_i0 xs 165 5 = 0 := pz_j0_f (by decide) (by decide)
  have a7 : pz_i0 xs 13 13 = 0 := pz_j0_f (by decide) (by decide)
  have a8 : pz_i0 xs 159 8 = 0 := pz_j0_f (by decide) (by decide)
  have a9 : pz_i0 xs 165 14 = 0 := pz_j0_f (by decide) (by decide)
  have b : ∀ j, j < 8 → pz_i0 xs 148 j = 0 ∧ pz_i0 xs 189 j = 0 := by
    intro j hj
    have h := List.all_eq_true.mp pz_j0_8 j (List.mem_range.mpr hj)
    rw [Bool.and_eq_true] at h
    exact ⟨(pz_i0_j (by decide)).trans (of_decide_eq_true h.1), (pz_i0_j (by decide)).trans (of_decide_eq_true h.2)⟩
  have b4 : ∀ j, j < 4 → pz_i0 xs 12 j = -1 ∧ pz_i0 xs 174 j = -1 := by
    intro j hj
    have h := List.all_eq_true.mp pz_j0_4 j (List.mem_range.mpr hj)
    rw [Bool.and_eq_true] at h
    exact ⟨(pz_i0_j (by decide)).trans (of_decide_eq_true h.1), (pz_i0_j (by decide)).trans (of_decide_eq_true h.2)⟩
  refine ⟨⟨by omega, by omega, by omega, a3, a4, fun t ht => absurd ht (by omega)⟩, ⟨by omega, by omega, by omega, fun t ht => absurd ht (by omega)⟩, fun r hr => ?_, ⟨a7, ⟨a8, Nat.zero_le _, fun a x h => (nomatch h)⟩, fun j hj => (b j hj).1, ?_⟩, ⟨a9, ⟨(b 0 (by decide)).2, Nat.zero_le _, fun a x h => (nomatch h)⟩, fun j hj => (b j hj).2, ?_⟩, trivial, ⟨Int.le_refl _, Int.le_refl _⟩, pz_i0_0⟩
  · have := b4 r hr
    omega
  · show (0 : Nat) ≠ 1
    decide
  · show (0 : Nat) ≠ 1
    decide
theorem pz_loop (hn : n0 ≤ 2560) : ∀ (n i : Nat) (Ω : pz_QS) (mi : Nat → Nat → Int) (ml : Nat → Nat → Int64) (mr : Nat → Nat → Option Nat) (c s : Nat), i + n = 513 → pz_LI xs (200 * (i : Int)) Ω mi ml mr → c ≤ 195 + i → s ≤ 100000 + 6 * i →
    pz_Rn 30 148 (23, [], [(0, .inr (.inr (some 0))), (1, .inr (.inr (some 1))), (2, .inr (.inr (some 165))), (3, .inr (.inr (some 195))), (4, .inl (5 * (i : Int)))], pz_hp n0 mi ml mr c s, true) (fun o h => o = .inl (some (.inl 1)) ∧ h.2.2.2.2.1 ≤ 601024 ∧ h.2.2.2.2.2 ≤ 7293034) := by
  intro n
  induction n with
  | zero =>
    intro i Ω mi ml mr c s hi hI hc hs
    exact pz_g148_23 ⟨by omega, by omega, fun _ => ⟨rfl, by show c ≤ 601024; omega, by show s ≤ 7293034; omega⟩, fun h => absurd h (by omega)⟩
  | succ n ih =>
    intro i Ω mi ml mr c s hi hI hc hs
    refine pz_g148_23 ⟨by omega, by omega, fun _ => ⟨rfl, by show c ≤ 601024; omega, by show s ≤ 7293034; omega⟩, fun h => ⟨by omega, fun x5 hx5 => ?_⟩⟩
    have hb : 0 ≤ 5 * (i : Int) ∧ 5 * (i : Int) + 5 ≤ (n0 : Int) ∧ n0 ≤ 2560 := by omega
    have IH : pz_IH n0 c s xs (200 * (i : Int)) (5 * (i : Int)) (fun o h => o = .inl (some (.inl 1)) ∧ h.2.2.2.2.1 ≤ 601024 ∧ h.2.2.2.2.2 ≤ 7293034) := by
      intro Ω' mi' ml' mr' c' s' hI' hc' hs'
      have e : 5 * (i : Int) + 5 = 5 * ((i + 1 : Nat) : Int) := by omega
      rw [e]
      exact ih (i + 1) Ω' mi' ml' mr' c' s' (by omega) (pz_LI_B (by omega) hI') (by omega) (by omega)
    refine ⟨fun _ => ⟨by omega, by omega, pz_zc0 hI hb IH⟩, fun _ => ⟨by omega, by omega, pz_zc1 hI hb IH⟩, fun _ => ⟨by omega, by omega, by omega, by omega, pz_zc2 hI hb IH⟩, fun _ => ⟨by omega, by omega, fun hf => ⟨by omega, by omega, by omega, by omega, pz_zc3 (.inl ⟨hf, rfl⟩) hI hb IH⟩, fun hf => ⟨by omega, by omega, by omega, by omega, pz_zc3 (.inr ⟨hf, rfl⟩) hI hb IH⟩⟩, fun _ => ⟨by omega, by omega, fun hf => ⟨by omega, by omega, by omega, by omega, pz_zc4 (.inl ⟨hf, rfl⟩) hI hb IH⟩, fun hf => ⟨by omega, by omega, by omega, by omega, pz_zc4 (.inr ⟨hf, rfl⟩) hI hb IH⟩⟩, fun _ => ⟨by omega, by omega, by omega, by omega, by omega, by omega, by omega, by omega, pz_zc5 hI hb IH⟩, fun _ => ⟨by omega, by omega, by omega, by omega, pz_zc6 hI hb IH⟩, fun _ => ⟨by omega, by omega, pz_zc7 hI hb IH⟩, fun _ => ⟨by omega, by omega, by omega, by omega, fun hf => pz_zc8 (.inl ⟨hf, rfl⟩) (by omega) hI hb IH, fun hf => pz_zc8 (.inr ⟨hf, rfl⟩) (by omega) hI hb IH⟩, fun _ => pz_zc9 hI hb IH, fun _ => ⟨by omega, by omega, pz_zc10 hI hb IH⟩, fun _ => ⟨by omega, by omega, by omega, by omega, by omega, by omega, pz_zc11 hI hb IH⟩, fun _ => ⟨by omega, by omega, pz_zc12 hI hb IH⟩, fun _ => ⟨by omega, IH Ω mi ml mr c s (pz_LI_B2 hI) (by omega) (by omega)⟩⟩
theorem pz_s0s_le : pz_s0s ≤ 100000 + 6 * 0 := by decide
end pzX10
