/-! The reference's occurs from its entry; small methods of the class's match. -/
section pza
variable {d n0 : Nat} {mi : Nat → Nat → Int} {ml : Nat → Nat → Int64} {mr : Nat → Nat → Option Nat} {c s : Nat} {F : Int} {σ : Nat → Option Nat} {Q : pz_O → pz_H → Prop}
/-- the reference's occurs -/
theorem pz_occurs (ht : pz_tm mi) (hF : F ≤ 40) {n : Nat} (hn : n < 63) (hs : pz_mS mi F n σ) (hg : pz_gd σ) {v base : Nat} (hv : v < 240) {x : Int} (hx : pz_vm mi F x) {r : Nat} (hr : r ≤ 500) (hl : mi 165 27 = 500 - (r : Int)) (ho : mi 165 31 = 0) (hw : mi 165 35 = base) (hb : (base : Int) ≤ mi 165 27) :
    pz_Rn (d + 2) 120 (0, [], [(0, .inr (.inr (some 165))), (1, .inl (n : Int)), (2, .inl (3000 + (v : Int))), (3, .inl x)], pz_hp n0 mi ml mr c s, true) (pz_ocQ n0 ml mr c s base mi (pz_oc mi σ v r [pz_cm mi x])) := by
  have fr1 : pz_fr [187] [27, 31] mi (pz_up mi 187 base x) := pz_fr_up (by decide) (by decide)
  have te1 := pz_te_fr fr1 (by decide) (by decide)
  have e0 : (mi 165 35).toNat = base := by omega
  refine pz_g120_0 ⟨by omega, fun y ey => ⟨by omega, ?_⟩⟩
  rw [e0]
  have q5 : ∀ k, pz_up mi 187 base x 165 k = mi 165 k := fun k => by rw [pz_upq (by decide)]
  have e1 : y = ((base + [pz_cm mi x].length : Nat) : Int) := by
    rw [ey, hw]
    rfl
  rw [e1]
  refine (pz_oc1 (σ := σ) ht hF hn hg hv r [pz_cm mi x] (pz_up mi 187 base x) te1 (pz_mS_te te1 (fr1.1 182 (by decide) (by decide)) hs) hr (by rw [q5]; exact hl) (by rw [q5]; exact ho) (by rw [q5]; exact hw) ?_ ?_).mono (Nat.le_refl _) (fun _ _ => pz_ocQ_up fr1 (fun j hj => pz_up_ot (by omega)))
  · rw [q5]
    show ((base + 1 : Nat) : Int) ≤ _
    omega
  · refine ⟨?_, ?_, trivial⟩
    · rw [pz_vm_te te1]
      show pz_vm mi F (pz_up mi 187 base x 187 base)
      rw [pz_up_at]
      exact hx
    · rw [pz_cm_te te1]
      show pz_cm mi (pz_up mi 187 base x 187 base) = _
      rw [pz_up_at]
/-- .. when there are too many looks already -/
theorem pz_occurs_x {n v x : Int} {base : Nat} (hl : mi 165 27 = 501) (hw : mi 165 35 = base) (hb : base ≤ 501) :
    pz_Rn (d + 2) 120 (0, [], [(0, .inr (.inr (some 165))), (1, .inl n), (2, .inl v), (3, .inl x)], pz_hp n0 mi ml mr c s, true) (fun o h => ∃ mi', (o = .inl (some (.inl 1)) ∧ h = pz_hp n0 mi' ml mr c s) ∧ pz_fr [187] [27, 31] mi mi' ∧ mi' 165 31 = 1) := by
  refine pz_g120_0 ⟨by omega, fun y ey => ⟨by omega, ?_⟩⟩
  have q5 : ∀ k, pz_up mi 187 (mi 165 35).toNat x 165 k = mi 165 k := fun k => by rw [pz_upq (by decide)]
  refine pz_g120_18 ⟨fun h => absurd h (by rw [q5]; omega), fun _ => ⟨by omega, ?_⟩⟩
  refine pz_Rn_c (d' := 0) (v := none) (H := pz_hp n0 (pz_up (pz_up (pz_up mi 187 (mi 165 35).toNat x) 165 27 (pz_up mi 187 (mi 165 35).toNat x 165 27 + 1)) 165 31 1) ml mr c s) (Nat.zero_le _) (pz_g115_0 ⟨by rw [q5]; omega, fun h => absurd h (by rw [q5]; omega), fun _ => ⟨rfl, rfl⟩⟩) ?_
  refine pz_g120_34 ⟨fun h => absurd h (by rw [pz_up_at]; decide), fun _ => ?_⟩
  exact ⟨_, ⟨rfl, rfl⟩, pz_fr_trans (pz_fr_up (by decide) (by decide)) (pz_fr_trans (pz_fr_u5 (by decide)) (pz_fr_u5 (by decide))), pz_up_at⟩
/-- Matcher.isSameVariable -/
theorem pz_sameV (ht : pz_tm mi) (hF : F ≤ 40) {x y : Int} (hx : pz_vs mi F x) (hy : pz_vs mi F y) :
    pz_Rn (d + 1) 52 (0, [], [(0, .inr (.inr (some 155))), (1, .inl x), (2, .inl y)], pz_hp n0 mi ml mr c s, true) (fun o h => o = .inl (some (.inl (if pz_kd1 mi (pz_cs mi x) = 1 ∧ pz_cs mi x = pz_cs mi y then 1 else 0))) ∧ h = pz_hp n0 mi ml mr c s) := by
  have fx := pz_vs_f ht hx
  have fy := pz_vs_f ht hy
  have x1 := hx.1
  have x2 := hx.2.1
  have y1 := hy.1
  have y2 := hy.2.1
  rw [pz_kd_cs ht hF hx]
  refine pz_g52_0 ⟨x1, by omega, fun h => ⟨by rw [if_neg (fun e => h e.1)], rfl⟩, fun h => ⟨y1, by omega, fun h2 => ⟨?_, rfl⟩, fun h2 => ?_⟩⟩
  · rw [if_neg]
    rintro ⟨-, e⟩
    rw [pz_cs_v h, pz_cs_n h2] at e
    omega
  · refine pz_Rn_c (Nat.zero_le _) (pz_varAt ht hF hx) ?_
    refine pz_g52_40 ?_
    refine pz_Rn_c (Nat.zero_le _) (pz_varAt ht hF hy) ?_
    rw [pz_cs_v h, pz_cs_v h2]
    refine pz_g52_48 ⟨fun h3 => ⟨?_, rfl⟩, fun h3 => ⟨?_, rfl⟩⟩
    · rw [if_neg]
      rintro ⟨-, e⟩
      omega
    · rw [if_pos]
      exact ⟨h, by omega⟩
end pza
