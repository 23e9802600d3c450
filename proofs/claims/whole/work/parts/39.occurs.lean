/-! The reference's occurs check. -/
section pzu
variable {d n0 : Nat} {mi : Nat → Nat → Int} {ml : Nat → Nat → Int64} {mr : Nat → Nat → Option Nat} {c s : Nat} {F : Int} {σ : Nat → Option Nat} {Q : pz_O → pz_H → Prop}
theorem pz_fr_u5 {A B : List Nat} {k : Nat} {v : Int} (h : k ∈ B) : pz_fr A B mi (pz_up mi 165 k v) := ⟨fun q _ h3 => pz_upq h3, fun j hj => pz_up_ot (fun e => hj (e ▸ h))⟩
theorem pz_mS_te {mi' : Nat → Nat → Int} {n : Nat} (h : pz_te mi mi') (h2 : mi' 182 = mi 182) (hs : pz_mS mi F n σ) : pz_mS mi' F n σ := by
  unfold pz_mS
  rw [h2, pz_cm_te h, pz_vm_te h]
  exact hs
theorem pz_cm_cs (ht : pz_tm mi) (hF : F ≤ 40) {t f : Int} (h1 : 0 ≤ t ∧ t < mi 2 3) (h2 : 0 ≤ f ∧ f < F) : pz_cm mi (1 + 64 * t + f) = pz_cs mi (41 * f + t) ∧ pz_vm mi F (1 + 64 * t + f) := by
  obtain ⟨t1, t2, t3, t4, t5, t6⟩ := ht
  have h3 := t6 t.toNat (by omega)
  have e1 : ((1 + 64 * t + f - 1) / 64).toNat = t.toNat := by omega
  have e2 : ((41 * f + t) % 41).toNat = t.toNat := by omega
  constructor
  · unfold pz_cm pz_cs
    rw [if_neg (by omega), e1, e2, h3.1, h3.2.1]
    split
    · omega
    · omega
  · right
    omega
theorem pz_md41 {f t : Int} (h1 : 0 ≤ f) (h2 : 0 ≤ t) (h3 : t < 41) : (1000 + (41 * f + t).toNat - 1000) % 41 = t.toNat := by
  obtain ⟨a, rfl⟩ := Int.eq_ofNat_of_zero_le h1
  obtain ⟨b, rfl⟩ := Int.eq_ofNat_of_zero_le h2
  have e : (41 * (a : Int) + (b : Int)).toNat = 41 * a + b := by omega
  rw [e]
  omega
/-- what a resolved item of the reference is -/
theorem pz_rvm_f (ht : pz_tm mi) (hF : F ≤ 40) {y : Int} (hy : pz_vm mi F y) (hr : pz_rvm mi y) : (3000 ≤ y ∧ y < 3240 ∧ pz_cm mi y = (y - 3000).toNat ∧ pz_kd1 mi (pz_cm mi y) = 1) ∨ (1 ≤ y ∧ y < 3000 ∧ 0 ≤ (y - 1) / 64 ∧ (y - 1) / 64 < mi 2 3 ∧ 0 ≤ (y - 1) % 64 ∧ (y - 1) % 64 < F ∧ 1000 ≤ pz_cm mi y ∧ mi 166 ((y - 1) / 64).toNat ≠ 1 ∧ pz_kd1 mi (pz_cm mi y) = mi 166 ((y - 1) / 64).toNat ∧ pz_cm mi y = 1000 + (41 * ((y - 1) % 64) + (y - 1) / 64).toNat ∧ pz_tm1 mi ((y - 1) / 64).toNat) := by
  rcases hr with hr | ⟨hr, hk⟩
  · left
    have e := pz_cm_v (mi := mi) hr
    rcases hy with hy | hy
    · refine ⟨hr, by omega, e, ?_⟩
      rw [e]
      unfold pz_kd1
      rw [if_pos (by omega)]
    · omega
  · right
    obtain ⟨g1, g2, g3, g4⟩ := pz_vm_f ht hy hr
    have e := pz_cm_n hr hk
    refine ⟨g1, hr, by omega, g2, by omega, g3, by omega, hk, ?_, e, g4⟩
    rw [e]
    unfold pz_kd1 pz_ct1
    have t2 := ht.2.1
    rw [if_neg (by omega)]
    rw [pz_md41 (by omega) (by omega) (by omega)]
    exact g4.1.symm
theorem pz_isPairC (ht : pz_tm mi) (hF : F ≤ 40) {y : Int} (hy : pz_vm mi F y) (hr : pz_rvm mi y) : pz_Rn (d + 1) 118 (0, [], [(0, .inr (.inr (some 165))), (1, .inl y)], pz_hp n0 mi ml mr c s, true) (fun o h => o = .inl (some (.inl (if pz_kd1 mi (pz_cm mi y) = 2 then 1 else 0))) ∧ h = pz_hp n0 mi ml mr c s) := by
  have t2 := ht.2.1
  rcases pz_rvm_f ht hF hy hr with ⟨h1, h2, h3, h4⟩ | ⟨h1, h2, h3, h4, h5, h6, h7, h8, h9, h10, h11⟩
  · rw [h4, if_neg (by decide)]
    exact pz_g118_0 ⟨fun _ => ⟨rfl, rfl⟩, fun h => absurd h (by omega)⟩
  · rw [h9]
    refine pz_g118_0 ⟨fun h => absurd h (by omega), fun _ => ?_⟩
    refine pz_Rn_c (d' := 0) (v := some (.inl ((y - 1) / 64))) (H := pz_hp n0 mi ml mr c s) (Nat.zero_le d) (pz_g117_0 ⟨by omega, by omega, rfl, rfl⟩) ?_
    exact pz_g118_15 ⟨by omega, fun h => ⟨by rw [if_neg h], rfl⟩, fun h => ⟨by rw [if_pos h], rfl⟩⟩
theorem pz_halfC (ht : pz_tm mi) (hF : F ≤ 40) {y : Int} (hy : pz_vm mi F y) (hr : pz_rvm mi y) (hk : pz_kd1 mi (pz_cm mi y) = 2) (b : Bool) : ∃ z, pz_vm mi F z ∧ pz_cm mi z = pz_hf mi (pz_cm mi y) b ∧ ∀ mi', pz_te mi mi' → pz_Rn (d + 1) 119 (0, [], [(0, .inr (.inr (some 165))), (1, .inl y), (2, .inl (if b then 1 else 0))], pz_hp n0 mi' ml mr c s, true) (fun o h => o = .inl (some (.inl z)) ∧ h = pz_hp n0 mi' ml mr c s) := by
  have t2 := ht.2.1
  rcases pz_rvm_f ht hF hy hr with ⟨h1, h2, h3, h4⟩ | ⟨h1, h2, h3, h4, h5, h6, h7, h8, h9, h10, h11⟩
  · rw [h4] at hk
    exact absurd hk (by decide)
  · obtain ⟨g1, g2, g3⟩ := h11
    have e0 : (((y - 1) / 64).toNat : Int) = (y - 1) / 64 := by omega
    rw [e0] at g3
    have eh : ∀ b : Bool, pz_hf mi (pz_cm mi y) b = pz_cs mi (41 * ((y - 1) % 64) + (if b then mi 4 ((y - 1) / 64).toNat else mi 5 ((y - 1) / 64).toNat)) := by
      intro b
      rw [h10]
      unfold pz_hf pz_ct1
      have e2 : (1000 + (41 * ((y - 1) % 64) + (y - 1) / 64).toNat - 1000) % 41 = ((y - 1) / 64).toNat := by omega
      have e3 : (41 * ((1000 + (41 * ((y - 1) % 64) + (y - 1) / 64).toNat - 1000) / 41 : Nat) : Int) = 41 * ((y - 1) % 64) := by omega
      rw [e2, e3]
    cases b with
    | true =>
      have hc := pz_cm_cs (f := (y - 1) % 64) ht hF (t := mi 4 ((y - 1) / 64).toNat) (by omega) (by omega)
      refine ⟨_, hc.2, by rw [hc.1, eh]; rfl, fun mi' te => ?_⟩
      obtain ⟨-, e2, e3, e4, e5, e6, e7, -⟩ := te
      refine pz_g119_0 ?_
      refine pz_Rn_c (d' := 0) (v := some (.inl ((y - 1) / 64))) (H := pz_hp n0 mi' ml mr c s) (Nat.zero_le d) (pz_g117_0 ⟨by omega, by omega, rfl, rfl⟩) ?_
      refine pz_g119_4 ⟨fun h => absurd h (by decide), fun _ => ⟨by omega, by omega, by omega, ?_⟩⟩
      rw [e6, g2]
      refine pz_Rn_c (d' := 0) (v := some (.inl (1 + 64 * mi 4 ((y - 1) / 64).toNat + (y - 1) % 64))) (H := pz_hp n0 mi' ml mr c s) (Nat.zero_le d) (pz_g114_0 ⟨by omega, by omega, by omega, rfl, rfl⟩) ?_
      exact pz_g119_33 ⟨rfl, rfl⟩
    | false =>
      have hc := pz_cm_cs (f := (y - 1) % 64) ht hF (t := mi 5 ((y - 1) / 64).toNat) (by omega) (by omega)
      refine ⟨_, hc.2, by rw [hc.1, eh]; rfl, fun mi' te => ?_⟩
      obtain ⟨-, e2, e3, e4, e5, e6, e7, -⟩ := te
      have e8 : mi 168 ((y - 1) / 64).toNat = mi 5 ((y - 1) / 64).toNat := by omega
      refine pz_g119_0 ?_
      refine pz_Rn_c (d' := 0) (v := some (.inl ((y - 1) / 64))) (H := pz_hp n0 mi' ml mr c s) (Nat.zero_le d) (pz_g117_0 ⟨by omega, by omega, rfl, rfl⟩) ?_
      refine pz_g119_4 ⟨fun _ => ⟨by omega, by omega, by omega, ?_⟩, fun h => absurd rfl h⟩
      rw [e7, e8]
      refine pz_Rn_c (d' := 0) (v := some (.inl (1 + 64 * mi 5 ((y - 1) / 64).toNat + (y - 1) % 64))) (H := pz_hp n0 mi' ml mr c s) (Nat.zero_le d) (pz_g114_0 ⟨by omega, by omega, by omega, rfl, rfl⟩) ?_
      exact pz_g119_33 ⟨rfl, rfl⟩
end pzu
