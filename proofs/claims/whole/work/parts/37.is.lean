/-! The reference's 'is', by walks. -/
section pzi
variable {d n0 : Nat} {mi : Nat → Nat → Int} {ml : Nat → Nat → Int64} {mr : Nat → Nat → Option Nat} {c s : Nat} {F : Int} {σ : Nat → Option Nat}
theorem pz_cm_v {x : Int} (h : 3000 ≤ x) : pz_cm mi x = (x - 3000).toNat := if_pos h
theorem pz_cm_p {x : Int} (h : x < 3000) (h1 : mi 166 ((x - 1) / 64).toNat = 1) : pz_cm mi x = (6 * ((x - 1) % 64) + mi 167 ((x - 1) / 64).toNat).toNat := by
  unfold pz_cm
  rw [if_neg (by omega), if_pos h1]
theorem pz_cm_n {x : Int} (h : x < 3000) (h1 : mi 166 ((x - 1) / 64).toNat ≠ 1) : pz_cm mi x = 1000 + (41 * ((x - 1) % 64) + (x - 1) / 64).toNat := by
  unfold pz_cm
  rw [if_neg (by omega), if_neg h1]
/-- a model item that is resolved stands as a variable's number or as what is no place -/
def pz_rvm (mi : Nat → Nat → Int) (x : Int) : Prop := 3000 ≤ x ∨ (x < 3000 ∧ mi 166 ((x - 1) / 64).toNat ≠ 1)
theorem pz_vm_f (ht : pz_tm mi) {x : Int} (hx : pz_vm mi F x) (h : x < 3000) : 1 ≤ x ∧ (x - 1) / 64 < mi 2 3 ∧ (x - 1) % 64 < F ∧ pz_tm1 mi ((x - 1) / 64).toNat := by
  rcases hx with hx | hx
  · omega
  · obtain ⟨t1, t2, t3, t4, t5, t6⟩ := ht
    exact ⟨hx.1, hx.2.2.1, hx.2.2.2, t6 _ (by omega)⟩
set_option maxHeartbeats 1000000 in
theorem pz_is1 (ht : pz_tm mi) (hF : F ≤ 40) {n : Nat} (hn : n < 63) (hs : pz_mS mi F n σ) : ∀ (k : Nat) (x : Int), pz_vm mi F x → pz_rs σ (pz_wk σ k (pz_cm mi x)) →
    pz_Rn d 116 (5, [], [(0, .inr (.inr (some 165))), (1, .inl (n : Int)), (3, .inl x), (4, .inl 1)], pz_hp n0 mi ml mr c s, true) (fun o h => ∃ y, (o = .inl (some (.inl y)) ∧ h = pz_hp n0 mi ml mr c s) ∧ pz_vm mi F y ∧ pz_cm mi y = pz_wk σ k (pz_cm mi x) ∧ pz_rvm mi y) := by
  intro k
  induction k with
  | zero =>
    intro x hx hr
    have fin : ∀ y, pz_vm mi F y → pz_cm mi y = pz_cm mi x → pz_rvm mi y → pz_Rn d 116 (5, [], [(0, .inr (.inr (some 165))), (1, .inl (n : Int)), (3, .inl y), (4, .inl 0)], pz_hp n0 mi ml mr c s, true) (fun o h => ∃ y, (o = .inl (some (.inl y)) ∧ h = pz_hp n0 mi ml mr c s) ∧ pz_vm mi F y ∧ pz_cm mi y = pz_wk σ 0 (pz_cm mi x) ∧ pz_rvm mi y) :=
      fun y h1 h2 h3 => pz_g116_5 ⟨fun _ => ⟨y, ⟨rfl, rfl⟩, h1, h2, h3⟩, fun h => absurd rfl h⟩
    have hz : ∀ y : Int, 3000 ≤ y → y < 3000 + 6 * F → pz_cm mi y = pz_cm mi x → mi 182 (240 * (n : Int) + y - 3000).toNat = 0 := by
      intro y h1 h2 h3
      have h4 := (hs (y - 3000).toNat).1 (by omega)
      have e : (240 * (n : Int) + y - 3000).toNat = 240 * n + (y - 3000).toNat := by omega
      rw [e]
      have h5 : pz_rs σ (pz_cm mi x) := hr
      rw [← h3, pz_cm_v h1] at h5
      rcases h5 with h5 | h5
      · omega
      · rw [h5] at h4
        exact h4
    refine pz_g116_5 ⟨fun h => absurd h (by decide), fun _ => ⟨fun h => ?_, fun h => ?_⟩⟩
    · have hx2 : x < 3000 + 6 * F := by rcases hx with hx | hx <;> omega
      exact ⟨by omega, by omega, by omega, by omega, fun _ => fin x hx rfl (.inl h), fun h3 => absurd (hz x h hx2 rfl) h3⟩
    · obtain ⟨h1, h2, h3, h4, h5, h6⟩ := pz_vm_f ht hx h
      have t2 := ht.2.1
      refine ⟨by omega, by omega, by omega, fun hk => fin x hx rfl (.inr ⟨h, hk⟩), fun hk => ?_⟩
      have h8 : 0 ≤ mi 167 ((x - 1) / 64).toNat ∧ mi 167 ((x - 1) / 64).toNat ≤ 5 := by omega
      refine ⟨by omega, by omega, by omega, by omega, by omega, by omega, by omega, by omega, fun z ez => ⟨fun h9 => absurd h9 (by omega), fun h9 => ?_⟩⟩
      have e1 : pz_cm mi z = pz_cm mi x := by
        rw [pz_cm_v h9, pz_cm_p h hk]
        omega
      have hz2 : pz_vm mi F z := .inl ⟨h9, by omega⟩
      exact ⟨by omega, by omega, by omega, by omega, fun _ => fin z hz2 e1 (.inl h9), fun h3 => absurd (hz z h9 (by omega) e1) h3⟩
  | succ k ih =>
    intro x hx hr
    have fin : ∀ y, pz_vm mi F y → pz_cm mi y = pz_cm mi x → pz_rvm mi y → pz_rs σ (pz_cm mi y) → pz_Rn d 116 (5, [], [(0, .inr (.inr (some 165))), (1, .inl (n : Int)), (3, .inl y), (4, .inl 0)], pz_hp n0 mi ml mr c s, true) (fun o h => ∃ y, (o = .inl (some (.inl y)) ∧ h = pz_hp n0 mi ml mr c s) ∧ pz_vm mi F y ∧ pz_cm mi y = pz_wk σ (k + 1) (pz_cm mi x) ∧ pz_rvm mi y) :=
      fun y h1 h2 h3 h4 => pz_g116_5 ⟨fun _ => ⟨y, ⟨rfl, rfl⟩, h1, by rw [← h2, pz_wk_rs h4], h3⟩, fun h => absurd rfl h⟩
    have hz : ∀ y : Int, 3000 ≤ y → y < 3000 + 6 * F → pz_cm mi y = pz_cm mi x → (mi 182 (240 * (n : Int) + y - 3000).toNat = 0 → pz_rs σ (pz_cm mi y)) ∧ ∀ z, z = mi 182 (240 * (n : Int) + y - 3000).toNat → z ≠ 0 → pz_Rn d 116 (5, [], [(0, .inr (.inr (some 165))), (1, .inl (n : Int)), (3, .inl z), (4, .inl 1)], pz_hp n0 mi ml mr c s, true) (fun o h => ∃ y, (o = .inl (some (.inl y)) ∧ h = pz_hp n0 mi ml mr c s) ∧ pz_vm mi F y ∧ pz_cm mi y = pz_wk σ (k + 1) (pz_cm mi x) ∧ pz_rvm mi y) := by
      intro y h1 h2 h3
      have h4 := (hs (y - 3000).toNat).1 (by omega)
      have e : (240 * (n : Int) + y - 3000).toNat = 240 * n + (y - 3000).toNat := by omega
      rw [e]
      cases e2 : σ (y - 3000).toNat with
      | none =>
        rw [e2] at h4
        exact ⟨fun _ => .inr (by rw [pz_cm_v h1]; exact e2), fun z ez hz => absurd (ez.trans h4) hz⟩
      | some a =>
        rw [e2] at h4
        refine ⟨fun h5 => ?_, fun z ez hz => ?_⟩
        · rw [h5] at h4
          rcases h4.1 with h4 | h4 <;> omega
        · have e3 : pz_wk σ (k + 1) (pz_cm mi x) = pz_wk σ k (pz_cm mi z) := by
            rw [← h3, pz_cm_v h1, pz_wk_to (by omega) e2, ez, h4.2]
          rw [e3] at hr ⊢
          exact ih z (by rw [ez]; exact h4.1) hr
    refine pz_g116_5 ⟨fun h => absurd h (by decide), fun _ => ⟨fun h => ?_, fun h => ?_⟩⟩
    · have hx2 : x < 3000 + 6 * F := by rcases hx with hx | hx <;> omega
      obtain ⟨g1, g2⟩ := hz x h hx2 rfl
      exact ⟨by omega, by omega, by omega, by omega, fun h3 => fin x hx rfl (.inl h) (g1 h3), fun h3 => ⟨by omega, by omega, by omega, by omega, fun z ez => g2 z ez (by rw [ez]; exact h3)⟩⟩
    · obtain ⟨h1, h2, h3, h4, h5, h6⟩ := pz_vm_f ht hx h
      have t2 := ht.2.1
      refine ⟨by omega, by omega, by omega, fun hk => fin x hx rfl (.inr ⟨h, hk⟩) (.inl (by rw [pz_cm_n h hk]; omega)), fun hk => ?_⟩
      have h8 : 0 ≤ mi 167 ((x - 1) / 64).toNat ∧ mi 167 ((x - 1) / 64).toNat ≤ 5 := by omega
      refine ⟨by omega, by omega, by omega, by omega, by omega, by omega, by omega, by omega, fun z ez => ⟨fun h9 => absurd h9 (by omega), fun h9 => ?_⟩⟩
      have e1 : pz_cm mi z = pz_cm mi x := by
        rw [pz_cm_v h9, pz_cm_p h hk]
        omega
      have hz2 : pz_vm mi F z := .inl ⟨h9, by omega⟩
      obtain ⟨g1, g2⟩ := hz z h9 (by omega) e1
      exact ⟨by omega, by omega, by omega, by omega, fun h3 => fin z hz2 e1 (.inl h9) (g1 h3), fun h3 => ⟨by omega, by omega, by omega, by omega, fun u eu => g2 u eu (by rw [eu]; exact h3)⟩⟩
/-- the reference's is -/
theorem pz_isC (ht : pz_tm mi) (hF : F ≤ 40) {n : Nat} (hn : n < 63) (hs : pz_mS mi F n σ) (hg : pz_gd σ) {x : Int} (hx : pz_vm mi F x) :
    pz_Rn d 116 (0, [], [(0, .inr (.inr (some 165))), (1, .inl (n : Int)), (2, .inl x)], pz_hp n0 mi ml mr c s, true) (fun o h => ∃ y, (o = .inl (some (.inl y)) ∧ h = pz_hp n0 mi ml mr c s) ∧ pz_vm mi F y ∧ pz_cm mi y = pz_W σ (pz_cm mi x) ∧ pz_rvm mi y) :=
  pz_g116_0 (pz_is1 ht hF hn hs 246 x hx (hg _))
end pzi
