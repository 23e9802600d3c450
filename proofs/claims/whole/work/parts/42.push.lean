/-! The class's pushHalves and bind. -/
section pzp
variable {d n0 : Nat} {mi : Nat → Nat → Int} {ml : Nat → Nat → Int64} {mr : Nat → Nat → Option Nat} {c s : Nat} {F : Int} {σ : Nat → Option Nat} {Q : pz_O → pz_H → Prop}
/-- Matcher.pushHalves -/
theorem pz_push (ht : pz_tm mi) (hF : F ≤ 40) {x y : Int} (hx : pz_vs mi F x) (hy : pz_vs mi F y) (kx : mi 3 (x % 41).toNat = 2) (ky : mi 3 (y % 41).toNat = 2) {w : Nat} (hw : w ≤ 501) :
    pz_Rn (d + 1) 50 (0, [], [(0, .inr (.inr (some 155))), (1, .inl x), (2, .inl y), (3, .inl (w : Int))], pz_hp n0 mi ml mr c s, true) (fun o h => o = .inl none ∧ h = pz_hp n0 (pz_up (pz_up (pz_up (pz_up mi 156 w (x / 41 * 41 + mi 5 (x % 41).toNat)) 157 w (y / 41 * 41 + mi 5 (y % 41).toNat)) 156 (w + 1) (x / 41 * 41 + mi 4 (x % 41).toNat)) 157 (w + 1) (y / 41 * 41 + mi 4 (y % 41).toNat)) ml mr c s) := by
  have fx := pz_vs_f ht hx
  have fy := pz_vs_f ht hy
  have x1 := hx.1
  have x2 := hx.2.1
  have y1 := hy.1
  have y2 := hy.2.1
  have ew : ((w : Int)).toNat = w := by omega
  have ew1 : ((w : Int) + 1).toNat = w + 1 := by omega
  refine pz_g50_0 ⟨x1, fun fx' ex => ⟨y1, fun fy' ey => ⟨x1, by omega, ?_⟩⟩⟩
  subst ex ey
  refine pz_Rn_c (Nat.zero_le _) (pz_spot (by omega) (by omega)) ?_
  refine pz_g50_34 ⟨by omega, y1, by omega, ?_⟩
  refine pz_Rn_c (Nat.zero_le _) (pz_spot (by omega) (by omega)) ?_
  refine pz_g50_57 ⟨by omega, by omega, x1, by omega, ?_⟩
  have g1 : ∀ (u : Nat) (z : Int), pz_up mi 156 u z 4 = mi 4 := fun u z => pz_upq (by decide)
  rw [g1]
  refine pz_Rn_c (Nat.zero_le _) (pz_spot (by omega) (by omega)) ?_
  refine pz_g50_82 ⟨by omega, by omega, y1, by omega, ?_⟩
  have g2 : ∀ (u v : Nat) (z q : Int), pz_up (pz_up mi 156 u z) 157 v q 4 = mi 4 := fun u v z q => by rw [pz_upq (by decide), pz_upq (by decide)]
  rw [g2]
  refine pz_Rn_c (Nat.zero_le _) (pz_spot (by omega) (by omega)) ?_
  refine pz_g50_107 ⟨by omega, rfl, ?_⟩
  rw [ew, ew1]
/-- Bindings.bind, where there is room -/
theorem pz_bindC {v x : Int} (hm : 0 ≤ mi 150 5 ∧ mi 150 5 ≤ 1000) (hv : 0 ≤ v ∧ v < 246) :
    pz_Rn d 45 (0, [], [(0, .inr (.inr (some 150))), (1, .inl v), (2, .inl x)], pz_hp n0 mi ml mr c s, true) (fun o h => o = .inl none ∧ h = pz_hp n0 (pz_up (pz_up (pz_up (pz_up (pz_up (pz_up mi 151 (mi 150 5).toNat v) 152 (mi 150 5).toNat x) 153 (mi 150 5).toNat (mi 150 6)) 154 v.toNat x) 150 6 (mi 150 5)) 150 5 (mi 150 5 + 1)) ml mr c s) :=
  pz_g45_0 ⟨fun h => absurd h (by omega), fun _ => ⟨by omega, by omega, by omega, hv, by omega, rfl, rfl⟩⟩
/-- .. where there is none -/
theorem pz_bindX {v x : Int} (hm : 1000 < mi 150 5) : pz_Rn d 45 (0, [], [(0, .inr (.inr (some 150))), (1, .inl v), (2, .inl x)], pz_hp n0 mi ml mr c s, true) (fun o h => o = .inl none ∧ h = pz_hp n0 mi ml mr c s) :=
  pz_g45_0 ⟨fun _ => ⟨rfl, rfl⟩, fun h => absurd h (by omega)⟩
end pzp
