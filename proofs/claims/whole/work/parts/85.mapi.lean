/-! The reference's calls that make terms and goals; counts and texts, on both sides. -/
section pzX4
variable {d n0 : Nat} {mi : Nat → Nat → Int} {ml : Nat → Nat → Int64} {mr : Nat → Nat → Option Nat} {c s : Nat} {Q : pz_O → pz_H → Prop} {a0 a1 a2 a3 a4 e : Int}
theorem pz_m101 (he : (¬ (0 ≤ a1 ∧ a1 < 10) ∧ e = 1) ∨ ((0 ≤ a1 ∧ a1 < 10) ∧ 40 ≤ mi 165 1 ∧ e = 2) ∨ ((0 ≤ a1 ∧ a1 < 10) ∧ mi 165 1 < 40 ∧ e = 0)) (h0 : 0 ≤ mi 165 1) (h1 : mi 165 1 ≤ 40) (K1 : e = 0 → Q (.inl (some (.inl (mi 165 1)))) (pz_hp n0 (pz_am1 mi 0 a1 0) ml mr c s)) (K2 : ∀ x, x = e → x ≠ 0 → Q (.inl (some (.inl 0))) (pz_hp n0 (pz_up mi 165 0 x) ml mr c s)) : pz_Rn (d + 1) 101 (0, [], [(0, .inr (.inr (some 165))), (1, .inl a1)], pz_hp n0 mi ml mr c s, true) Q := by
  refine pz_g101_0 ⟨fun h => ?_, fun h => ⟨fun h2 => ?_, fun h2 => ?_⟩⟩
  · exact pz_m100 (e := e) (by omega) h0 h1 (fun h3 => absurd h3 (by omega)) (fun x hx hx0 => pz_g101_22 (K2 x hx hx0))
  · exact pz_m100 (e := e) (by omega) h0 h1 (fun h3 => absurd h3 (by omega)) (fun x hx hx0 => pz_g101_22 (K2 x hx hx0))
  · exact pz_m100 (e := e) (by omega) h0 h1 (fun h3 => pz_g101_22 (K1 h3)) (fun x hx hx0 => pz_g101_22 (K2 x hx hx0))
theorem pz_m103 (he : (¬ (0 ≤ a1 ∧ a1 < 6) ∧ e = 1) ∨ ((0 ≤ a1 ∧ a1 < 6) ∧ 40 ≤ mi 165 1 ∧ e = 2) ∨ ((0 ≤ a1 ∧ a1 < 6) ∧ mi 165 1 < 40 ∧ e = 0)) (h0 : 0 ≤ mi 165 1) (h1 : mi 165 1 ≤ 40) (K1 : e = 0 → Q (.inl (some (.inl (mi 165 1)))) (pz_hp n0 (pz_am1 mi 1 a1 0) ml mr c s)) (K2 : ∀ x, x = e → x ≠ 0 → Q (.inl (some (.inl 0))) (pz_hp n0 (pz_up mi 165 0 x) ml mr c s)) : pz_Rn (d + 1) 103 (0, [], [(0, .inr (.inr (some 165))), (1, .inl a1)], pz_hp n0 mi ml mr c s, true) Q := by
  refine pz_g103_0 ⟨fun h => ?_, fun h => ⟨fun h2 => ?_, fun h2 => ?_⟩⟩
  · exact pz_m100 (e := e) (by omega) h0 h1 (fun h3 => absurd h3 (by omega)) (fun x hx hx0 => pz_g103_21 (K2 x hx hx0))
  · exact pz_m100 (e := e) (by omega) h0 h1 (fun h3 => absurd h3 (by omega)) (fun x hx hx0 => pz_g103_21 (K2 x hx hx0))
  · exact pz_m100 (e := e) (by omega) h0 h1 (fun h3 => pz_g103_21 (K1 h3)) (fun x hx hx0 => pz_g103_21 (K2 x hx hx0))
theorem pz_m105 (he : (¬ (0 ≤ a1 ∧ a1 < mi 165 1 ∧ 0 ≤ a2 ∧ a2 < mi 165 1) ∧ e = 1) ∨ ((0 ≤ a1 ∧ a1 < mi 165 1 ∧ 0 ≤ a2 ∧ a2 < mi 165 1) ∧ 40 ≤ mi 165 1 ∧ e = 2) ∨ ((0 ≤ a1 ∧ a1 < mi 165 1 ∧ 0 ≤ a2 ∧ a2 < mi 165 1) ∧ mi 165 1 < 40 ∧ e = 0)) (h0 : 0 ≤ mi 165 1) (h1 : mi 165 1 ≤ 40) (K1 : e = 0 → Q (.inl (some (.inl (mi 165 1)))) (pz_hp n0 (pz_am1 mi 2 a1 a2) ml mr c s)) (K2 : ∀ x, x = e → x ≠ 0 → Q (.inl (some (.inl 0))) (pz_hp n0 (pz_up mi 165 0 x) ml mr c s)) : pz_Rn (d + 1) 105 (0, [], [(0, .inr (.inr (some 165))), (1, .inl a1), (2, .inl a2)], pz_hp n0 mi ml mr c s, true) Q := by
  refine pz_g105_0 (pz_is104 (fun h => pz_g105_6 ⟨fun _ => ?_, fun h2 => absurd rfl h2⟩) (fun h => pz_g105_6 ⟨fun h2 => absurd h2 (by decide), fun _ => pz_is104 (fun h2 => pz_g105_14 ⟨fun _ => ?_, fun h2 => absurd rfl h2⟩) (fun h2 => pz_g105_14 ⟨fun h2 => absurd h2 (by decide), fun _ => ?_⟩)⟩))
  · exact pz_m100 (e := e) (by omega) h0 h1 (fun h3 => absurd h3 (by omega)) (fun x hx hx0 => pz_g105_28 (K2 x hx hx0))
  · exact pz_m100 (e := e) (by omega) h0 h1 (fun h3 => absurd h3 (by omega)) (fun x hx hx0 => pz_g105_28 (K2 x hx hx0))
  · exact pz_m100 (e := e) (by omega) h0 h1 (fun h3 => pz_g105_28 (K1 h3)) (fun x hx hx0 => pz_g105_28 (K2 x hx hx0))
theorem pz_m107 {k : Int} (hk : (a1 = 0 ∧ k = 1) ∨ (a1 ≠ 0 ∧ k = 0)) (he : (¬ (0 ≤ a2 ∧ a2 < mi 165 1 ∧ 0 ≤ a3 ∧ a3 < mi 165 1) ∧ e = 1) ∨ ((0 ≤ a2 ∧ a2 < mi 165 1 ∧ 0 ≤ a3 ∧ a3 < mi 165 1) ∧ 40 ≤ mi 165 5 ∧ e = 2) ∨ ((0 ≤ a2 ∧ a2 < mi 165 1 ∧ 0 ≤ a3 ∧ a3 < mi 165 1) ∧ mi 165 5 < 40 ∧ e = 0)) (h0 : 0 ≤ mi 165 5) (h1 : mi 165 5 ≤ 40) (K1 : e = 0 → Q (.inl (some (.inl (mi 165 5)))) (pz_hp n0 (pz_gm1 mi k a2 a3) ml mr c s)) (K2 : ∀ x, x = e → x ≠ 0 → Q (.inl (some (.inl 0))) (pz_hp n0 (pz_up mi 165 0 x) ml mr c s)) : pz_Rn (d + 1) 107 (0, [], [(0, .inr (.inr (some 165))), (1, .inl a1), (2, .inl a2), (3, .inl a3)], pz_hp n0 mi ml mr c s, true) Q := by
  refine pz_g107_0 (pz_is104 (fun h => pz_g107_6 ⟨fun _ => ⟨fun h3 => ?_, fun h3 => ?_⟩, fun h2 => absurd rfl h2⟩) (fun h => pz_g107_6 ⟨fun h2 => absurd h2 (by decide), fun _ => pz_is104 (fun h2 => pz_g107_14 ⟨fun _ => ⟨fun h3 => ?_, fun h3 => ?_⟩, fun h2 => absurd rfl h2⟩) (fun h2 => pz_g107_14 ⟨fun h2 => absurd h2 (by decide), fun _ => ⟨fun h3 => ?_, fun h3 => ?_⟩⟩)⟩))
  · exact pz_m106 (e := e) (by omega) h0 h1 (fun h3 => absurd h3 (by omega)) (fun x hx hx0 => pz_g107_36 (K2 x hx hx0))
  · exact pz_m106 (e := e) (by omega) h0 h1 (fun h3 => absurd h3 (by omega)) (fun x hx hx0 => pz_g107_36 (K2 x hx hx0))
  · exact pz_m106 (e := e) (by omega) h0 h1 (fun h3 => absurd h3 (by omega)) (fun x hx hx0 => pz_g107_36 (K2 x hx hx0))
  · exact pz_m106 (e := e) (by omega) h0 h1 (fun h3 => absurd h3 (by omega)) (fun x hx hx0 => pz_g107_36 (K2 x hx hx0))
  · have ek : k = 1 := by omega
    subst ek
    exact pz_m106 (e := e) (by omega) h0 h1 (fun h3 => pz_g107_36 (K1 h3)) (fun x hx hx0 => pz_g107_36 (K2 x hx hx0))
  · have ek : k = 0 := by omega
    subst ek
    exact pz_m106 (e := e) (by omega) h0 h1 (fun h3 => pz_g107_36 (K1 h3)) (fun x hx hx0 => pz_g107_36 (K2 x hx hx0))
theorem pz_m109 {k : Int} (hk : (a1 = 0 ∧ k = 3) ∨ (a1 ≠ 0 ∧ k = 2)) (he : (¬ (0 ≤ a2 ∧ a2 < mi 165 5 ∧ 0 ≤ a3 ∧ a3 < mi 165 5) ∧ e = 1) ∨ ((0 ≤ a2 ∧ a2 < mi 165 5 ∧ 0 ≤ a3 ∧ a3 < mi 165 5) ∧ 40 ≤ mi 165 5 ∧ e = 2) ∨ ((0 ≤ a2 ∧ a2 < mi 165 5 ∧ 0 ≤ a3 ∧ a3 < mi 165 5) ∧ mi 165 5 < 40 ∧ e = 0)) (h0 : 0 ≤ mi 165 5) (h1 : mi 165 5 ≤ 40) (K1 : e = 0 → Q (.inl (some (.inl (mi 165 5)))) (pz_hp n0 (pz_gm1 mi k a2 a3) ml mr c s)) (K2 : ∀ x, x = e → x ≠ 0 → Q (.inl (some (.inl 0))) (pz_hp n0 (pz_up mi 165 0 x) ml mr c s)) : pz_Rn (d + 1) 109 (0, [], [(0, .inr (.inr (some 165))), (1, .inl a1), (2, .inl a2), (3, .inl a3)], pz_hp n0 mi ml mr c s, true) Q := by
  refine pz_g109_0 (pz_is108 (fun h => pz_g109_6 ⟨fun _ => ⟨fun h3 => ?_, fun h3 => ?_⟩, fun h2 => absurd rfl h2⟩) (fun h => pz_g109_6 ⟨fun h2 => absurd h2 (by decide), fun _ => pz_is108 (fun h2 => pz_g109_14 ⟨fun _ => ⟨fun h3 => ?_, fun h3 => ?_⟩, fun h2 => absurd rfl h2⟩) (fun h2 => pz_g109_14 ⟨fun h2 => absurd h2 (by decide), fun _ => ⟨fun h3 => ?_, fun h3 => ?_⟩⟩)⟩))
  · exact pz_m106 (e := e) (by omega) h0 h1 (fun h3 => absurd h3 (by omega)) (fun x hx hx0 => pz_g109_36 (K2 x hx hx0))
  · exact pz_m106 (e := e) (by omega) h0 h1 (fun h3 => absurd h3 (by omega)) (fun x hx hx0 => pz_g109_36 (K2 x hx hx0))
  · exact pz_m106 (e := e) (by omega) h0 h1 (fun h3 => absurd h3 (by omega)) (fun x hx hx0 => pz_g109_36 (K2 x hx hx0))
  · exact pz_m106 (e := e) (by omega) h0 h1 (fun h3 => absurd h3 (by omega)) (fun x hx hx0 => pz_g109_36 (K2 x hx hx0))
  · have ek : k = 3 := by omega
    subst ek
    exact pz_m106 (e := e) (by omega) h0 h1 (fun h3 => pz_g109_36 (K1 h3)) (fun x hx hx0 => pz_g109_36 (K2 x hx hx0))
  · have ek : k = 2 := by omega
    subst ek
    exact pz_m106 (e := e) (by omega) h0 h1 (fun h3 => pz_g109_36 (K1 h3)) (fun x hx hx0 => pz_g109_36 (K2 x hx hx0))
theorem pz_m110 (he : (¬ (0 ≤ a1 ∧ a1 < 4 ∧ 0 ≤ a2 ∧ a2 < mi 165 1 ∧ 0 ≤ a3 ∧ a3 < mi 165 1 ∧ 0 ≤ a4 ∧ a4 < mi 165 1) ∧ e = 1) ∨ ((0 ≤ a1 ∧ a1 < 4 ∧ 0 ≤ a2 ∧ a2 < mi 165 1 ∧ 0 ≤ a3 ∧ a3 < mi 165 1 ∧ 0 ≤ a4 ∧ a4 < mi 165 1) ∧ 40 ≤ mi 165 5 ∧ e = 2) ∨ ((0 ≤ a1 ∧ a1 < 4 ∧ 0 ≤ a2 ∧ a2 < mi 165 1 ∧ 0 ≤ a3 ∧ a3 < mi 165 1 ∧ 0 ≤ a4 ∧ a4 < mi 165 1) ∧ mi 165 5 < 40 ∧ e = 0)) (h0 : 0 ≤ mi 165 5) (h1 : mi 165 5 ≤ 40) (K1 : e = 0 → Q (.inl (some (.inl (mi 165 5)))) (pz_hp n0 (pz_up (pz_up (pz_gm1 mi 4 a1 a2) 172 ((mi 165 5).toNat) a3) 173 ((mi 165 5).toNat) a4) ml mr c s)) (K2 : ∀ x, x = e → x ≠ 0 → Q (.inl (some (.inl 0))) (pz_hp n0 (pz_up mi 165 0 x) ml mr c s)) : pz_Rn (d + 1) 110 (0, [], [(0, .inr (.inr (some 165))), (1, .inl a1), (2, .inl a2), (3, .inl a3), (4, .inl a4)], pz_hp n0 mi ml mr c s, true) Q := by
  have k2 : ∀ x, x = e → x ≠ 0 → pz_Rn (d + 1) 110 (46, [.inl 0], [(0, .inr (.inr (some 165))), (3, .inl a3), (4, .inl a4)], pz_hp n0 (pz_up mi 165 0 x) ml mr c s, true) Q := by
    intro x hx hx0
    have e1 : pz_up mi 165 0 x 165 0 = x := pz_up_at
    exact pz_g110_46 ⟨fun h => absurd h (by omega), fun _ => K2 x hx hx0⟩
  refine pz_g110_0 ⟨fun h => ?_, fun h => ⟨fun h2 => ?_, fun h2 => pz_is104 (fun h3 => pz_g110_15 ⟨fun _ => ?_, fun h2 => absurd rfl h2⟩) (fun h3 => pz_g110_15 ⟨fun h2 => absurd h2 (by decide), fun _ => pz_is104 (fun h4 => pz_g110_23 ⟨fun _ => ?_, fun h2 => absurd rfl h2⟩) (fun h4 => pz_g110_23 ⟨fun h2 => absurd h2 (by decide), fun _ => pz_is104 (fun h5 => pz_g110_32 ⟨fun _ => ?_, fun h2 => absurd rfl h2⟩) (fun h5 => pz_g110_32 ⟨fun h2 => absurd h2 (by decide), fun _ => ?_⟩)⟩)⟩)⟩⟩
  · exact pz_m106 (e := e) (by omega) h0 h1 (fun h3 => absurd h3 (by omega)) k2
  · exact pz_m106 (e := e) (by omega) h0 h1 (fun h3 => absurd h3 (by omega)) k2
  · exact pz_m106 (e := e) (by omega) h0 h1 (fun h3 => absurd h3 (by omega)) k2
  · exact pz_m106 (e := e) (by omega) h0 h1 (fun h3 => absurd h3 (by omega)) k2
  · exact pz_m106 (e := e) (by omega) h0 h1 (fun h3 => absurd h3 (by omega)) k2
  · refine pz_m106 (e := e) (by omega) h0 h1 (fun h6 => ?_) k2
    have e1 : pz_gm1 mi 4 a1 a2 165 0 = 0 := by simp [pz_gm1, pz_up]
    exact pz_g110_46 ⟨fun _ => ⟨by omega, by omega, K1 h6⟩, fun h => absurd h (by omega)⟩
theorem pz_m111 (he : (¬ (0 ≤ a1 ∧ a1 < 4 ∧ -1 ≤ a2 ∧ a2 < mi 165 5) ∧ e = 1) ∨ ((0 ≤ a1 ∧ a1 < 4 ∧ -1 ≤ a2 ∧ a2 < mi 165 5) ∧ e = 0)) (h0 : 0 ≤ mi 165 5) (K1 : e = 0 → Q (.inl none) (pz_hp n0 (pz_up (pz_up mi 165 0 0) 174 (a1.toNat) a2) ml mr c s)) (K2 : ∀ x, x = e → x ≠ 0 → Q (.inl none) (pz_hp n0 (pz_up mi 165 0 x) ml mr c s)) : pz_Rn (d + 1) 111 (0, [], [(0, .inr (.inr (some 165))), (1, .inl a1), (2, .inl a2)], pz_hp n0 mi ml mr c s, true) Q := by
  refine pz_g111_0 ⟨fun h => K2 1 (by omega) (by decide), fun h => ⟨fun h2 => K2 1 (by omega) (by decide), fun h2 => ⟨fun h3 => ⟨by omega, K1 (by omega)⟩, fun h3 => pz_is108 (fun h4 => ?_) (fun h4 => ?_)⟩⟩⟩
  · exact pz_g111_20 ⟨fun _ => K2 1 (by omega) (by decide), fun h2 => absurd rfl h2⟩
  · exact pz_g111_20 ⟨fun h2 => absurd h2 (by decide), fun _ => ⟨by omega, K1 (by omega)⟩⟩
theorem pz_up_2 {α : Type} {f : Nat → Nat → α} {p k : Nat} {v w : α} : pz_up (pz_up f p k v) p k w = pz_up f p k w := by
  funext q j
  unfold pz_up
  by_cases h : q = p ∧ j = k
  · rw [if_pos h, if_pos h]
  · rw [if_neg h, if_neg h, if_neg h]
theorem pz_c84 (he : (¬ (0 ≤ a1 ∧ a1 < 8) ∧ e = 1) ∨ ((0 ≤ a1 ∧ a1 < 8) ∧ e = 0)) (K1 : e = 0 → Q (.inl (some (.inl 0))) (pz_hp n0 mi (pz_up ml 195 0 ((Int32.ofInt (mi 148 a1.toNat)).toInt64)) mr c s)) (K2 : ∀ x, x = e → x ≠ 0 → Q (.inl (some (.inl x))) (pz_hp n0 mi ml mr (c + 1) (s + 6))) : pz_Rn (d + 2) 84 (0, [], [(0, .inr (.inr (some 1))), (1, .inl a1), (2, .inr (.inr (some 195)))], pz_hp n0 mi ml mr c s, true) Q :=
  pz_g84_0 (pz_g83_0 ⟨fun h => pz_kx1 rfl (K2 1 (by omega) (by decide)), fun h => ⟨fun h2 => pz_kx1 rfl (K2 1 (by omega) (by decide)), fun h2 => ⟨by omega, pz_g84_7 ⟨by decide, K1 (by omega)⟩⟩⟩⟩)
theorem pz_m144 (K : Q (.inl (some (.inl 0))) (pz_hp n0 (pz_up mi 165 0 a1) ml mr c s)) : pz_Rn d 144 (0, [], [(0, .inr (.inr (some 165))), (1, .inl a1)], pz_hp n0 (pz_up mi 165 0 0) ml mr c s, true) Q := by
  refine pz_g144_0 ?_
  rw [pz_up_2]
  exact K
theorem pz_m145 (he : (¬ (0 ≤ a1 ∧ a1 < 8) ∧ e = 1) ∨ ((0 ≤ a1 ∧ a1 < 8) ∧ e = 0)) (K1 : e = 0 → Q (.inl (some (.inl (mi 189 a1.toNat)))) (pz_hp n0 (pz_up mi 165 0 0) ml mr c s)) (K2 : ∀ x, x = e → x ≠ 0 → Q (.inl (some (.inl 0))) (pz_hp n0 (pz_up mi 165 0 x) ml mr c s)) : pz_Rn (d + 1) 145 (0, [], [(0, .inr (.inr (some 165))), (1, .inl a1)], pz_hp n0 mi ml mr c s, true) Q :=
  pz_g145_0 ⟨fun h => pz_m144 (pz_g145_20 (K2 1 (by omega) (by decide))), fun h => ⟨fun h2 => ⟨by omega, K1 (by omega)⟩, fun h2 => pz_m144 (pz_g145_20 (K2 1 (by omega) (by decide)))⟩⟩
/-- what text answers -/
def pz_tv (A : List (Nat × (Nat → List Int))) (a1 a2 a3 : Int) : Int := match A[a1.toNat]? with
  | none => -1
  | some x => if 0 ≤ a3 ∧ a3 < ((x.2 a2.toNat).length : Int) then (x.2 a2.toNat).getD a3.toNat 0 else -1
theorem pz_c88 {A : List (Nat × (Nat → List Int))} (hA : pz_AC mi A) (he : (¬ (0 ≤ a1 ∧ a1 < (A.length : Int) ∧ 0 ≤ a2 ∧ a2 < 7) ∧ e = 1) ∨ ((0 ≤ a1 ∧ a1 < (A.length : Int) ∧ 0 ≤ a2 ∧ a2 < 7) ∧ e = 0)) (K1 : e = 0 → Q (.inl (some (.inl 0))) (pz_hp n0 mi (pz_up ml 195 0 ((Int32.ofInt (pz_tv A a1 a2 a3)).toInt64)) mr c s)) (K2 : ∀ x, x = e → x ≠ 0 → Q (.inl (some (.inl x))) (pz_hp n0 mi ml mr (c + 1) (s + 6))) : pz_Rn (d + 3) 88 (0, [], [(0, .inr (.inr (some 1))), (1, .inl a1), (2, .inl a2), (3, .inl a3), (4, .inr (.inr (some 195)))], pz_hp n0 mi ml mr c s, true) Q := by
  obtain ⟨l1, l2, l3⟩ := hA
  refine pz_g88_0 (pz_g87_0 (pz_g85_0 ⟨fun h => ?_, fun h => ⟨fun h2 => ?_, fun h2 => ?_⟩⟩))
  · exact pz_g87_11 ⟨fun _ => pz_kx1 rfl (K2 1 (by omega) (by decide)), fun h2 => absurd rfl h2⟩
  · exact pz_g87_11 ⟨fun _ => pz_kx1 rfl (K2 1 (by omega) (by decide)), fun h2 => absurd rfl h2⟩
  refine pz_g87_11 ⟨fun h2 => absurd h2 (by decide), fun _ => ⟨fun h3 => pz_kx1 rfl (K2 1 (by omega) (by decide)), fun h3 => ⟨fun h4 => pz_kx1 rfl (K2 1 (by omega) (by decide)), fun h4 => ?_⟩⟩⟩
  have hlt : a1.toNat < A.length := by omega
  have hx : A[a1.toNat]? = some A[a1.toNat] := List.getElem?_eq_getElem hlt
  have hr := (l3 a1.toNat _ hx).2 a2.toNat (by omega)
  have ev : pz_tv A a1 a2 a3 = if 0 ≤ a3 ∧ a3 < ((A[a1.toNat].2 a2.toNat).length : Int) then (A[a1.toNat].2 a2.toNat).getD a3.toNat 0 else -1 := by
    unfold pz_tv
    rw [hx]
  rw [ev] at K1
  generalize A[a1.toNat].2 a2.toNat = l at hr K1
  obtain ⟨r1, r2, r3⟩ := hr
  have erow : (a1 * 7 + a2).toNat = 7 * a1.toNat + a2.toNat := by omega
  refine pz_g86_0 ⟨by omega, by omega, ?_⟩
  rintro _ rfl
  rw [erow, r1]
  refine ⟨fun h5 => ?_, fun h5 => ⟨by omega, fun h6 => ?_, fun h6 => ⟨by omega, by omega, by omega, ?_⟩⟩⟩
  · rw [if_neg (by omega)] at K1
    exact pz_g87_45 (pz_g88_10 ⟨by decide, K1 (by omega)⟩)
  · rw [if_neg (by omega)] at K1
    exact pz_g87_45 (pz_g88_10 ⟨by decide, K1 (by omega)⟩)
  · rw [if_pos (by omega)] at K1
    have ei : ((a1 * 7 + a2) * 40 + a3).toNat = 40 * (7 * a1.toNat + a2.toNat) + a3.toNat := by omega
    rw [ei, r3 a3.toNat (by omega)]
    exact pz_g87_45 (pz_g88_10 ⟨by decide, K1 (by omega)⟩)
theorem pz_m146 {A : List (Nat × (Nat → List Int))} (hA : pz_AM mi A) (he : (¬ (0 ≤ a1 ∧ a1 < (A.length : Int) ∧ 0 ≤ a2 ∧ a2 < 7) ∧ e = 1) ∨ ((0 ≤ a1 ∧ a1 < (A.length : Int) ∧ 0 ≤ a2 ∧ a2 < 7) ∧ e = 0)) (K1 : e = 0 → Q (.inl (some (.inl (pz_tv A a1 a2 a3)))) (pz_hp n0 (pz_up mi 165 0 0) ml mr c s)) (K2 : ∀ x, x = e → x ≠ 0 → Q (.inl (some (.inl 0))) (pz_hp n0 (pz_up mi 165 0 x) ml mr c s)) : pz_Rn (d + 1) 146 (0, [], [(0, .inr (.inr (some 165))), (1, .inl a1), (2, .inl a2), (3, .inl a3)], pz_hp n0 mi ml mr c s, true) Q := by
  obtain ⟨l1, l2, l3⟩ := hA
  refine pz_g146_0 ⟨fun h => ?_, fun h => ⟨fun h2 => ?_, fun h2 => ⟨fun h3 => ?_, fun h3 => ⟨fun h4 => ⟨by omega, by omega, ?_⟩, fun h4 => ?_⟩⟩⟩⟩
  · exact pz_m144 (pz_g146_34 (K2 1 (by omega) (by decide)))
  · exact pz_m144 (pz_g146_34 (K2 1 (by omega) (by decide)))
  · exact pz_m144 (pz_g146_34 (K2 1 (by omega) (by decide)))
  · have hlt : a1.toNat < A.length := by omega
    have hx : A[a1.toNat]? = some A[a1.toNat] := List.getElem?_eq_getElem hlt
    have hr := (l3 a1.toNat _ hx).2 a2.toNat (by omega)
    have ev : pz_tv A a1 a2 a3 = if 0 ≤ a3 ∧ a3 < ((A[a1.toNat].2 a2.toNat).length : Int) then (A[a1.toNat].2 a2.toNat).getD a3.toNat 0 else -1 := by
      unfold pz_tv
      rw [hx]
    rw [ev] at K1
    generalize A[a1.toNat].2 a2.toNat = l at hr K1
    obtain ⟨r1, r2, r3⟩ := hr
    have erow : (7 * a1 + a2).toNat = 7 * a1.toNat + a2.toNat := by omega
    rintro _ rfl
    rw [erow, r1]
    refine ⟨fun h5 => ?_, fun h5 => ⟨by omega, fun h6 => ⟨by omega, h5, by omega, by omega, h5, by omega, ?_⟩, fun h6 => ?_⟩⟩
    · rw [if_neg (by omega)] at K1
      exact K1 (by omega)
    · rw [if_pos (by omega)] at K1
      have q := r3 a3.toNat (by omega)
      unfold pz_E pz_ex at q
      have ei : (14 * (7 * a1 + a2) + a3 / 3).toNat = 14 * (7 * a1.toNat + a2.toNat) + a3.toNat / 3 := by omega
      have ej : 10 * (a3 % 3) = 10 * ((a3.toNat % 3 : Nat) : Int) := by omega
      rw [ei, ej, q]
      exact K1 (by omega)
    · rw [if_neg (by omega)] at K1
      exact K1 (by omega)
  · exact pz_m144 (pz_g146_34 (K2 1 (by omega) (by decide)))
theorem pz_c90 {A : List (Nat × (Nat → List Int))} (hA : pz_AC mi A) (he : (¬ (0 ≤ a1 ∧ a1 < (A.length : Int)) ∧ e = 1) ∨ ((0 ≤ a1 ∧ a1 < (A.length : Int)) ∧ e = 0)) (K1 : e = 0 → Q (.inl (some (.inl 0))) (pz_hp n0 mi (pz_up ml 195 0 ((Int32.ofInt (mi 162 a1.toNat)).toInt64)) mr c s)) (K2 : ∀ x, x = e → x ≠ 0 → Q (.inl (some (.inl x))) (pz_hp n0 mi ml mr (c + 1) (s + 6))) : pz_Rn (d + 3) 90 (0, [], [(0, .inr (.inr (some 1))), (1, .inl a1), (2, .inr (.inr (some 195)))], pz_hp n0 mi ml mr c s, true) Q := by
  obtain ⟨l1, l2, l3⟩ := hA
  refine pz_g90_0 (pz_g89_0 (pz_g85_0 ⟨fun h => ?_, fun h => ⟨fun h2 => ?_, fun h2 => ?_⟩⟩))
  · exact pz_g89_11 ⟨fun h2 => absurd rfl h2, fun _ => pz_kx1 rfl (K2 1 (by omega) (by decide))⟩
  · exact pz_g89_11 ⟨fun h2 => absurd rfl h2, fun _ => pz_kx1 rfl (K2 1 (by omega) (by decide))⟩
  · exact pz_g89_11 ⟨fun _ => ⟨by omega, pz_g90_7 ⟨by decide, K1 (by omega)⟩⟩, fun h2 => absurd h2 (by decide)⟩
theorem pz_m147 {A : List (Nat × (Nat → List Int))} (hA : pz_AM mi A) (he : (¬ (0 ≤ a1 ∧ a1 < (A.length : Int)) ∧ e = 1) ∨ ((0 ≤ a1 ∧ a1 < (A.length : Int)) ∧ e = 0)) (K1 : e = 0 → Q (.inl (some (.inl (mi 193 a1.toNat)))) (pz_hp n0 (pz_up mi 165 0 0) ml mr c s)) (K2 : ∀ x, x = e → x ≠ 0 → Q (.inl (some (.inl 0))) (pz_hp n0 (pz_up mi 165 0 x) ml mr c s)) : pz_Rn (d + 1) 147 (0, [], [(0, .inr (.inr (some 165))), (1, .inl a1)], pz_hp n0 mi ml mr c s, true) Q := by
  obtain ⟨l1, l2, l3⟩ := hA
  exact pz_g147_0 ⟨fun h => pz_m144 (pz_g147_24 (K2 1 (by omega) (by decide))), fun h => ⟨fun h2 => ⟨by omega, K1 (by omega)⟩, fun h2 => pz_m144 (pz_g147_24 (K2 1 (by omega) (by decide)))⟩⟩
end pzX4
