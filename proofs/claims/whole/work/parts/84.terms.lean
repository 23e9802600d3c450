/-! Calls that make terms and goals, on both sides. -/
section pzX3
variable {d n0 : Nat} {mi : Nat → Nat → Int} {ml : Nat → Nat → Int64} {mr : Nat → Nat → Option Nat} {c s : Nat} {Q : pz_O → pz_H → Prop} {a0 a1 a2 a3 a4 e : Int}
theorem pz_kx1 {m pc x : Nat} {rest : List pz_V} {L : List (Nat × pz_V)} {h : pz_H} {v : Int} (e : pz_ct m pc x = some v) (q : Q (.inl (some (.inl v))) h) : pz_K d m pc rest L Q true (.inr x) h := by
  refine ⟨rfl, ?_⟩
  rw [e]
  exact q
theorem pz_kx0 {m pc x : Nat} {rest : List pz_V} {L : List (Nat × pz_V)} {h : pz_H} (e : pz_ct m pc x = none) (q : Q (.inr x) h) : pz_K d m pc rest L Q true (.inr x) h := by
  refine ⟨rfl, ?_⟩
  rw [e]
  exact q
theorem pz_is9 (K0 : ¬ (0 ≤ a1 ∧ a1 < mi 2 3) → Q (.inl (some (.inl 0))) (pz_hp n0 mi ml mr c s)) (K1 : 0 ≤ a1 ∧ a1 < mi 2 3 → Q (.inl (some (.inl 1))) (pz_hp n0 mi ml mr c s)) : pz_Rn d 9 (0, [], [(0, .inr (.inr (some 2))), (1, .inl a1)], pz_hp n0 mi ml mr c s, true) Q := pz_g9_0 ⟨fun h => K0 (by omega), fun h => ⟨fun h2 => K0 (by omega), fun h2 => K1 ⟨h, h2⟩⟩⟩
theorem pz_is15 (K0 : ¬ (0 ≤ a1 ∧ a1 < mi 6 6) → Q (.inl (some (.inl 0))) (pz_hp n0 mi ml mr c s)) (K1 : 0 ≤ a1 ∧ a1 < mi 6 6 → Q (.inl (some (.inl 1))) (pz_hp n0 mi ml mr c s)) : pz_Rn d 15 (0, [], [(0, .inr (.inr (some 6))), (1, .inl a1)], pz_hp n0 mi ml mr c s, true) Q := pz_g15_0 ⟨fun h => K0 (by omega), fun h => ⟨fun h2 => K0 (by omega), fun h2 => K1 ⟨h, h2⟩⟩⟩
theorem pz_is18 (K0 : ¬ (0 ≤ a0 ∧ a0 < 4) → Q (.inl (some (.inl 0))) (pz_hp n0 mi ml mr c s)) (K1 : 0 ≤ a0 ∧ a0 < 4 → Q (.inl (some (.inl 1))) (pz_hp n0 mi ml mr c s)) : pz_Rn d 18 (0, [], [(0, .inl a0)], pz_hp n0 mi ml mr c s, true) Q := pz_g18_0 ⟨fun h => K0 (by omega), fun h => ⟨fun h2 => K0 (by omega), fun h2 => K1 ⟨h, h2⟩⟩⟩
theorem pz_is104 (K0 : ¬ (0 ≤ a1 ∧ a1 < mi 165 1) → Q (.inl (some (.inl 0))) (pz_hp n0 mi ml mr c s)) (K1 : 0 ≤ a1 ∧ a1 < mi 165 1 → Q (.inl (some (.inl 1))) (pz_hp n0 mi ml mr c s)) : pz_Rn d 104 (0, [], [(0, .inr (.inr (some 165))), (1, .inl a1)], pz_hp n0 mi ml mr c s, true) Q := pz_g104_0 ⟨fun h => K0 (by omega), fun h => ⟨fun h2 => K0 (by omega), fun h2 => K1 ⟨h, h2⟩⟩⟩
theorem pz_is108 (K0 : ¬ (0 ≤ a1 ∧ a1 < mi 165 5) → Q (.inl (some (.inl 0))) (pz_hp n0 mi ml mr c s)) (K1 : 0 ≤ a1 ∧ a1 < mi 165 5 → Q (.inl (some (.inl 1))) (pz_hp n0 mi ml mr c s)) : pz_Rn d 108 (0, [], [(0, .inr (.inr (some 165))), (1, .inl a1)], pz_hp n0 mi ml mr c s, true) Q := pz_g108_0 ⟨fun h => K0 (by omega), fun h => ⟨fun h2 => K0 (by omega), fun h2 => K1 ⟨h, h2⟩⟩⟩
def pz_ac (mi : Nat → Nat → Int) (k a b : Int) : Nat → Nat → Int := pz_up (pz_up (pz_up (pz_up mi 3 ((mi 2 3).toNat) k) 4 ((mi 2 3).toNat) a) 5 ((mi 2 3).toNat) b) 2 3 ((mi 2 3) + 1)
def pz_gc (mi : Nat → Nat → Int) (k a b : Int) : Nat → Nat → Int := pz_up (pz_up (pz_up (pz_up mi 7 ((mi 6 6).toNat) k) 8 ((mi 6 6).toNat) a) 9 ((mi 6 6).toNat) b) 6 6 ((mi 6 6) + 1)
def pz_am1 (mi : Nat → Nat → Int) (k a b : Int) : Nat → Nat → Int := pz_up (pz_up (pz_up (pz_up (pz_up mi 165 0 0) 166 ((mi 165 1).toNat) k) 167 ((mi 165 1).toNat) a) 168 ((mi 165 1).toNat) b) 165 1 ((mi 165 1) + 1)
def pz_gm1 (mi : Nat → Nat → Int) (k a b : Int) : Nat → Nat → Int := pz_up (pz_up (pz_up (pz_up (pz_up mi 165 0 0) 169 ((mi 165 5).toNat) k) 170 ((mi 165 5).toNat) a) 171 ((mi 165 5).toNat) b) 165 5 ((mi 165 5) + 1)
theorem pz_d4 (h0 : 0 ≤ mi 2 3) (K1 : mi 2 3 < 40 → Q (.inl (some (.inl (mi 2 3)))) (pz_hp n0 (pz_ac mi a1 a2 a3) ml mr c s)) (K2 : 40 ≤ mi 2 3 → Q (.inr 2) (pz_hp n0 mi ml mr (c + 1) (s + 6))) : pz_Rn (d + 2) 4 (0, [], [(0, .inr (.inr (some 1))), (1, .inl a1), (2, .inl a2), (3, .inl a3)], pz_hp n0 mi ml mr c s, true) Q := by
  refine pz_g4_0 ⟨fun h => pz_g3_0 ?_, K2⟩
  rintro _ rfl
  exact ⟨fun h2 => absurd h2 (by omega), fun h2 => ⟨by omega, by omega, by omega, by omega, pz_g4_30 (K1 h2)⟩⟩
theorem pz_d12 (h0 : 0 ≤ mi 6 6) (h1 : mi 6 6 < 40) (K1 : Q (.inl (some (.inl (mi 6 6)))) (pz_hp n0 (pz_gc mi a1 a2 a3) ml mr c s)) : pz_Rn d 12 (0, [], [(0, .inr (.inr (some 6))), (1, .inl a1), (2, .inl a2), (3, .inl a3)], pz_hp n0 mi ml mr c s, true) Q := by
  refine pz_g12_0 ?_
  rintro _ rfl
  exact ⟨fun h2 => absurd h2 (by omega), fun h2 => ⟨by omega, by omega, by omega, by omega, K1⟩⟩
theorem pz_m100 (he : (a1 = 0 ∧ e = 1) ∨ (a1 ≠ 0 ∧ 40 ≤ mi 165 1 ∧ e = 2) ∨ (a1 ≠ 0 ∧ mi 165 1 < 40 ∧ e = 0)) (h0 : 0 ≤ mi 165 1) (h1 : mi 165 1 ≤ 40) (K1 : e = 0 → Q (.inl (some (.inl (mi 165 1)))) (pz_hp n0 (pz_am1 mi a2 a3 a4) ml mr c s)) (K2 : ∀ x, x = e → x ≠ 0 → Q (.inl (some (.inl 0))) (pz_hp n0 (pz_up mi 165 0 x) ml mr c s)) : pz_Rn d 100 (0, [], [(0, .inr (.inr (some 165))), (1, .inl a1), (2, .inl a2), (3, .inl a3), (4, .inl a4)], pz_hp n0 mi ml mr c s, true) Q := by
  refine pz_g100_0 ⟨fun h => ⟨fun h2 => ⟨by omega, by omega, by omega, by omega, by omega, ?_⟩, fun h2 => K2 2 (by omega) (by decide)⟩, fun h => K2 1 (by omega) (by decide)⟩
  have e1 : mi 165 1 + 1 - 1 = mi 165 1 := by omega
  rw [e1]
  exact K1 (by omega)
theorem pz_m106 (he : (a1 = 0 ∧ e = 1) ∨ (a1 ≠ 0 ∧ 40 ≤ mi 165 5 ∧ e = 2) ∨ (a1 ≠ 0 ∧ mi 165 5 < 40 ∧ e = 0)) (h0 : 0 ≤ mi 165 5) (h1 : mi 165 5 ≤ 40) (K1 : e = 0 → Q (.inl (some (.inl (mi 165 5)))) (pz_hp n0 (pz_gm1 mi a2 a3 a4) ml mr c s)) (K2 : ∀ x, x = e → x ≠ 0 → Q (.inl (some (.inl 0))) (pz_hp n0 (pz_up mi 165 0 x) ml mr c s)) : pz_Rn d 106 (0, [], [(0, .inr (.inr (some 165))), (1, .inl a1), (2, .inl a2), (3, .inl a3), (4, .inl a4)], pz_hp n0 mi ml mr c s, true) Q := by
  refine pz_g106_0 ⟨fun h => ⟨fun h2 => ⟨by omega, by omega, by omega, by omega, by omega, ?_⟩, fun h2 => K2 2 (by omega) (by decide)⟩, fun h => K2 1 (by omega) (by decide)⟩
  have e1 : mi 165 5 + 1 - 1 = mi 165 5 := by omega
  rw [e1]
  exact K1 (by omega)
/-- atom -/
theorem pz_c6 (he : (¬ (0 ≤ a1 ∧ a1 < 10) ∧ e = 1) ∨ ((0 ≤ a1 ∧ a1 < 10) ∧ 40 ≤ mi 2 3 ∧ e = 2) ∨ ((0 ≤ a1 ∧ a1 < 10) ∧ mi 2 3 < 40 ∧ e = 0)) (h0 : 0 ≤ mi 2 3) (K1 : e = 0 → Q (.inl (some (.inl 0))) (pz_hp n0 (pz_ac mi 0 a1 (-1)) (pz_up ml 195 0 ((Int32.ofInt (mi 2 3)).toInt64)) mr c s)) (K2 : ∀ x, x = e → x ≠ 0 → Q (.inl (some (.inl x))) (pz_hp n0 mi ml mr (c + 1) (s + 6))) : pz_Rn (d + 4) 6 (0, [], [(0, .inr (.inr (some 1))), (1, .inl a1), (2, .inr (.inr (some 195)))], pz_hp n0 mi ml mr c s, true) Q := by
  refine pz_g6_0 (pz_g5_0 ⟨fun h => pz_kx1 rfl (K2 1 (by omega) (by decide)), fun h => ⟨fun h2 => pz_kx1 rfl (K2 1 (by omega) (by decide)), fun h2 => ?_⟩⟩)
  exact pz_d4 h0 (fun h3 => pz_g5_25 (pz_g6_7 ⟨by decide, K1 (by omega)⟩)) (fun h3 => pz_kx0 rfl (pz_kx1 rfl (K2 2 (by omega) (by decide))))
theorem pz_c8 (he : (¬ (0 ≤ a1 ∧ a1 < 6) ∧ e = 1) ∨ ((0 ≤ a1 ∧ a1 < 6) ∧ 40 ≤ mi 2 3 ∧ e = 2) ∨ ((0 ≤ a1 ∧ a1 < 6) ∧ mi 2 3 < 40 ∧ e = 0)) (h0 : 0 ≤ mi 2 3) (K1 : e = 0 → Q (.inl (some (.inl 0))) (pz_hp n0 (pz_ac mi 1 a1 (-1)) (pz_up ml 195 0 ((Int32.ofInt (mi 2 3)).toInt64)) mr c s)) (K2 : ∀ x, x = e → x ≠ 0 → Q (.inl (some (.inl x))) (pz_hp n0 mi ml mr (c + 1) (s + 6))) : pz_Rn (d + 4) 8 (0, [], [(0, .inr (.inr (some 1))), (1, .inl a1), (2, .inr (.inr (some 195)))], pz_hp n0 mi ml mr c s, true) Q := by
  refine pz_g8_0 (pz_g7_0 ⟨fun h => pz_kx1 rfl (K2 1 (by omega) (by decide)), fun h => ⟨fun h2 => pz_kx1 rfl (K2 1 (by omega) (by decide)), fun h2 => ?_⟩⟩)
  exact pz_d4 h0 (fun h3 => pz_g7_25 (pz_g8_7 ⟨by decide, K1 (by omega)⟩)) (fun h3 => pz_kx0 rfl (pz_kx1 rfl (K2 2 (by omega) (by decide))))
theorem pz_c11 (he : (¬ (0 ≤ a1 ∧ a1 < mi 2 3 ∧ 0 ≤ a2 ∧ a2 < mi 2 3) ∧ e = 1) ∨ ((0 ≤ a1 ∧ a1 < mi 2 3 ∧ 0 ≤ a2 ∧ a2 < mi 2 3) ∧ 40 ≤ mi 2 3 ∧ e = 2) ∨ ((0 ≤ a1 ∧ a1 < mi 2 3 ∧ 0 ≤ a2 ∧ a2 < mi 2 3) ∧ mi 2 3 < 40 ∧ e = 0)) (h0 : 0 ≤ mi 2 3) (K1 : e = 0 → Q (.inl (some (.inl 0))) (pz_hp n0 (pz_ac mi 2 a1 a2) (pz_up ml 195 0 ((Int32.ofInt (mi 2 3)).toInt64)) mr c s)) (K2 : ∀ x, x = e → x ≠ 0 → Q (.inl (some (.inl x))) (pz_hp n0 mi ml mr (c + 1) (s + 6))) : pz_Rn (d + 4) 11 (0, [], [(0, .inr (.inr (some 1))), (1, .inl a1), (2, .inl a2), (3, .inr (.inr (some 195)))], pz_hp n0 mi ml mr c s, true) Q := by
  refine pz_g11_0 (pz_g10_0 (pz_is9 (fun h => ?_) (fun h => ?_)))
  · exact pz_g10_8 ⟨fun _ => pz_kx1 rfl (K2 1 (by omega) (by decide)), fun h2 => absurd rfl h2⟩
  refine pz_g10_8 ⟨fun h2 => absurd h2 (by decide), fun _ => pz_is9 (fun h2 => ?_) (fun h2 => ?_)⟩
  · exact pz_g10_19 ⟨fun _ => pz_kx1 rfl (K2 1 (by omega) (by decide)), fun h2 => absurd rfl h2⟩
  refine pz_g10_19 ⟨fun h2 => absurd h2 (by decide), fun _ => ?_⟩
  exact pz_d4 h0 (fun h3 => pz_g10_37 (pz_g11_8 ⟨by decide, K1 (by omega)⟩)) (fun h3 => pz_kx0 rfl (pz_kx1 rfl (K2 2 (by omega) (by decide))))
theorem pz_c14 {k : Int} (hk : (a1 = 0 ∧ k = 1) ∨ (a1 ≠ 0 ∧ k = 0)) (he : (¬ (0 ≤ a2 ∧ a2 < mi 2 3 ∧ 0 ≤ a3 ∧ a3 < mi 2 3) ∧ e = 1) ∨ ((0 ≤ a2 ∧ a2 < mi 2 3 ∧ 0 ≤ a3 ∧ a3 < mi 2 3) ∧ 40 ≤ mi 6 6 ∧ e = 2) ∨ ((0 ≤ a2 ∧ a2 < mi 2 3 ∧ 0 ≤ a3 ∧ a3 < mi 2 3) ∧ mi 6 6 < 40 ∧ e = 0)) (h0 : 0 ≤ mi 6 6) (K1 : e = 0 → Q (.inl (some (.inl 0))) (pz_hp n0 (pz_gc mi k a2 a3) (pz_up ml 195 0 ((Int32.ofInt (mi 6 6)).toInt64)) mr c s)) (K2 : ∀ x, x = e → x ≠ 0 → Q (.inl (some (.inl x))) (pz_hp n0 mi ml mr (c + 1) (s + 6))) : pz_Rn (d + 3) 14 (0, [], [(0, .inr (.inr (some 1))), (1, .inl a1), (2, .inl a2), (3, .inl a3), (4, .inr (.inr (some 195)))], pz_hp n0 mi ml mr c s, true) Q := by
  refine pz_g14_0 (pz_g13_0 (pz_is9 (fun h => ?_) (fun h => ?_)))
  · exact pz_g13_8 ⟨fun _ => pz_kx1 rfl (K2 1 (by omega) (by decide)), fun h2 => absurd rfl h2⟩
  refine pz_g13_8 ⟨fun h2 => absurd h2 (by decide), fun _ => pz_is9 (fun h2 => ?_) (fun h2 => ?_)⟩
  · exact pz_g13_19 ⟨fun _ => pz_kx1 rfl (K2 1 (by omega) (by decide)), fun h2 => absurd rfl h2⟩
  refine pz_g13_19 ⟨fun h2 => absurd h2 (by decide), fun _ => ⟨fun h3 => ⟨fun h4 => ?_, fun h4 => ?_⟩, fun h3 => pz_kx1 rfl (K2 2 (by omega) (by decide))⟩⟩
  · have ek : k = 1 := by omega
    subst ek
    exact pz_d12 h0 h3 (pz_g13_68 (pz_g14_10 ⟨by decide, K1 (by omega)⟩))
  · have ek : k = 0 := by omega
    subst ek
    exact pz_d12 h0 h3 (pz_g13_68 (pz_g14_10 ⟨by decide, K1 (by omega)⟩))
theorem pz_c17 {k : Int} (hk : (a1 = 0 ∧ k = 3) ∨ (a1 ≠ 0 ∧ k = 2)) (he : (¬ (0 ≤ a2 ∧ a2 < mi 6 6 ∧ 0 ≤ a3 ∧ a3 < mi 6 6) ∧ e = 1) ∨ ((0 ≤ a2 ∧ a2 < mi 6 6 ∧ 0 ≤ a3 ∧ a3 < mi 6 6) ∧ 40 ≤ mi 6 6 ∧ e = 2) ∨ ((0 ≤ a2 ∧ a2 < mi 6 6 ∧ 0 ≤ a3 ∧ a3 < mi 6 6) ∧ mi 6 6 < 40 ∧ e = 0)) (h0 : 0 ≤ mi 6 6) (K1 : e = 0 → Q (.inl (some (.inl 0))) (pz_hp n0 (pz_gc mi k a2 a3) (pz_up ml 195 0 ((Int32.ofInt (mi 6 6)).toInt64)) mr c s)) (K2 : ∀ x, x = e → x ≠ 0 → Q (.inl (some (.inl x))) (pz_hp n0 mi ml mr (c + 1) (s + 6))) : pz_Rn (d + 3) 17 (0, [], [(0, .inr (.inr (some 1))), (1, .inl a1), (2, .inl a2), (3, .inl a3), (4, .inr (.inr (some 195)))], pz_hp n0 mi ml mr c s, true) Q := by
  refine pz_g17_0 (pz_g16_0 (pz_is15 (fun h => ?_) (fun h => ?_)))
  · exact pz_g16_8 ⟨fun _ => pz_kx1 rfl (K2 1 (by omega) (by decide)), fun h2 => absurd rfl h2⟩
  refine pz_g16_8 ⟨fun h2 => absurd h2 (by decide), fun _ => pz_is15 (fun h2 => ?_) (fun h2 => ?_)⟩
  · exact pz_g16_19 ⟨fun _ => pz_kx1 rfl (K2 1 (by omega) (by decide)), fun h2 => absurd rfl h2⟩
  refine pz_g16_19 ⟨fun h2 => absurd h2 (by decide), fun _ => ⟨fun h3 => ⟨fun h4 => ?_, fun h4 => ?_⟩, fun h3 => pz_kx1 rfl (K2 2 (by omega) (by decide))⟩⟩
  · have ek : k = 3 := by omega
    subst ek
    exact pz_d12 h0 h3 (pz_g16_68 (pz_g17_10 ⟨by decide, K1 (by omega)⟩))
  · have ek : k = 2 := by omega
    subst ek
    exact pz_d12 h0 h3 (pz_g16_68 (pz_g17_10 ⟨by decide, K1 (by omega)⟩))
theorem pz_c21 (he : (¬ (0 ≤ a1 ∧ a1 < 4 ∧ 0 ≤ a2 ∧ a2 < mi 2 3 ∧ 0 ≤ a3 ∧ a3 < mi 2 3 ∧ 0 ≤ a4 ∧ a4 < mi 2 3) ∧ e = 1) ∨ ((0 ≤ a1 ∧ a1 < 4 ∧ 0 ≤ a2 ∧ a2 < mi 2 3 ∧ 0 ≤ a3 ∧ a3 < mi 2 3 ∧ 0 ≤ a4 ∧ a4 < mi 2 3) ∧ 40 ≤ mi 6 6 ∧ e = 2) ∨ ((0 ≤ a1 ∧ a1 < 4 ∧ 0 ≤ a2 ∧ a2 < mi 2 3 ∧ 0 ≤ a3 ∧ a3 < mi 2 3 ∧ 0 ≤ a4 ∧ a4 < mi 2 3) ∧ mi 6 6 < 40 ∧ e = 0)) (h0 : 0 ≤ mi 6 6) (K1 : e = 0 → Q (.inl (some (.inl 0))) (pz_hp n0 (pz_up (pz_up (pz_gc mi 4 a2 a3) 10 ((mi 6 6).toNat) a4) 11 ((mi 6 6).toNat) a1) (pz_up ml 195 0 ((Int32.ofInt (mi 6 6)).toInt64)) mr c s)) (K2 : ∀ x, x = e → x ≠ 0 → Q (.inl (some (.inl x))) (pz_hp n0 mi ml mr (c + 1) (s + 6))) : pz_Rn (d + 4) 21 (0, [], [(0, .inr (.inr (some 1))), (1, .inl a1), (2, .inl a2), (3, .inl a3), (4, .inl a4), (5, .inr (.inr (some 195)))], pz_hp n0 mi ml mr c s, true) Q := by
  refine pz_g21_0 (pz_g20_0 (pz_is18 (fun h => ?_) (fun h => ?_)))
  · exact pz_g20_4 ⟨fun _ => pz_kx1 rfl (K2 1 (by omega) (by decide)), fun h2 => absurd rfl h2⟩
  refine pz_g20_4 ⟨fun h2 => absurd h2 (by decide), fun _ => pz_is9 (fun h2 => ?_) (fun h2 => ?_)⟩
  · exact pz_g20_15 ⟨fun _ => pz_kx1 rfl (K2 1 (by omega) (by decide)), fun h2 => absurd rfl h2⟩
  refine pz_g20_15 ⟨fun h2 => absurd h2 (by decide), fun _ => pz_is9 (fun h3 => ?_) (fun h3 => ?_)⟩
  · exact pz_g20_26 ⟨fun _ => pz_kx1 rfl (K2 1 (by omega) (by decide)), fun h2 => absurd rfl h2⟩
  refine pz_g20_26 ⟨fun h2 => absurd h2 (by decide), fun _ => pz_is9 (fun h4 => ?_) (fun h4 => ?_)⟩
  · exact pz_g20_38 ⟨fun _ => pz_kx1 rfl (K2 1 (by omega) (by decide)), fun h2 => absurd rfl h2⟩
  refine pz_g20_38 ⟨fun h2 => absurd h2 (by decide), fun _ => ⟨fun h5 => ?_, fun h5 => pz_kx1 rfl (K2 2 (by omega) (by decide))⟩⟩
  have e66 : pz_gc mi 4 a2 a3 6 6 = mi 6 6 + 1 := by simp [pz_gc, pz_up]
  refine pz_g19_0 (pz_d12 h0 h5 (pz_g19_7 (pz_is15 (fun h6 => absurd h6 (by omega)) (fun _ => ?_))))
  exact pz_g19_15 ⟨fun h2 => absurd h2 (by decide), fun _ => ⟨by omega, by omega, pz_g20_81 (pz_g21_12 ⟨by decide, K1 (by omega)⟩)⟩⟩
theorem pz_c23 (he : (¬ (0 ≤ a1 ∧ a1 < 4 ∧ -1 ≤ a2 ∧ a2 < mi 6 6) ∧ e = 1) ∨ ((0 ≤ a1 ∧ a1 < 4 ∧ -1 ≤ a2 ∧ a2 < mi 6 6) ∧ e = 0)) (h0 : 0 ≤ mi 6 6) (K1 : e = 0 → Q (.inl (some (.inl 0))) (pz_hp n0 (pz_up mi 12 (a1.toNat) a2) ml mr c s)) (K2 : ∀ x, x = e → x ≠ 0 → Q (.inl (some (.inl x))) (pz_hp n0 mi ml mr (c + 1) (s + 6))) : pz_Rn (d + 3) 23 (0, [], [(0, .inr (.inr (some 1))), (1, .inl a1), (2, .inl a2)], pz_hp n0 mi ml mr c s, true) Q := by
  refine pz_g23_0 (pz_g22_0 (pz_is18 (fun h => ?_) (fun h => ?_)))
  · exact pz_g22_4 ⟨fun _ => pz_kx1 rfl (K2 1 (by omega) (by decide)), fun h2 => absurd rfl h2⟩
  refine pz_g22_4 ⟨fun h2 => absurd h2 (by decide), fun _ => ⟨fun h2 => ⟨by omega, pz_g23_6 (K1 (by omega))⟩, fun h2 => pz_is15 (fun h3 => ?_) (fun h3 => ?_)⟩⟩
  · exact pz_g22_20 ⟨fun _ => pz_kx1 rfl (K2 1 (by omega) (by decide)), fun h2 => absurd rfl h2⟩
  exact pz_g22_20 ⟨fun h2 => absurd h2 (by decide), fun _ => ⟨by omega, pz_g23_6 (K1 (by omega))⟩⟩
end pzX3
