/-! The reference's occurs check: its loop. -/
def pz_skm (mi : Nat → Nat → Int) (a base : Nat) (F : Int) (st : List Nat) : Prop := match st with
  | [] => True
  | x :: r => pz_vm mi F (mi a (base + r.length)) ∧ pz_cm mi (mi a (base + r.length)) = x ∧ pz_skm mi a base F r
theorem pz_skm_te {mi mi' : Nat → Nat → Int} {F : Int} {a base : Nat} (h : pz_te mi mi') {st : List Nat} (h2 : ∀ j, j < base + st.length → mi' a j = mi a j) (hs : pz_skm mi a base F st) : pz_skm mi' a base F st := by
  induction st with
  | nil => trivial
  | cons x r ih =>
    unfold pz_skm at hs ⊢
    rw [h2 _ (by rw [List.length_cons]; omega), pz_vm_te h, pz_cm_te h]
    exact ⟨hs.1, hs.2.1, ih (fun j hj => h2 j (by rw [List.length_cons]; omega)) hs.2.2⟩
/-- how the reference's occurs check ends -/
def pz_ocQ (n0 : Nat) (ml : Nat → Nat → Int64) (mr : Nat → Nat → Option Nat) (c s base : Nat) (mi : Nat → Nat → Int) (x : Option (Bool × Nat)) : pz_O → pz_H → Prop := fun o h => ∃ mi' b, (o = .inl (some (.inl b)) ∧ h = pz_hp n0 mi' ml mr c s) ∧ pz_fr [187] [27, 31] mi mi' ∧ (∀ j, j < base → mi' 187 j = mi 187 j) ∧ match x with
  | none => b = 1 ∧ mi' 165 31 = 1 ∧ mi' 165 27 = 501
  | some (q, k) => b = (if q then 1 else 0) ∧ mi' 165 31 = 0 ∧ mi' 165 27 = 500 - (k : Int) ∧ k ≤ 500
section pzv
variable {d n0 : Nat} {mi : Nat → Nat → Int} {ml : Nat → Nat → Int64} {mr : Nat → Nat → Option Nat} {c s : Nat} {F : Int} {σ : Nat → Option Nat} {Q : pz_O → pz_H → Prop}
theorem pz_ocQ_up {mi mi' : Nat → Nat → Int} {base : Nat} (h : pz_fr [187] [27, 31] mi mi') (hb : ∀ j, j < base → mi' 187 j = mi 187 j) {x : Option (Bool × Nat)} {o : pz_O} {hp : pz_H} : pz_ocQ n0 ml mr c s base mi' x o hp → pz_ocQ n0 ml mr c s base mi x o hp := by
  rintro ⟨m, b, h1, h2, h3, h4⟩
  exact ⟨m, b, h1, pz_fr_trans h h2, fun j hj => (h3 j hj).trans (hb j hj), h4⟩
set_option maxHeartbeats 2000000 in
theorem pz_oc1 {mi0 : Nat → Nat → Int} (ht : pz_tm mi0) (hF : F ≤ 40) {n : Nat} (hn : n < 63) (hg : pz_gd σ) {v base : Nat} (hv : v < 240) : ∀ (r : Nat) (st : List Nat) (mi : Nat → Nat → Int), pz_te mi0 mi → pz_mS mi F n σ → r ≤ 500 → mi 165 27 = 500 - (r : Int) → mi 165 31 = 0 → mi 165 35 = base → ((base + st.length : Nat) : Int) ≤ mi 165 27 + 1 → pz_skm mi 187 base F st →
    pz_Rn (d + 2) 120 (18, [], [(0, .inr (.inr (some 165))), (1, .inl (n : Int)), (2, .inl (3000 + (v : Int))), (4, .inl ((base + st.length : Nat) : Int))], pz_hp n0 mi ml mr c s, true) (pz_ocQ n0 ml mr c s base mi (pz_oc mi0 σ v r st)) := by
  intro r
  induction r with
  | zero =>
    intro st mi hte hs hr hl ho hw hlen hk
    cases st with
    | nil => exact pz_g120_18 ⟨fun _ => ⟨mi, 0, ⟨rfl, rfl⟩, pz_fr_refl, fun _ _ => rfl, rfl, ho, hl, by omega⟩, fun h => absurd h (by rw [hw]; simp)⟩
    | cons a st =>
      have hL : (((base + (a :: st).length : Nat)) : Int) = base + st.length + 1 := by rw [List.length_cons]; omega
      refine pz_g120_18 ⟨fun h => absurd h (by omega), fun _ => ⟨by omega, ?_⟩⟩
      refine pz_Rn_c (d' := 0) (v := none) (H := pz_hp n0 (pz_up (pz_up mi 165 27 (mi 165 27 + 1)) 165 31 1) ml mr c s) (Nat.zero_le _) (pz_g115_0 ⟨by omega, fun h => absurd h (by omega), fun _ => ⟨rfl, rfl⟩⟩) ?_
      have fr1 : pz_fr [187] [27, 31] mi (pz_up (pz_up mi 165 27 (mi 165 27 + 1)) 165 31 1) := pz_fr_trans (pz_fr_u5 (by decide)) (pz_fr_u5 (by decide))
      refine pz_g120_34 ⟨fun h => absurd h (by rw [pz_up_at]; decide), fun _ => ?_⟩
      refine ⟨_, 1, ⟨rfl, rfl⟩, fr1, fun j _ => by rw [pz_upq (by decide), pz_upq (by decide)], rfl, pz_up_at, ?_⟩
      rw [pz_up_ot (by decide), pz_up_at]
      omega
  | succ r ih =>
    intro st mi hte hs hr hl ho hw hlen hk
    cases st with
    | nil => exact pz_g120_18 ⟨fun _ => ⟨mi, 0, ⟨rfl, rfl⟩, pz_fr_refl, fun _ _ => rfl, rfl, ho, hl, by omega⟩, fun h => absurd h (by rw [hw]; simp)⟩
    | cons a st =>
      have hL : (((base + (a :: st).length : Nat)) : Int) = base + st.length + 1 := by rw [List.length_cons]; omega
      have eo : pz_oc mi0 σ v (r + 1) (a :: st) = if pz_W σ a = v then some (true, r) else if pz_kd1 mi0 (pz_W σ a) = 2 then pz_oc mi0 σ v r (pz_hf mi0 (pz_W σ a) true :: pz_hf mi0 (pz_W σ a) false :: st) else pz_oc mi0 σ v r st := rfl
      rw [eo]
      refine pz_g120_18 ⟨fun h => absurd h (by omega), fun _ => ⟨by omega, ?_⟩⟩
      refine pz_Rn_c (d' := 0) (v := none) (H := pz_hp n0 (pz_up mi 165 27 (mi 165 27 + 1)) ml mr c s) (Nat.zero_le _) (pz_g115_0 ⟨by omega, fun _ => ⟨rfl, rfl⟩, fun h => absurd h (by omega)⟩) ?_
      have fr1 : pz_fr [187] [27, 31] mi (pz_up mi 165 27 (mi 165 27 + 1)) := pz_fr_u5 (by decide)
      have te1 := pz_te_fr fr1 (by decide) (by decide)
      have w1 : pz_up mi 165 27 (mi 165 27 + 1) 187 = mi 187 := pz_upq (by decide)
      have l1 : pz_up mi 165 27 (mi 165 27 + 1) 165 27 = mi 165 27 + 1 := pz_up_at
      have o1 : pz_up mi 165 27 (mi 165 27 + 1) 165 31 = 0 := by rw [pz_up_ot (by decide)]; exact ho
      have b1 : pz_up mi 165 27 (mi 165 27 + 1) 165 35 = base := by rw [pz_up_ot (by decide)]; exact hw
      have ms1 := pz_mS_te te1 (fr1.1 182 (by decide) (by decide)) hs
      have t01 := pz_te_trans hte te1
      obtain ⟨k1, k2, k3⟩ := hk
      rw [← w1] at k1 k2
      rw [← pz_vm_te te1] at k1
      rw [← pz_cm_te te1] at k2
      generalize hm1 : pz_up mi 165 27 (mi 165 27 + 1) = m1 at *
      have ht1 := pz_tm_te t01 ht
      have ea : (((base + (a :: st).length : Nat) : Int) + (-1)) = ((base + st.length : Nat) : Int) := by omega
      rw [ea]
      refine pz_g120_34 ⟨fun _ => ⟨by omega, ?_⟩, fun h => absurd o1 h⟩
      have eb : (((base + st.length : Nat) : Int)).toNat = base + st.length := by omega
      rw [eb]
      refine pz_Rn_e (d' := 0) (Nat.zero_le _) (pz_isC ht1 hF hn ms1 hg k1) ?_
      rintro _ _ ⟨y, ⟨rfl, rfl⟩, hy, ey, hry⟩
      rw [k2] at ey
      have hyf := pz_rvm_f ht1 hF hy hry
      refine pz_g120_55 ⟨fun h => ?_, fun h => ?_⟩
      · have hne : pz_W σ a ≠ v := by rw [← ey]; omega
        rw [if_neg hne]
        refine pz_Rn_c (d' := 1) (by omega) (pz_isPairC (d := 0) ht1 hF hy hry) ?_
        refine pz_g120_71 ⟨fun h2 => ?_, fun h2 => ?_⟩
        · have hk2 : pz_kd1 m1 (pz_cm m1 y) = 2 := by
            apply Classical.byContradiction
            intro hn2
            rw [if_neg hn2] at h2
            exact h2 rfl
          obtain ⟨z0, z0v, z0c, z0r⟩ := pz_halfC (d := 0) (n0 := n0) (ml := ml) (mr := mr) (c := c) (s := s) ht1 hF hy hry hk2 false
          obtain ⟨z1, z1v, z1c, z1r⟩ := pz_halfC (d := 0) (n0 := n0) (ml := ml) (mr := mr) (c := c) (s := s) ht1 hF hy hry hk2 true
          rw [ey] at hk2 z0c z1c
          rw [pz_kd1_te t01] at hk2
          rw [pz_hf_te t01] at z0c z1c
          rw [if_pos hk2]
          refine pz_Rn_c (d' := 1) (by omega) (z0r m1 pz_te_refl) ?_
          refine pz_g120_90 ⟨by omega, by omega, ?_⟩
          rw [eb]
          have fr2 : pz_fr [187] [27, 31] m1 (pz_up m1 187 (base + st.length) z0) := pz_fr_up (by decide) (by decide)
          have te2 := pz_te_fr fr2 (by decide) (by decide)
          refine pz_Rn_c (d' := 1) (by omega) (z1r _ te2) ?_
          refine pz_g120_106 ⟨by omega, by omega, ?_⟩
          have ec : (((base + st.length : Nat) : Int) + 1).toNat = base + st.length + 1 := by omega
          rw [ec]
          have fr3 : pz_fr [187] [27, 31] m1 (pz_up (pz_up m1 187 (base + st.length) z0) 187 (base + st.length + 1) z1) := pz_fr_trans fr2 (pz_fr_up (by decide) (by decide))
          have te3 := pz_te_fr fr3 (by decide) (by decide)
          have q5 : ∀ k, pz_up (pz_up m1 187 (base + st.length) z0) 187 (base + st.length + 1) z1 165 k = m1 165 k := fun k => by rw [pz_upq (by decide), pz_upq (by decide)]
          have hq := ih (pz_hf mi0 (pz_W σ a) true :: pz_hf mi0 (pz_W σ a) false :: st) (pz_up (pz_up m1 187 (base + st.length) z0) 187 (base + st.length + 1) z1) (pz_te_trans t01 te3) (pz_mS_te te3 (fr3.1 182 (by decide) (by decide)) ms1) (by omega) (by rw [q5]; omega) (by rw [q5]; exact o1) (by rw [q5]; exact b1) (by rw [q5, List.length_cons, List.length_cons]; omega) ?_
          · have ed : ((base + st.length : Nat) : Int) + 2 = ((base + (pz_hf mi0 (pz_W σ a) true :: pz_hf mi0 (pz_W σ a) false :: st).length : Nat) : Int) := by rw [List.length_cons, List.length_cons]; omega
            rw [ed]
            refine pz_Rn.mono (Nat.le_refl _) hq (fun _ _ => pz_ocQ_up (pz_fr_trans fr1 fr3) (fun j hj => ?_))
            rw [pz_up_ot (by omega), pz_up_ot (by omega), w1]
          · unfold pz_skm
            rw [List.length_cons, show base + (st.length + 1) = base + st.length + 1 by omega, pz_up_at, pz_vm_te te3, pz_cm_te te3]
            refine ⟨z1v, z1c, ?_⟩
            unfold pz_skm
            rw [pz_up_ot (by omega), pz_up_at, pz_vm_te te3, pz_cm_te te3]
            refine ⟨z0v, z0c, ?_⟩
            refine pz_skm_te (pz_te_trans te1 te3) (fun j hj => ?_) k3
            rw [pz_up_ot (by omega), pz_up_ot (by omega), w1]
        · have hk2 : pz_kd1 m1 (pz_cm m1 y) ≠ 2 := by
            intro hn2
            rw [if_pos hn2] at h2
            exact absurd h2 (by decide)
          rw [ey, pz_kd1_te t01] at hk2
          rw [if_neg hk2]
          refine pz_Rn.mono (Nat.le_refl _) (ih st m1 t01 ms1 (by omega) (by omega) o1 b1 (by omega) (pz_skm_te te1 (fun j _ => by rw [w1]) k3)) (fun _ _ => pz_ocQ_up fr1 (fun j _ => by rw [w1]))
      · have he : pz_W σ a = v := by rw [← ey]; omega
        rw [if_pos he]
        exact ⟨m1, 1, ⟨rfl, rfl⟩, fr1, fun j _ => by rw [w1], rfl, o1, by omega, by omega⟩
end pzv
