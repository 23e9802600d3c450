/-! The class's match: one round of its loop. -/
section pzd
variable {d n0 : Nat} {mi mi' : Nat → Nat → Int} {ml : Nat → Nat → Int64} {mr : Nat → Nat → Option Nat} {c s : Nat} {F : Int} {σ σ0 : Nat → Option Nat} {Q : pz_O → pz_H → Prop}
theorem pz_vs_b (ht : pz_tm mi) (hF : F ≤ 40) {x : Int} (hx : pz_vs mi F x) : (mi 3 (x % 41).toNat = 1 ∧ pz_cs mi x < 240 ∧ ((pz_cs mi x : Nat) : Int) = x / 41 * 6 + mi 4 (x % 41).toNat ∧ ((pz_cs mi x : Nat) : Int) < 6 * F) ∨ (mi 3 (x % 41).toNat ≠ 1 ∧ 1000 ≤ pz_cs mi x ∧ pz_ct1 (pz_cs mi x) = (x % 41).toNat) := by
  have hf := pz_vs_f ht hx
  have h1 := hx.1
  have h2 := hx.2.1
  by_cases hk : mi 3 (x % 41).toNat = 1
  · left
    rw [pz_cs_v hk]
    refine ⟨hk, ?_, ?_, ?_⟩ <;> omega
  · right
    rw [pz_cs_n hk]
    refine ⟨hk, by omega, ?_⟩
    unfold pz_ct1
    omega
theorem pz_inside_x {v x : Int} (h : mi 155 5 = 501) : pz_Rn (d + 1) 53 (0, [], [(0, .inr (.inr (some 155))), (1, .inl v), (2, .inl x)], pz_hp n0 mi ml mr c s, true) (pz_inQ n0 ml mr c s mi none) := by
  have fr1 : pz_fr [155, 158] [] mi (pz_up mi 158 0 x) := pz_fr_up (by decide) (by decide)
  refine pz_g53_0 (pz_in_x fr1 ?_)
  rw [pz_upq (by decide)]
  exact h
theorem pz_oc_te (h : pz_te mi mi') (v r : Nat) (st : List Nat) : pz_oc mi' σ v r st = pz_oc mi σ v r st := by
  induction r generalizing st with
  | zero => cases st <;> rfl
  | succ r ih =>
    cases st with
    | nil => rfl
    | cons a st =>
      show (if pz_W σ a = v then some (true, r) else if pz_kd1 mi' (pz_W σ a) = 2 then pz_oc mi' σ v r (pz_hf mi' (pz_W σ a) true :: pz_hf mi' (pz_W σ a) false :: st) else pz_oc mi' σ v r st) = (if pz_W σ a = v then some (true, r) else if pz_kd1 mi (pz_W σ a) = 2 then pz_oc mi σ v r (pz_hf mi (pz_W σ a) true :: pz_hf mi (pz_W σ a) false :: st) else pz_oc mi σ v r st)
      rw [pz_kd1_te h, pz_hf_te h, ih, ih]
theorem pz_oc_le {v r k : Nat} {st : List Nat} {q : Bool} (h : pz_oc mi σ v r st = some (q, k)) : k ≤ r := by
  induction r generalizing st with
  | zero =>
    cases st with
    | nil =>
      have e : pz_oc mi σ v 0 [] = some (false, 0) := rfl
      rw [e] at h
      cases h
      exact Nat.le_refl _
    | cons a st => cases h
  | succ r ih =>
    cases st with
    | nil =>
      have e : pz_oc mi σ v (r + 1) [] = some (false, r + 1) := rfl
      rw [e] at h
      cases h
      exact Nat.le_refl _
    | cons a st =>
      have e : pz_oc mi σ v (r + 1) (a :: st) = if pz_W σ a = v then some (true, r) else if pz_kd1 mi (pz_W σ a) = 2 then pz_oc mi σ v r (pz_hf mi (pz_W σ a) true :: pz_hf mi (pz_W σ a) false :: st) else pz_oc mi σ v r st := rfl
      rw [e] at h
      split at h
      · cases h
        omega
      · split at h
        · have := ih h
          omega
        · have := ih h
          omega
/-- what is bound to what, in the order of the match -/
def pz_fv (a b v w : Nat) : Prop := (a < 1000 ∧ a ≠ b ∧ v = a ∧ w = b) ∨ (1000 ≤ a ∧ b < 1000 ∧ v = b ∧ w = a)
set_option maxHeartbeats 2000000 in
theorem pz_mt_b (ht : pz_tm mi) (hF : F ≤ 40) (hs : pz_sp mi F σ) {a b : Nat} {st : List (Nat × Nat)} (hl : 0 ≤ mi 155 5 ∧ mi 155 5 ≤ 500) (hm : 0 ≤ mi 150 5 ∧ mi 150 5 ≤ 1000) (hn : (st.length : Int) ≤ mi 155 5) (k1 : pz_sk mi 156 F (a :: st.map Prod.fst)) (k2 : pz_sk mi 157 F (b :: st.map Prod.snd))
    (K1 : pz_kd1 mi (pz_W σ a) = 2 → pz_kd1 mi (pz_W σ b) = 2 → ∀ mi', pz_fr [155, 156, 157] [] mi mi' → mi' 155 5 = mi 155 5 + 1 → pz_sk mi' 156 F (pz_hf mi (pz_W σ a) true :: pz_hf mi (pz_W σ a) false :: st.map Prod.fst) → pz_sk mi' 157 F (pz_hf mi (pz_W σ b) true :: pz_hf mi (pz_W σ b) false :: st.map Prod.snd) → pz_Rn (d + 2) 54 (16, [], [(0, .inr (.inr (some 155))), (3, .inl ((st.length + 2 : Nat) : Int))], pz_hp n0 mi' ml mr c s, true) Q)
    (K2 : (pz_W σ a < 1000 ∧ pz_W σ a = pz_W σ b) ∨ (1000 ≤ pz_W σ a ∧ 1000 ≤ pz_W σ b ∧ ¬ (pz_kd1 mi (pz_W σ a) = 2 ∧ pz_kd1 mi (pz_W σ b) = 2) ∧ pz_kd1 mi (pz_W σ a) = pz_kd1 mi (pz_W σ b) ∧ mi 4 (pz_ct1 (pz_W σ a)) = mi 4 (pz_ct1 (pz_W σ b))) → pz_Rn (d + 2) 54 (16, [], [(0, .inr (.inr (some 155))), (3, .inl (st.length : Int))], pz_hp n0 (pz_up mi 155 5 (mi 155 5 + 1)) ml mr c s, true) Q)
    (K3 : 1000 ≤ pz_W σ a → 1000 ≤ pz_W σ b → ¬ (pz_kd1 mi (pz_W σ a) = 2 ∧ pz_kd1 mi (pz_W σ b) = 2) → ¬ (pz_kd1 mi (pz_W σ a) = pz_kd1 mi (pz_W σ b) ∧ mi 4 (pz_ct1 (pz_W σ a)) = mi 4 (pz_ct1 (pz_W σ b))) → Q (.inl (some (.inl 0))) (pz_hp n0 (pz_up mi 155 5 (mi 155 5 + 1)) ml mr c s))
    (K4 : ∀ (v : Nat) (y : Int), v < 240 → (v : Int) < 6 * F → pz_vs mi F y → pz_fv (pz_W σ a) (pz_W σ b) v (pz_cs mi y) → ∃ P : pz_O → pz_H → Prop, pz_Rn (d + 1) 53 (0, [], [(0, .inr (.inr (some 155))), (1, .inl (v : Int)), (2, .inl y)], pz_hp n0 (pz_up mi 155 5 (mi 155 5 + 1)) ml mr c s, true) P ∧ ∀ o h, P o h → ∃ m2 q, (o = .inl (some (.inl q)) ∧ h = pz_hp n0 m2 ml mr c s) ∧ pz_fr [155, 158] [] (pz_up mi 155 5 (mi 155 5 + 1)) m2 ∧ (q ≠ 0 → Q (.inl (some (.inl 0))) (pz_hp n0 m2 ml mr c s)) ∧ (q = 0 → pz_Rn (d + 2) 54 (16, [], [(0, .inr (.inr (some 155))), (3, .inl (st.length : Int))], pz_hp n0 (pz_bh m2 v y) ml mr c s, true) Q)) :
    pz_Rn (d + 2) 54 (16, [], [(0, .inr (.inr (some 155))), (3, .inl (((a, b) :: st).length : Int))], pz_hp n0 mi ml mr c s, true) Q := by
  have hL : ((((a, b) :: st).length : Nat) : Int) = st.length + 1 := by rw [List.length_cons]; omega
  obtain ⟨p1, p2, p3⟩ := k1
  obtain ⟨q1, q2, q3⟩ := k2
  have l1 : (st.map Prod.fst).length = st.length := by simp
  have l2 : (st.map Prod.snd).length = st.length := by simp
  rw [l1] at p1 p2
  rw [l2] at q1 q2
  have e1 : ((((a, b) :: st).length : Int) + (-1)) = (st.length : Int) := by omega
  have e0 : ((st.length : Int)).toNat = st.length := by omega
  have fr1 : pz_fr [155, 156, 157] [] mi (pz_up mi 155 5 (mi 155 5 + 1)) := pz_fr_up (by decide) (by decide)
  have te1 : pz_te mi (pz_up mi 155 5 (mi 155 5 + 1)) := pz_te_fr fr1 (by decide) (by decide)
  have ht1 := pz_tm_te te1 ht
  have hs1 := pz_sp_te te1 (pz_upq (by decide)) hs
  have m3 : (pz_up mi 155 5 (mi 155 5 + 1)) 3 = mi 3 := pz_upq (by decide)
  have m4 : (pz_up mi 155 5 (mi 155 5 + 1)) 4 = mi 4 := pz_upq (by decide)
  have m5 : (pz_up mi 155 5 (mi 155 5 + 1)) 5 = mi 5 := pz_upq (by decide)
  have w157 : (pz_up mi 155 5 (mi 155 5 + 1)) 157 = mi 157 := pz_upq (by decide)
  refine pz_g54_16 ⟨fun h => absurd h (by omega), fun _ => ⟨fun h => absurd h (by omega), fun _ => ?_⟩⟩
  refine pz_Rn_c (d' := 0) (v := some (.inl 0)) (H := pz_hp n0 mi ml mr c s) (Nat.zero_le _) (pz_g48_0 ⟨fun _ => ⟨rfl, rfl⟩, fun h => absurd h (by omega)⟩) ?_
  refine pz_g54_37 ⟨fun h => absurd rfl h, fun _ => ⟨by omega, by omega, by omega, ?_⟩⟩
  rw [e1, e0]
  refine pz_Rn_e (d' := 0) (Nat.zero_le _) (pz_find ht1 hF hs1 (by rw [pz_vs_te te1]; exact p1)) ?_
  rintro _ _ ⟨y, ⟨rfl, rfl⟩, hy1, ey⟩
  rw [pz_cs_te te1, p2] at ey
  have hy := hy1
  rw [pz_vs_te te1] at hy
  refine pz_g54_66 ⟨by omega, ?_⟩
  rw [e0, w157]
  refine pz_Rn_e (d' := 0) (Nat.zero_le _) (pz_find ht1 hF hs1 (by rw [pz_vs_te te1]; exact q1)) ?_
  rintro _ _ ⟨z, ⟨rfl, rfl⟩, hz1, ez⟩
  rw [pz_cs_te te1, q2] at ez
  have hz := hz1
  rw [pz_vs_te te1] at hz
  have kdy := pz_kd_cs ht hF hy
  have kdz := pz_kd_cs ht hF hz
  have by1 := pz_vs_b ht hF hy
  have bz1 := pz_vs_b ht hF hz
  rw [ey] at kdy by1
  rw [ez] at kdz bz1
  have y0 := hy.1
  have z0 := hz.1
  have sv := pz_sameV (d := d) (n0 := n0) (ml := ml) (mr := mr) (c := c) (s := s) ht1 hF hy1 hz1
  rw [pz_kd1_te te1, pz_cs_te te1, ey, ez] at sv
  have bind : ∀ (u w : Int), pz_vs mi F u → pz_vs mi F w → mi 3 (u % 41).toNat = 1 → pz_fv (pz_W σ a) (pz_W σ b) (pz_cs mi u) (pz_cs mi w) → pz_Rn (d + 1) 51 (0, [], [(0, .inr (.inr (some 150))), (1, .inl u)], pz_hp n0 (pz_up mi 155 5 (mi 155 5 + 1)) ml mr c s, true) (pz_K (d + 1 + 1) 54 200 [.inr (.inr (some 155))] [(0, .inr (.inr (some 155))), (3, .inl (st.length : Int)), (8, .inl u), (9, .inl w)] Q true) := by
    intro u w hu hw ku hfv
    rcases pz_vs_b ht hF hu with ⟨-, b2, b3, b4⟩ | ⟨b1, -⟩
    · have hvr := pz_varAt (d := 0) (n0 := n0) (ml := ml) (mr := mr) (c := c) (s := s) ht1 hF (x := u) (by rw [pz_vs_te te1]; exact hu)
      rw [m4, ← b3] at hvr
      refine pz_Rn_c (Nat.zero_le _) hvr ?_
      refine pz_g54_203 ?_
      obtain ⟨P, r1, r2⟩ := K4 (pz_cs mi u) w b2 b4 hw hfv
      refine pz_Rn_e (Nat.le_refl _) r1 ?_
      intro o h hP
      obtain ⟨m2, q, ⟨rfl, rfl⟩, fr2, kq, kb⟩ := r2 o h hP
      refine pz_g54_208 ⟨fun hb => ?_, fun hb => kq hb⟩
      have te2 := pz_te_fr fr2 (by decide) (by decide)
      have hvr2 := pz_varAt (d := 0) (n0 := n0) (ml := ml) (mr := mr) (c := c) (s := s) (pz_tm_te te2 ht1) hF (x := u) (by rw [pz_vs_te te2, pz_vs_te te1]; exact hu)
      have m24 : m2 4 = mi 4 := te2.2.2.1.trans m4
      rw [m24, ← b3] at hvr2
      refine pz_Rn_c (Nat.zero_le _) hvr2 ?_
      refine pz_g54_226 ?_
      have hmm : m2 150 = mi 150 := (fr2.1 150 (by decide) (by decide)).trans (pz_upq (by decide))
      refine pz_Rn_c (d' := 0) (Nat.zero_le _) (pz_bindC (mi := m2) (by rw [hmm]; exact hm) (by omega)) ?_
      exact pz_g54_231 (kb hb)
    · exact absurd ku b1
  refine pz_g54_81 ⟨y0, by omega, fun x3 e3 => ⟨z0, by omega, fun x6 e6 => ?_⟩⟩
  rw [m3] at e3 e6
  rw [m4]
  have f1 : x3 = pz_kd1 mi (pz_W σ a) := e3.trans kdy.symm
  have f6 : x6 = pz_kd1 mi (pz_W σ b) := e6.trans kdz.symm
  have other : x3 ≠ 1 → x6 = 1 → pz_Rn (d + 1) 52 (0, [], [(0, .inr (.inr (some 155))), (1, .inl y), (2, .inl z)], pz_hp n0 (pz_up mi 155 5 (mi 155 5 + 1)) ml mr c s, true) (pz_K (d + 1 + 1) 54 187 [] [(0, .inr (.inr (some 155))), (3, .inl (st.length : Int)), (8, .inl z), (9, .inl y)] Q true) := by
    intro h3 h6
    refine pz_Rn_c (Nat.le_refl _) sv ?_
    rw [if_neg (fun e => h3 (f1.trans e.1))]
    refine pz_g54_190 ⟨fun h => absurd rfl h, fun _ => ?_⟩
    refine bind z y hz hy (e6.symm.trans h6) ?_
    rw [ey, ez]
    exact .inr ⟨by omega, by omega, rfl, rfl⟩
  have none1 : x3 ≠ 1 → x6 ≠ 1 → ¬ (pz_kd1 mi (pz_W σ a) = 2 ∧ pz_kd1 mi (pz_W σ b) = 2) → (x3 ≠ x6 → Q (.inl (some (.inl 0))) (pz_hp n0 (pz_up mi 155 5 (mi 155 5 + 1)) ml mr c s)) ∧ (x3 = x6 → 0 ≤ y ∧ (0 ≤ y % 41 ∧ y % 41 < 41) ∧ 0 ≤ z ∧ (0 ≤ z % 41 ∧ z % 41 < 41) ∧ ((mi 4 ((y % 41).toNat) = mi 4 ((z % 41).toNat) → pz_Rn (d + 1 + 1) 54 (16, [], [(0, .inr (.inr (some 155))), (3, .inl (st.length : Int))], pz_hp n0 (pz_up mi 155 5 (mi 155 5 + 1)) ml mr c s, true) Q) ∧ (mi 4 ((y % 41).toNat) ≠ mi 4 ((z % 41).toNat) → Q (.inl (some (.inl 0))) (pz_hp n0 (pz_up mi 155 5 (mi 155 5 + 1)) ml mr c s)))) := by
    intro h3 h6 hnn
    have g1 : 1000 ≤ pz_W σ a ∧ pz_ct1 (pz_W σ a) = (y % 41).toNat := by
      rcases by1 with b | b
      · exact absurd (e3.trans b.1) h3
      · exact b.2
    have g2 : 1000 ≤ pz_W σ b ∧ pz_ct1 (pz_W σ b) = (z % 41).toNat := by
      rcases bz1 with b | b
      · exact absurd (e6.trans b.1) h6
      · exact b.2
    refine ⟨fun h => K3 g1.1 g2.1 hnn (fun e => h (f1.trans (e.1.trans f6.symm))), fun h => ⟨y0, by omega, z0, by omega, fun h4 => ?_, fun h4 => ?_⟩⟩
    · refine K2 (.inr ⟨g1.1, g2.1, hnn, f1.symm.trans (h.trans f6), ?_⟩)
      rw [g1.2, g2.2]
      exact h4
    · refine K3 g1.1 g2.1 hnn (fun e => h4 ?_)
      rw [← g1.2, ← g2.2]
      exact e.2
  refine ⟨fun h2 => ⟨fun h1 => ?_, fun h1 => ⟨fun h6 => none1 h1 h6 (fun e => h2 (f1.trans e.1)), fun h6 => other h1 h6⟩⟩, fun h2 => ⟨fun h6 => ⟨fun h7 => none1 (by omega) h7 (fun e => h6 (f6.trans e.2)), fun h7 => other (by omega) h7⟩, fun h6 => ?_⟩⟩
  · refine pz_Rn_c (Nat.le_refl _) sv ?_
    have a1 : pz_W σ a < 1000 := by
      rcases by1 with b | b
      · omega
      · exact absurd (e3.symm.trans h1) b.1
    by_cases hab : pz_W σ a = pz_W σ b
    · rw [if_pos ⟨f1.symm.trans h1, hab⟩]
      exact pz_g54_190 ⟨fun _ => K2 (.inl ⟨a1, hab⟩), fun h => absurd h (by decide)⟩
    · rw [if_neg (fun e => hab e.2)]
      refine pz_g54_190 ⟨fun h => absurd rfl h, fun _ => ?_⟩
      refine bind y z hy hz (e3.symm.trans h1) ?_
      rw [ey, ez]
      exact .inl ⟨a1, hab, rfl, rfl⟩
  · have ky : mi 3 (y % 41).toNat = 2 := e3.symm.trans h2
    have kz : mi 3 (z % 41).toNat = 2 := e6.symm.trans h6
    have hp := pz_push (d := d) (n0 := n0) (ml := ml) (mr := mr) (c := c) (s := s) ht1 hF hy1 hz1 (by rw [m3]; exact ky) (by rw [m3]; exact kz) (w := st.length) (by omega)
    rw [m4, m5] at hp
    refine pz_Rn_c (Nat.le_refl _) hp ?_
    refine pz_g54_134 ⟨by omega, ?_⟩
    have ew : (st.length : Int) + 2 = ((st.length + 2 : Nat) : Int) := by omega
    rw [ew]
    have y1 := pz_hf_cs ht hy ky true
    have y2 := pz_hf_cs ht hy ky false
    have z1 := pz_hf_cs ht hz kz true
    have z2 := pz_hf_cs ht hz kz false
    rw [ey] at y1 y2
    rw [ez] at z1 z2
    simp only [if_true, Bool.false_eq_true, if_false] at y1 y2 z1 z2
    have fr2 : pz_fr [155, 156, 157] [] mi (pz_up (pz_up (pz_up (pz_up (pz_up mi 155 5 (mi 155 5 + 1)) 156 st.length (y / 41 * 41 + mi 5 (y % 41).toNat)) 157 st.length (z / 41 * 41 + mi 5 (z % 41).toNat)) 156 (st.length + 1) (y / 41 * 41 + mi 4 (y % 41).toNat)) 157 (st.length + 1) (z / 41 * 41 + mi 4 (z % 41).toNat)) := pz_fr_trans (pz_fr_trans (pz_fr_trans (pz_fr_trans fr1 (pz_fr_up (by decide) (by decide))) (pz_fr_up (by decide) (by decide))) (pz_fr_up (by decide) (by decide))) (pz_fr_up (by decide) (by decide))
    have te2 := pz_te_fr fr2 (by decide) (by decide)
    refine K1 (f1.symm.trans h2) (f6.symm.trans h6) _ fr2 ?_ ?_ ?_
    · rw [pz_upq (by decide), pz_upq (by decide), pz_upq (by decide), pz_upq (by decide)]
      exact pz_up_at
    · unfold pz_sk
      rw [List.length_cons, l1, pz_upq (by decide), pz_up_at, pz_vs_te te2, pz_cs_te te2]
      refine ⟨y1.2, y1.1.symm, ?_⟩
      unfold pz_sk
      rw [l1, pz_upq (by decide), pz_up_ot (by omega), pz_upq (by decide), pz_up_at, pz_vs_te te2, pz_cs_te te2]
      refine ⟨y2.2, y2.1.symm, ?_⟩
      refine pz_sk_te te2 (fun j hj => ?_) p3
      rw [l1] at hj
      rw [pz_upq (by decide), pz_up_ot (by omega), pz_upq (by decide), pz_up_ot (by omega), pz_upq (by decide)]
    · unfold pz_sk
      rw [List.length_cons, l2, pz_up_at, pz_vs_te te2, pz_cs_te te2]
      refine ⟨z1.2, z1.1.symm, ?_⟩
      unfold pz_sk
      rw [l2, pz_up_ot (by omega), pz_upq (by decide), pz_up_at, pz_vs_te te2, pz_cs_te te2]
      refine ⟨z2.2, z2.1.symm, ?_⟩
      refine pz_sk_te te2 (fun j hj => ?_) q3
      rw [l2] at hj
      rw [pz_up_ot (by omega), pz_upq (by decide), pz_up_ot (by omega), pz_upq (by decide), pz_upq (by decide)]
end pzd
