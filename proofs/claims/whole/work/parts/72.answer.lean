/-! The class's writeAnswer. -/
def pz_tc (mi : Nat → Nat → Int) (σ : Nat → Option Nat) (k : Nat → Nat × Nat) (lo hi : Int64) (m i part : Nat) (nm : Nat → Option Nat) (c : Nat) (T : Nat → List Int) : Nat → List Int := match m with
  | 0 => T
  | m + 1 => if pz_hs lo hi i = true ∧ part < 7 then pz_tc mi σ k lo hi m (i + 1) (part + 2) (pz_tx mi σ 40 [(k i).2] (pz_tx mi σ 40 [(k i).1] nm c).2.1 (pz_tx mi σ 40 [(k i).1] nm c).2.2).2.1 (pz_tx mi σ 40 [(k i).2] (pz_tx mi σ 40 [(k i).1] nm c).2.1 (pz_tx mi σ 40 [(k i).1] nm c).2.2).2.2 (fun p => if p = part + 1 then (pz_tx mi σ 40 [(k i).2] (pz_tx mi σ 40 [(k i).1] nm c).2.1 (pz_tx mi σ 40 [(k i).1] nm c).2.2).1 else if p = part then (pz_tx mi σ 40 [(k i).1] nm c).1 else T p)
    else pz_tc mi σ k lo hi m (i + 1) part nm c T
/-- an answer as it is told: how many conditions, and its seven texts -/
def pz_tl (mi : Nat → Nat → Int) (an : pz_an) (N : Nat) (k : Nat → Nat × Nat) : Nat × (Nat → List Int) :=
  (pz_hn N an.2.1 an.2.2, pz_tc mi an.1 k an.2.1 an.2.2 N 0 1 (pz_tx mi an.1 40 [0] (fun _ => none) 0).2.1 (pz_tx mi an.1 40 [0] (fun _ => none) 0).2.2 (fun p => if p = 0 then (pz_tx mi an.1 40 [0] (fun _ => none) 0).1 else []))
/-- a text in the class's row -/
def pz_rC (mi : Nat → Nat → Int) (row : Nat) (l : List Int) : Prop := mi 161 row = (l.length : Int) ∧ l.length ≤ 40 ∧ ∀ i, i < l.length → mi 160 (40 * row + i) = l.getD i 0
def pz_AC (mi : Nat → Nat → Int) (A : List (Nat × (Nat → List Int))) : Prop := mi 159 8 = (A.length : Int) ∧ A.length ≤ 20 ∧ ∀ a x, A[a]? = some x → mi 162 a = (x.1 : Int) ∧ ∀ p, p < 7 → pz_rC mi (7 * a + p) (x.2 p)
section pzO1
variable {d n0 : Nat} {mi mi' : Nat → Nat → Int} {ml : Nat → Nat → Int64} {mr : Nat → Nat → Option Nat} {c s : Nat} {F : Int} {σ : Nat → Option Nat} {N : Nat} {k : Nat → Nat × Nat}
theorem pz_rC_fr {row : Nat} {l : List Int} (h1 : mi' 161 row = mi 161 row) (h2 : ∀ i, i < 40 → mi' 160 (40 * row + i) = mi 160 (40 * row + i)) (h : pz_rC mi row l) : pz_rC mi' row l := ⟨h1.trans h.1, h.2.1, fun i hi => (h2 i (by have := h.2.1; omega)).trans (h.2.2 i hi)⟩
theorem pz_fl161 {v : Int} : ∀ (n a b : Nat) (mi : Nat → Nat → Int), a + n = b → b ≤ 140 → pz_Rn (d + 1) 74 (10, [], [(0, .inr (.inr (some 161))), (2, .inl (b : Int)), (3, .inl v), (4, .inl (a : Int))], pz_hp n0 mi ml mr c s, true) (fun o h => ∃ mi', (o = .inl none ∧ h = pz_hp n0 mi' ml mr c s) ∧ pz_fr [161] [] mi mi' ∧ (∀ j, a ≤ j → j < b → mi' 161 j = v) ∧ ∀ j, (j < a ∨ b ≤ j) → mi' 161 j = mi 161 j) := by
  intro n
  induction n with
  | zero =>
    intro a b mi hab hb
    exact pz_g74x161_10 ⟨fun _ => ⟨mi, ⟨rfl, rfl⟩, pz_fr_refl, fun j h1 h2 => absurd h2 (by omega), fun _ _ => rfl⟩, fun h => absurd h (by omega)⟩
  | succ n ih =>
    intro a b mi hab hb
    have ea : ((a : Int)).toNat = a := by omega
    have e1 : (a : Int) + 1 = ((a + 1 : Nat) : Int) := by omega
    refine pz_g74x161_10 ⟨fun h => absurd h (by omega), fun _ => ⟨by omega, by omega, ?_⟩⟩
    rw [ea, e1]
    refine (ih (a + 1) b (pz_up mi 161 a v) (by omega) hb).mono (Nat.le_refl _) ?_
    rintro _ _ ⟨m, g1, g2, g3, g4⟩
    refine ⟨m, g1, pz_fr_trans (pz_fr_up (by decide) (by decide)) g2, fun j h1 h2 => ?_, fun j hj => ?_⟩
    · by_cases e : j = a
      · subst e
        rw [g4 j (by omega), pz_up_at]
      · exact g3 j (by omega) h2
    · rw [g4 j (by omega), pz_up_ot (by omega)]
theorem pz_fl163 {a : Int} : ∀ (n k : Nat) (mi : Nat → Nat → Int), k + n = 246 → pz_Rn d 25 (5, [], [(0, .inr (.inr (some 163))), (1, .inl a), (2, .inl (k : Int)), (3, .inl 246)], pz_hp n0 mi ml mr c s, true) (fun o h => ∃ mi', (o = .inl none ∧ h = pz_hp n0 mi' ml mr c s) ∧ pz_fr [163] [] mi mi' ∧ (∀ v, k ≤ v → v < 246 → mi' 163 v = a) ∧ ∀ v, v < k → mi' 163 v = mi 163 v) := by
  intro n
  induction n with
  | zero =>
    intro k mi hk
    exact pz_g25x163_5 ⟨fun _ => ⟨mi, ⟨rfl, rfl⟩, pz_fr_refl, fun v h1 h2 => absurd h2 (by omega), fun v _ => rfl⟩, fun h => absurd h (by omega)⟩
  | succ n ih =>
    intro k mi hk
    have ek : ((k : Int)).toNat = k := by omega
    have e1 : (k : Int) + 1 = ((k + 1 : Nat) : Int) := by omega
    refine pz_g25x163_5 ⟨fun h => absurd h (by omega), fun _ => ⟨by omega, by omega, ?_⟩⟩
    rw [ek, e1]
    refine (ih (k + 1) (pz_up mi 163 k a) (by omega)).mono (Nat.le_refl _) ?_
    rintro _ _ ⟨m, g1, g2, g3, g4⟩
    refine ⟨m, g1, pz_fr_trans (pz_fr_up (by decide) (by decide)) g2, fun v h1 h2 => ?_, fun v hv => ?_⟩
    · by_cases e : v = k
      · subst e
        rw [g4 v (by omega), pz_up_at]
      · exact g3 v (by omega) h2
    · rw [g4 v (by omega), pz_up_ot (by omega)]
/-- Answers.begin -/
theorem pz_beginC {K : Nat} {v : Int} (hK : mi 159 8 = (K : Int)) (hK1 : K < 20) : pz_Rn (d + 2) 75 (0, [], [(0, .inr (.inr (some 159))), (1, .inl v)], pz_hp n0 mi ml mr c s, true) (fun o h => ∃ mi', (o = .inl none ∧ h = pz_hp n0 mi' ml mr c s) ∧ pz_fr [159, 161, 162, 163] [] mi mi' ∧ mi' 159 8 = ((K + 1 : Nat) : Int) ∧ mi' 162 K = v ∧ (∀ j, j ≠ K → mi' 162 j = mi 162 j) ∧ (∀ p, p < 7 → mi' 161 (7 * K + p) = 0) ∧ (∀ j, j < 7 * K → mi' 161 j = mi 161 j) ∧ pz_nc mi' (fun _ => none) 0) := by
  have eK : (mi 159 8).toNat = K := by omega
  refine pz_g75_0 ⟨fun h => absurd h (by omega), fun _ => ⟨by omega, by omega, by omega, by omega, ?_⟩⟩
  rw [eK, hK]
  have ea : (K : Int) * 7 = ((7 * K : Nat) : Int) := by omega
  have eb : ((K : Int) + 1) * 7 = ((7 * K + 7 : Nat) : Int) := by omega
  rw [ea, eb]
  have fl : pz_Rn (d + 1) 74 (0, [], [(0, .inr (.inr (some 161))), (1, .inl ((7 * K : Nat) : Int)), (2, .inl ((7 * K + 7 : Nat) : Int)), (3, .inl 0)], pz_hp n0 (pz_up mi 162 K v) ml mr c s, true) (fun o h => ∃ mi', (o = .inl none ∧ h = pz_hp n0 mi' ml mr c s) ∧ pz_fr [161] [] (pz_up mi 162 K v) mi' ∧ (∀ j, 7 * K ≤ j → j < 7 * K + 7 → mi' 161 j = 0) ∧ ∀ j, (j < 7 * K ∨ 7 * K + 7 ≤ j) → mi' 161 j = pz_up mi 162 K v 161 j) := by
    refine pz_g74x161_0 ?_
    refine pz_Rn_c (d' := 0) (v := none) (H := pz_hp n0 (pz_up mi 162 K v) ml mr c s) (by omega) (pz_g73_0 ⟨fun _ => ⟨fun _ => ⟨fun _ => ⟨rfl, rfl⟩, fun h => absurd h (by omega)⟩, fun h => absurd h (by omega)⟩, fun h => absurd h (by omega)⟩) ?_
    refine pz_g74x161_7 ?_
    exact pz_fl161 7 (7 * K) (7 * K + 7) (pz_up mi 162 K v) rfl (by omega)
  refine pz_Rn_e (Nat.le_refl _) fl ?_
  rintro _ _ ⟨m1, ⟨rfl, rfl⟩, f1, g1, g2⟩
  refine pz_g75_43 ?_
  refine pz_Rn_e (d' := 0) (by omega) (pz_g25x163_0 (pz_fl163 246 0 m1 rfl)) ?_
  rintro _ _ ⟨m2, ⟨rfl, rfl⟩, f2, h1, -⟩
  have e8 : m2 159 8 = (K : Int) := by
    rw [f2.1 159 (by decide) (by decide), f1.1 159 (by decide) (by decide), pz_upq (by decide)]
    exact hK
  refine pz_g75_51 ⟨by omega, _, ⟨rfl, rfl⟩, ?_, ?_, ?_, fun j hj => ?_, fun p hp => ?_, fun j hj => ?_, fun w hw => ?_, ?_⟩
  · exact pz_fr_trans (pz_fr_trans (pz_fr_trans (pz_fr_trans (pz_fr_up (by decide) (by decide)) (pz_fr_sub (by decide) (by decide) f1)) (pz_fr_sub (by decide) (by decide) f2)) (pz_fr_up (by decide) (by decide))) (pz_fr_up (by decide) (by decide))
  · rw [pz_up_at]
    omega
  · rw [pz_upq (by decide), pz_upq (by decide), f2.1 162 (by decide) (by decide), f1.1 162 (by decide) (by decide), pz_up_at]
  · rw [pz_upq (by decide), pz_upq (by decide), f2.1 162 (by decide) (by decide), f1.1 162 (by decide) (by decide), pz_up_ot hj]
  · rw [pz_upq (by decide), pz_upq (by decide), f2.1 161 (by decide) (by decide)]
    exact g1 _ (by omega) (by omega)
  · rw [pz_upq (by decide), pz_upq (by decide), f2.1 161 (by decide) (by decide), g2 j (by omega), pz_upq (by decide)]
  · show _ < (0 : Int)
    rw [pz_upq (by decide), pz_upq (by decide), h1 w (Nat.zero_le _) hw]
    decide
  · rw [pz_up_ot (by decide), pz_up_at]
    rfl
set_option maxHeartbeats 1000000 in
theorem pz_wa1 {mi0 : Nat → Nat → Int} (ht : pz_tm mi0) (hF : F ≤ 40) (hN : N ≤ 120) {K : Nat} (hK : K < 20) : ∀ (m i part : Nat) (nm : Nat → Option Nat) (cc : Nat) (T : Nat → List Int) (mi : Nat → Nat → Int), pz_te mi0 mi → pz_sp mi F σ → pz_cn mi F N k → i + m = N → (part % 2 = 1 ∧ part ≤ 7) → mi 159 8 = ((K + 1 : Nat) : Int) → pz_nc mi nm cc → cc ≤ 40 * part → (∀ p, p < 7 → pz_rC mi (7 * K + p) (T p)) →
    pz_Rn (d + 3) 78 (32, [], [(0, .inr (.inr (some 13))), (1, .inl (part : Int)), (2, .inl (i : Int))], pz_hp n0 mi ml mr c s, true) (fun o h => ∃ mi', (o = .inl none ∧ h = pz_hp n0 mi' ml mr c s) ∧ pz_fr [159, 160, 161, 163, 164] [] mi mi' ∧ mi' 159 8 = ((K + 1 : Nat) : Int) ∧ (∀ j, j < 7 * K → mi' 161 j = mi 161 j) ∧ (∀ j, j < 40 * (7 * K) → mi' 160 j = mi 160 j) ∧ ∀ p, p < 7 → pz_rC mi' (7 * K + p) (pz_tc mi0 σ k (ml 149 1) (ml 149 2) m i part nm cc T p)) := by
  intro m
  induction m with
  | zero =>
    intro i part nm cc T mi hte hs hcn him hpart hK1 hc hcc hT
    have e := hcn.1
    exact pz_g78_32 ⟨fun _ => ⟨mi, ⟨rfl, rfl⟩, pz_fr_refl, hK1, fun _ _ => rfl, fun _ _ => rfl, hT⟩, fun h => absurd h (by omega)⟩
  | succ m ih =>
    intro i part nm cc T mi hte hs hcn him hpart hK1 hc hcc hT
    have e := hcn.1
    obtain ⟨v1, v2, ek⟩ := hcn.2 i (by omega)
    have hu : pz_tc mi0 σ k (ml 149 1) (ml 149 2) (m + 1) i part nm cc T = if pz_hs (ml 149 1) (ml 149 2) i = true ∧ part < 7 then pz_tc mi0 σ k (ml 149 1) (ml 149 2) m (i + 1) (part + 2) (pz_tx mi0 σ 40 [(k i).2] (pz_tx mi0 σ 40 [(k i).1] nm cc).2.1 (pz_tx mi0 σ 40 [(k i).1] nm cc).2.2).2.1 (pz_tx mi0 σ 40 [(k i).2] (pz_tx mi0 σ 40 [(k i).1] nm cc).2.1 (pz_tx mi0 σ 40 [(k i).1] nm cc).2.2).2.2 (fun p => if p = part + 1 then (pz_tx mi0 σ 40 [(k i).2] (pz_tx mi0 σ 40 [(k i).1] nm cc).2.1 (pz_tx mi0 σ 40 [(k i).1] nm cc).2.2).1 else if p = part then (pz_tx mi0 σ 40 [(k i).1] nm cc).1 else T p)
      else pz_tc mi0 σ k (ml 149 1) (ml 149 2) m (i + 1) part nm cc T := rfl
    rw [hu]
    have ei : (i : Int) + 1 = ((i + 1 : Nat) : Int) := by omega
    have ei0 : ((i : Int)).toNat = i := by omega
    have ht1 := pz_tm_te hte ht
    by_cases hp7 : part < 7
    · refine pz_g78_32 ⟨fun h => absurd h (by omega), fun _ => ⟨fun h => absurd h (by omega), fun _ => ?_⟩⟩
      refine pz_Rn_c (d' := 0) (by omega) (pz_hasC (p := 149) (.inl rfl) (by omega)) ?_
      by_cases hb : pz_hs (ml 149 1) (ml 149 2) i = true
      · rw [if_pos hb, if_pos ⟨hb, hp7⟩]
        refine pz_g78_54 ⟨fun h => absurd h (by decide), fun _ => ⟨by omega, ?_⟩⟩
        rw [ei0]
        have hw1 := pz_writeC (d := d) (n0 := n0) (ml := ml) (mr := mr) (c := c) (s := s) (σ := σ) ht1 hF hs hK1 (by omega) hp7 v1 hc (by omega)
        rw [pz_tx_te hte] at hw1
        have ek1 : pz_cs mi (mi 146 i) = (k i).1 := by rw [ek]
        have ek2 : pz_cs mi (mi 147 i) = (k i).2 := by rw [ek]
        rw [ek1] at hw1
        refine pz_Rn_e (d' := d + 2) (by omega) hw1 ?_
        rintro _ _ ⟨m1, ⟨rfl, rfl⟩, f1, a8, nc1, l1, l1', t1, t1'⟩
        have te1 := pz_te_fr f1 (by decide) (by decide)
        have c1 := pz_tx_c (mi := mi0) (σ := σ) 40 [(k i).1] nm cc
        have len1 := pz_tx_len (mi := mi0) (σ := σ) 40 [(k i).1] nm cc
        generalize hx1 : pz_tx mi0 σ 40 [(k i).1] nm cc = X1 at *
        obtain ⟨L1, nm1, cc1⟩ := X1
        dsimp only at nc1 l1 t1 c1 len1 ⊢
        refine pz_g78_71 ⟨by omega, by omega, ?_⟩
        rw [ei0, f1.1 147 (by decide) (by decide)]
        have ep1 : (part : Int) + 1 = ((part + 1 : Nat) : Int) := by omega
        rw [ep1]
        have cn1 := pz_cn_te te1 (f1.1 13 (by decide) (by decide)) (f1.1 146 (by decide) (by decide)) (f1.1 147 (by decide) (by decide)) hcn
        have hw2 := pz_writeC (d := d) (n0 := n0) (ml := ml) (mr := mr) (c := c) (s := s) (σ := σ) (part := part + 1) (x := mi 147 i) (pz_tm_te te1 ht1) hF (pz_sp_te te1 (f1.1 154 (by decide) (by decide)) hs) (a8.trans hK1) (by omega) (by omega) (by rw [pz_vs_te te1]; exact v2) nc1 (by omega)
        rw [pz_tx_te (pz_te_trans hte te1), pz_cs_te te1, ek2] at hw2
        refine pz_Rn_e (d' := d + 2) (by omega) hw2 ?_
        rintro _ _ ⟨m2, ⟨rfl, rfl⟩, f2, b8, nc2, l2, l2', t2, t2'⟩
        have te2 := pz_te_fr f2 (by decide) (by decide)
        have c2 := pz_tx_c (mi := mi0) (σ := σ) 40 [(k i).2] nm1 cc1
        have len2 := pz_tx_len (mi := mi0) (σ := σ) 40 [(k i).2] nm1 cc1
        generalize hx2 : pz_tx mi0 σ 40 [(k i).2] nm1 cc1 = X2 at *
        obtain ⟨L2, nm2, cc2⟩ := X2
        dsimp only at nc2 l2 t2 c2 len2 ⊢
        refine pz_g78_87 ⟨by omega, by omega, ?_⟩
        have ep2 : (part : Int) + 2 = ((part + 2 : Nat) : Int) := by omega
        rw [ep2, ei]
        have r1 : (7 * (K + 1 - 1) + part) = 7 * K + part := by omega
        have r2 : (7 * (K + 1 - 1) + (part + 1)) = 7 * K + part + 1 := by omega
        rw [r1] at l1 l1' t1 t1'
        rw [r2] at l2 l2' t2 t2'
        refine (ih (i + 1) (part + 2) nm2 cc2 (fun p => if p = part + 1 then L2 else if p = part then L1 else T p) m2 (pz_te_trans hte (pz_te_trans te1 te2)) (pz_sp_te te2 (f2.1 154 (by decide) (by decide)) (pz_sp_te te1 (f1.1 154 (by decide) (by decide)) hs)) (pz_cn_te te2 (f2.1 13 (by decide) (by decide)) (f2.1 146 (by decide) (by decide)) (f2.1 147 (by decide) (by decide)) cn1) (by omega) (by omega) (b8.trans (a8.trans hK1)) nc2 (by omega) ?_).mono (Nat.le_refl _) ?_
        · intro p hp
          by_cases e1 : p = part + 1
          · subst e1
            rw [if_pos rfl]
            refine ⟨?_, len2, fun j hj => ?_⟩
            · rw [show 7 * K + (part + 1) = 7 * K + part + 1 by omega, l2]
              omega
            · have := t2 j hj
              rw [show 40 * (7 * K + (part + 1)) + j = 40 * (7 * K + part + 1) + 0 + j by omega]
              exact this
          · rw [if_neg e1]
            by_cases e0 : p = part
            · subst e0
              rw [if_pos rfl]
              refine ⟨?_, len1, fun j hj => ?_⟩
              · rw [l2' _ (by omega), l1]
                omega
              · rw [t2' _ (by omega)]
                exact t1 j hj
            · rw [if_neg e0]
              refine pz_rC_fr ?_ (fun j hj => ?_) (hT p hp)
              · rw [l2' _ (by omega), l1' _ (by omega)]
              · rw [t2' _ (by omega), t1' _ (by omega)]
        · rintro _ _ ⟨m3, g1, g2, g3, g4, g5, g6⟩
          exact ⟨m3, g1, pz_fr_trans (pz_fr_trans f1 f2) g2, g3, fun j hj => by rw [g4 j hj, l2' _ (by omega), l1' _ (by omega)], fun j hj => by rw [g5 j hj, t2' _ (by omega), t1' _ (by omega)], g6⟩
      · rw [if_neg hb, if_neg (fun h => hb h.1)]
        refine pz_g78_54 ⟨fun _ => ⟨by omega, ?_⟩, fun h => absurd rfl h⟩
        rw [ei]
        exact ih (i + 1) part nm cc T mi hte hs hcn (by omega) hpart hK1 hc hcc hT
    · -- no part is left
      rw [if_neg (fun h => hp7 h.2)]
      have rest : ∀ (m i : Nat), pz_tc mi0 σ k (ml 149 1) (ml 149 2) m i part nm cc T = T := by
        intro m
        induction m with
        | zero => exact fun _ => rfl
        | succ m ih2 =>
          intro i
          show (if pz_hs (ml 149 1) (ml 149 2) i = true ∧ part < 7 then _ else pz_tc mi0 σ k (ml 149 1) (ml 149 2) m (i + 1) part nm cc T) = T
          rw [if_neg (fun h => hp7 h.2)]
          exact ih2 (i + 1)
      rw [rest]
      have fin : (fun o h => ∃ mi', (o = .inl none ∧ h = pz_hp n0 mi' ml mr c s) ∧ pz_fr [159, 160, 161, 163, 164] [] mi mi' ∧ mi' 159 8 = ((K + 1 : Nat) : Int) ∧ (∀ j, j < 7 * K → mi' 161 j = mi 161 j) ∧ (∀ j, j < 40 * (7 * K) → mi' 160 j = mi 160 j) ∧ ∀ p, p < 7 → pz_rC mi' (7 * K + p) (T p)) (.inl none : pz_O) (pz_hp n0 mi ml mr c s) := ⟨mi, ⟨rfl, rfl⟩, pz_fr_refl, hK1, fun _ _ => rfl, fun _ _ => rfl, hT⟩
      exact pz_g78_32 ⟨fun _ => fin, fun _ => ⟨fun _ => fin, fun h => absurd h (by omega)⟩⟩
/-- Question.writeAnswer -/
theorem pz_waC (ht : pz_tm mi) (hF : F ≤ 40) (hF1 : 1 ≤ F) (hN : N ≤ 120) (hs : pz_sp mi F σ) (hcn : pz_cn mi F N k) (hb : pz_bz N (ml 149 1) (ml 149 2)) {A : List (Nat × (Nat → List Int))} (hA : pz_AC mi A) (hA1 : A.length < 20) :
    pz_Rn (d + 3) 78 (0, [], [(0, .inr (.inr (some 13)))], pz_hp n0 mi ml mr c s, true) (fun o h => ∃ mi', (o = .inl none ∧ h = pz_hp n0 mi' ml mr c s) ∧ pz_fr [159, 160, 161, 162, 163, 164] [] mi mi' ∧ pz_AC mi' (A ++ [pz_tl mi (σ, ml 149 1, ml 149 2) N k])) := by
  obtain ⟨a1, a2, a3⟩ := hA
  refine pz_g78_0 ?_
  refine pz_Rn_c (d' := 1) (by omega) (pz_manyC (d := 0) (.inl rfl) (by omega) hb) ?_
  refine pz_g78_11 ?_
  refine pz_Rn_e (d' := d + 2) (by omega) (pz_beginC (d := d) a1 hA1) ?_
  rintro _ _ ⟨m1, ⟨rfl, rfl⟩, f1, b8, b2, b2', b1, b1', nc1⟩
  have te1 := pz_te_fr f1 (by decide) (by decide)
  refine pz_g78_14 ?_
  refine pz_Rn_c (d' := 0) (by omega) (pz_spot (by omega) (by omega)) ?_
  refine pz_g78_25 ?_
  have hk40 : mi 3 40 = 1 := ht.2.2.2.1
  have hf40 : mi 4 40 = 0 := ht.2.2.2.2.1
  have v40 : pz_vs mi F (0 * 41 + 40) := ⟨by decide, by show (40 : Int) / 41 < F; omega, .inr (by decide)⟩
  have c40 : pz_cs mi (0 * 41 + 40) = 0 := by
    have h3 : mi 3 ((((0 : Int) * 41 + 40) % 41).toNat) = 1 := hk40
    have h4 : mi 4 ((((0 : Int) * 41 + 40) % 41).toNat) = 0 := hf40
    rw [pz_cs_v h3, h4]
    decide
  have hw := pz_writeC (d := d) (n0 := n0) (ml := ml) (mr := mr) (c := c) (s := s) (σ := σ) (K := A.length + 1) (part := 0) (pz_tm_te te1 ht) hF (pz_sp_te te1 (f1.1 154 (by decide) (by decide)) hs) b8 (by omega) (by decide) (x := 0 * 41 + 40) (by rw [pz_vs_te te1]; exact v40) nc1 (by decide)
  rw [pz_tx_te te1, pz_cs_te te1, c40] at hw
  refine pz_Rn_e (d' := d + 2) (by omega) hw ?_
  rintro _ _ ⟨m2, ⟨rfl, rfl⟩, f2, e8, nc2, l2, l2', t2, t2'⟩
  have te2 := pz_te_fr f2 (by decide) (by decide)
  have te12 := pz_te_trans te1 te2
  have cb := pz_tx_c (mi := mi) (σ := σ) 40 [0] (fun _ => none) 0
  have lb := pz_tx_len (mi := mi) (σ := σ) 40 [0] (fun _ => none) 0
  refine pz_g78_28 ?_
  have r0 : 7 * (A.length + 1 - 1) + 0 = 7 * A.length := by omega
  rw [r0] at l2 l2' t2 t2'
  have cn2 := pz_cn_te te12 ((f2.1 13 (by decide) (by decide)).trans (f1.1 13 (by decide) (by decide))) ((f2.1 146 (by decide) (by decide)).trans (f1.1 146 (by decide) (by decide))) ((f2.1 147 (by decide) (by decide)).trans (f1.1 147 (by decide) (by decide))) hcn
  refine (pz_wa1 (d := d) (n0 := n0) (ml := ml) (mr := mr) (c := c) (s := s) (σ := σ) ht hF hN (K := A.length) hA1 N 0 1 _ _ (fun p => if p = 0 then (pz_tx mi σ 40 [0] (fun _ => none) 0).1 else []) m2 te12 (pz_sp_te te12 ((f2.1 154 (by decide) (by decide)).trans (f1.1 154 (by decide) (by decide))) hs) cn2 (by omega) (by decide) (e8.trans b8) nc2 (by omega) ?_).mono (Nat.le_refl _) ?_
  · intro p hp
    by_cases e : p = 0
    · subst e
      rw [if_pos rfl]
      refine ⟨?_, lb, fun i hi => ?_⟩
      · rw [Nat.add_zero, l2]
        omega
      · rw [Nat.add_zero]
        exact t2 i hi
    · rw [if_neg e]
      refine ⟨?_, Nat.zero_le _, fun i hi => absurd hi (Nat.not_lt_zero _)⟩
      rw [l2' _ (by omega), b1 p hp]
      rfl
  · rintro _ _ ⟨m3, g1, g2, g3, g4, g5, g6⟩
    refine ⟨m3, g1, pz_fr_trans (pz_fr_trans (pz_fr_sub (by decide) (by decide) f1) (pz_fr_sub (by decide) (by decide) f2)) (pz_fr_sub (by decide) (by decide) g2), ?_, ?_, ?_⟩
    · rw [g3, List.length_append, List.length_singleton]
    · rw [List.length_append, List.length_singleton]
      omega
    · intro a x hax
      by_cases ha : a < A.length
      · rw [List.getElem?_append_left ha] at hax
        obtain ⟨h1, h2⟩ := a3 a x hax
        refine ⟨?_, fun p hp => ?_⟩
        · rw [g2.1 162 (by decide) (by decide), f2.1 162 (by decide) (by decide), b2' a (by omega)]
          exact h1
        · refine pz_rC_fr ?_ (fun i hi => ?_) (h2 p hp)
          · rw [g4 _ (by omega), l2' _ (by omega), b1' _ (by omega)]
          · rw [g5 _ (by omega), t2' _ (by omega), f1.1 160 (by decide) (by decide)]
      · have ea : a = A.length := by
          have := List.getElem?_eq_some_iff.mp hax
          obtain ⟨hlt, -⟩ := this
          rw [List.length_append, List.length_singleton] at hlt
          omega
        subst ea
        rw [List.getElem?_append_right (Nat.le_refl _), Nat.sub_self] at hax
        cases hax
        refine ⟨?_, fun p hp => g6 p hp⟩
        rw [g2.1 162 (by decide) (by decide), f2.1 162 (by decide) (by decide)]
        exact b2
end pzO1
