/-! Texts of answers; the class's write. -/
/-- the number that is written for a resolved item; variables are named in the order in which they come -/
def pz_sy (mi : Nat → Nat → Int) (w : Nat) (nm : Nat → Option Nat) (c : Nat) : Int × (Nat → Option Nat) × Nat :=
  if w < 1000 then (match nm w with
    | some i => (20 + (i : Int), nm, c)
    | none => (20 + (c : Int), (fun u => if u = w then some c else nm u), c + 1))
  else if pz_kd1 mi w = 2 then (10, nm, c) else (mi 4 (pz_ct1 w), nm, c)
def pz_tx (mi : Nat → Nat → Int) (σ : Nat → Option Nat) (n : Nat) (st : List Nat) (nm : Nat → Option Nat) (c : Nat) : List Int × (Nat → Option Nat) × Nat := match n, st with
  | 0, _ => ([], nm, c)
  | _ + 1, [] => ([], nm, c)
  | n + 1, a :: st => ((pz_sy mi (pz_W σ a) nm c).1 :: (pz_tx mi σ n (if pz_kd1 mi (pz_W σ a) = 2 then pz_hf mi (pz_W σ a) true :: pz_hf mi (pz_W σ a) false :: st else st) (pz_sy mi (pz_W σ a) nm c).2.1 (pz_sy mi (pz_W σ a) nm c).2.2).1, (pz_tx mi σ n (if pz_kd1 mi (pz_W σ a) = 2 then pz_hf mi (pz_W σ a) true :: pz_hf mi (pz_W σ a) false :: st else st) (pz_sy mi (pz_W σ a) nm c).2.1 (pz_sy mi (pz_W σ a) nm c).2.2).2)
/-- names, as the class keeps them -/
def pz_nc (mi : Nat → Nat → Int) (nm : Nat → Option Nat) (c : Nat) : Prop := (∀ w, w < 246 → match nm w with
  | none => mi 163 w < 0
  | some i => mi 163 w = 20 + (i : Int)) ∧ mi 159 7 = 20 + (c : Int)
theorem pz_tx_len {mi : Nat → Nat → Int} {σ : Nat → Option Nat} : ∀ (n : Nat) (st : List Nat) (nm : Nat → Option Nat) (c : Nat), (pz_tx mi σ n st nm c).1.length ≤ n := by
  intro n
  induction n with
  | zero => exact fun st nm c => Nat.le_refl _
  | succ n ih =>
    intro st nm c
    cases st with
    | nil => exact Nat.zero_le _
    | cons a st =>
      show List.length (_ :: _) ≤ n + 1
      rw [List.length_cons]
      exact Nat.succ_le_succ (ih _ _ _)
section pzM
variable {d n0 : Nat} {mi mi' : Nat → Nat → Int} {ml : Nat → Nat → Int64} {mr : Nat → Nat → Option Nat} {c s : Nat} {F : Int} {σ : Nat → Option Nat}
theorem pz_sy_te (te : pz_te mi mi') (w : Nat) (nm : Nat → Option Nat) (cc : Nat) : pz_sy mi' w nm cc = pz_sy mi w nm cc := by
  unfold pz_sy
  rw [pz_kd1_te te, te.2.2.1]
theorem pz_tx_te (te : pz_te mi mi') : ∀ (n : Nat) (st : List Nat) (nm : Nat → Option Nat) (cc : Nat), pz_tx mi' σ n st nm cc = pz_tx mi σ n st nm cc := by
  intro n
  induction n with
  | zero => exact fun _ _ _ => rfl
  | succ n ih =>
    intro st nm cc
    cases st with
    | nil => rfl
    | cons a st =>
      have e : ∀ m : Nat → Nat → Int, pz_tx m σ (n + 1) (a :: st) nm cc = ((pz_sy m (pz_W σ a) nm cc).1 :: (pz_tx m σ n (if pz_kd1 m (pz_W σ a) = 2 then pz_hf m (pz_W σ a) true :: pz_hf m (pz_W σ a) false :: st else st) (pz_sy m (pz_W σ a) nm cc).2.1 (pz_sy m (pz_W σ a) nm cc).2.2).1, (pz_tx m σ n (if pz_kd1 m (pz_W σ a) = 2 then pz_hf m (pz_W σ a) true :: pz_hf m (pz_W σ a) false :: st else st) (pz_sy m (pz_W σ a) nm cc).2.1 (pz_sy m (pz_W σ a) nm cc).2.2).2) := fun _ => rfl
      rw [e, e, pz_sy_te te, pz_kd1_te te, pz_hf_te te, ih]
/-- Answers.markOf -/
theorem pz_markC (ht : pz_tm mi) (hF : F ≤ 40) {y : Int} (hy : pz_vs mi F y) {nm : Nat → Option Nat} {cc : Nat} (hc : pz_nc mi nm cc) (hcc : cc ≤ 1000) :
    pz_Rn (d + 1) 76 (0, [], [(0, .inr (.inr (some 159))), (1, .inl y)], pz_hp n0 mi ml mr c s, true) (fun o h => ∃ mi', (o = .inl (some (.inl (pz_sy mi (pz_cs mi y) nm cc).1)) ∧ h = pz_hp n0 mi' ml mr c s) ∧ pz_fr [159, 163] [] mi mi' ∧ mi' 159 8 = mi 159 8 ∧ pz_nc mi' (pz_sy mi (pz_cs mi y) nm cc).2.1 (pz_sy mi (pz_cs mi y) nm cc).2.2) := by
  have hf := pz_vs_f ht hy
  have hb := pz_vs_b ht hF hy
  have kd := pz_kd_cs ht hF hy
  have y0 := hy.1
  unfold pz_sy
  refine pz_g76_0 ⟨y0, fun x2 e2 => ?_⟩
  subst e2
  refine ⟨by omega, fun h2 => ⟨by omega, fun h0 => ?_, fun h0 => ?_⟩, fun h2 => ?_⟩
  · rcases hb with ⟨b1, b2, b3, b4⟩ | hb
    · rw [if_pos (by omega)]
      refine pz_Rn_c (Nat.zero_le _) (pz_varAt (d := 0) ht hF hy) ?_
      rw [← b3]
      have hw := hc.1 (pz_cs mi y) (by omega)
      have ew : (((pz_cs mi y : Nat)) : Int).toNat = pz_cs mi y := by omega
      refine pz_g76_51 ⟨by omega, fun h3 => ⟨by omega, ?_⟩, fun h3 => ⟨by omega, ?_, by omega, ?_⟩⟩
      · rw [ew] at h3 ⊢
        cases e : nm (pz_cs mi y) with
        | none =>
          rw [e] at hw
          exact absurd h3 (by have : mi 163 (pz_cs mi y) < 0 := hw; omega)
        | some i =>
          rw [e] at hw
          have hw' : mi 163 (pz_cs mi y) = 20 + (i : Int) := hw
          rw [hw']
          exact ⟨mi, ⟨rfl, rfl⟩, pz_fr_refl, rfl, hc⟩
      · have := hc.2
        omega
      · rw [ew] at h3 ⊢
        cases e : nm (pz_cs mi y) with
        | some i =>
          rw [e] at hw
          exact absurd h3 (by have : mi 163 (pz_cs mi y) = 20 + (i : Int) := hw; omega)
        | none =>
          rw [pz_up_at, hc.2]
          refine ⟨_, ⟨rfl, rfl⟩, pz_fr_trans (pz_fr_up (by decide) (by decide)) (pz_fr_up (by decide) (by decide)), by rw [pz_up_ot (by decide), pz_upq (by decide)], fun w hwb => ?_, ?_⟩
          · rw [pz_upq (by decide)]
            dsimp only
            by_cases ew2 : w = pz_cs mi y
            · rw [if_pos ew2, ew2, pz_up_at]
            · rw [if_neg ew2, pz_up_ot ew2]
              exact hc.1 w hwb
          · rw [pz_up_at]
            dsimp only
            omega
    · omega
  · rw [if_neg (by omega), if_neg (by omega)]
    refine ⟨by omega, mi, ⟨?_, rfl⟩, pz_fr_refl, rfl, hc⟩
    rcases hb with hb | ⟨b1, b2, b3⟩
    · omega
    · rw [b3]
  · rw [if_neg (by rcases hb with hb | hb <;> omega), if_pos (by omega)]
    exact ⟨mi, ⟨rfl, rfl⟩, pz_fr_refl, rfl, hc⟩
theorem pz_sy_c {w : Nat} {nm : Nat → Option Nat} {cc : Nat} : (pz_sy mi w nm cc).2.2 ≤ cc + 1 := by
  unfold pz_sy
  split
  · split
    · exact Nat.le_succ _
    · exact Nat.le_refl _
  · split
    · exact Nat.le_succ _
    · exact Nat.le_succ _
theorem pz_tx_c : ∀ (n : Nat) (st : List Nat) (nm : Nat → Option Nat) (cc : Nat), (pz_tx mi σ n st nm cc).2.2 ≤ cc + n := by
  intro n
  induction n with
  | zero => exact fun _ _ _ => Nat.le_refl _
  | succ n ih =>
    intro st nm cc
    cases st with
    | nil => exact Nat.le_add_right _ _
    | cons a st =>
      refine Nat.le_trans (ih _ _ _) ?_
      have := pz_sy_c (mi := mi) (w := pz_W σ a) (nm := nm) (cc := cc)
      omega
/-- how write ends -/
def pz_wQ (n0 : Nat) (ml : Nat → Nat → Int64) (mr : Nat → Nat → Option Nat) (c s row len : Nat) (mi : Nat → Nat → Int) (x : List Int × (Nat → Option Nat) × Nat) : pz_O → pz_H → Prop := fun o h => ∃ mi', (o = .inl none ∧ h = pz_hp n0 mi' ml mr c s) ∧ pz_fr [159, 160, 161, 163, 164] [] mi mi' ∧ mi' 159 8 = mi 159 8 ∧ pz_nc mi' x.2.1 x.2.2 ∧ mi' 161 row = ((len + x.1.length : Nat) : Int) ∧ (∀ j, j ≠ row → mi' 161 j = mi 161 j) ∧ (∀ i, i < x.1.length → mi' 160 (40 * row + len + i) = x.1.getD i 0) ∧ ∀ j, (j < 40 * row + len ∨ 40 * row + 40 ≤ j) → mi' 160 j = mi 160 j
set_option maxHeartbeats 1000000 in
theorem pz_wr1 {mi0 : Nat → Nat → Int} (ht : pz_tm mi0) (hF : F ≤ 40) {row : Nat} (hrow : row < 140) : ∀ (n len : Nat) (st : List Nat) (nm : Nat → Option Nat) (cc : Nat) (mi : Nat → Nat → Int), pz_te mi0 mi → pz_sp mi F σ → len + n = 40 → st.length ≤ len + 1 → pz_sk mi 164 F st → pz_nc mi nm cc → cc + n ≤ 1000 →
    pz_Rn (d + 2) 77 (39, [], [(0, .inr (.inr (some 159))), (3, .inl (row : Int)), (4, .inl (st.length : Int)), (5, .inl (len : Int))], pz_hp n0 mi ml mr c s, true) (pz_wQ n0 ml mr c s row len mi (pz_tx mi0 σ n st nm cc)) := by
  intro n
  have erow : ((row : Int)).toNat = row := by omega
  have fin : ∀ (len : Nat) (nm : Nat → Option Nat) (cc : Nat) (mi : Nat → Nat → Int), pz_nc mi nm cc → pz_wQ n0 ml mr c s row len mi ([], nm, cc) (.inl none) (pz_hp n0 (pz_up mi 161 row (len : Int)) ml mr c s) := by
    intro len nm cc mi hc
    refine ⟨_, ⟨rfl, rfl⟩, pz_fr_up (by decide) (by decide), by rw [pz_upq (by decide)], ⟨fun w hw => ?_, ?_⟩, ?_, fun j hj => pz_up_ot hj, fun i hi => absurd hi (Nat.not_lt_zero _), fun j _ => by rw [pz_upq (by decide)]⟩
    · rw [pz_upq (by decide)]
      exact hc.1 w hw
    · rw [pz_upq (by decide)]
      exact hc.2
    · rw [pz_up_at]
      rfl
  induction n with
  | zero =>
    intro len st nm cc mi hte hs hlen hst hk hc hcc
    have e : pz_tx mi0 σ 0 st nm cc = ([], nm, cc) := rfl
    rw [e]
    refine pz_g77_39 ⟨fun _ => ⟨by omega, ?_⟩, fun _ => ⟨fun _ => ⟨by omega, ?_⟩, fun h => absurd h (by omega)⟩⟩
    · rw [erow]
      exact fin len nm cc mi hc
    · rw [erow]
      exact fin len nm cc mi hc
  | succ n ih =>
    intro len st nm cc mi hte hs hlen hst hk hc hcc
    cases st with
    | nil =>
      have e : pz_tx mi0 σ (n + 1) [] nm cc = ([], nm, cc) := rfl
      rw [e]
      refine pz_g77_39 ⟨fun _ => ⟨by omega, ?_⟩, fun h => absurd h (by decide)⟩
      rw [erow]
      exact fin len nm cc mi hc
    | cons a st =>
      have e : pz_tx mi0 σ (n + 1) (a :: st) nm cc = ((pz_sy mi0 (pz_W σ a) nm cc).1 :: (pz_tx mi0 σ n (if pz_kd1 mi0 (pz_W σ a) = 2 then pz_hf mi0 (pz_W σ a) true :: pz_hf mi0 (pz_W σ a) false :: st else st) (pz_sy mi0 (pz_W σ a) nm cc).2.1 (pz_sy mi0 (pz_W σ a) nm cc).2.2).1, (pz_tx mi0 σ n (if pz_kd1 mi0 (pz_W σ a) = 2 then pz_hf mi0 (pz_W σ a) true :: pz_hf mi0 (pz_W σ a) false :: st else st) (pz_sy mi0 (pz_W σ a) nm cc).2.1 (pz_sy mi0 (pz_W σ a) nm cc).2.2).2) := rfl
      rw [e]
      have hsc := pz_sy_c (mi := mi0) (w := pz_W σ a) (nm := nm) (cc := cc)
      have hsy : pz_sy mi (pz_W σ a) nm cc = pz_sy mi0 (pz_W σ a) nm cc := pz_sy_te hte _ _ _
      generalize hR : pz_sy mi0 (pz_W σ a) nm cc = R at *
      obtain ⟨sym, nm1, c1⟩ := R
      dsimp only at hsc ⊢
      have hL : (((a :: st).length : Nat) : Int) + (-1) = (st.length : Int) := by rw [List.length_cons]; omega
      have hst' : st.length ≤ len := by rw [List.length_cons] at hst; omega
      have el : ((st.length : Int)).toNat = st.length := by omega
      obtain ⟨k1, k2, k3⟩ := hk
      have ht1 := pz_tm_te hte ht
      refine pz_g77_39 ⟨fun h => absurd h (by rw [List.length_cons]; omega), fun _ => ⟨fun h => absurd h (by omega), fun _ => ⟨by omega, by omega, ?_⟩⟩⟩
      rw [hL, el]
      refine pz_Rn_e (d' := 0) (by omega) (pz_find ht1 hF hs k1) ?_
      rintro _ _ ⟨y, ⟨rfl, rfl⟩, hy, ey⟩
      rw [k2] at ey
      have kd := pz_kd_cs ht1 hF hy
      rw [ey, pz_kd1_te hte] at kd
      have hf := pz_vs_f ht1 hy
      have y0 := hy.1
      have y1 := hy.2.1
      refine pz_g77_68 ⟨y0, fun x2 e2 => ⟨by omega, by omega, ?_⟩⟩
      have hmk := pz_markC (d := d) (n0 := n0) (ml := ml) (mr := mr) (c := c) (s := s) ht1 hF hy hc (by omega)
      rw [ey, hsy] at hmk
      refine pz_Rn_e (Nat.le_refl _) hmk ?_
      rintro _ _ ⟨m1, ⟨rfl, rfl⟩, f1, e8, nc1⟩
      dsimp only at nc1
      have te1 := pz_te_fr f1 (by decide) (by decide)
      have ei : ((row : Int) * 40 + (len : Int)).toNat = 40 * row + len := by omega
      have f2 : pz_fr [159, 160, 161, 163, 164] [] mi (pz_up m1 160 (40 * row + len) sym) := pz_fr_trans (pz_fr_sub (by decide) (by decide) f1) (pz_fr_up (by decide) (by decide))
      have e8' : pz_up m1 160 (40 * row + len) sym 159 8 = mi 159 8 := by rw [pz_upq (by decide)]; exact e8
      have nc2 : pz_nc (pz_up m1 160 (40 * row + len) sym) nm1 c1 := ⟨fun w hw => by rw [pz_upq (by decide)]; exact nc1.1 w hw, by rw [pz_upq (by decide)]; exact nc1.2⟩
      have w1 : pz_up m1 160 (40 * row + len) sym 160 (40 * row + len) = sym := pz_up_at
      have w2 : ∀ j, j ≠ 40 * row + len → pz_up m1 160 (40 * row + len) sym 160 j = mi 160 j := fun j hj => by rw [pz_up_ot hj, f1.1 160 (by decide) (by decide)]
      have w3 : pz_up m1 160 (40 * row + len) sym 161 = mi 161 := by rw [pz_upq (by decide), f1.1 161 (by decide) (by decide)]
      have w4 : pz_up m1 160 (40 * row + len) sym 164 = mi 164 := by rw [pz_upq (by decide), f1.1 164 (by decide) (by decide)]
      have m3 : pz_up m1 160 (40 * row + len) sym 3 = mi 3 := f2.1 3 (by decide) (by decide)
      have m4 : pz_up m1 160 (40 * row + len) sym 4 = mi 4 := f2.1 4 (by decide) (by decide)
      have m5 : pz_up m1 160 (40 * row + len) sym 5 = mi 5 := f2.1 5 (by decide) (by decide)
      have n3 : m1 3 = mi 3 := f1.1 3 (by decide) (by decide)
      have n5 : m1 5 = mi 5 := f1.1 5 (by decide) (by decide)
      -- what the rest leaves
      have up : ∀ (st' : List Nat) (m2 : Nat → Nat → Int), pz_fr [164] [] (pz_up m1 160 (40 * row + len) sym) m2 → ∀ o h, pz_wQ n0 ml mr c s row (len + 1) m2 (pz_tx mi0 σ n st' nm1 c1) o h → pz_wQ n0 ml mr c s row len mi (sym :: (pz_tx mi0 σ n st' nm1 c1).1, (pz_tx mi0 σ n st' nm1 c1).2) o h := by
        rintro st' m2 fm o h ⟨m3', g1, g2, g3, g4, g5, g6, g7, g8⟩
        have hg : ∀ p, p ≠ 164 → p ≠ 165 → m2 p = pz_up m1 160 (40 * row + len) sym p := fun p hp hp2 => fm.1 p (by rw [List.mem_singleton]; exact hp) hp2
        refine ⟨m3', g1, pz_fr_trans (pz_fr_trans f2 (pz_fr_sub (by decide) (by decide) fm)) g2, ?_, g4, ?_, fun j hj => ?_, fun i hi => ?_, fun j hj => ?_⟩
        · rw [g3, hg 159 (by decide) (by decide)]
          exact e8'
        · rw [g5, List.length_cons]
          omega
        · rw [g6 j hj, hg 161 (by decide) (by decide), w3]
        · cases i with
          | zero =>
            rw [Nat.add_zero, g8 _ (by omega), hg 160 (by decide) (by decide), w1]
            rfl
          | succ i =>
            have := g7 i (by rw [List.length_cons] at hi; omega)
            rw [show 40 * row + len + (i + 1) = 40 * row + (len + 1) + i by omega, this]
            rfl
        · rw [g8 j (by omega), hg 160 (by decide) (by decide), w2 j (by omega)]
      have el1 : (len : Int) + 1 = ((len + 1 : Nat) : Int) := by omega
      subst e2
      refine pz_g77_94 ⟨by omega, by omega, by omega, fun h2 => ?_, fun h2 => ?_⟩
      · rw [n3] at h2
        rw [ei, el1, if_neg (by rw [kd]; exact h2)]
        refine (ih (len + 1) st nm1 c1 _ (pz_te_trans hte (pz_te_fr f2 (by decide) (by decide))) (pz_sp_te (pz_te_fr f2 (by decide) (by decide)) (f2.1 154 (by decide) (by decide)) hs) (by omega) (by omega) (pz_sk_te (pz_te_fr f2 (by decide) (by decide)) (fun j _ => by rw [w4]) k3) nc2 (by omega)).mono (Nat.le_refl _) (up st _ pz_fr_refl)
      · rw [n3] at h2
        rw [n5, ei, el1, if_pos (by rw [kd]; exact h2)]
        have g1 := pz_hf_cs ht1 hy h2 true
        have g0 := pz_hf_cs ht1 hy h2 false
        rw [ey] at g1 g0
        simp only [if_true, Bool.false_eq_true, if_false] at g1 g0
        rw [pz_hf_te hte] at g1 g0
        refine ⟨y0, by omega, pz_Rn_c (d' := 0) (by omega) (pz_spot (by omega) (by omega)) ?_⟩
        refine pz_g77_136 ⟨by omega, by omega, y0, by omega, ?_⟩
        rw [el, m4]
        refine pz_Rn_c (d' := 0) (by omega) (pz_spot (by omega) (by omega)) ?_
        have el2 : ((st.length : Int) + 1).toNat = st.length + 1 := by omega
        have el3 : (st.length : Int) + 2 = ((st.length + 2 : Nat) : Int) := by omega
        refine pz_g77_163 ⟨by omega, by omega, ?_⟩
        rw [el2, el3]
        have f3 : pz_fr [164] [] (pz_up m1 160 (40 * row + len) sym) (pz_up (pz_up (pz_up m1 160 (40 * row + len) sym) 164 st.length (y / 41 * 41 + mi 5 (y % 41).toNat)) 164 (st.length + 1) (y / 41 * 41 + mi 4 (y % 41).toNat)) := pz_fr_trans (pz_fr_up (by decide) (by decide)) (pz_fr_up (by decide) (by decide))
        have f23 : pz_fr [159, 160, 161, 163, 164] [] mi (pz_up (pz_up (pz_up m1 160 (40 * row + len) sym) 164 st.length (y / 41 * 41 + mi 5 (y % 41).toNat)) 164 (st.length + 1) (y / 41 * 41 + mi 4 (y % 41).toNat)) := pz_fr_trans f2 (pz_fr_sub (by decide) (by decide) f3)
        have te3 := pz_te_fr f23 (by decide) (by decide)
        refine (ih (len + 1) (pz_hf mi0 (pz_W σ a) true :: pz_hf mi0 (pz_W σ a) false :: st) nm1 c1 _ (pz_te_trans hte te3) (pz_sp_te te3 (f23.1 154 (by decide) (by decide)) hs) (by omega) (by rw [List.length_cons, List.length_cons]; omega) ?_ ?_ (by omega)).mono (Nat.le_refl _) (up _ _ f3)
        · unfold pz_sk
          rw [List.length_cons, pz_up_at, pz_vs_te te3, pz_cs_te te3]
          refine ⟨g1.2, g1.1.symm, ?_⟩
          unfold pz_sk
          rw [pz_up_ot (by omega), pz_up_at, pz_vs_te te3, pz_cs_te te3]
          refine ⟨g0.2, g0.1.symm, ?_⟩
          refine pz_sk_te te3 (fun j hj => ?_) k3
          rw [pz_up_ot (by omega), pz_up_ot (by omega), w4]
        · exact ⟨fun w hw => by rw [f3.1 163 (by decide) (by decide)]; exact nc2.1 w hw, by rw [f3.1 159 (by decide) (by decide)]; exact nc2.2⟩
/-- Answers.write, for a row that there is -/
theorem pz_writeC (ht : pz_tm mi) (hF : F ≤ 40) (hs : pz_sp mi F σ) {K part : Nat} {x : Int} (hK : mi 159 8 = (K : Int)) (hK1 : 1 ≤ K ∧ K ≤ 20) (hp : part < 7) (hx : pz_vs mi F x) {nm : Nat → Option Nat} {cc : Nat} (hc : pz_nc mi nm cc) (hcc : cc ≤ 900) :
    pz_Rn (d + 2) 77 (0, [], [(0, .inr (.inr (some 159))), (1, .inl (part : Int)), (2, .inl x)], pz_hp n0 mi ml mr c s, true) (pz_wQ n0 ml mr c s (7 * (K - 1) + part) 0 mi (pz_tx mi σ 40 [pz_cs mi x] nm cc)) := by
  refine pz_g77_0 ⟨by omega, by omega, by omega, fun x4 e4 => ⟨fun h => absurd h (by omega), fun _ => ⟨fun _ => ?_, fun h => absurd h (by omega)⟩⟩⟩
  have e : x4 = ((7 * (K - 1) + part : Nat) : Int) := by omega
  rw [e]
  have f1 : pz_fr [159, 160, 161, 163, 164] [] mi (pz_up mi 164 0 x) := pz_fr_up (by decide) (by decide)
  have te1 := pz_te_fr f1 (by decide) (by decide)
  have q : ∀ p, p ≠ 164 → pz_up mi 164 0 x p = mi p := fun p hp => pz_upq hp
  refine (pz_wr1 (d := d) (σ := σ) ht hF (row := 7 * (K - 1) + part) (by omega) 40 0 [pz_cs mi x] nm cc (pz_up mi 164 0 x) te1 (pz_sp_te te1 (q 154 (by decide)) hs) rfl (Nat.le_refl _) ⟨?_, ?_, trivial⟩ ⟨fun w hw => by rw [q 163 (by decide)]; exact hc.1 w hw, by rw [q 159 (by decide)]; exact hc.2⟩ (by omega)).mono (Nat.le_refl _) ?_
  · show pz_vs _ F (pz_up mi 164 0 x 164 0)
    rw [pz_up_at, pz_vs_te te1]
    exact hx
  · show pz_cs _ (pz_up mi 164 0 x 164 0) = _
    rw [pz_up_at, pz_cs_te te1]
  · rintro _ _ ⟨m, g1, g2, g3, g4, g5, g6, g7, g8⟩
    refine ⟨m, g1, pz_fr_trans f1 g2, by rw [g3, q 159 (by decide)], g4, g5, fun j hj => by rw [g6 j hj, q 161 (by decide)], g7, fun j hj => by rw [g8 j hj, q 160 (by decide)]⟩
end pzM
