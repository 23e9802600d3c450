/-! The reference's write. -/
def pz_nM (mi : Nat → Nat → Int) (nm : Nat → Option Nat) (c : Nat) : Prop := (∀ w, w < 240 → match nm w with
  | none => mi 194 w = 0
  | some i => mi 194 w = (i : Int) + 1) ∧ mi 165 44 = (c : Int) ∧ ∀ w i, nm w = some i → i < c
/-- the i-th number of a row -/
def pz_E (mi : Nat → Nat → Int) (row i : Nat) : Int := pz_ex (mi 191 (14 * row + i / 3)) (10 * ((i % 3 : Nat) : Int))
def pz_rM (mi : Nat → Nat → Int) (row : Nat) (l : List Int) : Prop := mi 192 row = (l.length : Int) ∧ l.length ≤ 40 ∧ ∀ i, i < l.length → pz_E mi row i = l.getD i 0
section pzS1
variable {d n0 : Nat} {mi mi' : Nat → Nat → Int} {ml : Nat → Nat → Int64} {mr : Nat → Nat → Option Nat} {c s : Nat} {F : Int} {σ : Nat → Option Nat} {n : Nat}
theorem pz_sy_nb {w : Nat} {nm : Nat → Option Nat} {cc : Nat} (h : ∀ u i, nm u = some i → i < cc) : (∀ u i, (pz_sy mi w nm cc).2.1 u = some i → i < (pz_sy mi w nm cc).2.2) := by
  intro u i
  unfold pz_sy
  split
  · split
    · exact h u i
    · dsimp only
      intro hu
      split at hu
      · cases hu
        omega
      · have := h u i hu
        omega
  · split
    · exact h u i
    · exact h u i
/-- the reference's symbolOf, of a resolved item -/
theorem pz_symC (ht : pz_tm mi) (hF : F ≤ 40) {y : Int} (hy : pz_vm mi F y) (hr : pz_rvm mi y) {nm : Nat → Option Nat} {cc : Nat} (hc : pz_nM mi nm cc) (hcc : cc ≤ 900) :
    pz_Rn (d + 2) 138 (0, [], [(0, .inr (.inr (some 165))), (1, .inl y)], pz_hp n0 mi ml mr c s, true) (fun o h => ∃ mi', (o = .inl (some (.inl (pz_sy mi (pz_cm mi y) nm cc).1)) ∧ h = pz_hp n0 mi' ml mr c s) ∧ pz_fr [194] [44] mi mi' ∧ pz_nM mi' (pz_sy mi (pz_cm mi y) nm cc).2.1 (pz_sy mi (pz_cm mi y) nm cc).2.2 ∧ (0 ≤ (pz_sy mi (pz_cm mi y) nm cc).1 ∧ (pz_sy mi (pz_cm mi y) nm cc).1 < 1024)) := by
  have nb := pz_sy_nb (mi := mi) (w := pz_cm mi y) hc.2.2
  have t2 := ht.2.1
  rcases pz_rvm_f ht hF hy hr with ⟨h1, h2, h3, h4⟩ | ⟨h1, h2, h3, h4, h5, h6, h7, h8, h9, h10, h11⟩
  · have ew : (y - 3000).toNat = pz_cm mi y := h3.symm
    have hw := hc.1 (pz_cm mi y) (by omega)
    refine pz_g138_0 ⟨fun _ => ⟨by omega, by omega, fun hn => ⟨by omega, by omega, ?_⟩, fun hn => ⟨?_, by omega, by omega, by omega, by omega, ?_⟩⟩, fun h => absurd h (by omega)⟩
    · rw [ew] at hn ⊢
      unfold pz_sy at nb ⊢
      rw [if_pos (by omega)] at nb ⊢
      cases e : nm (pz_cm mi y) with
      | none =>
        rw [e] at hw
        exact absurd hw hn
      | some i =>
        rw [e] at hw
        have hw' : mi 194 (pz_cm mi y) = (i : Int) + 1 := hw
        have hi := hc.2.2 _ _ e
        refine ⟨by omega, mi, ⟨?_, rfl⟩, pz_fr_refl, hc, ?_⟩
        · rw [hw']
          show _ = Sum.inl (some (Sum.inl (20 + (i : Int))))
          congr 3
          omega
        · show 0 ≤ 20 + (i : Int) ∧ 20 + (i : Int) < 1024
          omega
    · have := hc.2.1
      omega
    · rw [ew] at hn ⊢
      rw [pz_up_at, hc.2.1]
      unfold pz_sy at nb ⊢
      rw [if_pos (by omega)] at nb ⊢
      cases e : nm (pz_cm mi y) with
      | some i =>
        rw [e] at hw
        exact absurd hw (by show ¬ mi 194 (pz_cm mi y) = (i : Int) + 1; omega)
      | none =>
        rw [e] at nb
        refine ⟨by omega, _, ⟨?_, rfl⟩, pz_fr_trans (pz_fr_u5 (by decide)) (pz_fr_up (by decide) (by decide)), ⟨fun w hwb => ?_, ?_, nb⟩, ?_⟩
        · show _ = Sum.inl (some (Sum.inl (20 + (cc : Int))))
          congr 3
          omega
        · dsimp only
          by_cases ew2 : w = pz_cm mi y
          · rw [if_pos ew2, ew2, pz_up_at]
          · rw [if_neg ew2, pz_up_ot ew2, pz_upq (by decide)]
            exact hc.1 w hwb
        · rw [pz_upq (by decide), pz_up_at]
          show _ = ((cc + 1 : Nat) : Int)
          omega
        · show 0 ≤ 20 + (cc : Int) ∧ 20 + (cc : Int) < 1024
          omega
  · refine pz_g138_0 ⟨fun h => absurd h (by omega), fun _ => ?_⟩
    refine pz_Rn_c (d' := d + 1) (by omega) (pz_isPairC (d := d) ht hF hy hr) ?_
    by_cases hk : pz_kd1 mi (pz_cm mi y) = 2
    · have es : pz_sy mi (pz_cm mi y) nm cc = (10, nm, cc) := by
        unfold pz_sy
        rw [if_neg (by omega), if_pos hk]
      rw [es, if_pos hk]
      exact pz_g138_12 ⟨fun h => absurd h (by decide), fun _ => ⟨mi, ⟨rfl, rfl⟩, pz_fr_refl, hc, by show (0 : Int) ≤ 10 ∧ (10 : Int) < 1024; decide⟩⟩
    · have es : pz_sy mi (pz_cm mi y) nm cc = (mi 4 (pz_ct1 (pz_cm mi y)), nm, cc) := by
        unfold pz_sy
        rw [if_neg (by omega), if_neg hk]
      rw [es, if_neg hk]
      refine pz_g138_12 ⟨fun _ => ?_, fun h => absurd rfl h⟩
      refine pz_Rn_c (d' := 0) (by omega) (pz_termC h1 h2) ?_
      obtain ⟨u1, u2, u3⟩ := h11
      have hct : pz_ct1 (pz_cm mi y) = ((y - 1) / 64).toNat := by
        rw [h10]
        exact pz_md41 h5 h3 (by omega)
      refine pz_g138_28 ⟨by omega, mi, ⟨?_, rfl⟩, pz_fr_refl, hc, ?_⟩
      · rw [hct, u2]
      · rw [hct]
        omega
/-- how the reference's write ends -/
def pz_vQ (n0 : Nat) (ml : Nat → Nat → Int64) (mr : Nat → Nat → Option Nat) (c s row len : Nat) (mi : Nat → Nat → Int) (x : List Int × (Nat → Option Nat) × Nat) : pz_O → pz_H → Prop := fun o h => ∃ mi', (o = .inl none ∧ h = pz_hp n0 mi' ml mr c s) ∧ pz_fr [187, 191, 192, 194] [44] mi mi' ∧ pz_nM mi' x.2.1 x.2.2 ∧ mi' 192 row = ((len + x.1.length : Nat) : Int) ∧ (∀ j, j ≠ row → mi' 192 j = mi 192 j) ∧ (∀ i, i < x.1.length → pz_E mi' row (len + i) = x.1.getD i 0) ∧ (∀ i, i < len → pz_E mi' row i = pz_E mi row i) ∧ ∀ j, (j < 14 * row ∨ 14 * row + 14 ≤ j) → mi' 191 j = mi 191 j
set_option maxHeartbeats 2000000 in
theorem pz_mw1 {mi0 : Nat → Nat → Int} (ht : pz_tm mi0) (hF : F ≤ 40) (hn : n < 63) (hg : pz_gd σ) {row : Nat} (hrow : row < 140) : ∀ (m len : Nat) (st : List Nat) (nm : Nat → Option Nat) (cc : Nat) (mi : Nat → Nat → Int), pz_te mi0 mi → pz_mS mi F n σ → len + m = 40 → st.length ≤ len + 1 → pz_skm mi 187 0 F st → pz_nM mi nm cc → cc + m ≤ 900 →
    pz_Rn (d + 3) 139 (13, [], [(0, .inr (.inr (some 165))), (1, .inl (row : Int)), (2, .inl (n : Int)), (4, .inl (st.length : Int)), (5, .inl (len : Int))], pz_hp n0 mi ml mr c s, true) (pz_vQ n0 ml mr c s row len mi (pz_tx mi0 σ m st nm cc)) := by
  intro m
  have erow : ((row : Int)).toNat = row := by omega
  have fin : ∀ (len : Nat) (nm : Nat → Option Nat) (cc : Nat) (mi : Nat → Nat → Int), pz_nM mi nm cc → pz_vQ n0 ml mr c s row len mi ([], nm, cc) (.inl none) (pz_hp n0 (pz_up mi 192 row (len : Int)) ml mr c s) := by
    intro len nm cc mi hc
    refine ⟨_, ⟨rfl, rfl⟩, pz_fr_up (by decide) (by decide), ⟨fun w hw => ?_, ?_, hc.2.2⟩, ?_, fun j hj => pz_up_ot hj, fun i hi => absurd hi (Nat.not_lt_zero _), fun i _ => ?_, fun j _ => by rw [pz_upq (by decide)]⟩
    · rw [pz_upq (by decide)]
      exact hc.1 w hw
    · rw [pz_upq (by decide)]
      exact hc.2.1
    · rw [pz_up_at]
      rfl
    · unfold pz_E
      rw [pz_upq (by decide)]
  induction m with
  | zero =>
    intro len st nm cc mi hte hs hlen hst hk hc hcc
    have e : pz_tx mi0 σ 0 st nm cc = ([], nm, cc) := rfl
    rw [e]
    refine pz_g139_13 ⟨fun _ => ⟨by omega, ?_⟩, fun _ => ⟨fun _ => ⟨by omega, ?_⟩, fun h => absurd h (by omega)⟩⟩
    · rw [erow]
      exact fin len nm cc mi hc
    · rw [erow]
      exact fin len nm cc mi hc
  | succ m ih =>
    intro len st nm cc mi hte hs hlen hst hk hc hcc
    cases st with
    | nil =>
      have e : pz_tx mi0 σ (m + 1) [] nm cc = ([], nm, cc) := rfl
      rw [e]
      refine pz_g139_13 ⟨fun _ => ⟨by omega, ?_⟩, fun h => absurd h (by decide)⟩
      rw [erow]
      exact fin len nm cc mi hc
    | cons a st =>
      have e : pz_tx mi0 σ (m + 1) (a :: st) nm cc = ((pz_sy mi0 (pz_W σ a) nm cc).1 :: (pz_tx mi0 σ m (if pz_kd1 mi0 (pz_W σ a) = 2 then pz_hf mi0 (pz_W σ a) true :: pz_hf mi0 (pz_W σ a) false :: st else st) (pz_sy mi0 (pz_W σ a) nm cc).2.1 (pz_sy mi0 (pz_W σ a) nm cc).2.2).1, (pz_tx mi0 σ m (if pz_kd1 mi0 (pz_W σ a) = 2 then pz_hf mi0 (pz_W σ a) true :: pz_hf mi0 (pz_W σ a) false :: st else st) (pz_sy mi0 (pz_W σ a) nm cc).2.1 (pz_sy mi0 (pz_W σ a) nm cc).2.2).2) := rfl
      rw [e]
      have hsc := pz_sy_c (mi := mi0) (w := pz_W σ a) (nm := nm) (cc := cc)
      have hsy : pz_sy mi (pz_W σ a) nm cc = pz_sy mi0 (pz_W σ a) nm cc := pz_sy_te hte _ _ _
      generalize hR : pz_sy mi0 (pz_W σ a) nm cc = R at *
      obtain ⟨sym, nm1, c1⟩ := R
      dsimp only at hsc ⊢
      have hL : (((a :: st).length : Nat) : Int) + (-1) = (st.length : Int) := by rw [List.length_cons]; omega
      have hst' : st.length ≤ len := by rw [List.length_cons] at hst; omega
      have el : ((st.length : Int)).toNat = st.length := by omega
      obtain ⟨k1, k2, k3⟩ := hk
      rw [Nat.zero_add] at k1 k2
      have ht1 := pz_tm_te hte ht
      refine pz_g139_13 ⟨fun h => absurd h (by rw [List.length_cons]; omega), fun _ => ⟨fun h => absurd h (by omega), fun _ => ⟨by omega, by omega, ?_⟩⟩⟩
      rw [hL, el]
      refine pz_Rn_e (d' := 0) (by omega) (pz_isC ht1 hF hn hs hg k1) ?_
      rintro _ _ ⟨y, ⟨rfl, rfl⟩, hy, ey, hry⟩
      rw [k2] at ey
      have hyf := pz_rvm_f ht1 hF hy hry
      refine pz_g139_40 ⟨by omega, by omega, fun x3 e3 => ⟨by omega, by omega, by omega, by omega, by omega, by omega, by omega, ?_⟩⟩
      have hmk := pz_symC (d := d) (n0 := n0) (ml := ml) (mr := mr) (c := c) (s := s) ht1 hF hy hry hc (by omega)
      rw [ey, hsy] at hmk
      refine pz_Rn_e (d' := d + 2) (by omega) hmk ?_
      rintro _ _ ⟨m1, ⟨rfl, rfl⟩, f1, nc1, hrng⟩
      dsimp only at nc1 hrng
      have te1 := pz_te_fr f1 (by decide) (by decide)
      have ei : (14 * (row : Int) + (len : Int) / 3).toNat = 14 * row + len / 3 := by omega
      refine pz_g139_93 ⟨by omega, by omega, ?_⟩
      rw [ei]
      have ex3 : x3 = 10 * ((len % 3 : Nat) : Int) := by omega
      have e191 : m1 191 = mi 191 := f1.1 191 (by decide) (by decide)
      have epk : pz_i32 (fun x y => x ||| y) (pz_i32 (fun x y => x &&& y) (mi 191 (14 * row + len / 3)) (pz_i32 (fun x y => x ^^^ y) (pz_i32 (fun x y => x <<< (y &&& 31)) 1023 x3) (-1))) (pz_i32 (fun x y => x <<< (y &&& 31)) sym x3) = pz_pk (mi 191 (14 * row + len / 3)) sym (10 * ((len % 3 : Nat) : Int)) := by
        rw [ex3]
        rfl
      rw [epk]
      have f2 : pz_fr [187, 191, 192, 194] [44] mi (pz_up m1 191 (14 * row + len / 3) (pz_pk (mi 191 (14 * row + len / 3)) sym (10 * ((len % 3 : Nat) : Int)))) := pz_fr_trans (pz_fr_sub (by decide) (by decide) f1) (pz_fr_up (by decide) (by decide))
      have te2 := pz_te_fr f2 (by decide) (by decide)
      have nc2 : pz_nM (pz_up m1 191 (14 * row + len / 3) (pz_pk (mi 191 (14 * row + len / 3)) sym (10 * ((len % 3 : Nat) : Int)))) nm1 c1 := ⟨fun w hw => by rw [pz_upq (by decide)]; exact nc1.1 w hw, by rw [pz_upq (by decide)]; exact nc1.2.1, nc1.2.2⟩
      have w1 : pz_E (pz_up m1 191 (14 * row + len / 3) (pz_pk (mi 191 (14 * row + len / 3)) sym (10 * ((len % 3 : Nat) : Int)))) row len = sym := by
        unfold pz_E
        rw [pz_up_at, pz_ex_pk hrng (Nat.mod_lt _ (by decide)) (Nat.mod_lt _ (by decide)), if_pos rfl]
      have w2 : ∀ i, i ≠ len → pz_E (pz_up m1 191 (14 * row + len / 3) (pz_pk (mi 191 (14 * row + len / 3)) sym (10 * ((len % 3 : Nat) : Int)))) row i = pz_E mi row i := by
        intro i hi
        unfold pz_E
        by_cases e3 : 14 * row + i / 3 = 14 * row + len / 3
        · rw [e3, pz_up_at, pz_ex_pk hrng (Nat.mod_lt _ (by decide)) (Nat.mod_lt _ (by decide)), if_neg (by omega)]
        · rw [pz_up_ot e3, e191]
      have w3 : ∀ j, j ≠ 14 * row + len / 3 → pz_up m1 191 (14 * row + len / 3) (pz_pk (mi 191 (14 * row + len / 3)) sym (10 * ((len % 3 : Nat) : Int))) 191 j = mi 191 j := fun j hj => by rw [pz_up_ot hj, e191]
      have w4 : ∀ p, p ≠ 191 → p ≠ 194 → p ≠ 165 → pz_up m1 191 (14 * row + len / 3) (pz_pk (mi 191 (14 * row + len / 3)) sym (10 * ((len % 3 : Nat) : Int))) p = mi p := fun p h1 h2 h3 => by rw [pz_upq h1]; exact f1.1 p (by rw [List.mem_singleton]; exact h2) h3
      generalize pz_up m1 191 (14 * row + len / 3) (pz_pk (mi 191 (14 * row + len / 3)) sym (10 * ((len % 3 : Nat) : Int))) = m2 at *
      have ht2 := pz_tm_te te2 ht1
      have hy2 : pz_vm m2 F y := by
        rw [pz_vm_te te2]
        exact hy
      have hry2 : pz_rvm m2 y := by
        unfold pz_rvm
        rw [w4 166 (by decide) (by decide) (by decide)]
        exact hry
      have ey2 : pz_cm m2 y = pz_W σ a := by
        rw [pz_cm_te te2]
        exact ey
      -- what the rest leaves
      have up : ∀ (st' : List Nat) (m3 : Nat → Nat → Int), pz_fr [187] [] m2 m3 → ∀ o h, pz_vQ n0 ml mr c s row (len + 1) m3 (pz_tx mi0 σ m st' nm1 c1) o h → pz_vQ n0 ml mr c s row len mi (sym :: (pz_tx mi0 σ m st' nm1 c1).1, (pz_tx mi0 σ m st' nm1 c1).2) o h := by
        rintro st' m3 fm o h ⟨m4, g1, g2, g4, g5, g6, g7, g8, g9⟩
        have hg' : ∀ p, p ≠ 187 → p ≠ 165 → m3 p = m2 p := fun p hp hp2 => fm.1 p (by rw [List.mem_singleton]; exact hp) hp2
        have hE : ∀ i, pz_E m3 row i = pz_E m2 row i := fun i => by
          unfold pz_E
          rw [hg' 191 (by decide) (by decide)]
        refine ⟨m4, g1, pz_fr_trans (pz_fr_trans f2 (pz_fr_sub (by decide) (by decide) fm)) g2, g4, ?_, fun j hj => ?_, fun i hi => ?_, fun i hi => ?_, fun j hj => ?_⟩
        · rw [g5, List.length_cons]
          omega
        · rw [g6 j hj, hg' 192 (by decide) (by decide), w4 192 (by decide) (by decide) (by decide)]
        · cases i with
          | zero =>
            rw [Nat.add_zero, g8 _ (by omega), hE, w1]
            rfl
          | succ i =>
            have := g7 i (by rw [List.length_cons] at hi; omega)
            rw [show len + (i + 1) = len + 1 + i by omega, this]
            rfl
        · rw [g8 i (by omega), hE, w2 i (by omega)]
        · rw [g9 j hj, hg' 191 (by decide) (by decide), w3 j (by omega)]
      have el1 : (len : Int) + 1 = ((len + 1 : Nat) : Int) := by omega
      have kd : pz_kd1 m2 (pz_cm m2 y) = pz_kd1 mi0 (pz_W σ a) := by
        rw [ey2, pz_kd1_te te2, pz_kd1_te hte]
      refine pz_Rn_c (d' := 1) (by omega) (pz_isPairC (d := 0) ht2 hF hy2 hry2) ?_
      rw [kd]
      have j1 : pz_skm m2 187 0 F st := pz_skm_te te2 (fun j _ => by rw [w4 187 (by decide) (by decide) (by decide)]) k3
      have ms2 : pz_mS m2 F n σ := pz_mS_te te2 (w4 182 (by decide) (by decide) (by decide)) hs
      by_cases hk2 : pz_kd1 mi0 (pz_W σ a) = 2
      · rw [if_pos hk2, if_pos hk2]
        obtain ⟨z0, z0v, z0c, z0r⟩ := pz_halfC (d := 0) (n0 := n0) (ml := ml) (mr := mr) (c := c) (s := s) ht2 hF hy2 hry2 (by rw [kd]; exact hk2) false
        obtain ⟨z1, z1v, z1c, z1r⟩ := pz_halfC (d := 0) (n0 := n0) (ml := ml) (mr := mr) (c := c) (s := s) ht2 hF hy2 hry2 (by rw [kd]; exact hk2) true
        have te02 := pz_te_trans hte te2
        rw [ey2, pz_hf_te te02] at z0c z1c
        refine pz_g139_107 ⟨fun _ => ?_, fun h => absurd h (by decide)⟩
        refine pz_Rn_c (d' := 1) (by omega) (z0r m2 pz_te_refl) ?_
        refine pz_g139_126 ⟨by omega, by omega, ?_⟩
        rw [el]
        have f3 : pz_fr [187] [] m2 (pz_up m2 187 st.length z0) := pz_fr_up (by decide) (by decide)
        refine pz_Rn_c (d' := 1) (by omega) (z1r _ (pz_te_fr f3 (by decide) (by decide))) ?_
        have el2 : ((st.length : Int) + 1).toNat = st.length + 1 := by omega
        have el3 : (st.length : Int) + 2 = ((st.length + 2 : Nat) : Int) := by omega
        refine pz_g139_142 ⟨by omega, by omega, ?_⟩
        rw [el2, el3, el1]
        have f4 : pz_fr [187] [] m2 (pz_up (pz_up m2 187 st.length z0) 187 (st.length + 1) z1) := pz_fr_trans f3 (pz_fr_up (by decide) (by decide))
        have te4 := pz_te_fr f4 (by decide) (by decide)
        have q5 : ∀ p, p ≠ 187 → pz_up (pz_up m2 187 st.length z0) 187 (st.length + 1) z1 p = m2 p := fun p hp => by rw [pz_upq hp, pz_upq hp]
        refine (ih (len + 1) (pz_hf mi0 (pz_W σ a) true :: pz_hf mi0 (pz_W σ a) false :: st) nm1 c1 _ (pz_te_trans te02 te4) (pz_mS_te te4 (q5 182 (by decide)) ms2) (by omega) (by rw [List.length_cons, List.length_cons]; omega) ?_ ?_ (by omega)).mono (Nat.le_refl _) (up _ _ f4)
        · unfold pz_skm
          rw [List.length_cons, Nat.zero_add, pz_up_at, pz_vm_te te4, pz_cm_te te4]
          refine ⟨z1v, z1c, ?_⟩
          unfold pz_skm
          rw [Nat.zero_add, pz_up_ot (by omega), pz_up_at, pz_vm_te te4, pz_cm_te te4]
          refine ⟨z0v, z0c, ?_⟩
          refine pz_skm_te te4 (fun j hj => ?_) j1
          rw [pz_up_ot (by omega), pz_up_ot (by omega)]
        · exact ⟨fun w hw => by rw [q5 194 (by decide)]; exact nc2.1 w hw, by rw [q5 165 (by decide)]; exact nc2.2.1, nc2.2.2⟩
      · rw [if_neg hk2, if_neg hk2]
        refine pz_g139_107 ⟨fun h => absurd rfl h, fun _ => ?_⟩
        rw [el1]
        exact (ih (len + 1) st nm1 c1 m2 (pz_te_trans hte te2) ms2 (by omega) (by omega) j1 nc2 (by omega)).mono (Nat.le_refl _) (up st m2 pz_fr_refl)
/-- the reference's write -/
theorem pz_writeM (ht : pz_tm mi) (hF : F ≤ 40) (hn : n < 63) (hs : pz_mS mi F n σ) (hg : pz_gd σ) {row : Nat} (hrow : row < 140) {x : Int} (hx : pz_vm mi F x) {nm : Nat → Option Nat} {cc : Nat} (hc : pz_nM mi nm cc) (hcc : cc ≤ 860) :
    pz_Rn (d + 3) 139 (0, [], [(0, .inr (.inr (some 165))), (1, .inl (row : Int)), (2, .inl (n : Int)), (3, .inl x)], pz_hp n0 mi ml mr c s, true) (pz_vQ n0 ml mr c s row 0 mi (pz_tx mi σ 40 [pz_cm mi x] nm cc)) := by
  refine pz_g139_0 ?_
  have f1 : pz_fr [187, 191, 192, 194] [44] mi (pz_up mi 187 0 x) := pz_fr_up (by decide) (by decide)
  have te1 := pz_te_fr f1 (by decide) (by decide)
  have q : ∀ p, p ≠ 187 → pz_up mi 187 0 x p = mi p := fun p hp => pz_upq hp
  refine (pz_mw1 (d := d) (σ := σ) (n := n) ht hF hn hg hrow 40 0 [pz_cm mi x] nm cc (pz_up mi 187 0 x) te1 (pz_mS_te te1 (q 182 (by decide)) hs) rfl (Nat.le_refl _) ⟨?_, ?_, trivial⟩ ⟨fun w hw => by rw [q 194 (by decide)]; exact hc.1 w hw, by rw [q 165 (by decide)]; exact hc.2.1, hc.2.2⟩ (by omega)).mono (Nat.le_refl _) ?_
  · show pz_vm _ F (pz_up mi 187 0 x 187 0)
    rw [pz_up_at, pz_vm_te te1]
    exact hx
  · show pz_cm _ (pz_up mi 187 0 x 187 0) = _
    rw [pz_up_at, pz_cm_te te1]
  · rintro _ _ ⟨m, g1, g2, g4, g5, g6, g7, g8, g9⟩
    exact ⟨m, g1, pz_fr_trans f1 g2, g4, g5, fun j hj => by rw [g6 j hj, q 192 (by decide)], g7, fun i hi => absurd hi (Nat.not_lt_zero _), fun j hj => by rw [g9 j hj, q 191 (by decide)]⟩
end pzS1
