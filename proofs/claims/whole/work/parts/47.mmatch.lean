/-! The reference's matchOne, behind its look. -/
section pzh
variable {d n0 : Nat} {mi mi' : Nat → Nat → Int} {ml : Nat → Nat → Int64} {mr : Nat → Nat → Option Nat} {c s : Nat} {F : Int} {σ σ0 : Nat → Option Nat} {Q : pz_O → pz_H → Prop}
theorem pz_termC {y : Int} (h : 1 ≤ y) (h2 : y < 3000) : pz_Rn d 117 (0, [], [(0, .inl y)], pz_hp n0 mi ml mr c s, true) (fun o h => o = .inl (some (.inl ((y - 1) / 64))) ∧ h = pz_hp n0 mi ml mr c s) := pz_g117_0 ⟨by omega, by omega, rfl, rfl⟩
set_option maxHeartbeats 2000000 in
theorem pz_one4 (ht : pz_tm mi) (hF : F ≤ 40) {n : Nat} (hn : n < 63) (hs : pz_mS mi F n σ) (hg : pz_gd σ) {x y : Int} (hx : pz_vm mi F x) (hy : pz_vm mi F y) {w : Nat} (hw : mi 165 35 = (w : Int)) (hw5 : w ≤ 500)
    (K1 : pz_kd1 mi (pz_W σ (pz_cm mi x)) = 2 → pz_kd1 mi (pz_W σ (pz_cm mi y)) = 2 → ∀ (mi' : Nat → Nat → Int) (x1 x0 y1 y0 : Int), pz_fr [187, 188] [35] mi mi' → mi' 165 35 = ((w + 2 : Nat) : Int) → (∀ j, j < w → mi' 187 j = mi 187 j ∧ mi' 188 j = mi 188 j) → mi' 187 w = x0 → mi' 187 (w + 1) = x1 → mi' 188 w = y0 → mi' 188 (w + 1) = y1 → (pz_vm mi F x1 ∧ pz_cm mi x1 = pz_hf mi (pz_W σ (pz_cm mi x)) true) → (pz_vm mi F x0 ∧ pz_cm mi x0 = pz_hf mi (pz_W σ (pz_cm mi x)) false) → (pz_vm mi F y1 ∧ pz_cm mi y1 = pz_hf mi (pz_W σ (pz_cm mi y)) true) → (pz_vm mi F y0 ∧ pz_cm mi y0 = pz_hf mi (pz_W σ (pz_cm mi y)) false) → Q (.inl (some (.inl 1))) (pz_hp n0 mi' ml mr c s))
    (K2 : (pz_W σ (pz_cm mi x) < 1000 ∧ pz_W σ (pz_cm mi x) = pz_W σ (pz_cm mi y)) ∨ (1000 ≤ pz_W σ (pz_cm mi x) ∧ 1000 ≤ pz_W σ (pz_cm mi y) ∧ ¬ (pz_kd1 mi (pz_W σ (pz_cm mi x)) = 2 ∧ pz_kd1 mi (pz_W σ (pz_cm mi y)) = 2) ∧ pz_kd1 mi (pz_W σ (pz_cm mi x)) = pz_kd1 mi (pz_W σ (pz_cm mi y)) ∧ mi 4 (pz_ct1 (pz_W σ (pz_cm mi x))) = mi 4 (pz_ct1 (pz_W σ (pz_cm mi y)))) → Q (.inl (some (.inl 1))) (pz_hp n0 mi ml mr c s))
    (K3 : 1000 ≤ pz_W σ (pz_cm mi x) → 1000 ≤ pz_W σ (pz_cm mi y) → ¬ (pz_kd1 mi (pz_W σ (pz_cm mi x)) = 2 ∧ pz_kd1 mi (pz_W σ (pz_cm mi y)) = 2) → ¬ (pz_kd1 mi (pz_W σ (pz_cm mi x)) = pz_kd1 mi (pz_W σ (pz_cm mi y)) ∧ mi 4 (pz_ct1 (pz_W σ (pz_cm mi x))) = mi 4 (pz_ct1 (pz_W σ (pz_cm mi y)))) → Q (.inl (some (.inl 0))) (pz_hp n0 mi ml mr c s))
    (K4 : ∀ (v : Nat) (z : Int), v < 240 → (v : Int) < 6 * F → pz_vm mi F z → pz_fv (pz_W σ (pz_cm mi x)) (pz_W σ (pz_cm mi y)) v (pz_cm mi z) → pz_Rn (d + 3) 122 (0, [], [(0, .inr (.inr (some 165))), (1, .inl (n : Int)), (2, .inl (3000 + (v : Int))), (3, .inl z)], pz_hp n0 mi ml mr c s, true) (fun o h => ∃ m2 q, (o = .inl (some (.inl q)) ∧ h = pz_hp n0 m2 ml mr c s) ∧ (q = 0 ∨ q = 1) ∧ Q (.inl (some (.inl q))) (pz_hp n0 m2 ml mr c s))) :
    pz_Rn (d + 4) 123 (4, [], [(0, .inr (.inr (some 165))), (1, .inl (n : Int)), (2, .inl x), (3, .inl y)], pz_hp n0 mi ml mr c s, true) Q := by
  refine pz_g123_4 ?_
  refine pz_Rn_e (d' := 0) (Nat.zero_le _) (pz_isC ht hF hn hs hg hx) ?_
  rintro _ _ ⟨X, ⟨rfl, rfl⟩, hX, eX, rX⟩
  refine pz_g123_10 ?_
  refine pz_Rn_e (d' := 0) (Nat.zero_le _) (pz_isC ht hF hn hs hg hy) ?_
  rintro _ _ ⟨Y, ⟨rfl, rfl⟩, hY, eY, rY⟩
  have fX := pz_rvm_f ht hF hX rX
  have fY := pz_rvm_f ht hF hY rY
  rw [eX] at fX
  rw [eY] at fY
  have t2 := ht.2.1
  have ipX := pz_isPairC (d := d) (n0 := n0) (ml := ml) (mr := mr) (c := c) (s := s) ht hF hX rX
  have ipY := pz_isPairC (d := d) (n0 := n0) (ml := ml) (mr := mr) (c := c) (s := s) ht hF hY rY
  rw [eX] at ipX
  rw [eY] at ipY
  refine pz_g123_18 ⟨fun h1 => ⟨fun h2 => ?_, fun h2 => ?_⟩, fun h1 => ⟨fun h2 => ?_, fun h2 => ?_⟩⟩
  · rcases fX with fX | ⟨a1, a2, a3, a4, a5, a6, a7, a8, a9, a10, a11⟩
    · exact absurd h1 (by omega)
    · rcases fY with fY | ⟨b1, b2, b3, b4, b5, b6, b7, b8, b9, b10, b11⟩
      · exact absurd h2 (by omega)
      · have cX : pz_ct1 (pz_W σ (pz_cm mi x)) = ((X - 1) / 64).toNat := by
          rw [a10]
          exact pz_md41 a5 a3 (by omega)
        have cY : pz_ct1 (pz_W σ (pz_cm mi y)) = ((Y - 1) / 64).toNat := by
          rw [b10]
          exact pz_md41 b5 b3 (by omega)
        -- neither both pairs: the way through the atoms
        have atoms : ¬ (pz_kd1 mi (pz_W σ (pz_cm mi x)) = 2 ∧ pz_kd1 mi (pz_W σ (pz_cm mi y)) = 2) → pz_Rn (d + 3) 118 (0, [], [(0, .inr (.inr (some 165))), (1, .inl X)], pz_hp n0 mi ml mr c s, true) (pz_K (d + 3 + 1) 123 172 [] [(0, .inr (.inr (some 165))), (4, .inl X), (5, .inl Y)] Q true) := by
          intro hnn
          refine pz_Rn_c (d' := d + 1) (by omega) ipX ?_
          refine pz_g123_175 ⟨fun h3 => ?_, fun h3 => ?_⟩
          · have hk : pz_kd1 mi (pz_W σ (pz_cm mi x)) = 2 := by
              apply Classical.byContradiction
              intro hk
              rw [if_neg hk] at h3
              exact h3 rfl
            exact K3 a7 b7 hnn (fun e => hnn ⟨hk, e.1.symm.trans hk⟩)
          · have hk : pz_kd1 mi (pz_W σ (pz_cm mi x)) ≠ 2 := by
              intro hk
              rw [if_pos hk] at h3
              exact absurd h3 (by decide)
            refine pz_Rn_c (d' := d + 1) (by omega) ipY ?_
            refine pz_g123_184 ⟨fun h4 => ?_, fun h4 => ?_⟩
            · have hk2 : pz_kd1 mi (pz_W σ (pz_cm mi y)) = 2 := by
                apply Classical.byContradiction
                intro hk2
                rw [if_neg hk2] at h4
                exact h4 rfl
              exact K3 a7 b7 hnn (fun e => hk (e.1.trans hk2))
            · have hk2 : pz_kd1 mi (pz_W σ (pz_cm mi y)) ≠ 2 := by
                intro hk2
                rw [if_pos hk2] at h4
                exact absurd h4 (by decide)
              obtain ⟨u1, u2, u3⟩ := a11
              obtain ⟨v1, v2, v3⟩ := b11
              refine pz_Rn_c (d' := 0) (by omega) (pz_termC a1 a2) ?_
              refine pz_g123_196 ⟨by omega, ?_⟩
              refine pz_Rn_c (d' := 0) (by omega) (pz_termC b1 b2) ?_
              refine pz_g123_206 ⟨by omega, fun h5 => ?_, fun h5 => ?_⟩
              · rw [u2, v2] at h5
                refine K3 a7 b7 hnn (fun e => h5 ?_)
                rw [← cX, ← cY]
                exact e.2
              · rw [u2, v2] at h5
                refine K2 (.inr ⟨a7, b7, hnn, by omega, ?_⟩)
                rw [cX, cY]
                exact h5
        refine pz_Rn_c (d' := d + 1) (by omega) ipX ?_
        refine pz_g123_77 ⟨fun h3 => ?_, fun h3 => ?_⟩
        · refine atoms (fun e => ?_)
          rw [if_pos e.1] at h3
          exact absurd h3 (by decide)
        · have kx : pz_kd1 mi (pz_W σ (pz_cm mi x)) = 2 := by
            apply Classical.byContradiction
            intro hk
            rw [if_neg hk] at h3
            exact h3 rfl
          refine pz_Rn_c (d' := d + 1) (by omega) ipY ?_
          refine pz_g123_86 ⟨fun h4 => ?_, fun h4 => ?_⟩
          · refine atoms (fun e => ?_)
            rw [if_pos e.2] at h4
            exact absurd h4 (by decide)
          · have ky : pz_kd1 mi (pz_W σ (pz_cm mi y)) = 2 := by
              apply Classical.byContradiction
              intro hk
              rw [if_neg hk] at h4
              exact h4 rfl
            obtain ⟨x0, x0v, x0c, x0r⟩ := pz_halfC (d := 0) (n0 := n0) (ml := ml) (mr := mr) (c := c) (s := s) ht hF hX rX (by rw [eX]; exact kx) false
            obtain ⟨x1, x1v, x1c, x1r⟩ := pz_halfC (d := 0) (n0 := n0) (ml := ml) (mr := mr) (c := c) (s := s) ht hF hX rX (by rw [eX]; exact kx) true
            obtain ⟨y0, y0v, y0c, y0r⟩ := pz_halfC (d := 0) (n0 := n0) (ml := ml) (mr := mr) (c := c) (s := s) ht hF hY rY (by rw [eY]; exact ky) false
            obtain ⟨y1, y1v, y1c, y1r⟩ := pz_halfC (d := 0) (n0 := n0) (ml := ml) (mr := mr) (c := c) (s := s) ht hF hY rY (by rw [eY]; exact ky) true
            rw [eX] at x0c x1c
            rw [eY] at y0c y1c
            have ew : (mi 165 35).toNat = w := by omega
            have ew1 : (mi 165 35 + 1).toNat = w + 1 := by omega
            refine pz_Rn_c (d' := 1) (by omega) (x0r mi pz_te_refl) ?_
            refine pz_g123_104 ⟨by omega, ?_⟩
            have f1 : pz_fr [187, 188] [35] mi (pz_up mi 187 (mi 165 35).toNat x0) := pz_fr_up (by decide) (by decide)
            refine pz_Rn_c (d' := 1) (by omega) (y0r _ (pz_te_fr f1 (by decide) (by decide))) ?_
            have q1 : ∀ k, pz_up mi 187 (mi 165 35).toNat x0 165 k = mi 165 k := fun k => by rw [pz_upq (by decide)]
            refine pz_g123_120 ⟨by omega, by rw [q1]; omega, ?_⟩
            rw [q1, ew]
            have f2 : pz_fr [187, 188] [35] mi (pz_up (pz_up mi 187 w x0) 188 w y0) := pz_fr_trans (pz_fr_up (by decide) (by decide)) (pz_fr_up (by decide) (by decide))
            refine pz_Rn_c (d' := 1) (by omega) (x1r _ (pz_te_fr f2 (by decide) (by decide))) ?_
            have q2 : ∀ k, pz_up (pz_up mi 187 w x0) 188 w y0 165 k = mi 165 k := fun k => by rw [pz_upq (by decide), pz_upq (by decide)]
            have q1' : ∀ k, pz_up mi 187 w x0 165 k = mi 165 k := fun k => by rw [pz_upq (by decide)]
            refine pz_g123_138 ⟨by omega, by rw [q2]; omega, ?_⟩
            rw [q2, ew1]
            have f3 : pz_fr [187, 188] [35] mi (pz_up (pz_up (pz_up mi 187 w x0) 188 w y0) 187 (w + 1) x1) := pz_fr_trans f2 (pz_fr_up (by decide) (by decide))
            refine pz_Rn_c (d' := 1) (by omega) (y1r _ (pz_te_fr f3 (by decide) (by decide))) ?_
            have q3 : ∀ k, pz_up (pz_up (pz_up mi 187 w x0) 188 w y0) 187 (w + 1) x1 165 k = mi 165 k := fun k => by rw [pz_upq (by decide), pz_upq (by decide), pz_upq (by decide)]
            refine pz_g123_156 ⟨by omega, by rw [q3]; omega, ?_⟩
            rw [q3, ew1]
            refine K1 kx ky _ x1 x0 y1 y0 (pz_fr_trans (pz_fr_trans f3 (pz_fr_up (by decide) (by decide))) (pz_fr_u5 (by decide))) ?_ ?_ ?_ ?_ ?_ ?_ ⟨x1v, x1c⟩ ⟨x0v, x0c⟩ ⟨y1v, y1c⟩ ⟨y0v, y0c⟩
            · rw [pz_up_at]
              omega
            · intro j hj
              constructor
              · rw [pz_upq (by decide), pz_upq (by decide), pz_up_ot (by omega), pz_upq (by decide), pz_up_ot (by omega)]
              · rw [pz_upq (by decide), pz_up_ot (by omega), pz_upq (by decide), pz_up_ot (by omega), pz_upq (by decide)]
            · rw [pz_upq (by decide), pz_upq (by decide), pz_up_ot (by omega), pz_upq (by decide), pz_up_at]
            · rw [pz_upq (by decide), pz_upq (by decide), pz_up_at]
            · rw [pz_upq (by decide), pz_up_ot (by omega), pz_upq (by decide), pz_up_at]
            · rw [pz_upq (by decide), pz_up_at]
  · rcases fY with ⟨b1, b2, b3, b4⟩ | fY
    · rcases fX with fX | fX
      · exact absurd h1 (by omega)
      · have ev : (3000 : Int) + ((Y - 3000).toNat : Int) = Y := by omega
        have k4 := K4 (Y - 3000).toNat X (by omega) (by rcases hY with hY | hY <;> omega) hX (by rw [eX, b3]; exact .inr ⟨fX.2.2.2.2.2.2.1, by omega, rfl, rfl⟩)
        rw [ev] at k4
        refine pz_Rn_e (Nat.le_refl _) k4 ?_
        rintro _ _ ⟨m2, q, ⟨rfl, rfl⟩, hq, kq⟩
        exact pz_g123_70 ⟨hq, kq⟩
    · exact absurd h2 (by omega)
  · rcases fX with ⟨a1, a2, a3, a4⟩ | fX
    · rcases fY with ⟨b1, b2, b3, b4⟩ | fY
      · exact K2 (.inl ⟨by omega, by rw [a3, b3, h2]⟩)
      · exact absurd h1 (by omega)
    · exact absurd h1 (by omega)
  · rcases fX with ⟨a1, a2, a3, a4⟩ | fX
    · have ev : (3000 : Int) + ((X - 3000).toNat : Int) = X := by omega
      have hne : pz_W σ (pz_cm mi x) ≠ pz_W σ (pz_cm mi y) := by
        rcases fY with ⟨b1, b2, b3, b4⟩ | fY
        · omega
        · have := fY.2.2.2.2.2.2.1
          omega
      have k4 := K4 (X - 3000).toNat Y (by omega) (by rcases hX with hX | hX <;> omega) hY (by rw [eY]; exact .inl ⟨by omega, hne, a3.symm, rfl⟩)
      rw [ev] at k4
      refine pz_Rn_e (Nat.le_refl _) k4 ?_
      rintro _ _ ⟨m2, q, ⟨rfl, rfl⟩, hq, kq⟩
      rcases hq with rfl | rfl
      · exact pz_g123_44 ⟨fun _ => kq, fun h => absurd rfl h⟩
      · exact pz_g123_44 ⟨fun h => absurd h (by decide), fun _ => kq⟩
    · exact absurd h1 (by omega)
end pzh
