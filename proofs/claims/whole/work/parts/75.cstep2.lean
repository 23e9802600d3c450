/-! The class's step, all of it. -/
section pzR
variable {d n0 : Nat} {mi mi' : Nat → Nat → Int} {ml ml' : Nat → Nat → Int64} {mr mr' : Nat → Nat → Option Nat} {c s : Nat} {F nb N : Nat} {k : Nat → Nat × Nat} {A : List (Nat × (Nat → List Int))}
theorem pz_te_13 (h : ∀ p, (p < 13 ∨ 165 ≤ p) → mi' p = mi p) : pz_te mi mi' := ⟨h 2 (by decide), h 3 (by decide), h 4 (by decide), h 5 (by decide), h 166 (by decide), h 167 (by decide), h 168 (by decide), by rw [h 165 (by decide)]⟩
theorem pz_gl_13 (h : ∀ p, (p < 13 ∨ 165 ≤ p) → mi' p = mi p) (hg : pz_gl mi) : pz_gl mi' := by
  unfold pz_gl pz_gl1 pz_isT
  rw [h 2 (by decide), h 6 (by decide), h 7 (by decide), h 8 (by decide), h 9 (by decide), h 10 (by decide), h 11 (by decide), h 165 (by decide), h 169 (by decide), h 170 (by decide), h 171 (by decide), h 172 (by decide), h 173 (by decide)]
  exact hg
theorem pz_re_13 (h : ∀ p, (p < 13 ∨ 165 ≤ p) → mi' p = mi p) (hg : pz_re4 mi) : pz_re4 mi' := by
  unfold pz_re4
  rw [h 6 (by decide), h 12 (by decide), h 174 (by decide)]
  exact hg
theorem pz_sm_te (te : pz_te mi mi') (σ : Nat → Option Nat) (lo hi : Int64) (r : Nat) (ab : Nat × Nat) : pz_sm mi' σ k N lo hi nb r ab = pz_sm mi σ k N lo hi nb r ab := by
  unfold pz_sm
  rw [pz_ma_te te]
  simp only [pz_kc_te te]
theorem pz_df_te (te : pz_te mi mi') (σ : Nat → Option Nat) (lo hi : Int64) (r : Nat) (ab : Nat × Nat) : pz_df mi' σ k N lo hi nb r ab = pz_df mi σ k N lo hi nb r ab := by
  unfold pz_df
  rw [pz_ma_te te]
theorem pz_ts_13 (h : ∀ p, (p < 13 ∨ 165 ≤ p) → mi' p = mi p) (x : pz_tk) : pz_ts mi' F nb N k x = pz_ts mi F nb N k x := by
  have te := pz_te_13 h
  unfold pz_ts
  rw [h 7 (by decide), h 8 (by decide), h 9 (by decide), h 10 (by decide), h 11 (by decide), h 12 (by decide), pz_cs_te te, pz_sm_te te, pz_df_te te]
theorem pz_rl_ans : ∀ (l : List (Nat × Lean.RArray pz_tk)) (ra : Option (Lean.RArray pz_tk) × Option pz_an) (an : pz_an), (pz_rl l ra).2 = some an → ra.2 = some an := by
  intro l
  induction l with
  | nil => exact fun ra an h => h
  | cons e l ih =>
    intro ra an h
    have h1 := ih _ _ h
    obtain ⟨kk, b⟩ := e
    obtain ⟨r, a⟩ := ra
    cases kk with
    | zero => cases r <;> exact h1
    | succ kk => cases r <;> cases a <;> first | exact h1 | cases h1
theorem pz_tl_te (te : pz_te mi mi') (an : pz_an) : pz_tl mi' an N k = pz_tl mi an N k := by
  have tc : ∀ (σ : Nat → Option Nat) (lo hi : Int64) (m i part : Nat) (nm : Nat → Option Nat) (cc : Nat) (T : Nat → List Int), pz_tc mi' σ k lo hi m i part nm cc T = pz_tc mi σ k lo hi m i part nm cc T := by
    intro σ lo hi m
    induction m with
    | zero => exact fun _ _ _ _ _ => rfl
    | succ m ih =>
      intro i part nm cc T
      unfold pz_tc
      simp only [pz_tx_te te, ih]
  unfold pz_tl
  rw [pz_tx_te te, tc]
set_option maxHeartbeats 4000000 in
/-- Question.step, while the question goes on -/
theorem pz_stepC {t : Lean.RArray pz_tk} (hR : pz_R1 mi ml mr F nb N k t) (hA : pz_AC mi A) (hv : pz_vT mi F N t) (hsz : pz_sz (some t) ≤ 60) (h7 : 0 ≤ mi 148 7 ∧ mi 148 7 ≤ 1000000) :
    pz_Rn (d + 6) 79 (0, [], [(0, .inr (.inr (some 13)))], pz_hp n0 mi ml mr c s, true) (pz_zQ n0 c s A mi ml (pz_stp mi F nb N k t)) := by
  obtain ⟨hW, h13, p, U, S, hp, hiv, hc⟩ := hR
  refine pz_g79_0 ⟨fun h => absurd h13 h, fun _ => ⟨fun _ => ?_, fun h => absurd (h.symm.trans hp) (fun e => nomatch e)⟩⟩
  rw [hp]
  have q0 : ∀ z, z ≠ 13 → z ≠ 155 → pz_up (pz_up mi 155 5 0) 13 14 0 z = mi z := fun z h1 h2 => by rw [pz_upq h1, pz_upq h2]
  have q13 : ∀ j, j ≠ 14 → pz_up (pz_up mi 155 5 0) 13 14 0 13 j = mi 13 j := fun j hj => by rw [pz_up_ot hj, pz_upq (by decide)]
  have q14 : pz_up (pz_up mi 155 5 0) 13 14 0 13 14 = 0 := pz_up_at
  have q155 : pz_up (pz_up mi 155 5 0) 13 14 0 155 5 = 0 := by rw [pz_upq (by decide), pz_up_at]
  generalize pz_up (pz_up mi 155 5 0) 13 14 0 = m0 at *
  have s13 : ∀ z, (z < 13 ∨ 165 ≤ z) → m0 z = mi z := fun z hz => q0 z (by omega) (by omega)
  have te0 := pz_te_13 s13
  obtain ⟨w1, w2, w3, w4, w5, w6, w7, w8, w9, w10⟩ := hW
  have cn0 : pz_cn m0 (F : Int) N k := by
    unfold pz_cn
    rw [q13 11 (by decide), q0 146 (by decide) (by decide), q0 147 (by decide) (by decide), pz_vs_te te0, pz_cs_te te0]
    exact w10
  have W0 : pz_cW m0 F nb N k := ⟨pz_tm_te te0 w1, pz_gl_13 s13 w2, pz_re_13 s13 w3, by rw [q13 12 (by decide)]; exact w4, w5, w6, by rw [q0 150 (by decide) (by decide)]; exact w7, w8, w9, cn0⟩
  have nodes : ∀ z, pz_nd z → m0 z = mi z ∧ m0 (z + 1) = mi (z + 1) := by
    intro z hz
    obtain ⟨z1, z2, z3⟩ := hz
    exact ⟨q0 z (by omega) (by omega), q0 (z + 1) (by omega) (by omega)⟩
  have P0 : ∀ g f b lo hi x, pz_P1 mi (F : Int) g f b lo hi x → pz_P1 m0 (F : Int) g f b lo hi x := by
    intro g f b lo hi x hx
    refine ⟨hx.1, hx.2.1, ?_, hx.2.2.2⟩
    exact pz_cS_te te0 (by rw [q0 150 (by decide) (by decide)]; exact Int.le_refl _) (fun j _ => ⟨by rw [q0 151 (by decide) (by decide)], by rw [q0 152 (by decide) (by decide)], by rw [q0 153 (by decide) (by decide)]⟩) hx.2.2.1
  have hUnd := (pz_cT_nd _ _ _ hc).2
  have hsize := (pz_iv_n hiv hc)
  have hszU : U.length ≤ 60 := by
    have h1 : pz_sz (some t) = (pz_nT t).1 + (pz_nT t).2.1 + (pz_nT t).2.2 := rfl
    omega
  -- goDown
  have hc1 : pz_cT (pz_P1 m0 (F : Int)) m0 ml (pz_up mr 13 10 (some p)) t p U := by
    refine pz_cT_P P0 _ _ _ (pz_cT_fr _ _ _ (fun z hz => ⟨(nodes z (hUnd z hz)).1, (nodes z (hUnd z hz)).2, rfl, pz_upq ?_⟩) hc)
    have := (hUnd z hz).1
    omega
  have gdC := pz_gd1 (d := d + 5) (n0 := n0) (c := c) (s := s) (P := pz_P1 m0 (F : Int)) t p U [] [] (pz_up mr 13 10 (some p)) hc1 rfl trivial pz_up_at (by rw [List.length_nil]; omega)
  refine pz_Rn_e (Nat.le_refl _) (pz_g39_0 gdC) ?_
  rintro _ _ ⟨mr2, L, V, q, ⟨rfl, rfl⟩, g2, g3, sx, pa, llen, leaf, perm, lev⟩
  rw [List.append_nil] at perm
  refine pz_g79_44 ?_
  rw [g3]
  have mr2v : ∀ z, z ≠ 13 → z ≠ 145 → mr2 z = mr z := fun z h1 h2 => by rw [g2 z h1 h2, pz_upq h1]
  have iv0 : pz_iv m0 mr2 (q :: V) S := by
    refine pz_iv_perm (pz_iv_fr hiv (q0 16 (by decide) (by decide)) (fun z hz => by rw [(nodes z hz).1]) (by rw [mr2v 14 (by decide) (by decide)]) (fun z hz => ?_)) perm.symm
    have hzn := (pz_iv_nd hiv).2.2 z hz
    obtain ⟨z1, z2, z3⟩ := hzn
    rw [mr2v z (by omega) (by omega)]
  have hS4 : 4 ≤ S.length := by omega
  have hcx : pz_cx t (pz_lev []) = pz_cx t [] := rfl
  rw [hcx] at leaf lev
  obtain ⟨vL, vx⟩ := pz_vT_cx (acc := []) hv trivial
  have vx0 : pz_vt1 m0 F N (pz_cx t []).2 := ⟨by rw [s13 6 (by decide)]; exact vx.1, vx.2⟩
  have hcS : pz_cS m0 (F : Int) (m0 (q + 1) 0) (pz_cx t []).2.2.2.1 := leaf.2.2.2.2.2.1
  have tk := pz_taskC (d := d) (n0 := n0) (c := c) (s := s) W0 iv0 (by omega) leaf vx0 q155 q14
  rw [pz_ts_13 s13] at tk
  refine pz_Rn_e (Nat.le_refl _) tk ?_
  rintro _ _ ⟨m3, l3, r3, X, S3, x, ra, ⟨rfl, rfl⟩, iv3, hS3, fs3, lo3, nb3, hres⟩
  obtain ⟨fs1, fs2, fs3', fs4, fs5⟩ := fs3
  refine pz_g79_53 ?_
  have pa3 : pz_pa r3 L := pz_pa_fr (fun j _ => by rw [(fs3' 145 (by decide)).2 (by decide)]) pa
  have sx3 : pz_sx (pz_P1 m0 (F : Int)) m3 l3 r3 L V := pz_sx_fr _ _ fs1 sx
  have eL : (L.length : Int) - 1 = (L.length : Int) + (-1) := by omega
  have s13' : ∀ z, (z < 13 ∨ 165 ≤ z) → m3 z = mi z := fun z hz => (fs2 z (by omega) (by omega)).trans (s13 z hz)
  have te3 := pz_te_13 s13'
  have h148 : m3 148 = mi 148 := (fs2 148 (by decide) (by decide)).trans (q0 148 (by decide) (by decide))
  have hml3 : ∀ z, 165 ≤ z → l3 z = ml z := fun z hz => (fs3' z (by omega)).1 (by omega)
  have hAC3 : pz_AC m3 A := pz_AC_fr (fun z hz => (fs2 z (by omega) (by omega)).trans (q0 z (by omega) (by omega))) hA
  have h1313 : m3 13 13 = 1 := by rw [fs4 13 (by decide) (by decide) (by decide), q13 13 (by decide)]; exact h13
  -- goUp, then whether it is over
  have up : ∀ (P : Int → Int → Int → Int64 → Int64 → pz_tk → Prop), pz_sx P m3 l3 r3 L V → pz_lf P m3 l3 r3 ra.1 x X → pz_as P m3 l3 ra.2 → (∀ m4 l4 r4 X4 S4 x4, pz_iv m4 r4 X4 S4 → pz_lf P m4 l4 r4 (pz_rl (pz_cx t []).1 ra).1 x4 X4 → pz_as P m4 l4 (pz_rl (pz_cx t []).1 ra).2 → pz_tf pz_NDL m3 l3 r3 m4 l4 r4 → ∀ b : Int, (b = 0 ∨ b = 1) → (b = 1 ↔ (pz_ovC m4 ∨ 60 < m4 16 1 + m4 16 2 + m4 16 3 ∨ (m4 13 14 ≠ 0 ∧ 20 ≤ m4 159 8))) → pz_Rn (d + 5 + 1) 79 (71, [.inl b], [(0, .inr (.inr (some 13)))], pz_hp n0 m4 l4 (pz_up r4 14 2 x4) c s, true) (pz_zQ n0 c s A mi ml (pz_stp mi F nb N k t))) → pz_Rn (d + 5) 68 (0, [], [(0, .inr (.inr (some 13))), (1, .inr (.inr x)), (2, .inl (L.length : Int))], pz_hp n0 m3 l3 r3 c s, true) (pz_K (d + 5 + 1) 79 61 [.inr (.inr (some 14))] [(0, .inr (.inr (some 13)))] (pz_zQ n0 c s A mi ml (pz_stp mi F nb N k t)) true) := by
    intro P hsx hlf has K
    have gu : pz_Rn (d + 4) 68 (7, [], [(0, .inr (.inr (some 13))), (3, .inr (.inr x)), (4, .inl ((L.length : Int) + (-1)))], pz_hp n0 m3 l3 r3 c s, true) (pz_uQ n0 c s P m3 l3 r3 (pz_rl (pz_cx t []).1 ra)) := by
      have gu0 := pz_gu1 (d := d) (n0 := n0) (c := c) (s := s) (P := P) L V X S3 ra.1 x ra.2 m3 l3 r3 hsx pa3 (by omega) iv3 hlf has hS3
      rw [lev] at gu0
      exact gu0
    have guC : pz_Rn (d + 4) 68 (0, [], [(0, .inr (.inr (some 13))), (1, .inr (.inr x)), (2, .inl (L.length : Int))], pz_hp n0 m3 l3 r3 c s, true) (pz_uQ n0 c s P m3 l3 r3 (pz_rl (pz_cx t []).1 ra)) := by
      refine pz_g68_0 ⟨by omega, fun x2 e2 => ?_⟩
      rw [e2, eL]
      exact gu
    refine pz_Rn_e (d' := d + 4) (by omega) guC ?_
    rintro _ _ ⟨m4, l4, r4, X4, S4, x4, ⟨rfl, rfl⟩, iv4, lf4, as4, tf4⟩
    refine pz_g79_64 ?_
    refine pz_Rn_e (d' := 2) (by omega) (pz_ovrC (d := 0) (mr := pz_up r4 14 2 x4) iv4.1) ?_
    rintro _ _ ⟨b, ⟨rfl, rfl⟩, hb, hbi⟩
    exact K m4 l4 r4 X4 S4 x4 iv4 lf4 as4 tf4 b hb hbi
  cases ets : pz_ts mi F nb N k (pz_cx t []).2 with
  | none =>
    rw [ets] at hres
    obtain ⟨hov, hlf, has⟩ := hres
    have es : pz_stp mi F nb N k t = none := by
      unfold pz_stp
      rw [ets]
    refine up pz_PT (pz_sx_P (fun _ _ _ _ _ _ _ => trivial) _ _ sx3) hlf has ?_
    intro m4 l4 r4 X4 S4 x4 iv4 lf4 as4 tf4 b hb hbi
    have t2 := tf4.2.1
    have hb1 : b = 1 := by
      refine hbi.mpr (.inl ?_)
      unfold pz_ovC
      rw [t2 155 (by decide) (by decide), t2 150 (by decide) (by decide), tf4.2.2.2.1 12 (by decide), tf4.2.2.2.1 11 (by decide)]
      exact hov
    rw [es]
    refine pz_g79_71 ⟨fun h => absurd h (by omega), fun _ => ?_⟩
    refine ⟨_, l4, _, 0, ⟨rfl, rfl⟩, ⟨fun z hz => ?_, fun z hz => ?_⟩, fun _ => ⟨rfl, pz_up_at, ?_, ?_⟩, fun h => absurd trivial h⟩
    · rw [pz_upq (by omega), t2 z (by omega) (by omega)]
      exact s13' z hz
    · rw [(tf4.2.2.1 z (by omega)).1]
      exact hml3 z hz
    · rw [pz_upq (by decide), t2 148 (by decide) (by decide)]
      exact h148
    · exact pz_AC_fr (fun z hz => by rw [pz_upq (by omega), t2 z (by omega) (by omega)]) hAC3
  | some z =>
    obtain ⟨F', ra', nb', N', k'⟩ := z
    rw [ets] at hres
    obtain ⟨hra, u12, u150, unb, uN, ucn, u155, hlf, has, hci⟩ := hres
    subst hra
    have es : pz_stp mi F nb N k t = some (F', pz_rl (pz_cx t []).1 ra, nb', N', k') := by
      unfold pz_stp
      rw [ets]
    have hgd : ∀ an, ra.2 = some an → pz_gd an.1 := by
      intro an e
      rw [e] at hci
      exact hci.2.1
    have hcS' : pz_cS mi (F : Int) (m0 (q + 1) 0) (pz_cx t []).2.2.2.1 := by
      have te0' : pz_te m0 mi := ⟨te0.1.symm, te0.2.1.symm, te0.2.2.1.symm, te0.2.2.2.1.symm, te0.2.2.2.2.1.symm, te0.2.2.2.2.2.1.symm, te0.2.2.2.2.2.2.1.symm, te0.2.2.2.2.2.2.2.symm⟩
      exact pz_cS_te te0' (by rw [q0 150 (by decide) (by decide)]; exact Int.le_refl _) (fun j _ => ⟨by rw [q0 151 (by decide) (by decide)], by rw [q0 152 (by decide) (by decide)], by rw [q0 153 (by decide) (by decide)]⟩) hcS
    obtain ⟨vF, vF40, vN, vO1, vA1⟩ := pz_ts_v w1 w2 w3 w5 w6 w9 vx hcS' ets hgd
    obtain ⟨vO2, vA2⟩ := pz_vT_rl (pz_vL_mono vF vN vL) vO1 vA1
    have P3 : ∀ g f b lo hi y, pz_P1 m0 (F : Int) g f b lo hi y → pz_P1 m3 (F' : Int) g f b lo hi y := by
      intro g f b lo hi y hy
      refine ⟨hy.1, hy.2.1, ?_, hy.2.2.2⟩
      have te03 : pz_te m0 m3 := ⟨by rw [te3.1, te0.1], by rw [te3.2.1, te0.2.1], by rw [te3.2.2.1, te0.2.2.1], by rw [te3.2.2.2.1, te0.2.2.2.1], by rw [te3.2.2.2.2.1, te0.2.2.2.2.1], by rw [te3.2.2.2.2.2.1, te0.2.2.2.2.2.1], by rw [te3.2.2.2.2.2.2.1, te0.2.2.2.2.2.2.1], by rw [te3.2.2.2.2.2.2.2, te0.2.2.2.2.2.2.2]⟩
      have d0 : m0 150 5 = (nb : Int) := W0.2.2.2.2.2.2.1
      exact pz_cS_mono (by omega) (pz_cS_te te03 (by omega) (fun j hj => lo3 j (by omega)) hy.2.2.1)
    refine up (pz_P1 m3 (F' : Int)) (pz_sx_P P3 _ _ sx3) hlf has ?_
    intro m4 l4 r4 X4 S4 x4 iv4 lf4 as4 tf4 b hb hbi
    have t2 := tf4.2.1
    have hn := pz_lf_n iv4 lf4
    have hAC4 : pz_AC m4 A := pz_AC_fr (fun z hz => t2 z (by omega) (by omega)) hAC3
    have s13'' : ∀ z, (z < 13 ∨ 165 ≤ z) → m4 z = mi z := fun z hz => (t2 z (by omega) (by omega)).trans (s13' z hz)
    have te4 := pz_te_13 s13''
    have hml4 : ∀ z, 165 ≤ z → l4 z = ml z := fun z hz => ((tf4.2.2.1 z (by omega)).1).trans (hml3 z hz)
    have h148' : m4 148 = mi 148 := (t2 148 (by decide) (by decide)).trans h148
    have n12 : m4 13 12 = (F' : Int) := (tf4.2.2.2.1 12 (by decide)).trans u12
    have n11 : m4 13 11 = (N' : Int) := (tf4.2.2.2.1 11 (by decide)).trans ucn.1
    have n13 : m4 13 13 = 1 := (tf4.2.2.2.1 13 (by decide)).trans h1313
    have n150 : m4 150 5 = (nb' : Int) := by rw [t2 150 (by decide) (by decide)]; exact u150
    have n155 : m4 155 5 ≤ 500 := by rw [t2 155 (by decide) (by decide)]; exact u155
    have cn4 : pz_cn m4 (F' : Int) N' k' := pz_cn_tf tf4 ucn
    have novC : ¬ pz_ovC m4 := by
      unfold pz_ovC
      omega
    have P4 : ∀ g f b lo hi y, pz_P1 m3 (F' : Int) g f b lo hi y → pz_P1 m4 (F' : Int) g f b lo hi y := fun g f b lo hi y hy => pz_P1_tf tf4 hy
    generalize hra2 : pz_rl (pz_cx t []).1 ra = rr at *
    obtain ⟨rt, ans⟩ := rr
    dsimp only at lf4 as4 vO2 vA2 hn
    have h14 : m4 13 14 = pz_ia ans := by
      cases ans with
      | none => exact as4
      | some an => exact as4.1
    have hfu : b = 1 ↔ pz_fu (some (F', (rt, ans), nb', N', k')) A.length := by
      rw [hbi]
      show _ ↔ (60 < pz_sz rt ∨ (ans ≠ none ∧ 20 ≤ A.length))
      have a8 := hAC4.1
      have esz : m4 16 1 + m4 16 2 + m4 16 3 = (pz_sz rt : Int) := by
        rw [hn.1, hn.2.1, hn.2.2]
        unfold pz_sz
        omega
      rw [esz, a8]
      constructor
      · rintro (h | h | ⟨h1, h2⟩)
        · exact absurd h novC
        · exact .inl (by omega)
        · refine .inr ⟨fun e => ?_, by omega⟩
          rw [e] at h14
          exact h1 h14
      · rintro (h | ⟨h1, h2⟩)
        · exact .inr (.inl (by omega))
        · refine .inr (.inr ⟨?_, by omega⟩)
          cases ans with
          | none => exact absurd rfl h1
          | some an =>
            have : m4 13 14 = 1 := h14
            omega
    rw [es]
    refine pz_g79_71 ⟨fun hb0 => ?_, fun hb0 => ?_⟩
    · have hnf : ¬ pz_fu (some (F', (rt, ans), nb', N', k')) A.length := fun h => by
        have := hfu.mpr h
        omega
      -- the tree that is left
      have R1 : ∀ m5 : Nat → Nat → Int, (∀ z, z ≠ 13 → z ≠ 148 → (z < 159 ∨ 164 < z) → m5 z = m4 z) → (∀ j, j ≠ 13 → m5 13 j = m4 13 j) → m5 13 13 = (if rt = none then 2 else m4 13 13) → pz_rE m5 l4 (pz_up r4 14 2 x4) F' nb' N' k' rt := by
        intro m5 e1 e2 e3
        cases rt with
        | none => exact e3
        | some t' =>
          obtain ⟨p', hx', hct⟩ := lf4
          have s5 : ∀ z, (z < 13 ∨ 165 ≤ z) → m5 z = m4 z := fun z hz => e1 z (by omega) (by omega) (by omega)
          have te5 := pz_te_13 s5
          have te45 := pz_te_trans te4 te5
          have s5m : ∀ z, (z < 13 ∨ 165 ≤ z) → m5 z = mi z := fun z hz => (s5 z hz).trans (s13'' z hz)
          refine ⟨⟨pz_tm_te te45 w1, pz_gl_13 s5m w2, pz_re_13 s5m w3, by rw [e2 12 (by decide)]; exact n12, vF40, by omega, by rw [e1 150 (by decide) (by decide) (by decide)]; exact n150, unb, uN, ?_⟩, ?_, p', X4, S4, ?_, ?_, ?_⟩
          · unfold pz_cn
            rw [e2 11 (by decide), e1 146 (by decide) (by decide) (by decide), e1 147 (by decide) (by decide) (by decide), pz_vs_te te5, pz_cs_te te5]
            exact cn4
          · rw [e3, if_neg (fun e => nomatch e)]
            exact n13
          · rw [pz_up_at, hx']
          · refine pz_iv_fr iv4 (e1 16 (by decide) (by decide) (by decide)) (fun z hz => ?_) (pz_up_ot (by decide)) (fun z hz => ?_)
            · obtain ⟨z1, z2, z3⟩ := hz
              rw [e1 z (by omega) (by omega) (by omega)]
            · have := ((pz_iv_nd iv4).2.2 z hz).1
              rw [pz_upq (by omega)]
          · have hnd4 := (pz_cT_nd _ _ _ hct).2
            refine pz_cT_P (fun g f b lo hi y hy => ?_) _ _ _ (pz_cT_fr (mi' := m5) (ml' := l4) (mr' := pz_up r4 14 2 x4) _ _ _ (fun z hz => ?_) hct)
            · have h4 := P4 g f b lo hi y hy
              refine ⟨h4.1, h4.2.1, ?_, h4.2.2.2⟩
              exact pz_cS_te te5 (by rw [e1 150 (by decide) (by decide) (by decide)]; exact Int.le_refl _) (fun j _ => ⟨by rw [e1 151 (by decide) (by decide) (by decide)], by rw [e1 152 (by decide) (by decide) (by decide)], by rw [e1 153 (by decide) (by decide) (by decide)]⟩) h4.2.2.1
            · obtain ⟨z1, z2, z3⟩ := hnd4 z hz
              exact ⟨e1 z (by omega) (by omega) (by omega), e1 (z + 1) (by omega) (by omega) (by omega), rfl, pz_upq (by omega)⟩
      have hxt : x4 = none ↔ rt = none := by
        cases rt with
        | none => exact ⟨fun _ => rfl, fun _ => lf4.1⟩
        | some t' =>
          obtain ⟨p', hx', -⟩ := lf4
          exact ⟨fun e => absurd (hx'.symm.trans e) (fun e => nomatch e), fun e => nomatch e⟩
      have hx14 : pz_up r4 14 2 x4 14 2 = x4 := pz_up_at
      cases ans with
      | none =>
        have a14 : m4 13 14 = 0 := h14
        refine ⟨fun _ => ?_, fun h => absurd a14 h⟩
        refine pz_tail (d := d + 4) (A := A) (t := rt) (F' := F') (nb' := nb') (N' := N') hx14 hxt (by rw [h148']; exact h7) hn.1 hn.2.1 hn.2.2 n12 n150 n11 hAC4.1 ?_
        intro m5 e1 e2 e3 e4
        refine ⟨m5, l4, _, 1, ⟨rfl, rfl⟩, ⟨fun z hz => (e1 z (by omega) (by omega)).trans (s13'' z hz), hml4⟩, fun h => absurd h hnf, fun _ => ⟨F', (rt, none), nb', N', k', rfl, rfl, ?_, ?_, ?_, R1 m5 (fun z h1 h2 _ => e1 z h1 h2) e2 e3, vO2, vA2, by omega, vF40, uN, unb⟩⟩
        · exact pz_AC_fr (fun z hz => e1 z (by omega) (by omega)) hAC4
        · rw [e2 14 (by decide)]
          exact a14
        · intro j hj
          rw [e4 j hj, h148']
          rfl
      | some an =>
        have a14 : m4 13 14 = 1 := h14
        refine ⟨fun h => absurd h (by omega), fun _ => ?_⟩
        have hra0 : ra.2 = some an := pz_rl_ans (pz_cx t []).1 ra an (by rw [hra2])
        rw [hra0] at hci
        have ci4 : pz_cI m4 (F' : Int) an.1 an.1 nb' := pz_cI_tf tf4 hci
        have hP := as4.2 0 0
        have l1 : l4 149 1 = an.2.1 := hP.2.2.2.1
        have l2 : l4 149 2 = an.2.2 := hP.2.2.2.2
        have hA20 : A.length < 20 := by
          apply Classical.byContradiction
          intro hge
          exact hnf (.inr ⟨(fun e => nomatch e), by omega⟩)
        have wa := pz_waC (d := d) (n0 := n0) (ml := l4) (mr := pz_up r4 14 2 x4) (c := c) (s := s) (σ := an.1) (pz_tm_te te4 w1) (F := (F' : Int)) (by omega) (by omega) uN ci4.1 cn4 (by rw [l1, l2]; exact vA2.2) hAC4 hA20
        rw [l1, l2, pz_tl_te te4] at wa
        refine pz_Rn_e (d' := d + 3) (by omega) wa ?_
        rintro _ _ ⟨m5, ⟨rfl, rfl⟩, f5, hAC5⟩
        have o5 : ∀ z, (z < 159 ∨ 164 < z) → m5 z = m4 z := by
          intro z hz
          by_cases e : z = 165
          · subst e
            funext j
            exact f5.2 j List.not_mem_nil
          · exact f5.1 z (by simp only [List.mem_cons, List.not_mem_nil, or_false]; omega) e
        refine pz_g79_92 ?_
        refine pz_tail (d := d + 4) (A := A ++ [pz_tl mi an N' k']) (t := rt) (F' := F') (nb' := nb') (N' := N') hx14 hxt (by rw [o5 148 (by decide), h148']; exact h7) (by rw [o5 16 (by decide)]; exact hn.1) (by rw [o5 16 (by decide)]; exact hn.2.1) (by rw [o5 16 (by decide)]; exact hn.2.2) (by rw [o5 13 (by decide)]; exact n12) (by rw [o5 150 (by decide)]; exact n150) (by rw [o5 13 (by decide)]; exact n11) hAC5.1 ?_
        intro m6 e1 e2 e3 e4
        refine ⟨m6, l4, _, 1, ⟨rfl, rfl⟩, ⟨fun z hz => ((e1 z (by omega) (by omega)).trans (o5 z (by omega))).trans (s13'' z hz), hml4⟩, fun h => absurd h hnf, fun _ => ⟨F', (rt, some an), nb', N', k', rfl, rfl, ?_, ?_, ?_, R1 m6 (fun z h1 h2 h3 => (e1 z h1 h2).trans (o5 z h3)) (fun j hj => by rw [e2 j hj, o5 13 (by decide)]) (by rw [e3, o5 13 (by decide)]), vO2, vA2, by omega, vF40, uN, unb⟩⟩
        · exact pz_AC_fr (fun z hz => e1 z (by omega) (by omega)) hAC5
        · rw [e2 14 (by decide), o5 13 (by decide)]
          exact a14
        · intro j hj
          rw [e4 j hj, o5 148 (by decide), h148']
          rfl
    · have hb1 : b = 1 := by omega
      have hf := hfu.mp hb1
      refine ⟨_, l4, _, 0, ⟨rfl, rfl⟩, ⟨fun z hz => ?_, hml4⟩, fun _ => ⟨rfl, pz_up_at, ?_, ?_⟩, fun h => absurd hf h⟩
      · rw [pz_upq (by omega)]
        exact s13'' z hz
      · rw [pz_upq (by decide)]
        exact h148'
      · exact pz_AC_fr (fun z hz => by rw [pz_upq (by omega)]) hAC4
end pzR
