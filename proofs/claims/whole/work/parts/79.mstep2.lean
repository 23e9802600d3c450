/-! The reference's step, all of it. -/
def pz_R2 (mi : Nat → Nat → Int) (ml : Nat → Nat → Int64) (F nb N : Nat) (k : Nat → Nat × Nat) (t : Lean.RArray pz_tk) : Prop := pz_mW mi F nb N k ∧ mi 165 14 = 1 ∧ ∃ (n : Nat) (U A : List Nat) (m : Nat), mi 165 13 = (n : Int) ∧ pz_mv mi U A m ∧ pz_mT (pz_P2 mi (F : Int)) mi ml t n U
/-- what the reference's step leaves as it was -/
def pz_mf (mi : Nat → Nat → Int) (ml : Nat → Nat → Int64) (mi' : Nat → Nat → Int) (ml' : Nat → Nat → Int64) : Prop := (∀ p, (p < 165 ∨ (165 < p ∧ p < 175) ∨ p = 189 ∨ 190 < p) → mi' p = mi p) ∧ (∀ j, j ∉ [12, 13, 24, 27, 28, 29, 31, 32, 33, 35] → mi' 165 j = mi 165 j) ∧ ∀ p, p ≠ 180 → p ≠ 181 → ml' p = ml p
/-- how the reference's step ends -/
def pz_yQ (n0 : Nat) (mr : Nat → Nat → Option Nat) (c s K : Nat) (mi : Nat → Nat → Int) (ml : Nat → Nat → Int64) (res : Option (Nat × (Option (Lean.RArray pz_tk) × Option pz_an) × Nat × Nat × (Nat → Nat × Nat))) : pz_O → pz_H → Prop := fun o h => ∃ mi' ml' b, (o = .inl (some (.inl b)) ∧ h = pz_hp n0 mi' ml' mr c s) ∧ pz_mf mi ml mi' ml' ∧ (pz_fu res K → b = 0) ∧ (¬ pz_fu res K → ∃ F' ra nb' N' k', res = some (F', ra, nb', N', k') ∧ b = 1 ∧ mi' 190 0 = ((pz_nO ra.1).1 : Int) ∧ mi' 190 1 = ((pz_nO ra.1).2.1 : Int) ∧ mi' 190 2 = ((pz_nO ra.1).2.2 : Int) ∧ mi' 165 28 = (F' : Int) ∧ mi' 165 29 = (nb' : Int) ∧ pz_mn mi' (F' : Int) N' k' ∧ pz_am (pz_P2 mi' (F' : Int)) mi' ml' ra.2 ∧ ∃ X A m, pz_mv mi' X A m ∧ pz_mlf (pz_P2 mi' (F' : Int)) mi' ml' ra.1 (mi' 165 13) X)
section pzU1
variable {d n0 : Nat} {mi mi' : Nat → Nat → Int} {ml ml' : Nat → Nat → Int64} {mr : Nat → Nat → Option Nat} {c s : Nat} {F nb N K : Nat} {k : Nat → Nat × Nat} {P P' : Int → Int → (Nat → Int) → Int64 → Int64 → pz_tk → Prop}
theorem pz_mx_fr : ∀ (L : List (Nat × Nat × Lean.RArray pz_tk × List Nat)) (V : List Nat), (∀ v ∈ V, mi' 175 v = mi 175 v ∧ mi' 176 v = mi 176 v ∧ mi' 177 v = mi 177 v ∧ mi' 178 v = mi 178 v ∧ mi' 179 v = mi 179 v ∧ pz_rwf mi' v = pz_rwf mi v ∧ ml' 180 v = ml 180 v ∧ ml' 181 v = ml 181 v) → (∀ g f w lo hi x, P g f w lo hi x → P' g f w lo hi x) → pz_mx P mi ml L V → pz_mx P' mi' ml' L V := by
  intro L
  induction L with
  | nil => exact fun V _ _ h => h
  | cons e L ih =>
    intro V h hP hc
    obtain ⟨V', h1, h3, h4⟩ := hc
    obtain ⟨g1, g2, g3, g4, g5, g6, g7, g8⟩ := h e.1 (by rw [h1]; exact List.mem_cons_self)
    refine ⟨V', h1, ?_, ih V' (fun q hq => h q (by rw [h1]; exact List.mem_cons_of_mem _ (List.mem_append_right _ hq))) hP h4⟩
    rcases h3 with ⟨u1, u2, r, u3, u4⟩ | ⟨k, u1, u2, u3, u4, u5⟩
    · exact .inl ⟨u1, by rw [g1]; exact u2, r, by rw [g3]; exact u3, pz_mT_P hP _ _ _ (pz_mT_fr _ _ _ (fun q hq => h q (by rw [h1]; exact List.mem_cons_of_mem _ (List.mem_append_left _ hq))) u4)⟩
    · exact .inr ⟨k, u1, by rw [g1]; exact u2, by rw [g4]; exact u3, by rw [g5]; exact u4, u5⟩
theorem pz_am_P {ans : Option pz_an} (hP : ∀ g f w lo hi x, P g f w lo hi x → P' g f w lo hi x) (h : pz_am P mi ml ans) : pz_am P' mi ml ans := by
  cases ans with
  | none => exact h
  | some an =>
    obtain ⟨n, g1, g2, g3⟩ := h
    exact ⟨n, g1, g2, fun g f => hP _ _ _ _ _ _ (g3 g f)⟩
theorem pz_mlf_P {t : Option (Lean.RArray pz_tk)} {x : Int} {X : List Nat} (hP : ∀ g f w lo hi x, P g f w lo hi x → P' g f w lo hi x) (h : pz_mlf P mi ml t x X) : pz_mlf P' mi ml t x X := by
  cases t with
  | none => exact h
  | some t =>
    obtain ⟨n, g1, g2⟩ := h
    exact ⟨n, g1, pz_mT_P hP _ _ _ g2⟩
theorem pz_mlf_eq {t : Option (Lean.RArray pz_tk)} {x : Int} {X : List Nat} (hh : ∀ p, (175 ≤ p ∧ p ≤ 179) ∨ p = 182 → mi' p = mi p) (h : pz_mlf P mi ml t x X) : pz_mlf P mi' ml t x X := by
  cases t with
  | none => exact h
  | some t =>
    obtain ⟨n, g1, g2⟩ := h
    exact ⟨n, g1, pz_mT_eq hh g2⟩
set_option maxHeartbeats 4000000 in
/-- the reference's step -/
theorem pz_stepM {t : Lean.RArray pz_tk} (hR : pz_R2 mi ml F nb N k t) (hv : pz_vT mi F N t) (hsz : pz_sz (some t) ≤ 60) (hK : mi 189 0 = (K : Int)) :
    pz_Rn (d + 9) 137 (0, [], [(0, .inr (.inr (some 165)))], pz_hp n0 mi ml mr c s, true) (pz_yQ n0 mr c s K mi ml (pz_stp mi F nb N k t)) := by
  obtain ⟨hW, h14, n, U, A, m, hn, hmv, hc⟩ := hR
  obtain ⟨w1, w2, w3, w4, w5, w6, w7, w8, w9, w10⟩ := hW
  refine pz_g137_0 (fun x1 e1 => ?_)
  rw [hn] at e1
  subst e1
  have q0 : ∀ z, z ≠ 165 → pz_up (pz_up (pz_up mi 165 27 0) 165 31 0) 165 32 (-1) z = mi z := fun z h1 => by rw [pz_upq h1, pz_upq h1, pz_upq h1]
  have q165 : ∀ j, j ≠ 27 → j ≠ 31 → j ≠ 32 → pz_up (pz_up (pz_up mi 165 27 0) 165 31 0) 165 32 (-1) 165 j = mi 165 j := fun j h1 h2 h3 => by rw [pz_up_ot h3, pz_up_ot h2, pz_up_ot h1]
  have q27 : pz_up (pz_up (pz_up mi 165 27 0) 165 31 0) 165 32 (-1) 165 27 = 0 := by rw [pz_up_ot (by decide), pz_up_ot (by decide), pz_up_at]
  have q31 : pz_up (pz_up (pz_up mi 165 27 0) 165 31 0) 165 32 (-1) 165 31 = 0 := by rw [pz_up_ot (by decide), pz_up_at]
  have q32 : pz_up (pz_up (pz_up mi 165 27 0) 165 31 0) 165 32 (-1) 165 32 = -1 := pz_up_at
  generalize pz_up (pz_up (pz_up mi 165 27 0) 165 31 0) 165 32 (-1) = m0 at *
  have te0 : pz_te mi m0 := ⟨q0 2 (by decide), q0 3 (by decide), q0 4 (by decide), q0 5 (by decide), q0 166 (by decide), q0 167 (by decide), q0 168 (by decide), q165 1 (by decide) (by decide) (by decide)⟩
  have hmv0 : pz_mv m0 U A m := pz_mv_fr hmv (q165 12 (by decide) (by decide) (by decide)) (fun v _ _ => by rw [q0 176 (by decide)])
  have nd := pz_mv_nd hmv0
  have hm62 := hmv0.1
  have hszU : U.length ≤ 60 := by
    have h1 : pz_sz (some t) = (pz_nT t).1 + (pz_nT t).2.1 + (pz_nT t).2.2 := rfl
    have := (pz_mT_in _ _ _ hc).2
    omega
  have hc0 : pz_mT (pz_P2 m0 (F : Int)) m0 ml t n U := pz_mT_P (fun _ _ _ _ _ _ h => pz_P2_te te0 h) _ _ _ (pz_mT_eq (fun p hp => q0 p (by omega)) hc)
  refine pz_md1 (d := d) (P := pz_P2 m0 (F : Int)) t n U [] [] m0 hc0 (fun v hvv => by have := nd.2.1 v hvv; omega) rfl trivial (by rw [List.length_nil]; omega) ?_
  intro m1 L V q g1 g2 g3 g4 g5 g6 g7
  have hcx : pz_cx t (pz_lev []) = pz_cx t [] := rfl
  rw [hcx] at g5 g7
  rw [List.append_nil] at g6
  have e165 : m1 165 = m0 165 := g1 165 (by decide)
  have s1 : ∀ z, z ≠ 165 → z ≠ 183 → m1 z = mi z := fun z h1 h2 => (g1 z h2).trans (q0 z h1)
  have te1 : pz_te mi m1 := ⟨s1 2 (by decide) (by decide), s1 3 (by decide) (by decide), s1 4 (by decide) (by decide), s1 5 (by decide) (by decide), s1 166 (by decide) (by decide), s1 167 (by decide) (by decide), s1 168 (by decide) (by decide), by rw [e165]; exact q165 1 (by decide) (by decide) (by decide)⟩
  have te01 : pz_te m0 m1 := ⟨g1 2 (by decide), g1 3 (by decide), g1 4 (by decide), g1 5 (by decide), g1 166 (by decide), g1 167 (by decide), g1 168 (by decide), by rw [e165]⟩
  have W1 : pz_mW m1 F nb N k := by
    refine ⟨pz_tm_te te1 w1, ?_, ?_, by rw [e165, q165 28 (by decide) (by decide) (by decide)]; exact w4, w5, w6, by rw [e165, q165 29 (by decide) (by decide) (by decide)]; exact w7, w8, w9, pz_mn_te te1 (by rw [e165]; exact q165 24 (by decide) (by decide) (by decide)) (s1 184 (by decide) (by decide)) (s1 185 (by decide) (by decide)) w10⟩
    · have h5 : m1 165 5 = mi 165 5 := by rw [e165]; exact q165 5 (by decide) (by decide) (by decide)
      unfold pz_gl pz_gl1 pz_isT
      rw [s1 2 (by decide) (by decide), s1 6 (by decide) (by decide), s1 7 (by decide) (by decide), s1 8 (by decide) (by decide), s1 9 (by decide) (by decide), s1 10 (by decide) (by decide), s1 11 (by decide) (by decide), h5, s1 169 (by decide) (by decide), s1 170 (by decide) (by decide), s1 171 (by decide) (by decide), s1 172 (by decide) (by decide), s1 173 (by decide) (by decide)]
      exact w2
    · unfold pz_re4
      rw [s1 6 (by decide) (by decide), s1 12 (by decide) (by decide), s1 174 (by decide) (by decide)]
      exact w3
  have hmv1 : pz_mv m1 (q :: V) A m := pz_mv_perm (pz_mv_fr hmv0 (by rw [e165]) (fun v _ _ => by rw [g1 176 (by decide)])) g6.symm
  have hVl : V.length ≤ 59 := by
    have := g6.length_eq
    rw [List.length_cons] at this
    omega
  obtain ⟨vL, vx⟩ := pz_vT_cx (acc := []) hv trivial
  have vx1 : pz_vt1 m1 F N (pz_cx t []).2 := ⟨by rw [s1 6 (by decide) (by decide)]; exact vx.1, vx.2⟩
  have g5' : pz_mT (pz_P2 m1 (F : Int)) m1 ml (.leaf (pz_cx t []).2) q [q] := pz_mT_P (fun _ _ _ _ _ _ h => pz_P2_te te01 h) _ _ _ g5
  have ets1 : pz_ts m1 F nb N k (pz_cx t []).2 = pz_ts mi F nb N k (pz_cx t []).2 := by
    unfold pz_ts
    rw [s1 7 (by decide) (by decide), s1 8 (by decide) (by decide), s1 9 (by decide) (by decide), s1 10 (by decide) (by decide), s1 11 (by decide) (by decide), s1 12 (by decide) (by decide), pz_cs_te te1, pz_sm_te te1, pz_df_te te1]
  have tk := pz_mtaskC (d := d) (n0 := n0) (mr := mr) (c := c) (s := s) W1 hmv1 hVl g5' vx1 (by rw [e165]; exact q27) (by rw [e165]; exact q32) (by rw [e165]; exact q31)
  rw [ets1] at tk
  refine pz_Rn_e (Nat.le_refl _) tk ?_
  rintro _ _ ⟨m3, l3, X, A3, mm3, x, ra, ⟨rfl, rfl⟩, v3, hX, ns3, hres⟩
  obtain ⟨ns1, ns2, ns4, ns5⟩ := ns3
  refine pz_g137_56 ?_
  have mw3 : pz_mw m3 L := pz_mw_fr (fun j _ => by rw [ns2 183 (by decide)]) g3
  have s3 : ∀ z, (z < 165 ∨ (165 < z ∧ z < 175) ∨ 188 < z) → m3 z = mi z := fun z hz => (ns2 z (by omega)).trans (s1 z (by omega) (by omega))
  have te3 : pz_te mi m3 := ⟨s3 2 (by decide), s3 3 (by decide), s3 4 (by decide), s3 5 (by decide), s3 166 (by decide), s3 167 (by decide), s3 168 (by decide), by rw [ns4 1 (by decide), e165]; exact q165 1 (by decide) (by decide) (by decide)⟩
  have f165 : ∀ j, j ∉ [12, 13, 24, 27, 28, 29, 31, 32, 33, 35] → m3 165 j = mi 165 j := by
    intro j hj
    simp only [List.mem_cons, List.not_mem_nil, or_false] at hj
    rw [ns4 j (by simp only [List.mem_cons, List.not_mem_nil, or_false]; omega), e165]
    exact q165 j (by omega) (by omega) (by omega)
  have hUl : ra.2 ≠ none → (X ++ V).length ≤ 60 := by
    intro h
    rw [hX h, List.nil_append]
    omega
  -- up, measured, judged
  have up : ∀ (P : Int → Int → (Nat → Int) → Int64 → Int64 → pz_tk → Prop), pz_mx P m3 l3 L V → pz_mlf P m3 l3 ra.1 x X → pz_am P m3 l3 ra.2 → (∀ (m6 : Nat → Nat → Int) (l6 : Nat → Nat → Int64) (X6 A6 : List Nat) (mm6 : Nat), pz_mf mi ml m6 l6 → m6 165 31 = m3 165 31 → m6 165 28 = m3 165 28 → m6 165 29 = m3 165 29 → m6 165 24 = m3 165 24 → m6 184 = m3 184 → m6 185 = m3 185 → pz_mv m6 X6 A6 mm6 → pz_mlf P m6 l6 (pz_rl (pz_cx t []).1 ra).1 (m6 165 13) X6 → pz_am P m6 l6 (pz_rl (pz_cx t []).1 ra).2 → m6 190 0 = ((pz_nO (pz_rl (pz_cx t []).1 ra).1).1 : Int) → m6 190 1 = ((pz_nO (pz_rl (pz_cx t []).1 ra).1).2.1 : Int) → m6 190 2 = ((pz_nO (pz_rl (pz_cx t []).1 ra).1).2.2 : Int) → pz_Rn (d + 8 + 1) 137 (88, [.inl ((pz_sz (pz_rl (pz_cx t []).1 ra).1 : Nat) : Int)], [(0, .inr (.inr (some 165)))], pz_hp n0 m6 l6 mr c s, true) (pz_yQ n0 mr c s K mi ml (pz_stp mi F nb N k t))) → pz_Rn (d + 9) 137 (57, [], [(0, .inr (.inr (some 165))), (1, .inl (L.length : Int)), (3, .inl x)], pz_hp n0 m3 l3 mr c s, true) (pz_yQ n0 mr c s K mi ml (pz_stp mi F nb N k t)) := by
    intro P hmx hlf ham KK
    refine pz_mu1 (d := d) (P := P) L V X A3 mm3 ra.1 x ra.2 m3 l3 hmx mw3 g4 v3 hlf ham hUl ?_
    intro m4 l4 X4 A4 mm4 x4 y1 y2 y3 y4 y5 y6
    rw [g7] at y2 y3
    obtain ⟨yn1, yn2, yn3, yn4⟩ := y4
    have u13 : pz_up m4 165 13 x4 165 13 = x4 := pz_up_at
    have u165 : ∀ j, j ≠ 13 → pz_up m4 165 13 x4 165 j = m4 165 j := fun j hj => pz_up_ot hj
    have uo : ∀ z, z ≠ 165 → pz_up m4 165 13 x4 z = m4 z := fun z hz => pz_upq hz
    generalize pz_up m4 165 13 x4 = m5 at *
    have nd4 := pz_mv_nd y1
    have hm4 := y1.1
    have lf5 : pz_mlf P m5 l4 (pz_rl (pz_cx t []).1 ra).1 (m5 165 13) X4 := by
      rw [u13]
      exact pz_mlf_eq (fun p hp => uo p (by omega)) y2
    refine pz_Rn_e (d' := 0) (by omega) (pz_measC (d := 0) lf5 (fun v hvv => by have := nd4.2.1 v hvv; omega) (by omega)) ?_
    rintro _ _ ⟨m6, ⟨rfl, rfl⟩, f6, z0, z1, z2⟩
    have o6 : ∀ z, z ≠ 165 → z ≠ 183 → z ≠ 190 → m6 z = m4 z := fun z h1 h2 h3 => by
      rw [f6.1 z (by simp only [List.mem_cons, List.not_mem_nil, or_false]; omega) h1, uo z h1]
    have o165 : ∀ j, j ≠ 13 → m6 165 j = m4 165 j := fun j hj => by rw [f6.2 j List.not_mem_nil, u165 j hj]
    have o165' : ∀ j, j ≠ 12 → j ≠ 13 → j ≠ 32 → m6 165 j = m3 165 j := fun j h1 h2 h3 => (o165 j h2).trans (y5 j h1 h3)
    refine KK m6 l4 X4 A4 mm4 ⟨fun z hz => ?_, fun j hj => ?_, fun z h1 h2 => ?_⟩ (o165' 31 (by decide) (by decide) (by decide)) (o165' 28 (by decide) (by decide) (by decide)) (o165' 29 (by decide) (by decide) (by decide)) (o165' 24 (by decide) (by decide) (by decide)) ?_ ?_ (pz_mv_fr y1 (o165 12 (by decide)) (fun v _ _ => by rw [o6 176 (by decide) (by decide) (by decide)])) ?_ ?_ z0 z1 z2
    · rw [o6 z (by omega) (by omega) (by omega), yn2 z (by omega)]
      exact s3 z (by omega)
    · have hj' := hj
      simp only [List.mem_cons, List.not_mem_nil, or_false] at hj'
      rw [o165' j (by omega) (by omega) (by omega)]
      exact f165 j hj
    · rw [yn4 z h1 h2]
      exact ns5 z h1 h2
    · rw [o6 184 (by decide) (by decide) (by decide), y6 184 (by decide)]
    · rw [o6 185 (by decide) (by decide) (by decide), y6 185 (by decide)]
    · rw [f6.2 13 List.not_mem_nil]
      exact pz_mlf_eq (fun p hp => f6.1 p (by simp only [List.mem_cons, List.not_mem_nil, or_false]; omega) (by omega)) lf5
    · exact pz_am_r (o165 32 (by decide)) (o6 182 (by decide) (by decide) (by decide)) rfl y3
  cases ets : pz_ts mi F nb N k (pz_cx t []).2 with
  | none =>
    rw [ets] at hres
    obtain ⟨hov, hlf, ham⟩ := hres
    have es : pz_stp mi F nb N k t = none := by
      unfold pz_stp
      rw [ets]
    refine up pz_PU (pz_mx_fr _ _ ns1 (fun _ _ _ _ _ _ _ => trivial) g2) hlf ham ?_
    intro m6 l6 X6 A6 mm6 f6 e31 e28 e29 e24 e184 e185 v6 lf6 am6 z0 z1 z2
    rw [es]
    have fin : pz_yQ n0 mr c s K mi ml none (.inl (some (.inl 0))) (pz_hp n0 m6 l6 mr c s) := ⟨m6, l6, 0, ⟨rfl, rfl⟩, f6, fun _ => rfl, fun h => absurd trivial h⟩
    exact pz_g137_88 ⟨fun _ => fin, fun _ => ⟨fun _ => fin, fun h => absurd h (by rw [e31, hov]; decide)⟩⟩
  | some z =>
    obtain ⟨F', ra', nb', N', k'⟩ := z
    rw [ets] at hres
    obtain ⟨hra, u31, u28, u29, umn, hlf, ham⟩ := hres
    subst hra
    have es : pz_stp mi F nb N k t = some (F', pz_rl (pz_cx t []).1 ra, nb', N', k') := by
      unfold pz_stp
      rw [ets]
    have hFF : F ≤ F' := by
      unfold pz_ts at ets
      split at ets
      · cases ex : pz_sm mi (pz_cx t []).2.2.2.1 k N (pz_cx t []).2.2.2.2.1 (pz_cx t []).2.2.2.2.2 nb 500 (pz_cs mi (((pz_cx t []).2.2.1 : Int) * 41 + mi 8 (pz_cx t []).2.1), pz_cs mi (((pz_cx t []).2.2.1 : Int) * 41 + mi 9 (pz_cx t []).2.1)) with
        | none => rw [ex] at ets; cases ets
        | some y =>
          obtain ⟨y1, y2, y3, y4⟩ := y
          rw [ex] at ets
          cases ets
          exact Nat.le_refl _
      · split at ets
        · cases ex : pz_df mi (pz_cx t []).2.2.2.1 k N (pz_cx t []).2.2.2.2.1 (pz_cx t []).2.2.2.2.2 nb 500 (pz_cs mi (((pz_cx t []).2.2.1 : Int) * 41 + mi 8 (pz_cx t []).2.1), pz_cs mi (((pz_cx t []).2.2.1 : Int) * 41 + mi 9 (pz_cx t []).2.1)) with
          | none => rw [ex] at ets; cases ets
          | some y =>
            obtain ⟨y1, y2, y3, y4⟩ := y
            rw [ex] at ets
            cases ets
            exact Nat.le_refl _
        · split at ets
          · cases ets
            exact Nat.le_refl _
          · split at ets
            · cases ets
              exact Nat.le_refl _
            · split at ets
              · cases ets
                exact Nat.le_refl _
              · split at ets
                · cases ets
                · cases ets
                  exact Nat.le_succ _
    have te03 : pz_te m0 m3 := ⟨by rw [te3.1, te0.1], by rw [te3.2.1, te0.2.1], by rw [te3.2.2.1, te0.2.2.1], by rw [te3.2.2.2.1, te0.2.2.2.1], by rw [te3.2.2.2.2.1, te0.2.2.2.2.1], by rw [te3.2.2.2.2.2.1, te0.2.2.2.2.2.1], by rw [te3.2.2.2.2.2.2.1, te0.2.2.2.2.2.2.1], by rw [te3.2.2.2.2.2.2.2, te0.2.2.2.2.2.2.2]⟩
    have P3 : ∀ g f w lo hi y, pz_P2 m0 (F : Int) g f w lo hi y → pz_P2 m3 (F' : Int) g f w lo hi y := fun g f w lo hi y hy => ⟨hy.1, hy.2.1, pz_mR_mono (by omega) (pz_mR_te te03 hy.2.2.1), hy.2.2.2⟩
    refine up (pz_P2 m3 (F' : Int)) (pz_mx_fr _ _ ns1 P3 g2) hlf ham ?_
    intro m6 l6 X6 A6 mm6 f6 e31 e28 e29 e24 e184 e185 v6 lf6 am6 z0 z1 z2
    have te36 : pz_te m3 m6 := by
      have s6 := f6.1
      exact ⟨by rw [s6 2 (by decide), te3.1], by rw [s6 3 (by decide), te3.2.1], by rw [s6 4 (by decide), te3.2.2.1], by rw [s6 5 (by decide), te3.2.2.2.1], by rw [s6 166 (by decide), te3.2.2.2.2.1], by rw [s6 167 (by decide), te3.2.2.2.2.2.1], by rw [s6 168 (by decide), te3.2.2.2.2.2.2.1], by rw [f6.2.1 1 (by decide), te3.2.2.2.2.2.2.2]⟩
    have P6 : ∀ g f w lo hi y, pz_P2 m3 (F' : Int) g f w lo hi y → pz_P2 m6 (F' : Int) g f w lo hi y := fun g f w lo hi y hy => pz_P2_te te36 hy
    have hK6 : m6 189 0 = (K : Int) := by rw [f6.1 189 (by decide)]; exact hK
    rw [es]
    have good : ¬ pz_fu (some (F', pz_rl (pz_cx t []).1 ra, nb', N', k')) K → pz_yQ n0 mr c s K mi ml (some (F', pz_rl (pz_cx t []).1 ra, nb', N', k')) (.inl (some (.inl 1))) (pz_hp n0 m6 l6 mr c s) := fun hnf => ⟨m6, l6, 1, ⟨rfl, rfl⟩, f6, fun h => absurd h hnf, fun _ => ⟨F', _, nb', N', k', rfl, rfl, z0, z1, z2, e28.trans u28, e29.trans u29, pz_mn_te te36 e24 e184 e185 umn, pz_am_P P6 am6, X6, A6, mm6, v6, pz_mlf_P P6 lf6⟩⟩
    have bad : pz_fu (some (F', pz_rl (pz_cx t []).1 ra, nb', N', k')) K → pz_yQ n0 mr c s K mi ml (some (F', pz_rl (pz_cx t []).1 ra, nb', N', k')) (.inl (some (.inl 0))) (pz_hp n0 m6 l6 mr c s) := fun hf => ⟨m6, l6, 0, ⟨rfl, rfl⟩, f6, fun _ => rfl, fun h => absurd hf h⟩
    refine pz_g137_88 ⟨fun h => bad (.inl (by omega)), fun h => ⟨fun h2 => absurd (e31.trans u31) h2, fun _ => ⟨fun h3 => good ?_, fun h3 => ⟨fun h4 => bad ?_, fun h4 => good ?_⟩⟩⟩⟩
    · rintro (hh | ⟨hh, -⟩)
      · omega
      · cases ea : (pz_rl (pz_cx t []).1 ra).2 with
        | none => exact hh ea
        | some an =>
          rw [ea] at am6
          obtain ⟨nn, hnn, -⟩ := am6
          omega
    · refine .inr ⟨fun ea => ?_, by omega⟩
      rw [ea] at am6
      exact h3 am6
    · rintro (hh | ⟨-, hh⟩)
      · omega
      · omega
end pzU1
