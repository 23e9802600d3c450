/-! The reference's stepTask: EITHER, BOTH, CALL; all kinds. -/
section pzJ
variable {d n0 : Nat} {mi mi' : Nat → Nat → Int} {ml ml' : Nat → Nat → Int64} {mr : Nat → Nat → Option Nat} {c s : Nat} {σ : Nat → Option Nat} {V A W : List Nat} {m F nb N : Nat} {k : Nat → Nat × Nat}
theorem pz_up_o2 {α : Type} {f : Nat → Nat → α} {p k q j : Nat} {v : α} (h : j ≠ k) : pz_up f p k v q j = f q j := by
  unfold pz_up
  rw [if_neg (fun e => h e.2)]
set_option maxHeartbeats 2000000 in
theorem pz_mtask_or (hW : pz_mW mi F nb N k) {n : Nat} {x : pz_tk} (hv : pz_mv mi (n :: V) A m) (hU : V.length ≤ 59) (hc : pz_mT (pz_P2 mi (F : Int)) mi ml (.leaf x) n [n]) (hx : (x.1 : Int) < mi 6 6) (hk : mi 7 x.1 = 3) (h32 : mi 165 32 = -1) (ho : mi 165 31 = 0) :
    pz_Rn (d + 8) 134 (0, [], [(0, .inr (.inr (some 165))), (1, .inl (n : Int))], pz_hp n0 mi ml mr c s, true) (pz_oM n0 mr c s V mi ml (some (F, (some (.branch 0 (.leaf ((mi 8 x.1).toNat, x.2)) (.leaf ((mi 9 x.1).toNat, x.2))), none), nb, N, k))) := by
  obtain ⟨-, c1, c3, c4, c5, c6, c7⟩ := hc
  obtain ⟨w1, w2, w3, w4, w5, w6, w7, w8, w9, w10⟩ := hW
  obtain ⟨g40, gk, gl⟩ := pz_gl_f w2 hx
  have hgl : 0 ≤ mi 8 x.1 ∧ 0 ≤ mi 9 x.1 ∧ mi 170 x.1 = mi 8 x.1 ∧ mi 171 x.1 = mi 9 x.1 := by
    rcases gl with gl | gl | gl
    · omega
    · omega
    · omega
  obtain ⟨n62, vne⟩ := pz_mV_ne hv
  have en : ((n : Int)).toNat = n := by omega
  have eg : ((x.1 : Int)).toNat = x.1 := by omega
  refine pz_g134_0 ⟨by omega, fun x2 e2 => ?_⟩
  rw [en, c3] at e2
  subst e2
  refine ⟨by omega, fun x4 e4 => ?_⟩
  rw [eg, gk, hk] at e4
  subst e4
  refine ⟨fun h => absurd h (by decide), fun _ => ⟨fun _ => ⟨fun _ => ⟨fun _ => ?_, fun h => absurd h (by decide)⟩, fun h => absurd h (by decide)⟩, fun h => absurd h (by decide)⟩⟩
  obtain ⟨top, A1, mm1, e12, ht62, htU, v1⟩ := pz_mv_take (kd := 1) hv (by rw [List.length_cons]; omega)
  refine pz_Rn_c (d' := 0) (by omega) (pz_createC e12 ht62) ?_
  have htn : top ≠ n := fun e => htU (by rw [e]; exact List.mem_cons_self)
  have hnt : n ≠ top := fun e => htn e.symm
  have et : ((top : Int)).toNat = top := by omega
  have wt : top ∈ [top, n] := List.mem_cons_self
  have N1 : pz_nfr [top] mi ml (pz_up (pz_up mi 165 12 (mi 176 top)) 175 top 1) ml := pz_nf_take List.mem_cons_self
  have a175 : pz_up (pz_up mi 165 12 (mi 176 top)) 175 top 1 175 top = 1 := pz_up_at
  have a32 : pz_up (pz_up mi 165 12 (mi 176 top)) 175 top 1 165 32 = -1 := by rw [pz_upq (by decide), pz_up_ot (by decide)]; exact h32
  generalize pz_up (pz_up mi 165 12 (mi 176 top)) 175 top 1 = m1 at *
  obtain ⟨y1, y2, y3, y4, y5, y6, y7, y8⟩ := N1.1 n (fun e => hnt (List.mem_singleton.mp e))
  have b171 : m1 171 = mi 171 := N1.2.1 171 (by decide)
  refine pz_g134_86 ⟨by omega, by omega, by omega, by omega, fun h => absurd rfl h, fun _ => ⟨by omega, by omega, ?_⟩⟩
  rw [en, et, eg, b171, hgl.2.2.2, y5, c4]
  have N2 : pz_nfr [top] m1 ml (pz_up (pz_up m1 178 top (mi 9 x.1)) 179 top (x.2.1 : Int)) ml := pz_nf_trans (pz_nf_up (by decide) List.mem_cons_self) (pz_nf_up (by decide) List.mem_cons_self)
  have v2 : pz_mv (pz_up (pz_up m1 178 top (mi 9 x.1)) 179 top (x.2.1 : Int)) (top :: n :: V) A1 mm1 := pz_mv_fr v1 (by rw [pz_upq (by decide), pz_upq (by decide)]) (fun v _ _ => by rw [pz_upq (by decide), pz_upq (by decide)])
  have b175 : pz_up (pz_up m1 178 top (mi 9 x.1)) 179 top (x.2.1 : Int) 175 top = 1 := by rw [pz_upq (by decide), pz_upq (by decide)]; exact a175
  have b32 : pz_up (pz_up m1 178 top (mi 9 x.1)) 179 top (x.2.1 : Int) 165 32 = -1 := by rw [pz_upq (by decide), pz_upq (by decide)]; exact a32
  generalize pz_up (pz_up m1 178 top (mi 9 x.1)) 179 top (x.2.1 : Int) = m2 at *
  obtain ⟨z1, z2, z3, z4, z5, z6, z7, z8⟩ := N2.1 n (fun e => hnt (List.mem_singleton.mp e))
  have f179 : m2 179 n = (x.2.1 : Int) := by rw [z5, y5]; exact c4
  rw [f179]
  obtain ⟨q, hq, hqU, hT⟩ := pz_taskM (d := d) (n0 := n0) (mr := mr) (c := c) (s := s) (ml := ml) (g := mi 9 x.1) (f := (x.2.1 : Int)) (like := n) v2 (by rw [List.length_cons, List.length_cons]; omega) (by omega)
  refine pz_Rn_e (d' := d + 1) (by omega) hT ?_
  rintro _ _ ⟨m3, l3, A3, mm3, ⟨rfl, rfl⟩, v3, N3, d32, d0, d8, d9, dr, dl, dh⟩
  have hqt : q ≠ top := fun e => hqU (by rw [e]; exact List.mem_cons_self)
  have hqn : q ≠ n := fun e => hqU (by rw [e]; exact List.mem_cons_of_mem _ List.mem_cons_self)
  obtain ⟨u1, u2, u3, u4, u5, u6, u7, u8⟩ := N3.1 n (fun e => hqn (List.mem_singleton.mp e).symm)
  obtain ⟨t1, t2, t3, t4, t5, t6, t7, t8⟩ := N3.1 top (fun e => hqt (List.mem_singleton.mp e).symm)
  have e170 : m3 170 x.1 = mi 8 x.1 := by rw [N3.2.1 170 (by decide), N2.2.1 170 (by decide), N1.2.1 170 (by decide)]; exact hgl.2.2.1
  refine pz_g134_142 ⟨by omega, by omega, by omega, by omega, ?_⟩
  rw [en, et, eg, e170]
  have wN : ∀ v, v ∈ [top] → v ∈ [top, n, q] := fun v hvv => by rw [List.mem_singleton.mp hvv]; simp
  have wq : ∀ v, v ∈ [q] → v ∈ [top, n, q] := fun v hvv => by rw [List.mem_singleton.mp hvv]; simp
  have w1' : top ∈ [top, n, q] := by simp
  have w2' : n ∈ [top, n, q] := by simp
  have N4 : pz_nfr [top, n, q] mi ml (pz_up (pz_up (pz_up m3 177 top (q : Int)) 178 n (mi 8 x.1)) 176 top (n : Int)) l3 := pz_nf_trans (pz_nf_trans (pz_nf_trans (pz_nf_trans (pz_nf_trans (pz_nf_mono wN N1) (pz_nf_mono wN N2)) (pz_nf_mono wq N3)) (pz_nf_up (by decide) w1')) (pz_nf_up (by decide) w2')) (pz_nf_up (by decide) w1')
  have te4 := pz_te_nf N4
  have hV3 : ∀ v ∈ V, v ∉ [top, n, q] := by
    intro v hvv hn
    rcases List.mem_cons.mp hn with e | hn
    · exact htU (by rw [← e]; exact List.mem_cons_of_mem _ hvv)
    · rcases List.mem_cons.mp hn with e | hn
      · exact vne v hvv (by rw [e]; exact List.mem_cons_self)
      · exact hqU (by rw [← List.mem_singleton.mp hn]; exact List.mem_cons_of_mem _ (List.mem_cons_of_mem _ hvv))
  have r4 : ∀ z, pz_rwf (pz_up (pz_up (pz_up m3 177 top (q : Int)) 178 n (mi 8 x.1)) 176 top (n : Int)) z = pz_rwf m3 z := fun z => pz_rwf_eq (by rw [pz_upq (by decide), pz_upq (by decide), pz_upq (by decide)]) z
  refine ⟨_, l3, top :: ([n] ++ [q]), A3, mm3, (top : Int), (some (.branch 0 (.leaf ((mi 8 x.1).toNat, x.2)) (.leaf ((mi 9 x.1).toNat, x.2))), none), ⟨rfl, rfl⟩, ?_, fun h => absurd rfl h, pz_ns_nf hV3 N4, rfl, (N4.2.2.1 31 (by decide) (by decide)).trans ho, (N4.2.2.1 28 (by decide) (by decide)).trans w4, (N4.2.2.1 29 (by decide) (by decide)).trans w7, pz_mn_nf N4 w10, ⟨top, rfl, n, q, [n], [q], rfl, ?_, pz_up_at, ?_, ⟨rfl, ?_, ?_⟩, ⟨rfl, ?_, ?_⟩⟩, ?_⟩
  · refine pz_mv_perm (pz_mv_fr v3 (by rw [pz_upq (by decide), pz_upq (by decide), pz_upq (by decide)]) (fun v hvn _ => ?_)) ?_
    · rw [pz_up_ot (fun e => hvn (by rw [e]; exact List.mem_cons_of_mem _ List.mem_cons_self)), pz_upq (by decide), pz_upq (by decide)]
    · simp only [List.perm_iff_count, List.count_append, List.count_cons, List.count_nil]
      intro z
      omega
  · rw [pz_upq (by decide), pz_upq (by decide), pz_upq (by decide), t1]
    exact b175
  · rw [pz_upq (by decide), pz_upq (by decide), pz_up_at]
  · rw [pz_upq (by decide), pz_upq (by decide), pz_upq (by decide), u1, z1, y1]
    exact c1
  · rw [r4, u6, z6, y6, u7, u8]
    refine ⟨?_, ?_, pz_mR_te te4 c5, c6, c7⟩
    · rw [pz_upq (by decide), pz_up_at]
      show _ = (((mi 8 x.1).toNat : Nat) : Int)
      omega
    · rw [pz_upq (by decide), pz_upq (by decide), pz_upq (by decide), u5]
      exact f179
  · rw [pz_upq (by decide), pz_upq (by decide), pz_upq (by decide)]
    exact d0
  · rw [r4, dr, z6, y6, dl, dh]
    refine ⟨?_, ?_, pz_mR_te te4 c5, c6, c7⟩
    · rw [pz_upq (by decide), pz_up_ot hqn, pz_upq (by decide), d8]
      show _ = (((mi 9 x.1).toNat : Nat) : Int)
      omega
    · rw [pz_upq (by decide), pz_upq (by decide), pz_upq (by decide)]
      exact d9
  · show _ = (-1 : Int)
    rw [pz_upq (by decide), pz_upq (by decide), pz_upq (by decide), d32]
    exact b32
set_option maxHeartbeats 2000000 in
theorem pz_mtask_and (hW : pz_mW mi F nb N k) {n : Nat} {x : pz_tk} (hv : pz_mv mi (n :: V) A m) (hU : V.length ≤ 59) (hc : pz_mT (pz_P2 mi (F : Int)) mi ml (.leaf x) n [n]) (hx : (x.1 : Int) < mi 6 6) (hxf : x.2.1 < F) (hk : mi 7 x.1 = 2) (h32 : mi 165 32 = -1) (ho : mi 165 31 = 0) :
    pz_Rn (d + 8) 134 (0, [], [(0, .inr (.inr (some 165))), (1, .inl (n : Int))], pz_hp n0 mi ml mr c s, true) (pz_oM n0 mr c s V mi ml (some (F, (some (.branch (64 * (mi 9 x.1).toNat + x.2.1 + 1) (.leaf ((mi 8 x.1).toNat, x.2)) (.leaf x)), none), nb, N, k))) := by
  obtain ⟨-, c1, c3, c4, c5, c6, c7⟩ := hc
  obtain ⟨w1, w2, w3, w4, w5, w6, w7, w8, w9, w10⟩ := hW
  obtain ⟨g40, gk, gl⟩ := pz_gl_f w2 hx
  have hgl : 0 ≤ mi 8 x.1 ∧ 0 ≤ mi 9 x.1 ∧ mi 170 x.1 = mi 8 x.1 ∧ mi 171 x.1 = mi 9 x.1 := by
    rcases gl with gl | gl | gl
    · omega
    · omega
    · omega
  obtain ⟨n62, vne⟩ := pz_mV_ne hv
  have en : ((n : Int)).toNat = n := by omega
  have eg : ((x.1 : Int)).toNat = x.1 := by omega
  refine pz_g134_0 ⟨by omega, fun x2 e2 => ?_⟩
  rw [en, c3] at e2
  subst e2
  refine ⟨by omega, fun x4 e4 => ?_⟩
  rw [eg, gk, hk] at e4
  subst e4
  refine ⟨fun h => absurd h (by decide), fun _ => ⟨fun _ => ⟨fun _ => ⟨fun h => absurd rfl h, fun _ => ?_⟩, fun h => absurd h (by decide)⟩, fun h => absurd h (by decide)⟩⟩
  obtain ⟨top, A1, mm1, e12, ht62, htU, v1⟩ := pz_mv_take (kd := 2) hv (by rw [List.length_cons]; omega)
  refine pz_Rn_c (d' := 0) (by omega) (pz_createC e12 ht62) ?_
  have htn : top ≠ n := fun e => htU (by rw [e]; exact List.mem_cons_self)
  have hnt : n ≠ top := fun e => htn e.symm
  have et : ((top : Int)).toNat = top := by omega
  have N1 : pz_nfr [top] mi ml (pz_up (pz_up mi 165 12 (mi 176 top)) 175 top 2) ml := pz_nf_take List.mem_cons_self
  have a175 : pz_up (pz_up mi 165 12 (mi 176 top)) 175 top 2 175 top = 2 := pz_up_at
  have a32 : pz_up (pz_up mi 165 12 (mi 176 top)) 175 top 2 165 32 = -1 := by rw [pz_upq (by decide), pz_up_ot (by decide)]; exact h32
  generalize pz_up (pz_up mi 165 12 (mi 176 top)) 175 top 2 = m1 at *
  obtain ⟨y1, y2, y3, y4, y5, y6, y7, y8⟩ := N1.1 n (fun e => hnt (List.mem_singleton.mp e))
  have b171 : m1 171 = mi 171 := N1.2.1 171 (by decide)
  have b170 : m1 170 = mi 170 := N1.2.1 170 (by decide)
  refine pz_g134_86 ⟨by omega, by omega, by omega, by omega, fun _ => ⟨by omega, by omega, by omega, ?_⟩, fun h => absurd h (by decide)⟩
  rw [en, et, eg, b171, b170, hgl.2.2.2, hgl.2.2.1, y5, c4]
  have w1' : top ∈ [top, n] := by simp
  have w2' : n ∈ [top, n] := by simp
  have N4 : pz_nfr [top, n] mi ml (pz_up (pz_up (pz_up (pz_up m1 178 top (mi 9 x.1)) 179 top (x.2.1 : Int)) 178 n (mi 8 x.1)) 176 top (n : Int)) ml := pz_nf_trans (pz_nf_trans (pz_nf_trans (pz_nf_trans (pz_nf_mono (fun v hvv => by rw [List.mem_singleton.mp hvv]; simp) N1) (pz_nf_up (by decide) w1')) (pz_nf_up (by decide) w1')) (pz_nf_up (by decide) w2')) (pz_nf_up (by decide) w1')
  have te4 := pz_te_nf N4
  have hV3 : ∀ v ∈ V, v ∉ [top, n] := by
    intro v hvv hn
    rcases List.mem_cons.mp hn with e | hn
    · exact htU (by rw [← e]; exact List.mem_cons_of_mem _ hvv)
    · exact vne v hvv hn
  refine ⟨_, ml, top :: [n], A1, mm1, (top : Int), (some (.branch (64 * (mi 9 x.1).toNat + x.2.1 + 1) (.leaf ((mi 8 x.1).toNat, x.2)) (.leaf x)), none), ⟨rfl, rfl⟩, ?_, fun h => absurd rfl h, pz_ns_nf hV3 N4, rfl, (N4.2.2.1 31 (by decide) (by decide)).trans ho, (N4.2.2.1 28 (by decide) (by decide)).trans w4, (N4.2.2.1 29 (by decide) (by decide)).trans w7, pz_mn_nf N4 w10, ⟨top, rfl, n, [n], rfl, ?_, ?_, ?_, pz_up_at, ⟨rfl, ?_, ?_⟩⟩, ?_⟩
  · refine pz_mv_fr v1 (by rw [pz_upq (by decide), pz_upq (by decide), pz_upq (by decide), pz_upq (by decide)]) (fun v hvn _ => ?_)
    rw [pz_up_ot (fun e => hvn (by rw [e]; exact List.mem_cons_self)), pz_upq (by decide), pz_upq (by decide), pz_upq (by decide)]
  · rw [pz_upq (by decide), pz_upq (by decide), pz_upq (by decide), pz_upq (by decide)]
    exact a175
  · rw [pz_upq (by decide), pz_up_ot htn, pz_upq (by decide), pz_up_at]
    show mi 9 x.1 = (((64 * (mi 9 x.1).toNat + x.2.1) / 64 : Nat) : Int)
    omega
  · rw [pz_upq (by decide), pz_upq (by decide), pz_up_at]
    show (x.2.1 : Int) = (((64 * (mi 9 x.1).toNat + x.2.1) % 64 : Nat) : Int)
    omega
  · rw [pz_upq (by decide), pz_upq (by decide), pz_upq (by decide), pz_upq (by decide), y1]
    exact c1
  · rw [pz_rwf_eq (mi := m1) (by rw [pz_upq (by decide), pz_upq (by decide), pz_upq (by decide), pz_upq (by decide)]) n, y6]
    refine ⟨?_, ?_, pz_mR_te te4 c5, c6, c7⟩
    · rw [pz_upq (by decide), pz_up_at]
      show _ = (((mi 8 x.1).toNat : Nat) : Int)
      omega
    · rw [pz_upq (by decide), pz_upq (by decide), pz_up_ot hnt, pz_upq (by decide), y5]
      exact c4
  · show _ = (-1 : Int)
    rw [pz_upq (by decide), pz_upq (by decide), pz_upq (by decide), pz_upq (by decide)]
    exact a32
end pzJ
