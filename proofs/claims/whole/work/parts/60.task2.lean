/-! The class's stepTask: SAME, DIFFER, BOTH, EITHER. -/
/-- the class's side while a question goes on -/
def pz_cW (mi : Nat → Nat → Int) (F nb N : Nat) (k : Nat → Nat × Nat) : Prop := pz_tm mi ∧ pz_gl mi ∧ pz_re4 mi ∧ mi 13 12 = (F : Int) ∧ F ≤ 40 ∧ 1 ≤ F ∧ mi 150 5 = (nb : Int) ∧ nb ≤ 1000 ∧ N ≤ 120 ∧ pz_cn mi (F : Int) N k
/-- a task that may stand -/
def pz_vt1 (mi : Nat → Nat → Int) (F N : Nat) (x : pz_tk) : Prop := (x.1 : Int) < mi 6 6 ∧ x.2.1 < F ∧ pz_gd x.2.2.1 ∧ pz_bz N x.2.2.2.1 x.2.2.2.2
section pzD
variable {d n0 : Nat} {mi mi' : Nat → Nat → Int} {ml ml' : Nat → Nat → Int64} {mr mr' : Nat → Nat → Option Nat} {c s : Nat} {σ : Nat → Option Nat} {V S W : List Nat} {F nb N : Nat} {k : Nat → Nat × Nat}
theorem pz_te_tf (h : pz_tf W mi ml mr mi' ml' mr') : pz_te mi mi' := by
  have g : ∀ p, (p < 16 ∨ 144 < p) → p ≠ 13 → mi' p = mi p := h.2.1
  exact ⟨g 2 (by decide) (by decide), g 3 (by decide) (by decide), g 4 (by decide) (by decide), g 5 (by decide) (by decide), g 166 (by decide) (by decide), g 167 (by decide) (by decide), g 168 (by decide) (by decide), by rw [g 165 (by decide) (by decide)]⟩
theorem pz_cS_tf {G b : Int} (h : pz_tf W mi ml mr mi' ml' mr') (hs : pz_cS mi G b σ) : pz_cS mi' G b σ := by
  have g : ∀ p, (p < 16 ∨ 144 < p) → p ≠ 13 → mi' p = mi p := h.2.1
  refine pz_cS_te (pz_te_tf h) (by rw [g 150 (by decide) (by decide)]; exact Int.le_refl _) (fun j _ => ⟨by rw [g 151 (by decide) (by decide)], by rw [g 152 (by decide) (by decide)], by rw [g 153 (by decide) (by decide)]⟩) hs
theorem pz_cI_tf {G : Int} {n1 : Nat} {σ0 : Nat → Option Nat} (h : pz_tf W mi ml mr mi' ml' mr') (hs : pz_cI mi G σ0 σ n1) : pz_cI mi' G σ0 σ n1 := by
  have g : ∀ p, (p < 16 ∨ 144 < p) → p ≠ 13 → mi' p = mi p := h.2.1
  exact pz_cI_te (pz_te_tf h) (g 150 (by decide) (by decide)) (g 151 (by decide) (by decide)) (g 152 (by decide) (by decide)) (g 153 (by decide) (by decide)) (g 154 (by decide) (by decide)) hs
theorem pz_cn_tf {G : Int} (h : pz_tf W mi ml mr mi' ml' mr') (hs : pz_cn mi G N k) : pz_cn mi' G N k := by
  have g : ∀ p, (p < 16 ∨ 144 < p) → p ≠ 13 → mi' p = mi p := h.2.1
  have te := pz_te_tf h
  unfold pz_cn
  rw [g 146 (by decide) (by decide), g 147 (by decide) (by decide), h.2.2.2.1 11 (by decide), pz_vs_te te, pz_cs_te te]
  exact hs
theorem pz_P1_tf {G : Int} {g f b : Int} {lo hi : Int64} {x : pz_tk} (h : pz_tf W mi ml mr mi' ml' mr') (hs : pz_P1 mi G g f b lo hi x) : pz_P1 mi' G g f b lo hi x := ⟨hs.1, hs.2.1, pz_cS_tf h hs.2.2.1, hs.2.2.2⟩
/-- a goal's numbers -/
theorem pz_gl_f (h : pz_gl mi) {g : Nat} (hg : (g : Int) < mi 6 6) : g < 40 ∧ pz_gl1 mi g := ⟨by have := h.2.1; omega, h.2.2.2 g hg⟩
theorem pz_V_ne {q : Nat} (h : pz_iv mi mr (q :: V) S) : (∀ v ∈ V, pz_nd v ∧ v ∉ [q]) ∧ pz_nd q ∧ (∀ v ∈ S, v ≠ q) ∧ (∀ v ∈ V, v ∉ S) := by
  obtain ⟨h1, h2, h3⟩ := pz_iv_nd h
  refine ⟨fun v hv => ⟨h2 v (List.mem_cons_of_mem _ hv), fun hn => ?_⟩, h2 q List.mem_cons_self, fun v hv e => ?_, fun v hv hn => ?_⟩
  · have e := List.mem_singleton.mp hn
    subst e
    have c1 := List.nodup_iff_count.mp h1 v
    have c2 := List.count_pos_iff.mpr hv
    simp only [List.count_append, List.count_cons, beq_self_eq_true, if_true] at c1
    omega
  · subst e
    have c1 := List.nodup_iff_count.mp h1 v
    have c2 := List.count_pos_iff.mpr hv
    simp only [List.count_append, List.count_cons, beq_self_eq_true, if_true] at c1
    omega
  · have c1 := List.nodup_iff_count.mp h1 v
    have c2 := List.count_pos_iff.mpr hv
    have c3 := List.count_pos_iff.mpr hn
    simp only [List.count_append, List.count_cons] at c1
    omega
/-- the task that matched, or did not, is given back -/
theorem pz_tsk_give (hW : pz_cW mi F nb N k) {q : Nat} (hiv : pz_iv mi mr (q :: V) S) (hS : 2 ≤ S.length) {x : pz_sr} {b : Int} (ha : pz_aC mi ml (F : Int) nb x b mi' ml') :
    pz_Rn (d + 4) 43 (0, [], [(0, .inr (.inr (some 14))), (1, .inr (.inr (some q)))], pz_hp n0 (pz_up mi' 13 14 b) ml' mr c s, true) (pz_K (d + 4 + 1) 64 107 [] [] (pz_oT n0 c s V nb mi ml mr (pz_rt F x)) true) := by
  obtain ⟨f1, f13, fl, lo1, hb, ⟨r1, r2, r3, r4, r5⟩, hx⟩ := ha
  obtain ⟨w1, w2, w3, w4, w5, w6, w7, w8, w9, w10⟩ := hW
  obtain ⟨v1, v2, v3, v4⟩ := pz_V_ne hiv
  have v2' := v2
  obtain ⟨n1, n2, n3⟩ := v2'
  have F1 : pz_fr [13, 146, 147, 149, 150, 151, 152, 153, 154, 155, 156, 157, 158] [] mi (pz_up mi' 13 14 b) := pz_fr_trans f1 (pz_fr_up (by decide) (by decide))
  have e1 : ∀ p, p ≠ 13 → pz_up mi' 13 14 b p = mi' p := fun p h => pz_upq h
  have e13 : ∀ j, j ≠ 14 → pz_up mi' 13 14 b 13 j = mi' 13 j := fun j h => pz_up_ot h
  have e14 : pz_up mi' 13 14 b 13 14 = b := pz_up_at
  generalize pz_up mi' 13 14 b = m1 at *
  have te1 := pz_te_fr F1 (by decide) (by decide)
  have iv1 : pz_iv m1 mr (q :: V) S := by
    refine pz_iv_nodes hiv (F1.1 16 (by decide) (by decide)) (fun p hp => ?_)
    obtain ⟨p1, p2, p3⟩ := hp
    refine F1.1 p ?_ (by omega)
    simp only [List.mem_cons, List.not_mem_nil, or_false]
    omega
  have iv2 := (pz_iv_give (U' := V) iv1 (List.Perm.refl _)).2
  refine pz_Rn_c (d' := 1) (by omega) (pz_giveC (d := 0) v2 iv1.1) ?_
  refine pz_g64_110 ?_
  have G : pz_tf [q] m1 ml' mr (pz_tu m1 q 0) ml' (pz_up (pz_up (pz_up mr q 1 none) q 2 (mr 14 3)) 14 3 (some q)) := pz_tf_give v2 List.mem_cons_self
  have FS : pz_fs V mi ml mr (pz_tu m1 q 0) ml' (pz_up (pz_up (pz_up mr q 1 none) q 2 (mr 14 3)) 14 3 (some q)) := pz_fs_trans (pz_fs_fr (fun v hv => (v1 v hv).1) F1 (fun j h1 _ h3 => by rw [e13 j h3, f13 j h1]) fl) (pz_fs_tf v1 G)
  have gg : ∀ p, (p < 16 ∨ 144 < p) → p ≠ 13 → pz_tu m1 q 0 p = mi' p := fun p h1 h2 => (G.2.1 p h1 h2).trans (e1 p h2)
  have g13 : ∀ j, j ≠ 14 → pz_tu m1 q 0 13 j = mi' 13 j := fun j h => (G.2.2.2.1 j h).trans (e13 j h)
  have g14 : pz_tu m1 q 0 13 14 = b := by rw [(pz_tu_f (mi := m1) (k := 0) v2).2.2 13 (by omega) (by decide)]; exact e14
  have LO : pz_lo nb mi (pz_tu m1 q 0) := pz_lo_trans lo1 (pz_lo_eq (gg 151 (by decide) (by decide)) (gg 152 (by decide) (by decide)) (gg 153 (by decide) (by decide)))
  have hS1 : 2 ≤ (q :: S).length := by rw [List.length_cons]; omega
  generalize hm2 : pz_tu m1 q 0 = m2 at *
  generalize pz_up (pz_up (pz_up mr q 1 none) q 2 (mr 14 3)) 14 3 (some q) = mr2 at *
  cases x with
  | none =>
    refine ⟨m2, ml', mr2, [], q :: S, none, (none, if b = 1 then some (fun _ => none, 0, 0) else none), ⟨rfl, rfl⟩, iv2, fun _ => hS1, FS, LO, by rw [gg 150 (by decide) (by decide)]; exact r4, ?_, ⟨rfl, rfl⟩, ?_⟩
    · show 500 < m2 155 5 ∨ 1000 < m2 150 5 ∨ 40 < m2 13 12 ∨ 120 < m2 13 11
      rw [gg 155 (by decide) (by decide), gg 150 (by decide) (by decide), g13 11 (by decide)]
      have hx' : 500 < mi' 155 5 ∨ 1000 < mi' 150 5 ∨ 120 < mi' 13 11 := hx
      omega
    · rcases hb with hb | hb
      · rw [if_neg (by omega)]
        show m2 13 14 = 0
        omega
      · rw [if_pos hb]
        exact ⟨by omega, fun _ _ => trivial⟩
  | some z =>
    obtain ⟨ans, nb', N', k'⟩ := z
    obtain ⟨x1, x2, x3, x4, x5, x6⟩ := hx
    have te2 : pz_te mi' m2 := ⟨gg 2 (by decide) (by decide), gg 3 (by decide) (by decide), gg 4 (by decide) (by decide), gg 5 (by decide) (by decide), gg 166 (by decide) (by decide), gg 167 (by decide) (by decide), gg 168 (by decide) (by decide), by rw [gg 165 (by decide) (by decide)]⟩
    refine ⟨m2, ml', mr2, [], q :: S, none, (none, ans), ⟨rfl, rfl⟩, iv2, fun _ => hS1, FS, LO, by rw [gg 150 (by decide) (by decide)]; exact r4, rfl, ?_, by rw [gg 150 (by decide) (by decide)]; exact x2, x3, x4, ?_, by rw [gg 155 (by decide) (by decide)]; exact x1, ⟨rfl, rfl⟩, ?_, ?_⟩
    · rw [g13 12 (by decide), f13 12 (by decide)]
      exact w4
    · unfold pz_cn
      rw [gg 146 (by decide) (by decide), gg 147 (by decide) (by decide), g13 11 (by decide), pz_vs_te te2, pz_cs_te te2]
      exact x5
    · cases ans with
      | none =>
        have : b = 0 := x6
        show m2 13 14 = 0
        omega
      | some an =>
        obtain ⟨σ', lo', hi'⟩ := an
        obtain ⟨y1, y2, y3, y4, y5⟩ := x6
        refine ⟨by omega, fun g f => ⟨rfl, rfl, ?_, y4, y5⟩⟩
        rw [gg 149 (by decide) (by decide), y3]
        exact pz_cS_te te2 (by rw [gg 150 (by decide) (by decide)]; exact Int.le_refl _) (fun j _ => ⟨by rw [gg 151 (by decide) (by decide)], by rw [gg 152 (by decide) (by decide)], by rw [gg 153 (by decide) (by decide)]⟩) y2.2.2.1
    · cases ans with
      | none => trivial
      | some an =>
        obtain ⟨σ', lo', hi'⟩ := an
        obtain ⟨y1, y2, y3, y4, y5⟩ := x6
        exact pz_cI_te te2 (gg 150 (by decide) (by decide)) (gg 151 (by decide) (by decide)) (gg 152 (by decide) (by decide)) (gg 153 (by decide) (by decide)) (gg 154 (by decide) (by decide)) y2
end pzD
