/-! A new term and a new goal on both sides at once; the tails of the law's cases. -/
section pzX5
variable {d n0 : Nat} {mi mi' : Nat → Nat → Int} {ml ml' : Nat → Nat → Int64} {mr : Nat → Nat → Option Nat} {c s : Nat} {xs : Nat → Int} {B : Int} {Ω : pz_QS} {Q : pz_O → pz_H → Prop}
theorem pz_ac_o {k a b : Int} {p : Nat} (h : p ∉ [2, 3, 4, 5]) : pz_ac mi k a b p = mi p := by
  simp only [List.mem_cons, List.not_mem_nil, or_false, not_or] at h
  unfold pz_ac
  rw [pz_upq h.1, pz_upq h.2.2.2, pz_upq h.2.2.1, pz_upq h.2.1]
theorem pz_gc_o {k a b : Int} {p : Nat} (h : p ∉ [6, 7, 8, 9]) : pz_gc mi k a b p = mi p := by
  simp only [List.mem_cons, List.not_mem_nil, or_false, not_or] at h
  unfold pz_gc
  rw [pz_upq h.1, pz_upq h.2.2.2, pz_upq h.2.2.1, pz_upq h.2.1]
theorem pz_am1_o {k a b : Int} {p : Nat} (h : p ∉ [165, 166, 167, 168]) : pz_am1 mi k a b p = mi p := by
  simp only [List.mem_cons, List.not_mem_nil, or_false, not_or] at h
  unfold pz_am1
  rw [pz_upq h.1, pz_upq h.2.2.2, pz_upq h.2.2.1, pz_upq h.2.1, pz_upq h.1]
theorem pz_gm1_o {k a b : Int} {p : Nat} (h : p ∉ [165, 169, 170, 171]) : pz_gm1 mi k a b p = mi p := by
  simp only [List.mem_cons, List.not_mem_nil, or_false, not_or] at h
  unfold pz_gm1
  rw [pz_upq h.1, pz_upq h.2.2.2, pz_upq h.2.2.1, pz_upq h.2.1, pz_upq h.1]
theorem pz_LI_B {B' : Int} (hB : B ≤ B') (h : pz_LI xs B Ω mi ml mr) : pz_LI xs B' Ω mi ml mr := by
  obtain ⟨h1, h2, h3, h4, h5, h6, h7, h8⟩ := h
  exact ⟨h1, h2, h3, h4, h5, h6, ⟨h7.1, by have := h7.2; omega⟩, h8⟩
theorem pz_3 (P : Prop) (n : Int) : ∃ e : Int, (¬ P ∧ e = 1) ∨ (P ∧ 40 ≤ n ∧ e = 2) ∨ (P ∧ n < 40 ∧ e = 0) := by
  by_cases h : P
  · by_cases h2 : 40 ≤ n
    · exact ⟨2, .inr (.inl ⟨h, h2, rfl⟩)⟩
    · exact ⟨0, .inr (.inr ⟨h, by omega, rfl⟩)⟩
  · exact ⟨1, .inl ⟨h, rfl⟩⟩
theorem pz_2 (P : Prop) : ∃ e : Int, (¬ P ∧ e = 1) ∨ (P ∧ e = 0) := by
  by_cases h : P
  · exact ⟨0, .inr ⟨h, rfl⟩⟩
  · exact ⟨1, .inl ⟨h, rfl⟩⟩
theorem pz_LI_tn {k a b b' : Int} {w : Int64} (hI : pz_LI xs B Ω mi ml mr) (h40 : mi 2 3 < 40) (hk : (k = 0 ∧ 0 ≤ a ∧ a ≤ 9) ∨ (k = 1 ∧ 0 ≤ a ∧ a ≤ 5) ∨ (k = 2 ∧ 0 ≤ a ∧ a < mi 2 3 ∧ 0 ≤ b ∧ b < mi 2 3 ∧ b' = b)) : pz_LI xs B Ω (pz_am1 (pz_ac mi k a b) k a b') (pz_up ml 195 0 w) mr := by
  have hI' := hI
  obtain ⟨⟨t1, t2, t3, -⟩, -⟩ := hI'
  have f1 : pz_ac mi k a b 165 1 = mi 2 3 := by rw [pz_ac_o (by decide)]; exact t3
  obtain ⟨n, hn⟩ : ∃ n : Nat, mi 2 3 = (n : Int) := ⟨(mi 2 3).toNat, by omega⟩
  have en : (mi 2 3).toNat = n := by omega
  have en2 : (pz_ac mi k a b 165 1).toNat = n := by omega
  refine pz_LI_term (n := n) (k := k) (a := a) (b := b) hI hn (by omega) ?_ ?_ ?_ ?_ ?_ ?_ ?_ ?_
  · rw [← hn]
    rcases hk with hk | hk | hk
    · exact .inl hk
    · exact .inr (.inl hk)
    · refine .inr (.inr ⟨hk.1, hk.2.1, hk.2.2.1, hk.2.2.2.1, hk.2.2.2.2.1, ?_⟩)
      unfold pz_am1
      rw [en2, pz_upq (by decide), pz_up_at]
      exact hk.2.2.2.2.2
  · rw [pz_am1_o (by decide)]
    unfold pz_ac
    rw [pz_up_at, hn]
  · unfold pz_am1
    rw [pz_up_at, f1, hn]
  · intro p hp t ht
    unfold pz_am1
    rw [en2]
    unfold pz_ac
    rw [en]
    simp only [List.mem_cons, List.not_mem_nil, or_false] at hp
    rcases hp with rfl | rfl | rfl | rfl | rfl | rfl <;> simp [pz_up, ht]
  · unfold pz_am1
    rw [en2]
    unfold pz_ac
    rw [en]
    simp [pz_up]
  · intro p hp
    simp only [List.mem_cons, List.not_mem_nil, or_false, not_or] at hp
    rw [pz_am1_o (by simp; omega), pz_ac_o (by simp; omega)]
  · intro j h0 h1
    unfold pz_am1
    rw [pz_up_ot h1, pz_upq (by decide), pz_upq (by decide), pz_upq (by decide), pz_up_ot h0, pz_ac_o (by decide)]
  · intro p hp
    exact pz_upq hp
theorem pz_LI_gn {k a b : Int} {w : Int64} (hI : pz_LI xs B Ω mi ml mr) (h40 : mi 6 6 < 40) (hk : ((k = 0 ∨ k = 1) ∧ pz_isT mi a ∧ pz_isT mi b) ∨ ((k = 2 ∨ k = 3) ∧ 0 ≤ a ∧ a < mi 6 6 ∧ 0 ≤ b ∧ b < mi 6 6)) : pz_LI xs B Ω (pz_gm1 (pz_gc mi k a b) k a b) (pz_up ml 195 0 w) mr := by
  have hI' := hI
  obtain ⟨-, ⟨t1, t2, t3, -⟩, -⟩ := hI'
  have f1 : pz_gc mi k a b 165 5 = mi 6 6 := by rw [pz_gc_o (by decide)]; exact t3
  obtain ⟨n, hn⟩ : ∃ n : Nat, mi 6 6 = (n : Int) := ⟨(mi 6 6).toNat, by omega⟩
  have en : (mi 6 6).toNat = n := by omega
  have en2 : (pz_gc mi k a b 165 5).toNat = n := by omega
  have e2 : pz_gm1 (pz_gc mi k a b) k a b 2 = mi 2 := by rw [pz_gm1_o (by decide), pz_gc_o (by decide)]
  have e66 : pz_gm1 (pz_gc mi k a b) k a b 6 6 = (n : Int) + 1 := by
    rw [pz_gm1_o (by decide)]
    unfold pz_gc
    rw [pz_up_at, hn]
  refine pz_LI_goal (n := n) hI hn (by omega) ?_ e66 ?_ ?_ ?_ ?_ ?_
  · have g1 : pz_gm1 (pz_gc mi k a b) k a b 7 n = k ∧ pz_gm1 (pz_gc mi k a b) k a b 8 n = a ∧ pz_gm1 (pz_gc mi k a b) k a b 9 n = b ∧ pz_gm1 (pz_gc mi k a b) k a b 169 n = k ∧ pz_gm1 (pz_gc mi k a b) k a b 170 n = a ∧ pz_gm1 (pz_gc mi k a b) k a b 171 n = b := by
      unfold pz_gm1
      rw [en2]
      unfold pz_gc
      rw [en]
      simp [pz_up]
    obtain ⟨g1, g2, g3, g4, g5, g6⟩ := g1
    unfold pz_gl1 pz_isT
    rw [e2, e66, g1, g2, g3, g4, g5, g6]
    refine ⟨rfl, ?_⟩
    rcases hk with hk | hk
    · exact .inl ⟨hk.1, hk.2.1, hk.2.2, rfl, rfl⟩
    · exact .inr (.inl ⟨hk.1, hk.2.1, by omega, hk.2.2.2.1, by omega, rfl, rfl⟩)
  · unfold pz_gm1
    rw [pz_up_at, f1, hn]
  · intro p hp t ht
    unfold pz_gm1
    rw [en2]
    unfold pz_gc
    rw [en]
    simp only [List.mem_cons, List.not_mem_nil, or_false] at hp
    rcases hp with rfl | rfl | rfl | rfl | rfl | rfl | rfl | rfl | rfl | rfl <;> simp [pz_up, ht]
  · intro p hp
    simp only [List.mem_cons, List.not_mem_nil, or_false, not_or] at hp
    rw [pz_gm1_o (by simp; omega), pz_gc_o (by simp; omega)]
  · intro j h0 h1
    unfold pz_gm1
    rw [pz_up_ot h1, pz_upq (by decide), pz_upq (by decide), pz_upq (by decide), pz_up_ot h0, pz_gc_o (by decide)]
  · intro p hp
    exact pz_upq hp
/-- what a call leaves in the class, and on both sides -/
def pz_gk (mi : Nat → Nat → Int) (a1 a2 a3 a4 : Int) : Nat → Nat → Int := pz_up (pz_up (pz_gc mi 4 a2 a3) 10 ((mi 6 6).toNat) a4) 11 ((mi 6 6).toNat) a1
def pz_gk2 (mi : Nat → Nat → Int) (a1 a2 a3 a4 : Int) : Nat → Nat → Int := pz_up (pz_up (pz_gm1 mi 4 a1 a2) 172 ((mi 165 5).toNat) a3) 173 ((mi 165 5).toNat) a4
theorem pz_gk_o {a1 a2 a3 a4 : Int} {p : Nat} (h : p ∉ [6, 7, 8, 9, 10, 11]) : pz_gk mi a1 a2 a3 a4 p = mi p := by
  simp only [List.mem_cons, List.not_mem_nil, or_false, not_or] at h
  unfold pz_gk
  rw [pz_upq h.2.2.2.2.2, pz_upq h.2.2.2.2.1, pz_gc_o (by simp; omega)]
theorem pz_gk2_o {a1 a2 a3 a4 : Int} {p : Nat} (h : p ∉ [165, 169, 170, 171, 172, 173]) : pz_gk2 mi a1 a2 a3 a4 p = mi p := by
  simp only [List.mem_cons, List.not_mem_nil, or_false, not_or] at h
  unfold pz_gk2
  rw [pz_upq h.2.2.2.2.2, pz_upq h.2.2.2.2.1, pz_gm1_o (by simp; omega)]
theorem pz_LI_ck {a1 a2 a3 a4 : Int} {w : Int64} (hI : pz_LI xs B Ω mi ml mr) (h40 : mi 6 6 < 40) (hk : 0 ≤ a1 ∧ a1 < 4 ∧ pz_isT mi a2 ∧ pz_isT mi a3 ∧ pz_isT mi a4) : pz_LI xs B Ω (pz_gk2 (pz_gk mi a1 a2 a3 a4) a1 a2 a3 a4) (pz_up ml 195 0 w) mr := by
  have hI' := hI
  obtain ⟨-, ⟨t1, t2, t3, -⟩, -⟩ := hI'
  have f1 : pz_gk mi a1 a2 a3 a4 165 5 = mi 6 6 := by rw [pz_gk_o (by decide)]; exact t3
  obtain ⟨n, hn⟩ : ∃ n : Nat, mi 6 6 = (n : Int) := ⟨(mi 6 6).toNat, by omega⟩
  have en : (mi 6 6).toNat = n := by omega
  have en2 : (pz_gk mi a1 a2 a3 a4 165 5).toNat = n := by omega
  have e2 : pz_gk2 (pz_gk mi a1 a2 a3 a4) a1 a2 a3 a4 2 = mi 2 := by rw [pz_gk2_o (by decide), pz_gk_o (by decide)]
  have e66 : pz_gk2 (pz_gk mi a1 a2 a3 a4) a1 a2 a3 a4 6 6 = (n : Int) + 1 := by
    rw [pz_gk2_o (by decide)]
    unfold pz_gk
    rw [pz_upq (by decide), pz_upq (by decide)]
    unfold pz_gc
    rw [pz_up_at, hn]
  refine pz_LI_goal (n := n) hI hn (by omega) ?_ e66 ?_ ?_ ?_ ?_ ?_
  · have g1 : pz_gk2 (pz_gk mi a1 a2 a3 a4) a1 a2 a3 a4 7 n = 4 ∧ pz_gk2 (pz_gk mi a1 a2 a3 a4) a1 a2 a3 a4 8 n = a2 ∧ pz_gk2 (pz_gk mi a1 a2 a3 a4) a1 a2 a3 a4 9 n = a3 ∧ pz_gk2 (pz_gk mi a1 a2 a3 a4) a1 a2 a3 a4 10 n = a4 ∧ pz_gk2 (pz_gk mi a1 a2 a3 a4) a1 a2 a3 a4 11 n = a1 ∧ pz_gk2 (pz_gk mi a1 a2 a3 a4) a1 a2 a3 a4 169 n = 4 ∧ pz_gk2 (pz_gk mi a1 a2 a3 a4) a1 a2 a3 a4 170 n = a1 ∧ pz_gk2 (pz_gk mi a1 a2 a3 a4) a1 a2 a3 a4 171 n = a2 ∧ pz_gk2 (pz_gk mi a1 a2 a3 a4) a1 a2 a3 a4 172 n = a3 ∧ pz_gk2 (pz_gk mi a1 a2 a3 a4) a1 a2 a3 a4 173 n = a4 := by
      unfold pz_gk2
      unfold pz_gm1
      rw [en2]
      unfold pz_gk pz_gc
      rw [en]
      simp [pz_up]
    obtain ⟨g1, g2, g3, g4, g5, g6, g7, g8, g9, g10⟩ := g1
    unfold pz_gl1 pz_isT
    rw [e2, e66, g1, g2, g3, g4, g5, g6, g7, g8, g9, g10]
    exact ⟨rfl, .inr (.inr ⟨rfl, hk.2.2.1, hk.2.2.2.1, hk.2.2.2.2, hk.1, hk.2.1, rfl, rfl, rfl, rfl⟩)⟩
  · unfold pz_gk2
    rw [pz_upq (by decide), pz_upq (by decide)]
    unfold pz_gm1
    rw [pz_up_at, f1, hn]
  · intro p hp t ht
    unfold pz_gk2
    unfold pz_gm1
    rw [en2]
    unfold pz_gk pz_gc
    rw [en]
    simp only [List.mem_cons, List.not_mem_nil, or_false] at hp
    rcases hp with rfl | rfl | rfl | rfl | rfl | rfl | rfl | rfl | rfl | rfl <;> simp [pz_up, ht]
  · intro p hp
    simp only [List.mem_cons, List.not_mem_nil, or_false, not_or] at hp
    rw [pz_gk2_o (by simp; omega), pz_gk_o (by simp; omega)]
  · intro j h0 h1
    unfold pz_gk2
    rw [pz_upq (by decide), pz_upq (by decide)]
    unfold pz_gm1
    rw [pz_up_ot h1, pz_upq (by decide), pz_upq (by decide), pz_upq (by decide), pz_up_ot h0, pz_gk_o (by decide)]
  · intro p hp
    exact pz_upq hp
def pz_IH (n0 c s : Nat) (xs : Nat → Int) (B a4 : Int) (Q : pz_O → pz_H → Prop) : Prop := ∀ (Ω : pz_QS) (mi : Nat → Nat → Int) (ml : Nat → Nat → Int64) (mr : Nat → Nat → Option Nat) (c' s' : Nat), pz_LI xs (B + 200) Ω mi ml mr → c' ≤ c + 1 → s' ≤ s + 6 → pz_Rn 30 148 (23, [], [(0, .inr (.inr (some 0))), (1, .inr (.inr (some 1))), (2, .inr (.inr (some 165))), (3, .inr (.inr (some 195))), (4, .inl (a4 + 5))], pz_hp n0 mi ml mr c' s', true) Q
theorem pz_t127 {a4 a5 v : Int} (hb : 0 ≤ a4 ∧ a4 ≤ 2560) (h1 : mi 165 0 = a5) (h2 : a5 = 0 → ml 195 0 = (Int32.ofInt v).toInt64) (IH : pz_Rn 30 148 (23, [], [(0, .inr (.inr (some 0))), (1, .inr (.inr (some 1))), (2, .inr (.inr (some 165))), (3, .inr (.inr (some 195))), (4, .inl (a4 + 5))], pz_hp n0 mi ml mr c s, true) Q) : pz_Rn 30 148 (127, [.inl v], [(0, .inr (.inr (some 0))), (1, .inr (.inr (some 1))), (2, .inr (.inr (some 165))), (3, .inr (.inr (some 195))), (4, .inl a4), (5, .inl a5)], pz_hp n0 mi ml mr c s, true) Q := pz_g148_127 (pz_g102_0 (pz_g148_133 ⟨fun _ => ⟨fun _ => ⟨by omega, IH⟩, fun h5 => ⟨fun _ => ⟨by omega, IH⟩, fun h => absurd (pz_lc0.mpr (h2 h5)) h⟩⟩, fun h => absurd h1 h⟩))
theorem pz_t183 {a4 a5 v : Int} (hb : 0 ≤ a4 ∧ a4 ≤ 2560) (h1 : mi 165 0 = a5) (h2 : a5 = 0 → ml 195 0 = (Int32.ofInt v).toInt64) (IH : pz_Rn 30 148 (23, [], [(0, .inr (.inr (some 0))), (1, .inr (.inr (some 1))), (2, .inr (.inr (some 165))), (3, .inr (.inr (some 195))), (4, .inl (a4 + 5))], pz_hp n0 mi ml mr c s, true) Q) : pz_Rn 30 148 (183, [.inl v], [(0, .inr (.inr (some 0))), (1, .inr (.inr (some 1))), (2, .inr (.inr (some 165))), (3, .inr (.inr (some 195))), (4, .inl a4), (5, .inl a5)], pz_hp n0 mi ml mr c s, true) Q := pz_g148_183 (pz_g102_0 (pz_g148_189 ⟨fun _ => ⟨fun _ => ⟨by omega, IH⟩, fun h5 => ⟨fun _ => ⟨by omega, IH⟩, fun h => absurd (pz_lc0.mpr (h2 h5)) h⟩⟩, fun h => absurd h1 h⟩))
theorem pz_t251 {a4 a5 v : Int} (hb : 0 ≤ a4 ∧ a4 ≤ 2560) (h1 : mi 165 0 = a5) (h2 : a5 = 0 → ml 195 0 = (Int32.ofInt v).toInt64) (IH : pz_Rn 30 148 (23, [], [(0, .inr (.inr (some 0))), (1, .inr (.inr (some 1))), (2, .inr (.inr (some 165))), (3, .inr (.inr (some 195))), (4, .inl (a4 + 5))], pz_hp n0 mi ml mr c s, true) Q) : pz_Rn 30 148 (251, [.inl v], [(0, .inr (.inr (some 0))), (1, .inr (.inr (some 1))), (2, .inr (.inr (some 165))), (3, .inr (.inr (some 195))), (4, .inl a4), (5, .inl a5)], pz_hp n0 mi ml mr c s, true) Q := pz_g148_251 (pz_g102_0 (pz_g148_257 ⟨fun _ => ⟨fun _ => ⟨by omega, IH⟩, fun h5 => ⟨fun _ => ⟨by omega, IH⟩, fun h => absurd (pz_lc0.mpr (h2 h5)) h⟩⟩, fun h => absurd h1 h⟩))
theorem pz_t347 {a4 a5 v : Int} (hb : 0 ≤ a4 ∧ a4 ≤ 2560) (h1 : mi 165 0 = a5) (h2 : a5 = 0 → ml 195 0 = (Int32.ofInt v).toInt64) (IH : pz_Rn 30 148 (23, [], [(0, .inr (.inr (some 0))), (1, .inr (.inr (some 1))), (2, .inr (.inr (some 165))), (3, .inr (.inr (some 195))), (4, .inl (a4 + 5))], pz_hp n0 mi ml mr c s, true) Q) : pz_Rn 30 148 (347, [.inl v], [(0, .inr (.inr (some 0))), (1, .inr (.inr (some 1))), (2, .inr (.inr (some 165))), (3, .inr (.inr (some 195))), (4, .inl a4), (5, .inl a5)], pz_hp n0 mi ml mr c s, true) Q := pz_g148_347 (pz_g102_0 (pz_g148_353 ⟨fun _ => ⟨fun _ => ⟨by omega, IH⟩, fun h5 => ⟨fun _ => ⟨by omega, IH⟩, fun h => absurd (pz_lc0.mpr (h2 h5)) h⟩⟩, fun h => absurd h1 h⟩))
theorem pz_t443 {a4 a5 v : Int} (hb : 0 ≤ a4 ∧ a4 ≤ 2560) (h1 : mi 165 0 = a5) (h2 : a5 = 0 → ml 195 0 = (Int32.ofInt v).toInt64) (IH : pz_Rn 30 148 (23, [], [(0, .inr (.inr (some 0))), (1, .inr (.inr (some 1))), (2, .inr (.inr (some 165))), (3, .inr (.inr (some 195))), (4, .inl (a4 + 5))], pz_hp n0 mi ml mr c s, true) Q) : pz_Rn 30 148 (443, [.inl v], [(0, .inr (.inr (some 0))), (1, .inr (.inr (some 1))), (2, .inr (.inr (some 165))), (3, .inr (.inr (some 195))), (4, .inl a4), (5, .inl a5)], pz_hp n0 mi ml mr c s, true) Q := pz_g148_443 (pz_g102_0 (pz_g148_449 ⟨fun _ => ⟨fun _ => ⟨by omega, IH⟩, fun h5 => ⟨fun _ => ⟨by omega, IH⟩, fun h => absurd (pz_lc0.mpr (h2 h5)) h⟩⟩, fun h => absurd h1 h⟩))
theorem pz_t535 {a4 a5 v : Int} (hb : 0 ≤ a4 ∧ a4 ≤ 2560) (h1 : mi 165 0 = a5) (h2 : a5 = 0 → ml 195 0 = (Int32.ofInt v).toInt64) (IH : pz_Rn 30 148 (23, [], [(0, .inr (.inr (some 0))), (1, .inr (.inr (some 1))), (2, .inr (.inr (some 165))), (3, .inr (.inr (some 195))), (4, .inl (a4 + 5))], pz_hp n0 mi ml mr c s, true) Q) : pz_Rn 30 148 (535, [.inl v], [(0, .inr (.inr (some 0))), (1, .inr (.inr (some 1))), (2, .inr (.inr (some 165))), (3, .inr (.inr (some 195))), (4, .inl a4), (5, .inl a5)], pz_hp n0 mi ml mr c s, true) Q := pz_g148_535 (pz_g102_0 (pz_g148_541 ⟨fun _ => ⟨fun _ => ⟨by omega, IH⟩, fun h5 => ⟨fun _ => ⟨by omega, IH⟩, fun h => absurd (pz_lc0.mpr (h2 h5)) h⟩⟩, fun h => absurd h1 h⟩))
theorem pz_t703 {a4 a5 v : Int} (hb : 0 ≤ a4 ∧ a4 ≤ 2560) (h1 : mi 165 0 = a5) (h2 : a5 = 0 → ml 195 0 = (Int32.ofInt v).toInt64) (IH : pz_Rn 30 148 (23, [], [(0, .inr (.inr (some 0))), (1, .inr (.inr (some 1))), (2, .inr (.inr (some 165))), (3, .inr (.inr (some 195))), (4, .inl (a4 + 5))], pz_hp n0 mi ml mr c s, true) Q) : pz_Rn 30 148 (703, [.inl v], [(0, .inr (.inr (some 0))), (1, .inr (.inr (some 1))), (2, .inr (.inr (some 165))), (3, .inr (.inr (some 195))), (4, .inl a4), (5, .inl a5)], pz_hp n0 mi ml mr c s, true) Q := pz_g148_703 (pz_g102_0 (pz_g148_709 ⟨fun _ => ⟨fun _ => ⟨by omega, IH⟩, fun h5 => ⟨fun _ => ⟨by omega, IH⟩, fun h => absurd (pz_lc0.mpr (h2 h5)) h⟩⟩, fun h => absurd h1 h⟩))
theorem pz_t772 {a4 a5 v : Int} (hb : 0 ≤ a4 ∧ a4 ≤ 2560) (h1 : mi 165 0 = a5) (h2 : a5 = 0 → ml 195 0 = (Int32.ofInt v).toInt64) (IH : pz_Rn 30 148 (23, [], [(0, .inr (.inr (some 0))), (1, .inr (.inr (some 1))), (2, .inr (.inr (some 165))), (3, .inr (.inr (some 195))), (4, .inl (a4 + 5))], pz_hp n0 mi ml mr c s, true) Q) : pz_Rn 30 148 (772, [.inl v], [(0, .inr (.inr (some 0))), (1, .inr (.inr (some 1))), (2, .inr (.inr (some 165))), (3, .inr (.inr (some 195))), (4, .inl a4), (5, .inl a5)], pz_hp n0 mi ml mr c s, true) Q := pz_g148_772 (pz_g102_0 (pz_g148_778 ⟨fun _ => ⟨fun _ => ⟨by omega, IH⟩, fun h5 => ⟨fun _ => ⟨by omega, IH⟩, fun h => absurd (pz_lc0.mpr (h2 h5)) h⟩⟩, fun h => absurd h1 h⟩))
theorem pz_t852 {a4 a5 v : Int} (hb : 0 ≤ a4 ∧ a4 ≤ 2560) (h1 : mi 165 0 = a5) (h2 : a5 = 0 → ml 195 0 = (Int32.ofInt v).toInt64) (IH : pz_Rn 30 148 (23, [], [(0, .inr (.inr (some 0))), (1, .inr (.inr (some 1))), (2, .inr (.inr (some 165))), (3, .inr (.inr (some 195))), (4, .inl (a4 + 5))], pz_hp n0 mi ml mr c s, true) Q) : pz_Rn 30 148 (852, [.inl v], [(0, .inr (.inr (some 0))), (1, .inr (.inr (some 1))), (2, .inr (.inr (some 165))), (3, .inr (.inr (some 195))), (4, .inl a4), (5, .inl a5)], pz_hp n0 mi ml mr c s, true) Q := pz_g148_852 (pz_g102_0 (pz_g148_858 ⟨fun _ => ⟨fun _ => ⟨by omega, IH⟩, fun h5 => ⟨fun _ => ⟨by omega, IH⟩, fun h => absurd (pz_lc0.mpr (h2 h5)) h⟩⟩, fun h => absurd h1 h⟩))
theorem pz_t908 {a4 a5 v : Int} (hb : 0 ≤ a4 ∧ a4 ≤ 2560) (h1 : mi 165 0 = a5) (h2 : a5 = 0 → ml 195 0 = (Int32.ofInt v).toInt64) (IH : pz_Rn 30 148 (23, [], [(0, .inr (.inr (some 0))), (1, .inr (.inr (some 1))), (2, .inr (.inr (some 165))), (3, .inr (.inr (some 195))), (4, .inl (a4 + 5))], pz_hp n0 mi ml mr c s, true) Q) : pz_Rn 30 148 (908, [.inl v], [(0, .inr (.inr (some 0))), (1, .inr (.inr (some 1))), (2, .inr (.inr (some 165))), (3, .inr (.inr (some 195))), (4, .inl a4), (5, .inl a5)], pz_hp n0 mi ml mr c s, true) Q := pz_g148_908 (pz_g102_0 (pz_g148_914 ⟨fun _ => ⟨fun _ => ⟨by omega, IH⟩, fun h5 => ⟨fun _ => ⟨by omega, IH⟩, fun h => absurd (pz_lc0.mpr (h2 h5)) h⟩⟩, fun h => absurd h1 h⟩))
theorem pz_t602 {a4 a5 : Int} (hb : 0 ≤ a4 ∧ a4 ≤ 2560) (h1 : mi 165 0 = a5) (IH : pz_Rn 30 148 (23, [], [(0, .inr (.inr (some 0))), (1, .inr (.inr (some 1))), (2, .inr (.inr (some 165))), (3, .inr (.inr (some 195))), (4, .inl (a4 + 5))], pz_hp n0 mi ml mr c s, true) Q) : pz_Rn 30 148 (602, [], [(0, .inr (.inr (some 0))), (1, .inr (.inr (some 1))), (2, .inr (.inr (some 165))), (3, .inr (.inr (some 195))), (4, .inl a4), (5, .inl a5)], pz_hp n0 mi ml mr c s, true) Q := pz_g148_602 (pz_g102_0 (pz_g148_606 ⟨fun _ => ⟨by omega, IH⟩, fun h => absurd h1 h⟩))
theorem pz_t638 {a4 a5 : Int} (hb : 0 ≤ a4 ∧ a4 ≤ 2560) (h1 : mi 165 0 = a5) (IH : pz_Rn 30 148 (23, [], [(0, .inr (.inr (some 0))), (1, .inr (.inr (some 1))), (2, .inr (.inr (some 165))), (3, .inr (.inr (some 195))), (4, .inl (a4 + 5))], pz_hp n0 mi ml mr c s, true) Q) : pz_Rn 30 148 (638, [], [(0, .inr (.inr (some 0))), (1, .inr (.inr (some 1))), (2, .inr (.inr (some 165))), (3, .inr (.inr (some 195))), (4, .inl a4), (5, .inl a5)], pz_hp n0 mi ml mr c s, true) Q := pz_g148_638 (pz_g102_0 (pz_g148_642 ⟨fun _ => ⟨by omega, IH⟩, fun h => absurd h1 h⟩))
end pzX5
