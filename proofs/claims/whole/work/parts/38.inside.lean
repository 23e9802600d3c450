/-! What a call leaves as it was; stacks of items; the class's occurs check. -/
def pz_fr (A B : List Nat) (mi mi' : Nat → Nat → Int) : Prop := (∀ p, p ∉ A → p ≠ 165 → mi' p = mi p) ∧ ∀ k, k ∉ B → mi' 165 k = mi 165 k
def pz_te (mi mi' : Nat → Nat → Int) : Prop := mi' 2 = mi 2 ∧ mi' 3 = mi 3 ∧ mi' 4 = mi 4 ∧ mi' 5 = mi 5 ∧ mi' 166 = mi 166 ∧ mi' 167 = mi 167 ∧ mi' 168 = mi 168 ∧ mi' 165 1 = mi 165 1
section pzq
variable {mi mi' mi'' : Nat → Nat → Int} {A B : List Nat} {F : Int} {σ : Nat → Option Nat}
theorem pz_upq {α : Type} {f : Nat → Nat → α} {p q k : Nat} {v : α} (h : q ≠ p) : pz_up f p k v q = f q := by
  funext j
  exact if_neg (fun e => h e.1)
theorem pz_up_at {α : Type} {f : Nat → Nat → α} {p k : Nat} {v : α} : pz_up f p k v p k = v := if_pos ⟨rfl, rfl⟩
theorem pz_up_ot {α : Type} {f : Nat → Nat → α} {p k j : Nat} {v : α} (h : j ≠ k) : pz_up f p k v p j = f p j := if_neg (fun e => h e.2)
theorem pz_fr_refl : pz_fr A B mi mi := ⟨fun _ _ _ => rfl, fun _ _ => rfl⟩
theorem pz_fr_trans (h : pz_fr A B mi mi') (h' : pz_fr A B mi' mi'') : pz_fr A B mi mi'' := ⟨fun p h1 h2 => (h'.1 p h1 h2).trans (h.1 p h1 h2), fun k h1 => (h'.2 k h1).trans (h.2 k h1)⟩
theorem pz_fr_up {p k : Nat} {v : Int} (h : p ∈ A) (h2 : p ≠ 165) : pz_fr A B mi (pz_up mi p k v) := ⟨fun q h3 _ => pz_upq (fun e => h3 (e ▸ h)), fun j _ => by rw [pz_upq (fun e => h2 e.symm)]⟩
theorem pz_te_refl : pz_te mi mi := ⟨rfl, rfl, rfl, rfl, rfl, rfl, rfl, rfl⟩
theorem pz_te_trans (h : pz_te mi mi') (h' : pz_te mi' mi'') : pz_te mi mi'' := ⟨h'.1.trans h.1, h'.2.1.trans h.2.1, h'.2.2.1.trans h.2.2.1, h'.2.2.2.1.trans h.2.2.2.1, h'.2.2.2.2.1.trans h.2.2.2.2.1, h'.2.2.2.2.2.1.trans h.2.2.2.2.2.1, h'.2.2.2.2.2.2.1.trans h.2.2.2.2.2.2.1, h'.2.2.2.2.2.2.2.trans h.2.2.2.2.2.2.2⟩
theorem pz_te_fr (h : pz_fr A B mi mi') (hA : A.all (fun p => !([2, 3, 4, 5, 166, 167, 168].contains p)) = true) (hB : B.all (fun k => !(k == 1)) = true) : pz_te mi mi' := by
  have h1 : ∀ p, p ∈ [2, 3, 4, 5, 166, 167, 168] → p ∉ A := by
    intro p hp hn
    have := List.all_eq_true.mp hA p hn
    rw [List.contains_iff_mem.mpr hp] at this
    cases this
  have h2 : 1 ∉ B := by
    intro hn
    have := List.all_eq_true.mp hB 1 hn
    cases this
  exact ⟨h.1 _ (h1 _ (by decide)) (by decide), h.1 _ (h1 _ (by decide)) (by decide), h.1 _ (h1 _ (by decide)) (by decide), h.1 _ (h1 _ (by decide)) (by decide), h.1 _ (h1 _ (by decide)) (by decide), h.1 _ (h1 _ (by decide)) (by decide), h.1 _ (h1 _ (by decide)) (by decide), h.2 1 h2⟩
theorem pz_tm_te (h : pz_te mi mi') (ht : pz_tm mi) : pz_tm mi' := by
  obtain ⟨e1, e2, e3, e4, e5, e6, e7, e8⟩ := h
  unfold pz_tm pz_tm1
  rw [e1, e2, e3, e4, e5, e6, e7, e8]
  exact ht
theorem pz_cs_te (h : pz_te mi mi') : pz_cs mi' = pz_cs mi := by
  obtain ⟨e1, e2, e3, e4, e5, e6, e7, e8⟩ := h
  funext x
  unfold pz_cs
  rw [e2, e3]
theorem pz_cm_te (h : pz_te mi mi') : pz_cm mi' = pz_cm mi := by
  obtain ⟨e1, e2, e3, e4, e5, e6, e7, e8⟩ := h
  funext x
  unfold pz_cm
  rw [e5, e6]
theorem pz_vs_te (h : pz_te mi mi') : pz_vs mi' = pz_vs mi := by
  funext F x
  unfold pz_vs
  rw [h.1]
theorem pz_vm_te (h : pz_te mi mi') : pz_vm mi' = pz_vm mi := by
  funext F x
  unfold pz_vm
  rw [h.1]
theorem pz_kd1_te (h : pz_te mi mi') : pz_kd1 mi' = pz_kd1 mi := by
  funext a
  unfold pz_kd1
  rw [h.2.1]
theorem pz_hf_te (h : pz_te mi mi') : pz_hf mi' = pz_hf mi := by
  funext a b
  unfold pz_hf
  rw [pz_cs_te h, h.2.2.1, h.2.2.2.1]
theorem pz_sp_te (h : pz_te mi mi') (h2 : mi' 154 = mi 154) (hs : pz_sp mi F σ) : pz_sp mi' F σ := by
  unfold pz_sp
  rw [h2, pz_cs_te h, pz_vs_te h]
  exact hs
-- items, by what their terms are
theorem pz_kd_cs (ht : pz_tm mi) (hF : F ≤ 40) {x : Int} (hx : pz_vs mi F x) : pz_kd1 mi (pz_cs mi x) = mi 3 (x % 41).toNat := by
  have hf := pz_vs_f ht hx
  have h1 := hx.1
  have h2 := hx.2.1
  by_cases hk : mi 3 (x % 41).toNat = 1
  · rw [pz_cs_v hk, hk]
    unfold pz_kd1
    rw [if_pos (by omega)]
  · rw [pz_cs_n hk]
    unfold pz_kd1 pz_ct1
    rw [if_neg (by omega)]
    have e : (1000 + x.toNat - 1000) % 41 = (x % 41).toNat := by omega
    rw [e]
theorem pz_hf_cs (ht : pz_tm mi) {x : Int} (hx : pz_vs mi F x) (hk : mi 3 (x % 41).toNat = 2) (b : Bool) : pz_hf mi (pz_cs mi x) b = pz_cs mi (x / 41 * 41 + (if b then mi 4 (x % 41).toNat else mi 5 (x % 41).toNat)) ∧ pz_vs mi F (x / 41 * 41 + (if b then mi 4 (x % 41).toNat else mi 5 (x % 41).toNat)) := by
  have hf := pz_vs_f ht hx
  have h1 := hx.1
  have h2 := hx.2.1
  have hk1 : mi 3 (x % 41).toNat ≠ 1 := by omega
  constructor
  · rw [pz_cs_n hk1]
    unfold pz_hf pz_ct1
    have e : (1000 + x.toNat - 1000) % 41 = (x % 41).toNat := by omega
    have e2 : (41 * ((1000 + x.toNat - 1000) / 41 : Nat) : Int) = x / 41 * 41 := by omega
    rw [e, e2]
  · cases b
    · refine ⟨?_, ?_, .inl ?_⟩ <;> simp only [Bool.false_eq_true, if_false] <;> omega
    · refine ⟨?_, ?_, .inl ?_⟩ <;> simp only [if_true] <;> omega
-- stacks of spots in an array of the class, the top first
def pz_sk (mi : Nat → Nat → Int) (a : Nat) (F : Int) (st : List Nat) : Prop := match st with
  | [] => True
  | x :: r => pz_vs mi F (mi a r.length) ∧ pz_cs mi (mi a r.length) = x ∧ pz_sk mi a F r
theorem pz_sk_te {a : Nat} (h : pz_te mi mi') {st : List Nat} (h2 : ∀ j, j < st.length → mi' a j = mi a j) (hs : pz_sk mi a F st) : pz_sk mi' a F st := by
  induction st with
  | nil => trivial
  | cons x r ih =>
    unfold pz_sk at hs ⊢
    rw [h2 _ (by rw [List.length_cons]; omega), pz_vs_te h, pz_cs_te h]
    exact ⟨hs.1, hs.2.1, ih (fun j hj => h2 j (by rw [List.length_cons]; omega)) hs.2.2⟩
end pzq
section pzr
variable {d n0 : Nat} {mi : Nat → Nat → Int} {ml : Nat → Nat → Int64} {mr : Nat → Nat → Option Nat} {c s : Nat} {F : Int} {σ : Nat → Option Nat} {Q : pz_O → pz_H → Prop}
theorem pz_spot {f t : Int} (h1 : 0 ≤ f ∧ f ≤ 100) (h2 : -100 ≤ t ∧ t ≤ 100) : pz_Rn d 44 (0, [], [(0, .inl f), (1, .inl t)], pz_hp n0 mi ml mr c s, true) (fun o h => o = .inl (some (.inl (f * 41 + t))) ∧ h = pz_hp n0 mi ml mr c s) := pz_g44_0 ⟨by omega, by omega, rfl, rfl⟩
theorem pz_varAt (ht : pz_tm mi) (hF : F ≤ 40) {x : Int} (hx : pz_vs mi F x) : pz_Rn d 51 (0, [], [(0, .inr (.inr (some 150))), (1, .inl x)], pz_hp n0 mi ml mr c s, true) (fun o h => o = .inl (some (.inl (x / 41 * 6 + mi 4 (x % 41).toNat))) ∧ h = pz_hp n0 mi ml mr c s) := by
  have hf := pz_vs_f ht hx
  have h1 := hx.1
  have h2 := hx.2.1
  exact pz_g51_0 ⟨h1, by omega, h1, by omega, by omega, rfl, rfl⟩
/-- behind a call whose answer is not named -/
theorem pz_Rn_e {d' y m pc : Nat} {fr : pz_S} {P : pz_O → pz_H → Prop} {rest : List pz_V} {L : List (Nat × pz_V)} {ex : Bool} (hd : d' ≤ d) (cc : pz_Rn d' y fr P) (k : ∀ o h, P o h → pz_K (d + 1) m pc rest L Q ex o h) : pz_Rn d y fr (pz_K (d + 1) m pc rest L Q ex) := pz_Rn.mono hd cc k
set_option maxHeartbeats 1000000 in
theorem pz_in_b (ht : pz_tm mi) (hF : F ≤ 40) (hs : pz_sp mi F σ) {v : Nat} (hv : v < 1000) {a : Nat} {st : List Nat} (hl : 0 ≤ mi 155 5 ∧ mi 155 5 ≤ 500) (hn : (st.length : Int) ≤ mi 155 5) (hk : pz_sk mi 158 F (a :: st))
    (K1 : pz_W σ a = v → Q (.inl (some (.inl 1))) (pz_hp n0 (pz_up mi 155 5 (mi 155 5 + 1)) ml mr c s))
    (K2 : pz_W σ a ≠ v → pz_kd1 mi (pz_W σ a) = 2 → ∀ mi', pz_fr [155, 158] [] mi mi' → mi' 155 5 = mi 155 5 + 1 → pz_sk mi' 158 F (pz_hf mi (pz_W σ a) true :: pz_hf mi (pz_W σ a) false :: st) → pz_Rn (d + 1) 53 (9, [], [(0, .inr (.inr (some 155))), (1, .inl (v : Int)), (3, .inl ((st.length + 2 : Nat) : Int))], pz_hp n0 mi' ml mr c s, true) Q)
    (K3 : pz_W σ a ≠ v → pz_kd1 mi (pz_W σ a) ≠ 2 → pz_Rn (d + 1) 53 (9, [], [(0, .inr (.inr (some 155))), (1, .inl (v : Int)), (3, .inl (st.length : Int))], pz_hp n0 (pz_up mi 155 5 (mi 155 5 + 1)) ml mr c s, true) Q) :
    pz_Rn (d + 1) 53 (9, [], [(0, .inr (.inr (some 155))), (1, .inl (v : Int)), (3, .inl ((a :: st).length : Int))], pz_hp n0 mi ml mr c s, true) Q := by
  have hL : (((a :: st).length : Nat) : Int) = st.length + 1 := by rw [List.length_cons]; omega
  obtain ⟨k1, k2, k3⟩ := hk
  have e1 : (((a :: st).length : Int) + (-1)).toNat = st.length := by omega
  have e2 : ((a :: st).length : Int) + (-1) = (st.length : Int) := by omega
  have fr1 : pz_fr [155, 158] [] mi (pz_up mi 155 5 (mi 155 5 + 1)) := pz_fr_up (by decide) (by decide)
  have te1 : pz_te mi (pz_up mi 155 5 (mi 155 5 + 1)) := pz_te_fr fr1 (by decide) (by decide)
  have ht1 := pz_tm_te te1 ht
  have hs1 := pz_sp_te te1 (pz_upq (by decide)) hs
  refine pz_g53_9 ⟨fun h => absurd h (by omega), fun _ => ⟨fun h => absurd h (by omega), fun _ => ⟨by omega, by omega, by omega, ?_⟩⟩⟩
  rw [e1, e2]
  have k1' : pz_vs (pz_up mi 155 5 (mi 155 5 + 1)) F (mi 158 st.length) := by rw [pz_vs_te te1]; exact k1
  refine pz_Rn_e (Nat.le_refl d) (pz_find ht1 hF hs1 k1') ?_
  rintro _ _ ⟨y, ⟨rfl, rfl⟩, hy, ey⟩
  rw [pz_cs_te te1] at ey
  rw [k2] at ey
  rw [pz_vs_te te1] at hy
  have kd := pz_kd_cs ht hF hy
  rw [ey] at kd
  have hf := pz_vs_f ht hy
  have y1 := hy.1
  have y2 := hy.2.1
  have m3 : (pz_up mi 155 5 (mi 155 5 + 1)) 3 = mi 3 := pz_upq (by decide)
  have m4 : (pz_up mi 155 5 (mi 155 5 + 1)) 4 = mi 4 := pz_upq (by decide)
  have m5 : (pz_up mi 155 5 (mi 155 5 + 1)) 5 = mi 5 := pz_upq (by decide)
  refine pz_g53_49 ⟨y1, fun t et => ?_⟩
  subst et
  rw [m3, m5]
  refine ⟨by omega, fun h => ⟨by omega, fun h2 => ?_, fun h2 => ?_⟩, fun h => ?_⟩
  · exact K3 (by rw [← ey, pz_cs_n h]; omega) (by rw [kd]; exact h2)
  · have hne : pz_W σ a ≠ v := by rw [← ey, pz_cs_n h]; omega
    have g1 := pz_hf_cs ht hy h2 true
    have g0 := pz_hf_cs ht hy h2 false
    rw [ey] at g1 g0
    simp only [if_true, Bool.false_eq_true, if_false] at g1 g0
    refine ⟨y1, by omega, pz_Rn_c (Nat.zero_le d) (pz_spot (by omega) (by omega)) ?_⟩
    refine pz_g53_124 ⟨by omega, by omega, y1, by omega, ?_⟩
    rw [m4]
    refine pz_Rn_c (Nat.zero_le d) (pz_spot (by omega) (by omega)) ?_
    refine pz_g53_150 ⟨by omega, by omega, ?_⟩
    have e3 : ((st.length : Int) + 1).toNat = st.length + 1 := by omega
    have e4 : (st.length : Int) + 2 = ((st.length + 2 : Nat) : Int) := by omega
    have e5 : ((st.length : Int)).toNat = st.length := by omega
    rw [e3, e4, e5]
    have fr2 : pz_fr [155, 158] [] mi (pz_up (pz_up (pz_up mi 155 5 (mi 155 5 + 1)) 158 st.length (y / 41 * 41 + mi 5 (y % 41).toNat)) 158 (st.length + 1) (y / 41 * 41 + mi 4 (y % 41).toNat)) := pz_fr_trans (pz_fr_trans fr1 (pz_fr_up (by decide) (by decide))) (pz_fr_up (by decide) (by decide))
    have te2 := pz_te_fr fr2 (by decide) (by decide)
    refine K2 hne (by rw [kd]; exact h2) _ fr2 ?_ ?_
    · rw [pz_upq (by decide), pz_upq (by decide)]
      exact pz_up_at
    · unfold pz_sk
      rw [List.length_cons, pz_up_at, pz_vs_te te2, pz_cs_te te2]
      refine ⟨g1.2, g1.1.symm, ?_⟩
      unfold pz_sk
      rw [pz_up_ot (by omega), pz_up_at, pz_vs_te te2, pz_cs_te te2]
      refine ⟨g0.2, g0.1.symm, ?_⟩
      refine pz_sk_te te2 (fun j hj => ?_) k3
      rw [pz_up_ot (by omega), pz_up_ot (by omega), pz_upq (by decide)]
  · have hvr := pz_varAt (d := 0) (n0 := n0) (ml := ml) (mr := mr) (c := c) (s := s) ht1 hF (x := y) (by rw [pz_vs_te te1]; exact hy)
    rw [m4] at hvr
    refine pz_Rn_c (Nat.zero_le d) hvr ?_
    have ec := pz_cs_v h
    rw [ey] at ec
    refine pz_g53_81 ⟨fun h2 => ⟨by omega, ?_⟩, fun h2 => K1 (by omega)⟩
    rw [m3]
    exact ⟨fun h3 => K3 (by omega) (by rw [kd]; exact h3), fun h3 => absurd h3 (by omega)⟩
/-- how the occurs check ends -/
def pz_inQ (n0 : Nat) (ml : Nat → Nat → Int64) (mr : Nat → Nat → Option Nat) (c s : Nat) (mi : Nat → Nat → Int) (x : Option (Bool × Nat)) : pz_O → pz_H → Prop := fun o h => ∃ mi' b, (o = .inl (some (.inl b)) ∧ h = pz_hp n0 mi' ml mr c s) ∧ pz_fr [155, 158] [] mi mi' ∧ (b = 0 ∨ b = 1) ∧ match x with
  | none => mi' 155 5 = 501
  | some (q, k) => b = (if q then 1 else 0) ∧ mi' 155 5 = 500 - (k : Int) ∧ k ≤ 500
theorem pz_inQ_up {mi mi' : Nat → Nat → Int} (h : pz_fr [155, 158] [] mi mi') {x : Option (Bool × Nat)} {o : pz_O} {hp : pz_H} : pz_inQ n0 ml mr c s mi' x o hp → pz_inQ n0 ml mr c s mi x o hp := by
  rintro ⟨m, b, h1, h2, h3⟩
  exact ⟨m, b, h1, pz_fr_trans h h2, h3⟩
theorem pz_in_x {v st : Int} {mi0 : Nat → Nat → Int} (hfr : pz_fr [155, 158] [] mi0 mi) (h : mi 155 5 = 501) : pz_Rn (d + 1) 53 (9, [], [(0, .inr (.inr (some 155))), (1, .inl v), (3, .inl st)], pz_hp n0 mi ml mr c s, true) (pz_inQ n0 ml mr c s mi0 none) :=
  pz_g53_9 ⟨fun _ => ⟨mi, 0, ⟨rfl, rfl⟩, hfr, .inl rfl, h⟩, fun _ => ⟨fun _ => ⟨mi, 0, ⟨rfl, rfl⟩, hfr, .inl rfl, h⟩, fun h2 => absurd h2 (by omega)⟩⟩
theorem pz_in1 {mi0 : Nat → Nat → Int} (ht : pz_tm mi0) (hF : F ≤ 40) {v : Nat} (hv : v < 1000) : ∀ (r : Nat) (st : List Nat) (mi : Nat → Nat → Int), pz_te mi0 mi → pz_sp mi F σ → r ≤ 500 → mi 155 5 = 500 - (r : Int) → (st.length : Int) ≤ mi 155 5 + 1 → pz_sk mi 158 F st →
    pz_Rn (d + 1) 53 (9, [], [(0, .inr (.inr (some 155))), (1, .inl (v : Int)), (3, .inl (st.length : Int))], pz_hp n0 mi ml mr c s, true) (pz_inQ n0 ml mr c s mi (pz_oc mi0 σ v r st)) := by
  intro r
  induction r with
  | zero =>
    intro st mi hte hs hr hl hn hk
    cases st with
    | nil => exact pz_g53_9 ⟨fun _ => ⟨mi, 0, ⟨rfl, rfl⟩, pz_fr_refl, .inl rfl, rfl, hl, by omega⟩, fun h => absurd h (by decide)⟩
    | cons a st =>
      have hL : (((a :: st).length : Nat) : Int) = st.length + 1 := by rw [List.length_cons]; omega
      have fr1 : pz_fr [155, 158] [] mi (pz_up mi 155 5 (mi 155 5 + 1)) := pz_fr_up (by decide) (by decide)
      have e1 : pz_up mi 155 5 (mi 155 5 + 1) 155 5 = 501 := by rw [pz_up_at]; omega
      refine pz_in_b (pz_tm_te hte ht) hF hs hv (by omega) (by omega) hk (fun _ => ?_) (fun _ _ mi' h1 h2 _ => ?_) (fun _ _ => ?_)
      · exact ⟨_, 1, ⟨rfl, rfl⟩, fr1, .inr rfl, e1⟩
      · exact pz_in_x h1 (by omega)
      · exact pz_in_x fr1 e1
  | succ r ih =>
    intro st mi hte hs hr hl hn hk
    cases st with
    | nil => exact pz_g53_9 ⟨fun _ => ⟨mi, 0, ⟨rfl, rfl⟩, pz_fr_refl, .inl rfl, rfl, hl, by omega⟩, fun h => absurd h (by decide)⟩
    | cons a st =>
      have hL : (((a :: st).length : Nat) : Int) = st.length + 1 := by rw [List.length_cons]; omega
      have fr1 : pz_fr [155, 158] [] mi (pz_up mi 155 5 (mi 155 5 + 1)) := pz_fr_up (by decide) (by decide)
      have e1 : pz_up mi 155 5 (mi 155 5 + 1) 155 5 = mi 155 5 + 1 := pz_up_at
      have te1 := pz_te_fr fr1 (by decide) (by decide)
      have eo : pz_oc mi0 σ v (r + 1) (a :: st) = if pz_W σ a = v then some (true, r) else if pz_kd1 mi0 (pz_W σ a) = 2 then pz_oc mi0 σ v r (pz_hf mi0 (pz_W σ a) true :: pz_hf mi0 (pz_W σ a) false :: st) else pz_oc mi0 σ v r st := rfl
      rw [eo]
      refine pz_in_b (pz_tm_te hte ht) hF hs hv (by omega) (by omega) hk (fun h => ?_) (fun h h2 mi' h3 h4 h5 => ?_) (fun h h2 => ?_)
      · rw [if_pos h]
        exact ⟨_, 1, ⟨rfl, rfl⟩, fr1, .inr rfl, rfl, by rw [e1]; omega, by omega⟩
      · rw [pz_kd1_te hte] at h2
        rw [pz_hf_te hte] at h5
        rw [if_neg h, if_pos h2]
        have te3 := pz_te_fr h3 (by decide) (by decide)
        exact (ih _ mi' (pz_te_trans hte te3) (pz_sp_te te3 (h3.1 154 (by decide) (by decide)) hs) (by omega) (by omega) (by rw [List.length_cons, List.length_cons]; omega) h5).mono (Nat.le_refl _) (fun _ _ => pz_inQ_up h3)
      · rw [pz_kd1_te hte] at h2
        rw [if_neg h, if_neg h2]
        exact (ih st _ (pz_te_trans hte te1) (pz_sp_te te1 (fr1.1 154 (by decide) (by decide)) hs) (by omega) (by rw [e1]; omega) (by rw [e1]; omega) (pz_sk_te te1 (fun j _ => by rw [pz_upq (by decide)]) hk.2.2)).mono (Nat.le_refl _) (fun _ _ => pz_inQ_up fr1)
/-- Matcher.isInside -/
theorem pz_inside (ht : pz_tm mi) (hF : F ≤ 40) (hs : pz_sp mi F σ) {v : Nat} (hv : v < 1000) {x : Int} (hx : pz_vs mi F x) {r : Nat} (hr : r ≤ 500) (hl : mi 155 5 = 500 - (r : Int)) :
    pz_Rn (d + 1) 53 (0, [], [(0, .inr (.inr (some 155))), (1, .inl (v : Int)), (2, .inl x)], pz_hp n0 mi ml mr c s, true) (pz_inQ n0 ml mr c s mi (pz_oc mi σ v r [pz_cs mi x])) := by
  have fr1 : pz_fr [155, 158] [] mi (pz_up mi 158 0 x) := pz_fr_up (by decide) (by decide)
  have te1 := pz_te_fr fr1 (by decide) (by decide)
  refine pz_g53_0 ?_
  refine (pz_in1 (σ := σ) ht hF hv r [pz_cs mi x] (pz_up mi 158 0 x) te1 (pz_sp_te te1 (fr1.1 154 (by decide) (by decide)) hs) hr ?_ ?_ ?_).mono (Nat.le_refl _) (fun _ _ => pz_inQ_up fr1)
  · rw [pz_upq (by decide)]
    exact hl
  · rw [pz_upq (by decide)]
    show (1 : Int) ≤ _
    omega
  · refine ⟨?_, ?_, trivial⟩
    · rw [pz_vs_te te1]
      exact hx
    · rw [pz_cs_te te1]
      rfl
end pzr
