/-! The reference's bind, meet and matches. -/
theorem pz_nd_len {N : Nat} {l : List Nat} (h : l.Nodup) (hb : ∀ x ∈ l, x < N) : l.length ≤ N := by
  apply Classical.byContradiction
  intro hn
  have hg : ∀ i, i ≤ N → ∃ hi : i < l.length, (l[i]?).getD 0 = l[i] := by
    intro i hi
    have h1 : i < l.length := by omega
    exact ⟨h1, by rw [List.getElem?_eq_getElem h1]; rfl⟩
  obtain ⟨i, j, h1, h2, e⟩ := pz_pig N (fun i => (l[i]?).getD 0) (fun i hi => by
    obtain ⟨h1, h2⟩ := hg i hi
    show (l[i]?).getD 0 < N
    rw [h2]
    exact hb _ (List.getElem_mem h1))
  obtain ⟨i1, i2⟩ := hg i (by omega)
  obtain ⟨j1, j2⟩ := hg j h2
  have e' : l[i] = l[j] := by
    rw [← i2, ← j2]
    exact e
  exact (List.pairwise_iff_getElem.mp h) i j i1 j1 h1 e'
/-- the notes of what was bound, newest first -/
def pz_nt (mi : Nat → Nat → Int) (tr : List Nat) : Prop := match tr with
  | [] => True
  | v :: t => mi 186 t.length = 3000 + (v : Int) ∧ pz_nt mi t
/-- what the reference keeps while it matches in node n's row -/
def pz_mI (mi : Nat → Nat → Int) (F : Int) (n : Nat) (σ0 σ : Nat → Option Nat) (tr : List Nat) : Prop := pz_mS mi F n σ ∧ pz_gd σ ∧ mi 165 33 = (tr.length : Int) ∧ pz_nt mi tr ∧ tr.Nodup ∧ (∀ v ∈ tr, (v : Int) < 6 * F ∧ σ0 v = none ∧ σ v ≠ none) ∧ ∀ v, σ v = σ0 v ∨ v ∈ tr
def pz_oN (mi : Nat → Nat → Int) : Prop := (0 ≤ mi 165 33 ∧ mi 165 33 ≤ 240) ∧ ∀ j : Nat, (j : Int) < mi 165 33 → 3000 ≤ mi 186 j ∧ mi 186 j < 3240
/-- the rows of other nodes stand -/
def pz_rw (n : Nat) (mi mi' : Nat → Nat → Int) : Prop := ∀ k : Nat, (k < 240 * n ∨ 240 * n + 240 ≤ k) → mi' 182 k = mi 182 k
/-- how matches ends -/
def pz_xQ (n0 : Nat) (ml : Nat → Nat → Int64) (mr : Nat → Nat → Option Nat) (c s : Nat) (F : Int) (n : Nat) (σ0 : Nat → Option Nat) (mi : Nat → Nat → Int) (x : Option pz_mE) : pz_O → pz_H → Prop := fun o h => ∃ mi' b, (o = .inl (some (.inl b)) ∧ h = pz_hp n0 mi' ml mr c s) ∧ pz_fr [182, 186, 187, 188] [27, 29, 31, 33, 35] mi mi' ∧ (b = 0 ∨ b = 1) ∧ pz_rw n mi mi' ∧ match x with
  | none => mi' 165 31 = 1 ∧ pz_oN mi'
  | some (q, σ', nb', tr', r') => b = (if q then 1 else 0) ∧ mi' 165 31 = 0 ∧ mi' 165 27 = 500 - (r' : Int) ∧ r' ≤ 500 ∧ mi' 165 29 = nb' ∧ nb' ≤ 1000 ∧ pz_mI mi' F n σ0 σ' tr'
section pzk
variable {d n0 : Nat} {mi mi' mi'' : Nat → Nat → Int} {ml : Nat → Nat → Int64} {mr : Nat → Nat → Option Nat} {c s : Nat} {F : Int} {σ σ0 : Nat → Option Nat} {Q : pz_O → pz_H → Prop} {n : Nat} {tr : List Nat}
theorem pz_nt_te (h : ∀ j, j < tr.length → mi' 186 j = mi 186 j) (hn : pz_nt mi tr) : pz_nt mi' tr := by
  induction tr with
  | nil => trivial
  | cons v t ih =>
    unfold pz_nt at hn ⊢
    rw [h t.length (by rw [List.length_cons]; omega)]
    exact ⟨hn.1, ih (fun j hj => h j (by rw [List.length_cons]; omega)) hn.2⟩
theorem pz_nt_f (hn : pz_nt mi tr) {j : Nat} (hj : j < tr.length) : ∃ v, v ∈ tr ∧ mi 186 j = 3000 + (v : Int) := by
  induction tr with
  | nil => exact absurd hj (by rw [List.length_nil]; omega)
  | cons v t ih =>
    unfold pz_nt at hn
    by_cases e : j = t.length
    · rw [e]
      exact ⟨v, List.mem_cons_self, hn.1⟩
    · rw [List.length_cons] at hj
      obtain ⟨u, h1, h2⟩ := ih hn.2 (by omega)
      exact ⟨u, List.mem_cons_of_mem _ h1, h2⟩
theorem pz_rw_refl : pz_rw n mi mi := fun _ _ => rfl
theorem pz_rw_trans (h : pz_rw n mi mi') (h' : pz_rw n mi' mi'') : pz_rw n mi mi'' := fun k hk => (h' k hk).trans (h k hk)
theorem pz_rw_eq (h : mi' 182 = mi 182) : pz_rw n mi mi' := fun k _ => by rw [h]
theorem pz_mI_te (te : pz_te mi mi') (h1 : mi' 182 = mi 182) (h2 : mi' 186 = mi 186) (h3 : mi' 165 33 = mi 165 33) (h : pz_mI mi F n σ0 σ tr) : pz_mI mi' F n σ0 σ tr := by
  obtain ⟨s1, s2, s3, s4, s5⟩ := h
  exact ⟨pz_mS_te te h1 s1, s2, by rw [h3]; exact s3, pz_nt_te (fun j _ => by rw [h2]) s4, s5⟩
theorem pz_mI_len (hF : F ≤ 40) (h : pz_mI mi F n σ0 σ tr) : tr.length ≤ 240 := by
  obtain ⟨s1, s2, s3, s4, s5, s6, s7⟩ := h
  exact pz_nd_len s5 (fun x hx => by have := (s6 x hx).1; omega)
theorem pz_mI_oN (hF : F ≤ 40) (h : pz_mI mi F n σ0 σ tr) : pz_oN mi := by
  have hl := pz_mI_len hF h
  obtain ⟨s1, s2, s3, s4, s5, s6, s7⟩ := h
  refine ⟨by omega, fun j hj => ?_⟩
  obtain ⟨v, h1, h2⟩ := pz_nt_f s4 (j := j) (by omega)
  have := (s6 v h1).1
  omega
theorem pz_oN_te (h2 : mi' 186 = mi 186) (h3 : mi' 165 33 = mi 165 33) (h : pz_oN mi) : pz_oN mi' := by
  unfold pz_oN
  rw [h2, h3]
  exact h
/-- what bind leaves -/
def pz_mb (mi : Nat → Nat → Int) (n v : Nat) (z : Int) : Nat → Nat → Int := pz_up (pz_up (pz_up (pz_up mi 165 29 ((mi 165 29) + 1)) 182 (240 * n + v) z) 186 ((mi 165 33).toNat) (3000 + (v : Int))) 165 33 ((mi 165 33) + 1)
theorem pz_mI_b (ht : pz_tm mi) (hF : F ≤ 40) (h : pz_mI mi F n σ0 σ tr) {v : Nat} {z : Int} (hv : (v : Int) < 6 * F) (hn : σ v = none) (hz : pz_vm mi F z) (hw : pz_W σ (pz_cm mi z) ≠ v) : tr.length ≤ 239 ∧ pz_fr [182, 186] [29, 33] mi (pz_mb mi n v z) ∧ pz_rw n mi (pz_mb mi n v z) ∧ pz_mb mi n v z 165 29 = mi 165 29 + 1 ∧ pz_mI (pz_mb mi n v z) F n σ0 (pz_ub σ v (pz_cm mi z)) (v :: tr) := by
  obtain ⟨s1, s2, s3, s4, s5, s6, s7⟩ := h
  have hnt : v ∉ tr := fun hin => (s6 v hin).2.2 hn
  have h0 : σ0 v = none := by
    rcases s7 v with e | e
    · rw [← e]
      exact hn
    · exact absurd e hnt
  have nd : (v :: tr).Nodup := List.nodup_cons.mpr ⟨hnt, s5⟩
  have fr : pz_fr [182, 186] [29, 33] mi (pz_mb mi n v z) := pz_fr_trans (pz_fr_u5 (by decide)) (pz_fr_trans (pz_fr_up (by decide) (by decide)) (pz_fr_trans (pz_fr_up (by decide) (by decide)) (pz_fr_u5 (by decide))))
  have te := pz_te_fr fr (by decide) (by decide)
  have e182 : pz_mb mi n v z 182 = pz_up mi 182 (240 * n + v) z 182 := by
    unfold pz_mb
    rw [pz_upq (by decide), pz_upq (by decide)]
    funext j
    unfold pz_up
    simp
  have e186 : ∀ j, pz_mb mi n v z 186 j = pz_up mi 186 ((mi 165 33).toNat) (3000 + (v : Int)) 186 j := by
    intro j
    unfold pz_mb
    rw [pz_upq (by decide)]
    unfold pz_up
    simp
  have et : (mi 165 33).toNat = tr.length := by omega
  refine ⟨?_, fr, ?_, ?_, ?_, ?_, ?_, ?_, nd, ?_, ?_⟩
  · have := pz_nd_len (N := 240) nd (fun x hx => by
      rcases List.mem_cons.mp hx with rfl | hx
      · omega
      · have := (s6 x hx).1
        omega)
    rw [List.length_cons] at this
    omega
  · intro k hk
    rw [e182]
    exact pz_up_ot (by omega)
  · unfold pz_mb
    rw [pz_up_ot (by decide), pz_upq (by decide), pz_upq (by decide), pz_up_at]
  · intro u
    refine ⟨fun hu => ?_, fun hu => ?_⟩
    · rw [e182, pz_vm_te te, pz_cm_te te]
      by_cases e : u = v
      · subst e
        rw [pz_ub_eq, pz_up_at]
        exact ⟨hz, rfl⟩
      · rw [pz_ub_ne e, pz_up_ot (by omega)]
        exact (s1 u).1 hu
    · rw [pz_ub_ne (by omega)]
      exact (s1 u).2 hu
  · refine pz_gd_ub s2 (fun u hu hun => ?_) hn (by omega) hw
    apply Classical.byContradiction
    intro hc
    exact hun ((s1 u).2 (by omega))
  · unfold pz_mb
    rw [pz_up_at, List.length_cons]
    omega
  · unfold pz_nt
    rw [e186, et, pz_up_at]
    refine ⟨rfl, pz_nt_te (fun j hj => ?_) s4⟩
    rw [e186, et]
    exact pz_up_ot (by omega)
  · intro u hu
    rcases List.mem_cons.mp hu with rfl | hu
    · exact ⟨hv, h0, by rw [pz_ub_eq]; exact fun h => nomatch h⟩
    · have hne : u ≠ v := fun e => hnt (e ▸ hu)
      rw [pz_ub_ne hne]
      exact s6 u hu
  · intro u
    by_cases e : u = v
    · subst e
      exact .inr List.mem_cons_self
    · rw [pz_ub_ne e]
      rcases s7 u with h | h
      · exact .inl h
      · exact .inr (List.mem_cons_of_mem _ h)
/-- how meet ends -/
def pz_eQ (n0 : Nat) (ml : Nat → Nat → Int64) (mr : Nat → Nat → Option Nat) (c s : Nat) (F : Int) (n : Nat) (σ0 σ : Nat → Option Nat) (tr : List Nat) (v a nb w : Nat) (mi : Nat → Nat → Int) (x : Option (Bool × Nat)) : pz_O → pz_H → Prop := fun o h => ∃ m2 q, (o = .inl (some (.inl q)) ∧ h = pz_hp n0 m2 ml mr c s) ∧ (q = 0 ∨ q = 1) ∧ pz_fr [182, 186, 187] [27, 29, 31, 33] mi m2 ∧ pz_rw n mi m2 ∧ (∀ j, j < w → m2 187 j = mi 187 j) ∧ match x with
  | none => m2 165 31 = 1 ∧ pz_oN m2
  | some (true, k) => q = 0 ∧ m2 165 31 = 0 ∧ m2 165 27 = 500 - (k : Int) ∧ k ≤ 500 ∧ m2 165 29 = nb ∧ pz_mI m2 F n σ0 σ tr
  | some (false, k) => if nb = 1000 then m2 165 31 = 1 ∧ pz_oN m2 else q = 1 ∧ m2 165 31 = 0 ∧ m2 165 27 = 500 - (k : Int) ∧ k ≤ 500 ∧ m2 165 29 = ((nb + 1 : Nat) : Int) ∧ pz_mI m2 F n σ0 (pz_ub σ v a) (v :: tr)
theorem pz_meetC (ht : pz_tm mi) (hF : F ≤ 40) (hn : n < 63) (hI : pz_mI mi F n σ0 σ tr) {v w nb r : Nat} (hv : (v : Int) < 6 * F) (hvn : σ v = none) {z : Int} (hz : pz_vm mi F z) (hzw : pz_W σ (pz_cm mi z) ≠ v) (hr : r ≤ 500) (hl : mi 165 27 = 500 - (r : Int)) (ho : mi 165 31 = 0) (hw : mi 165 35 = (w : Int)) (hb : (w : Int) ≤ mi 165 27) (hnb : mi 165 29 = (nb : Int)) (hnb1 : nb ≤ 1000) :
    pz_Rn (d + 3) 122 (0, [], [(0, .inr (.inr (some 165))), (1, .inl (n : Int)), (2, .inl (3000 + (v : Int))), (3, .inl z)], pz_hp n0 mi ml mr c s, true) (pz_eQ n0 ml mr c s F n σ0 σ tr v (pz_cm mi z) nb w mi (pz_oc mi σ v r [pz_cm mi z])) := by
  refine pz_g122_0 ?_
  refine pz_Rn_e (Nat.le_refl _) (pz_occurs (d := d) ht hF hn hI.1 hI.2.1 (by omega) hz hr hl ho hw hb) ?_
  rintro _ _ ⟨m1, b, ⟨rfl, rfl⟩, f1, hb1, hx⟩
  have te1 := pz_te_fr f1 (by decide) (by decide)
  have I1 : pz_mI m1 F n σ0 σ tr := pz_mI_te te1 (f1.1 182 (by decide) (by decide)) (f1.1 186 (by decide) (by decide)) (f1.2 33 (by decide)) hI
  have F1 : pz_fr [182, 186, 187] [27, 29, 31, 33] mi m1 := pz_fr_sub (by decide) (by decide) f1
  have R1 : pz_rw n mi m1 := pz_rw_eq (f1.1 182 (by decide) (by decide))
  have n1 : m1 165 29 = nb := (f1.2 29 (by decide)).trans hnb
  cases ex : pz_oc mi σ v r [pz_cm mi z] with
  | none =>
    rw [ex] at hx
    obtain ⟨x1, x2, x3⟩ := hx
    refine pz_g122_7 ⟨fun h => absurd h (by omega), fun _ => ?_⟩
    exact ⟨m1, 0, ⟨rfl, rfl⟩, .inl rfl, F1, R1, hb1, x2, pz_mI_oN hF I1⟩
  | some qk =>
    obtain ⟨q, k⟩ := qk
    rw [ex] at hx
    obtain ⟨x1, x2, x3, x4⟩ := hx
    cases q with
    | true =>
      have x1' : b = 1 := x1
      refine pz_g122_7 ⟨fun h => absurd h (by omega), fun _ => ?_⟩
      exact ⟨m1, 0, ⟨rfl, rfl⟩, .inl rfl, F1, R1, hb1, rfl, x2, x3, x4, n1, I1⟩
    | false =>
      have x1' : b = 0 := x1
      refine pz_g122_7 ⟨fun _ => ?_, fun h => absurd x1' h⟩
      have hlen := pz_mI_len hF I1
      have hnt := I1.2.2.1
      have e33 : m1 165 33 = mi 165 33 := f1.2 33 (by decide)
      by_cases hn1 : nb = 1000
      · refine pz_Rn_c (d' := 0) (v := none) (H := pz_hp n0 (pz_up m1 165 31 1) ml mr c s) (Nat.zero_le _) (pz_g121_0 ⟨fun h => absurd (by omega) h, fun _ => ⟨rfl, rfl⟩⟩) ?_
        refine pz_g122_19 ⟨_, 1, ⟨rfl, rfl⟩, .inr rfl, pz_fr_trans F1 (pz_fr_u5 (by decide)), pz_rw_trans R1 (pz_rw_eq (pz_upq (by decide))), fun j hj => ?_, ?_⟩
        · rw [pz_upq (by decide)]
          exact hb1 j hj
        · show if nb = 1000 then _ else _
          rw [if_pos hn1]
          exact ⟨pz_up_at, pz_oN_te (pz_upq (by decide)) (pz_up_ot (by decide)) (pz_mI_oN hF I1)⟩
      · obtain ⟨y1, y2, y3, y4, y5⟩ := pz_mI_b (pz_tm_te te1 ht) hF I1 hv hvn (z := z) (by rw [pz_vm_te te1]; exact hz) (by rw [pz_cm_te te1]; exact hzw)
        rw [pz_cm_te te1] at y5
        have ei : (240 * (n : Int) + (3000 + (v : Int)) - 3000).toNat = 240 * n + v := by omega
        refine pz_Rn_c (d' := 0) (v := none) (H := pz_hp n0 (pz_mb m1 n v z) ml mr c s) (Nat.zero_le _) (pz_g121_0 ⟨fun _ => ⟨by omega, by omega, by omega, by omega, by omega, by omega, by omega, rfl, ?_⟩, fun h => absurd h (by omega)⟩) ?_
        · rw [ei]
          rfl
        · refine pz_g122_19 ⟨_, 1, ⟨rfl, rfl⟩, .inr rfl, pz_fr_trans F1 (pz_fr_sub (by decide) (by decide) y2), pz_rw_trans R1 y3, fun j hj => ?_, ?_⟩
          · rw [y2.1 187 (by decide) (by decide)]
            exact hb1 j hj
          · show if nb = 1000 then _ else _
            rw [if_neg hn1]
            exact ⟨rfl, (y2.2 31 (by decide)).trans x2, (y2.2 27 (by decide)).trans x3, x4, by omega, y5⟩
/-- .. when there are too many looks already -/
theorem pz_meet_x {v z : Int} {nn : Int} {w : Nat} (hl : mi 165 27 = 501) (hw : mi 165 35 = (w : Int)) (hb : w ≤ 501) :
    pz_Rn (d + 3) 122 (0, [], [(0, .inr (.inr (some 165))), (1, .inl nn), (2, .inl v), (3, .inl z)], pz_hp n0 mi ml mr c s, true) (fun o h => ∃ m2, (o = .inl (some (.inl 0)) ∧ h = pz_hp n0 m2 ml mr c s) ∧ pz_fr [187] [27, 31] mi m2 ∧ m2 165 31 = 1) := by
  refine pz_g122_0 ?_
  refine pz_Rn_e (Nat.le_refl _) (pz_occurs_x (d := d) hl hw hb) ?_
  rintro _ _ ⟨m1, ⟨rfl, rfl⟩, f1, h1⟩
  exact pz_g122_7 ⟨fun h => absurd h (by decide), fun _ => ⟨m1, ⟨rfl, rfl⟩, f1, h1⟩⟩
theorem pz_xQ_up (h : pz_fr [182, 186, 187, 188] [27, 29, 31, 33, 35] mi mi') (h2 : pz_rw n mi mi') {x : Option pz_mE} {o : pz_O} {hp : pz_H} : pz_xQ n0 ml mr c s F n σ0 mi' x o hp → pz_xQ n0 ml mr c s F n σ0 mi x o hp := by
  rintro ⟨m, b, h1, h3, h4, h5, h6⟩
  exact ⟨m, b, h1, pz_fr_trans h h3, h4, pz_rw_trans h2 h5, h6⟩
/-- the loop's head, when it is over -/
theorem pz_ms_x {q : Int} (hq : q = 0 ∨ q = 1) {mi0 : Nat → Nat → Int} (hfr : pz_fr [182, 186, 187, 188] [27, 29, 31, 33, 35] mi0 mi) (hrw : pz_rw n mi0 mi) (ho : mi 165 31 = 1) (hN : pz_oN mi) : pz_Rn (d + 5) 124 (27, [], [(0, .inr (.inr (some 165))), (1, .inl (n : Int)), (4, .inl q)], pz_hp n0 mi ml mr c s, true) (pz_xQ n0 ml mr c s F n σ0 mi0 none) := by
  have fin : pz_xQ n0 ml mr c s F n σ0 mi0 none (.inl (some (.inl q))) (pz_hp n0 mi ml mr c s) := ⟨mi, q, ⟨rfl, rfl⟩, hfr, hq, hrw, ho, hN⟩
  exact pz_g124_27 ⟨fun _ => ⟨hq, fin⟩, fun _ => ⟨fun _ => ⟨hq, fin⟩, fun _ => ⟨fun _ => ⟨hq, fin⟩, fun h => absurd h (by omega)⟩⟩⟩
/-- .. when the terms do not match -/
theorem pz_ms_0 {P : pz_O → pz_H → Prop} {nn : Int} (h : P (.inl (some (.inl 0))) (pz_hp n0 mi ml mr c s)) : pz_Rn (d + 5) 124 (27, [], [(0, .inr (.inr (some 165))), (1, .inl nn), (4, .inl 0)], pz_hp n0 mi ml mr c s, true) P :=
  pz_g124_27 ⟨fun _ => ⟨.inl rfl, h⟩, fun _ => ⟨fun _ => ⟨.inl rfl, h⟩, fun h2 => absurd rfl h2⟩⟩
set_option maxHeartbeats 2000000 in
theorem pz_ms1 {mi0 : Nat → Nat → Int} (ht : pz_tm mi0) (hF : F ≤ 40) (hn : n < 63) : ∀ (f : Nat) (σ : Nat → Option Nat) (nb : Nat) (tr : List Nat) (r : Nat) (st : List (Nat × Nat)) (mi : Nat → Nat → Int), pz_te mi0 mi → r < f → r ≤ 500 → mi 165 27 = 500 - (r : Int) → mi 165 31 = 0 → mi 165 29 = (nb : Int) → nb ≤ 1000 → pz_mI mi F n σ0 σ tr → mi 165 35 = (st.length : Int) → (st.length : Int) ≤ mi 165 27 + 1 → pz_skm mi 187 0 F (st.map Prod.fst) → pz_skm mi 188 0 F (st.map Prod.snd) →
    pz_Rn (d + 5) 124 (27, [], [(0, .inr (.inr (some 165))), (1, .inl (n : Int)), (4, .inl 1)], pz_hp n0 mi ml mr c s, true) (pz_xQ n0 ml mr c s F n σ0 mi (pz_ma mi0 f σ nb tr r st)) := by
  intro f
  induction f with
  | zero => exact fun σ nb tr r st mi _ h => absurd h (by omega)
  | succ f ih =>
    intro σ nb tr r st mi hte hrn hr hl ho hnb hnb1 hI hw hlen hk1 hk2
    cases st with
    | nil =>
      have e : pz_ma mi0 (f + 1) σ nb tr r [] = some (true, σ, nb, tr, r) := rfl
      rw [e]
      exact pz_g124_27 ⟨fun _ => ⟨.inr rfl, mi, 1, ⟨rfl, rfl⟩, pz_fr_refl, .inr rfl, pz_rw_refl, rfl, ho, hl, hr, hnb, hnb1, hI⟩, fun h => absurd h (by rw [hw]; decide)⟩
    | cons ab st =>
      obtain ⟨a, b⟩ := ab
      have hL : ((((a, b) :: st).length : Nat) : Int) = st.length + 1 := by rw [List.length_cons]; omega
      have k1 : pz_skm mi 187 0 F (a :: st.map Prod.fst) := hk1
      have k2 : pz_skm mi 188 0 F (b :: st.map Prod.snd) := hk2
      obtain ⟨p1, p2, p3⟩ := k1
      obtain ⟨q1, q2, q3⟩ := k2
      have l1 : (st.map Prod.fst).length = st.length := by simp
      have l2 : (st.map Prod.snd).length = st.length := by simp
      rw [l1, Nat.zero_add] at p1 p2
      rw [l2, Nat.zero_add] at q1 q2
      have ew : mi 165 35 - 1 = (st.length : Int) := by omega
      have e0 : ((st.length : Int)).toNat = st.length := by omega
      refine pz_g124_27 ⟨fun h => absurd h (by omega), fun _ => ⟨fun h => absurd h (by decide), fun _ => ⟨fun h => absurd ho h, fun _ => ⟨by omega, by omega, by omega, ?_⟩⟩⟩⟩
      rw [ew, e0]
      have fin : pz_Rn (d + 4) 123 (0, [], [(0, .inr (.inr (some 165))), (1, .inl (n : Int)), (2, .inl (mi 187 st.length)), (3, .inl (mi 188 st.length))], pz_hp n0 (pz_up mi 165 35 (st.length : Int)) ml mr c s, true) (fun o h => ∃ m2 q, (o = .inl (some (.inl q)) ∧ h = pz_hp n0 m2 ml mr c s) ∧ pz_Rn (d + 5) 124 (27, [], [(0, .inr (.inr (some 165))), (1, .inl (n : Int)), (4, .inl q)], pz_hp n0 m2 ml mr c s, true) (pz_xQ n0 ml mr c s F n σ0 mi (pz_ma mi0 (f + 1) σ nb tr r ((a, b) :: st)))) := by
        refine pz_g123_0 ?_
        cases r with
        | zero =>
          have e : pz_ma mi0 (f + 1) σ nb tr 0 ((a, b) :: st) = none := rfl
          rw [e]
          refine pz_Rn_c (d' := 0) (v := none) (H := pz_hp n0 (pz_up (pz_up (pz_up mi 165 35 (st.length : Int)) 165 27 (pz_up mi 165 35 (st.length : Int) 165 27 + 1)) 165 31 1) ml mr c s) (Nat.zero_le _) (pz_g115_0 ⟨by rw [pz_up_ot (by decide)]; omega, fun h => absurd h (by rw [pz_up_ot (by decide)]; omega), fun _ => ⟨rfl, rfl⟩⟩) ?_
          have f1 : pz_fr [] [27, 31, 35] mi (pz_up (pz_up (pz_up mi 165 35 (st.length : Int)) 165 27 (pz_up mi 165 35 (st.length : Int) 165 27 + 1)) 165 31 1) := pz_fr_trans (pz_fr_u5 (by decide)) (pz_fr_trans (pz_fr_u5 (by decide)) (pz_fr_u5 (by decide)))
          have o1 : pz_up (pz_up (pz_up mi 165 35 (st.length : Int)) 165 27 (pz_up mi 165 35 (st.length : Int) 165 27 + 1)) 165 31 1 165 31 = 1 := pz_up_at
          have o2 : pz_up (pz_up (pz_up mi 165 35 (st.length : Int)) 165 27 (pz_up mi 165 35 (st.length : Int) 165 27 + 1)) 165 31 1 165 27 = 501 := by
            rw [pz_up_ot (by decide), pz_up_at, pz_up_ot (by decide)]
            omega
          have o3 : pz_up (pz_up (pz_up mi 165 35 (st.length : Int)) 165 27 (pz_up mi 165 35 (st.length : Int) 165 27 + 1)) 165 31 1 165 35 = (st.length : Int) := by
            rw [pz_up_ot (by decide), pz_up_ot (by decide), pz_up_at]
          generalize pz_up (pz_up (pz_up mi 165 35 (st.length : Int)) 165 27 (pz_up mi 165 35 (st.length : Int) 165 27 + 1)) 165 31 1 = m1 at *
          have te1 := pz_te_fr f1 (by decide) (by decide)
          have I1 : pz_mI m1 F n σ0 σ tr := pz_mI_te te1 (f1.1 182 (by decide) (by decide)) (f1.1 186 (by decide) (by decide)) (f1.2 33 (by decide)) hI
          have F1 : pz_fr [182, 186, 187, 188] [27, 29, 31, 33, 35] mi m1 := pz_fr_sub (by decide) (by decide) f1
          have R1 : pz_rw n mi m1 := pz_rw_eq (f1.1 182 (by decide) (by decide))
          have N1 := pz_mI_oN hF I1
          refine pz_one4 (d := d) (pz_tm_te (pz_te_trans hte te1) ht) hF hn I1.1 I1.2.1 (by rw [pz_vm_te te1]; exact p1) (by rw [pz_vm_te te1]; exact q1) o3 (by omega) ?_ ?_ ?_ ?_
          · intro _ _ m2 _ _ _ _ f2 _ _ _ _ _ _ _ _ _ _
            refine ⟨m2, 1, ⟨rfl, rfl⟩, pz_ms_x (.inr rfl) (pz_fr_trans F1 (pz_fr_sub (by decide) (by decide) f2)) (pz_rw_trans R1 (pz_rw_eq (f2.1 182 (by decide) (by decide)))) ?_ (pz_oN_te (f2.1 186 (by decide) (by decide)) (f2.2 33 (by decide)) N1)⟩
            exact (f2.2 31 (by decide)).trans o1
          · intro _
            exact ⟨m1, 1, ⟨rfl, rfl⟩, pz_ms_x (.inr rfl) F1 R1 o1 N1⟩
          · intro _ _ _ _
            exact ⟨m1, 0, ⟨rfl, rfl⟩, pz_ms_x (.inl rfl) F1 R1 o1 N1⟩
          · intro v z _ _ _ _
            refine (pz_meet_x (d := d) o2 o3 (by omega)).mono (Nat.le_refl _) ?_
            rintro _ _ ⟨m2, h1, f2, o4⟩
            exact ⟨m2, 0, h1, .inl rfl, m2, 0, ⟨rfl, rfl⟩, pz_ms_x (.inl rfl) (pz_fr_trans F1 (pz_fr_sub (by decide) (by decide) f2)) (pz_rw_trans R1 (pz_rw_eq (f2.1 182 (by decide) (by decide)))) o4 (pz_oN_te (f2.1 186 (by decide) (by decide)) (f2.2 33 (by decide)) N1)⟩
        | succ r =>
          have eo : pz_ma mi0 (f + 1) σ nb tr (r + 1) ((a, b) :: st) = (if pz_kd1 mi0 (pz_W σ a) = 2 ∧ pz_kd1 mi0 (pz_W σ b) = 2 then pz_ma mi0 f σ nb tr r ((pz_hf mi0 (pz_W σ a) true, pz_hf mi0 (pz_W σ b) true) :: (pz_hf mi0 (pz_W σ a) false, pz_hf mi0 (pz_W σ b) false) :: st)
            else if pz_W σ a < 1000 then (if pz_W σ a = pz_W σ b then pz_ma mi0 f σ nb tr r st else pz_bd mi0 σ nb tr r (pz_W σ a) (pz_W σ b) (fun σ nb tr r => pz_ma mi0 f σ nb tr r st))
            else if pz_W σ b < 1000 then pz_bd mi0 σ nb tr r (pz_W σ b) (pz_W σ a) (fun σ nb tr r => pz_ma mi0 f σ nb tr r st)
            else if pz_kd1 mi0 (pz_W σ a) = pz_kd1 mi0 (pz_W σ b) ∧ mi0 4 (pz_ct1 (pz_W σ a)) = mi0 4 (pz_ct1 (pz_W σ b)) then pz_ma mi0 f σ nb tr r st
            else some (false, σ, nb, tr, r)) := rfl
          have kv : ∀ u, u < 1000 → pz_kd1 mi0 u ≠ 2 := by
            intro u hu
            unfold pz_kd1
            rw [if_pos hu]
            decide
          refine pz_Rn_c (d' := 0) (v := none) (H := pz_hp n0 (pz_up (pz_up mi 165 35 (st.length : Int)) 165 27 (pz_up mi 165 35 (st.length : Int) 165 27 + 1)) ml mr c s) (Nat.zero_le _) (pz_g115_0 ⟨by rw [pz_up_ot (by decide)]; omega, fun _ => ⟨rfl, rfl⟩, fun h => absurd h (by rw [pz_up_ot (by decide)]; omega)⟩) ?_
          have f1 : pz_fr [] [27, 35] mi (pz_up (pz_up mi 165 35 (st.length : Int)) 165 27 (pz_up mi 165 35 (st.length : Int) 165 27 + 1)) := pz_fr_trans (pz_fr_u5 (by decide)) (pz_fr_u5 (by decide))
          have o2 : pz_up (pz_up mi 165 35 (st.length : Int)) 165 27 (pz_up mi 165 35 (st.length : Int) 165 27 + 1) 165 27 = 500 - (r : Int) := by
            rw [pz_up_at, pz_up_ot (by decide)]
            omega
          have o3 : pz_up (pz_up mi 165 35 (st.length : Int)) 165 27 (pz_up mi 165 35 (st.length : Int) 165 27 + 1) 165 35 = (st.length : Int) := by
            rw [pz_up_ot (by decide), pz_up_at]
          generalize pz_up (pz_up mi 165 35 (st.length : Int)) 165 27 (pz_up mi 165 35 (st.length : Int) 165 27 + 1) = m1 at *
          have o1 : m1 165 31 = 0 := (f1.2 31 (by decide)).trans ho
          have o4 : m1 165 29 = (nb : Int) := (f1.2 29 (by decide)).trans hnb
          have te1 := pz_te_fr f1 (by decide) (by decide)
          have te01 := pz_te_trans hte te1
          have I1 : pz_mI m1 F n σ0 σ tr := pz_mI_te te1 (f1.1 182 (by decide) (by decide)) (f1.1 186 (by decide) (by decide)) (f1.2 33 (by decide)) hI
          have F1 : pz_fr [182, 186, 187, 188] [27, 29, 31, 33, 35] mi m1 := pz_fr_sub (by decide) (by decide) f1
          have R1 : pz_rw n mi m1 := pz_rw_eq (f1.1 182 (by decide) (by decide))
          have w187 : m1 187 = mi 187 := f1.1 187 (by decide) (by decide)
          have w188 : m1 188 = mi 188 := f1.1 188 (by decide) (by decide)
          have j1 : pz_skm m1 187 0 F (st.map Prod.fst) := pz_skm_te te1 (fun j _ => by rw [w187]) p3
          have j2 : pz_skm m1 188 0 F (st.map Prod.snd) := pz_skm_te te1 (fun j _ => by rw [w188]) q3
          rw [← pz_vm_te te1] at p1 q1
          rw [← pz_cm_te te1] at p2 q2
          have ht1 := pz_tm_te te01 ht
          have kk := pz_kd1_te te01
          have kh := pz_hf_te te01
          have k4 : m1 4 = mi0 4 := te01.2.2.1
          refine pz_one4 (d := d) ht1 hF hn I1.1 I1.2.1 p1 q1 o3 (by omega) ?_ ?_ ?_ ?_
          · intro h1 h2 m2 x1 x0 y1 y0 f2 g1 g2 g3 g4 g5 g6 hx1 hx0 hy1 hy0
            rw [p2, kk] at h1
            rw [q2, kk] at h2
            rw [p2, kh] at hx1 hx0
            rw [q2, kh] at hy1 hy0
            rw [eo, if_pos ⟨h1, h2⟩]
            have te2 := pz_te_fr f2 (by decide) (by decide)
            refine ⟨m2, 1, ⟨rfl, rfl⟩, ?_⟩
            refine (ih σ nb tr r ((pz_hf mi0 (pz_W σ a) true, pz_hf mi0 (pz_W σ b) true) :: (pz_hf mi0 (pz_W σ a) false, pz_hf mi0 (pz_W σ b) false) :: st) m2 (pz_te_trans te01 te2) (by omega) (by omega) (by rw [f2.2 27 (by decide)]; exact o2) (by rw [f2.2 31 (by decide)]; exact o1) (by rw [f2.2 29 (by decide)]; exact o4) hnb1 (pz_mI_te te2 (f2.1 182 (by decide) (by decide)) (f2.1 186 (by decide) (by decide)) (f2.2 33 (by decide)) I1) g1 (by rw [f2.2 27 (by decide), List.length_cons, List.length_cons]; omega) ?_ ?_).mono (Nat.le_refl _) (fun _ _ => pz_xQ_up (pz_fr_trans F1 (pz_fr_sub (by decide) (by decide) f2)) (pz_rw_trans R1 (pz_rw_eq (f2.1 182 (by decide) (by decide)))))
            · show pz_skm m2 187 0 F (pz_hf mi0 (pz_W σ a) true :: pz_hf mi0 (pz_W σ a) false :: st.map Prod.fst)
              unfold pz_skm
              rw [List.length_cons, l1, Nat.zero_add, g4, pz_vm_te te2, pz_cm_te te2]
              refine ⟨hx1.1, hx1.2, ?_⟩
              unfold pz_skm
              rw [l1, Nat.zero_add, g3, pz_vm_te te2, pz_cm_te te2]
              exact ⟨hx0.1, hx0.2, pz_skm_te te2 (fun j hj => (g2 j (by rw [l1] at hj; omega)).1) j1⟩
            · show pz_skm m2 188 0 F (pz_hf mi0 (pz_W σ b) true :: pz_hf mi0 (pz_W σ b) false :: st.map Prod.snd)
              unfold pz_skm
              rw [List.length_cons, l2, Nat.zero_add, g6, pz_vm_te te2, pz_cm_te te2]
              refine ⟨hy1.1, hy1.2, ?_⟩
              unfold pz_skm
              rw [l2, Nat.zero_add, g5, pz_vm_te te2, pz_cm_te te2]
              exact ⟨hy0.1, hy0.2, pz_skm_te te2 (fun j hj => (g2 j (by rw [l2] at hj; omega)).2) j2⟩
          · intro h
            rw [p2, q2, kk, k4] at h
            have e2 : pz_ma mi0 (f + 1) σ nb tr (r + 1) ((a, b) :: st) = pz_ma mi0 f σ nb tr r st := by
              rw [eo]
              rcases h with ⟨h1, h2⟩ | ⟨h1, h2, h3, h4⟩
              · rw [if_neg (fun e => kv _ h1 e.1), if_pos h1, if_pos h2]
              · rw [if_neg h3, if_neg (by omega), if_neg (by omega), if_pos h4]
            rw [e2]
            exact ⟨m1, 1, ⟨rfl, rfl⟩, (ih σ nb tr r st m1 te01 (by omega) (by omega) o2 o1 o4 hnb1 I1 o3 (by omega) j1 j2).mono (Nat.le_refl _) (fun _ _ => pz_xQ_up F1 R1)⟩
          · intro h1 h2 h3 h4
            rw [p2] at h1
            rw [q2] at h2
            rw [p2, q2, kk] at h3
            rw [p2, q2, kk, k4] at h4
            rw [eo, if_neg h3, if_neg (by omega), if_neg (by omega), if_neg h4]
            exact ⟨m1, 0, ⟨rfl, rfl⟩, pz_ms_0 ⟨m1, 0, ⟨rfl, rfl⟩, F1, .inl rfl, R1, rfl, o1, o2, by omega, o4, hnb1, I1⟩⟩
          · intro v z hv hvF hz hfv
            rw [p2, q2] at hfv
            have e2 : pz_ma mi0 (f + 1) σ nb tr (r + 1) ((a, b) :: st) = pz_bd mi0 σ nb tr r v (pz_cm m1 z) (fun σ nb tr r => pz_ma mi0 f σ nb tr r st) := by
              rw [eo]
              rcases hfv with ⟨h1, h2, h3, h4⟩ | ⟨h1, h2, h3, h4⟩
              · rw [if_neg (fun e => kv _ h1 e.1), if_pos h1, if_neg h2, h3, h4]
              · rw [if_neg (fun e => kv _ h2 e.2), if_neg (by omega), if_pos h2, h3, h4]
            have hrs : ∀ u, pz_rs σ (pz_W σ u) := hI.2.1
            have hvn : σ v = none := by
              rcases hfv with ⟨h5, -, h6, -⟩ | ⟨-, h5, h6, -⟩
              · rcases hrs a with h7 | h7
                · omega
                · rw [h6]
                  exact h7
              · rcases hrs b with h7 | h7
                · omega
                · rw [h6]
                  exact h7
            have hzw : pz_W σ (pz_cm m1 z) ≠ v := by
              rcases hfv with ⟨h5, h6, h7, h8⟩ | ⟨h5, h6, h7, h8⟩
              · rw [h8]
                rw [show pz_W σ (pz_W σ b) = pz_W σ b from pz_wk_rs (hrs b) 246]
                omega
              · rw [h8]
                rw [show pz_W σ (pz_W σ a) = pz_W σ a from pz_wk_rs (hrs a) 246]
                omega
            rw [e2]
            have hm := pz_meetC (d := d) (n0 := n0) (ml := ml) (mr := mr) (c := c) (s := s) ht1 hF hn I1 hvF hvn hz hzw (r := r) (by omega) o2 o1 o3 (by omega) o4 hnb1
            rw [pz_oc_te te01] at hm
            refine hm.mono (Nat.le_refl _) ?_
            rintro o h ⟨m2, q, h1, hq, f2, r2, g1, g2⟩
            have F2 : pz_fr [182, 186, 187, 188] [27, 29, 31, 33, 35] mi m2 := pz_fr_trans F1 (pz_fr_sub (by decide) (by decide) f2)
            have R2 := pz_rw_trans R1 r2
            have te2 := pz_te_fr f2 (by decide) (by decide)
            refine ⟨m2, q, h1, hq, m2, q, ⟨rfl, rfl⟩, ?_⟩
            unfold pz_bd
            cases ex : pz_oc mi0 σ v r [pz_cm m1 z] with
            | none =>
              rw [ex] at g2
              exact pz_ms_x hq F2 R2 g2.1 g2.2
            | some qk =>
              obtain ⟨q', k⟩ := qk
              rw [ex] at g2
              have hk := pz_oc_le ex
              cases q' with
              | true =>
                obtain ⟨y1, y2, y3, y4, y5, y6⟩ := g2
                subst y1
                exact pz_ms_0 ⟨m2, 0, ⟨rfl, rfl⟩, F2, .inl rfl, R2, rfl, y2, y3, y4, y5, hnb1, y6⟩
              | false =>
                show pz_Rn (d + 5) 124 _ (pz_xQ n0 ml mr c s F n σ0 mi (if nb = 1000 then none else pz_ma mi0 f (pz_ub σ v (pz_cm m1 z)) (nb + 1) (v :: tr) k st))
                have g2' : if nb = 1000 then m2 165 31 = 1 ∧ pz_oN m2 else q = 1 ∧ m2 165 31 = 0 ∧ m2 165 27 = 500 - (k : Int) ∧ k ≤ 500 ∧ m2 165 29 = ((nb + 1 : Nat) : Int) ∧ pz_mI m2 F n σ0 (pz_ub σ v (pz_cm m1 z)) (v :: tr) := g2
                by_cases hn1 : nb = 1000
                · rw [if_pos hn1] at g2' ⊢
                  exact pz_ms_x hq F2 R2 g2'.1 g2'.2
                · rw [if_neg hn1] at g2' ⊢
                  obtain ⟨y1, y2, y3, y4, y5, y6⟩ := g2'
                  subst y1
                  refine (ih (pz_ub σ v (pz_cm m1 z)) (nb + 1) (v :: tr) k st m2 (pz_te_trans te01 te2) (by omega) (by omega) y3 y2 y5 (by omega) y6 (by rw [f2.2 35 (by decide)]; exact o3) (by omega) ?_ ?_).mono (Nat.le_refl _) (fun _ _ => pz_xQ_up F2 R2)
                  · exact pz_skm_te te2 (fun j hj => g1 j (by rw [l1] at hj; omega)) j1
                  · exact pz_skm_te te2 (fun j hj => by rw [f2.1 188 (by decide) (by decide)]) j2
      refine pz_Rn_e (Nat.le_refl _) fin ?_
      rintro _ _ ⟨m2, q, ⟨rfl, rfl⟩, kq⟩
      exact pz_g124_79 kq
/-- the reference's matches -/
theorem pz_matchesC (ht : pz_tm mi) (hF : F ≤ 40) (hn : n < 63) {nb r : Nat} {x y : Int} (hx : pz_vm mi F x) (hy : pz_vm mi F y) (hr : r ≤ 500) (hl : mi 165 27 = 500 - (r : Int)) (ho : mi 165 31 = 0) (hnb : mi 165 29 = (nb : Int)) (hnb1 : nb ≤ 1000) (hs : pz_mS mi F n σ) (hg : pz_gd σ) :
    pz_Rn (d + 5) 124 (0, [], [(0, .inr (.inr (some 165))), (1, .inl (n : Int)), (2, .inl x), (3, .inl y)], pz_hp n0 mi ml mr c s, true) (pz_xQ n0 ml mr c s F n σ mi (pz_ma mi 501 σ nb [] r [(pz_cm mi x, pz_cm mi y)])) := by
  refine pz_g124_0 ?_
  have fr1 : pz_fr [187, 188] [33, 35] mi (pz_up (pz_up (pz_up (pz_up mi 165 33 0) 187 0 x) 188 0 y) 165 35 1) := pz_fr_trans (pz_fr_u5 (by decide)) (pz_fr_trans (pz_fr_up (by decide) (by decide)) (pz_fr_trans (pz_fr_up (by decide) (by decide)) (pz_fr_u5 (by decide))))
  have te1 := pz_te_fr fr1 (by decide) (by decide)
  have e33 : pz_up (pz_up (pz_up (pz_up mi 165 33 0) 187 0 x) 188 0 y) 165 35 1 165 33 = 0 := by
    rw [pz_up_ot (by decide), pz_upq (by decide), pz_upq (by decide), pz_up_at]
  have e35 : pz_up (pz_up (pz_up (pz_up mi 165 33 0) 187 0 x) 188 0 y) 165 35 1 165 35 = 1 := pz_up_at
  have ex : pz_up (pz_up (pz_up (pz_up mi 165 33 0) 187 0 x) 188 0 y) 165 35 1 187 0 = x := by
    rw [pz_upq (by decide), pz_upq (by decide), pz_up_at]
  have ey : pz_up (pz_up (pz_up (pz_up mi 165 33 0) 187 0 x) 188 0 y) 165 35 1 188 0 = y := by
    rw [pz_upq (by decide), pz_up_at]
  generalize pz_up (pz_up (pz_up (pz_up mi 165 33 0) 187 0 x) 188 0 y) 165 35 1 = m1 at *
  have e27 : m1 165 27 = mi 165 27 := fr1.2 27 (by decide)
  refine (pz_ms1 (d := d) (σ0 := σ) (n := n) ht hF hn 501 σ nb [] r [(pz_cm mi x, pz_cm mi y)] m1 te1 (by omega) hr (by rw [e27]; exact hl) (by rw [fr1.2 31 (by decide)]; exact ho) (by rw [fr1.2 29 (by decide)]; exact hnb) hnb1 ?_ (by rw [e35]; rfl) ?_ ?_ ?_).mono (Nat.le_refl _) (fun _ _ => pz_xQ_up (pz_fr_sub (by decide) (by decide) fr1) (pz_rw_eq (fr1.1 182 (by decide) (by decide))))
  · exact ⟨pz_mS_te te1 (fr1.1 182 (by decide) (by decide)) hs, hg, by rw [e33]; rfl, trivial, List.nodup_nil, fun v hv => absurd hv List.not_mem_nil, fun v => .inl rfl⟩
  · rw [e27]
    show (1 : Int) ≤ _
    omega
  · show pz_vm m1 F (m1 187 0) ∧ pz_cm m1 (m1 187 0) = pz_cm mi x ∧ True
    rw [ex, pz_vm_te te1, pz_cm_te te1]
    exact ⟨hx, rfl, trivial⟩
  · show pz_vm m1 F (m1 188 0) ∧ pz_cm m1 (m1 188 0) = pz_cm mi y ∧ True
    rw [ey, pz_vm_te te1, pz_cm_te te1]
    exact ⟨hy, rfl, trivial⟩
end pzk
