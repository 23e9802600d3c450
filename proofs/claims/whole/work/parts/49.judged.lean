/-! The reference's undo and judged; facts of the abstract match. -/
section pzl
variable {d n0 : Nat} {mi mi' mi'' : Nat → Nat → Int} {ml : Nat → Nat → Int64} {mr : Nat → Nat → Option Nat} {c s : Nat} {F : Int} {σ σ0 : Nat → Option Nat} {Q : pz_O → pz_H → Prop} {n : Nat}
theorem pz_un1 (hn : n < 63) : ∀ (tr : List Nat) (σ : Nat → Option Nat) (mi : Nat → Nat → Int), pz_mS mi F n σ → mi 165 33 = (tr.length : Int) → tr.length ≤ 240 → pz_nt mi tr → (∀ v ∈ tr, v < 240) →
    pz_Rn d 126 (0, [], [(0, .inr (.inr (some 165))), (1, .inl (n : Int))], pz_hp n0 mi ml mr c s, true) (fun o h => ∃ mi', (o = .inl none ∧ h = pz_hp n0 mi' ml mr c s) ∧ pz_fr [182] [33] mi mi' ∧ pz_rw n mi mi' ∧ mi' 165 33 = 0 ∧ pz_mS mi' F n (fun u => if u ∈ tr then none else σ u)) := by
  intro tr
  induction tr with
  | nil =>
    intro σ mi hs h1 h2 h3 h4
    have e : (fun u => if u ∈ ([] : List Nat) then none else σ u) = σ := by
      funext u
      rw [if_neg List.not_mem_nil]
    refine pz_g126_0 ⟨fun _ => ⟨mi, ⟨rfl, rfl⟩, pz_fr_refl, pz_rw_refl, h1, by rw [e]; exact hs⟩, fun h => absurd h (by rw [h1]; decide)⟩
  | cons v t ih =>
    intro σ mi hs h1 h2 h3 h4
    unfold pz_nt at h3
    rw [List.length_cons] at h1 h2
    have hv := h4 v List.mem_cons_self
    have e1 : (mi 165 33 - 1).toNat = t.length := by omega
    refine pz_g126_0 ⟨fun h => absurd h (by omega), fun _ => ⟨by omega, by omega, by omega, ?_⟩⟩
    rw [e1, h3.1]
    refine ⟨by omega, by omega, by omega, ?_⟩
    have e2 : (240 * (n : Int) + (3000 + (v : Int)) - 3000).toNat = 240 * n + v := by omega
    have e3 : mi 165 33 - 1 = (t.length : Int) := by omega
    rw [e2, e3]
    have f1 : pz_fr [182] [33] mi (pz_up (pz_up mi 165 33 (t.length : Int)) 182 (240 * n + v) 0) := pz_fr_trans (pz_fr_u5 (by decide)) (pz_fr_up (by decide) (by decide))
    have te1 := pz_te_fr f1 (by decide) (by decide)
    have w : ∀ k, pz_up (pz_up mi 165 33 (t.length : Int)) 182 (240 * n + v) 0 182 k = if k = 240 * n + v then 0 else mi 182 k := by
      intro k
      by_cases ek : k = 240 * n + v
      · rw [if_pos ek, ek, pz_up_at]
      · rw [if_neg ek, pz_up_ot ek, pz_upq (by decide)]
    have r1 : pz_rw n mi (pz_up (pz_up mi 165 33 (t.length : Int)) 182 (240 * n + v) 0) := by
      intro k hk
      rw [w, if_neg (by omega)]
    refine (ih (fun u => if u = v then none else σ u) _ ?_ ?_ (by omega) ?_ (fun u hu => h4 u (List.mem_cons_of_mem _ hu))).mono (Nat.le_refl _) ?_
    · intro u
      refine ⟨fun hu => ?_, fun hu => ?_⟩
      · rw [w, pz_vm_te te1, pz_cm_te te1]
        dsimp only
        by_cases eu : u = v
        · rw [if_pos eu, if_pos (by omega)]
        · rw [if_neg eu, if_neg (by omega)]
          exact (hs u).1 hu
      · dsimp only
        by_cases eu : u = v
        · rw [if_pos eu]
        · rw [if_neg eu]
          exact (hs u).2 hu
    · rw [pz_upq (by decide), pz_up_at]
    · refine pz_nt_te (fun j _ => ?_) h3.2
      rw [pz_upq (by decide), pz_upq (by decide)]
    · rintro _ _ ⟨m, g1, g2, g3, g4, g5⟩
      refine ⟨m, g1, pz_fr_trans f1 g2, pz_rw_trans r1 g3, g4, ?_⟩
      have e : (fun u => if u ∈ v :: t then none else σ u) = (fun u => if u ∈ t then none else if u = v then none else σ u) := by
        funext u
        by_cases h5 : u = v
        · rw [if_pos (by rw [h5]; exact List.mem_cons_self), if_pos h5]
          split <;> rfl
        · rw [if_neg h5]
          by_cases h6 : u ∈ t
          · rw [if_pos h6, if_pos (List.mem_cons_of_mem _ h6)]
          · rw [if_neg h6, if_neg]
            intro h7
            rcases List.mem_cons.mp h7 with h7 | h7
            · exact h5 h7
            · exact h6 h7
      rw [e]
      exact g5
theorem pz_un_x (hn : n < 63) : ∀ (k : Nat) (mi : Nat → Nat → Int), mi 165 33 = (k : Int) → pz_oN mi →
    pz_Rn d 126 (0, [], [(0, .inr (.inr (some 165))), (1, .inl (n : Int))], pz_hp n0 mi ml mr c s, true) (fun o h => ∃ mi', (o = .inl none ∧ h = pz_hp n0 mi' ml mr c s) ∧ pz_fr [182] [33] mi mi' ∧ pz_rw n mi mi') := by
  intro k
  induction k with
  | zero =>
    intro mi h1 h2
    exact pz_g126_0 ⟨fun _ => ⟨mi, ⟨rfl, rfl⟩, pz_fr_refl, pz_rw_refl⟩, fun h => absurd h (by omega)⟩
  | succ k ih =>
    intro mi h1 h2
    have e1 : (mi 165 33 - 1).toNat = k := by omega
    have h3 := h2.1
    have h4 := h2.2 k (by omega)
    refine pz_g126_0 ⟨fun h => absurd h (by omega), fun _ => ⟨by omega, by omega, by omega, ?_⟩⟩
    rw [e1]
    refine ⟨by omega, by omega, by omega, ?_⟩
    have f1 : pz_fr [182] [33] mi (pz_up (pz_up mi 165 33 (mi 165 33 - 1)) 182 (240 * (n : Int) + mi 186 k - 3000).toNat 0) := pz_fr_trans (pz_fr_u5 (by decide)) (pz_fr_up (by decide) (by decide))
    have r1 : pz_rw n mi (pz_up (pz_up mi 165 33 (mi 165 33 - 1)) 182 (240 * (n : Int) + mi 186 k - 3000).toNat 0) := by
      intro j hj
      rw [pz_up_ot (by omega), pz_upq (by decide)]
    have e33 : pz_up (pz_up mi 165 33 (mi 165 33 - 1)) 182 (240 * (n : Int) + mi 186 k - 3000).toNat 0 165 33 = (k : Int) := by
      rw [pz_upq (by decide), pz_up_at]
      omega
    have e186 : pz_up (pz_up mi 165 33 (mi 165 33 - 1)) 182 (240 * (n : Int) + mi 186 k - 3000).toNat 0 186 = mi 186 := by
      rw [pz_upq (by decide), pz_upq (by decide)]
    generalize pz_up (pz_up mi 165 33 (mi 165 33 - 1)) 182 (240 * (n : Int) + mi 186 k - 3000).toNat 0 = m1 at *
    refine (ih m1 e33 ?_).mono (Nat.le_refl _) ?_
    · refine ⟨by omega, fun j hj => ?_⟩
      rw [e186]
      exact h2.2 j (by omega)
    · rintro _ _ ⟨m, g1, g2, g3⟩
      exact ⟨m, g1, pz_fr_trans f1 g2, pz_rw_trans r1 g3⟩
/-- the abstract match makes a binding for each that it notes -/
theorem pz_ma_len {f : Nat} : ∀ {σ : Nat → Option Nat} {nb : Nat} {tr : List Nat} {r : Nat} {st : List (Nat × Nat)} {q : Bool} {σ' : Nat → Option Nat} {nb' : Nat} {tr' : List Nat} {r' : Nat}, pz_ma mi f σ nb tr r st = some (q, σ', nb', tr', r') → nb' + tr.length = nb + tr'.length := by
  induction f with
  | zero => exact fun h => nomatch h
  | succ f ih =>
    intro σ nb tr r st q σ' nb' tr' r' h
    cases st with
    | nil =>
      have e : pz_ma mi (f + 1) σ nb tr r [] = some (true, σ, nb, tr, r) := rfl
      rw [e] at h
      cases h
      rfl
    | cons ab st =>
      obtain ⟨a, b⟩ := ab
      cases r with
      | zero => exact nomatch h
      | succ r =>
        have bd : ∀ x y, pz_bd mi σ nb tr r x y (fun σ nb tr r => pz_ma mi f σ nb tr r st) = some (q, σ', nb', tr', r') → nb' + tr.length = nb + tr'.length := by
          intro x y hb
          unfold pz_bd at hb
          cases ex : pz_oc mi σ x r [y] with
          | none =>
            rw [ex] at hb
            exact nomatch hb
          | some z =>
            obtain ⟨w, k⟩ := z
            rw [ex] at hb
            cases w with
            | true =>
              cases hb
              rfl
            | false =>
              dsimp only at hb
              split at hb
              · exact nomatch hb
              · have := ih hb
                rw [List.length_cons] at this
                omega
        have eo : pz_ma mi (f + 1) σ nb tr (r + 1) ((a, b) :: st) = (if pz_kd1 mi (pz_W σ a) = 2 ∧ pz_kd1 mi (pz_W σ b) = 2 then pz_ma mi f σ nb tr r ((pz_hf mi (pz_W σ a) true, pz_hf mi (pz_W σ b) true) :: (pz_hf mi (pz_W σ a) false, pz_hf mi (pz_W σ b) false) :: st)
          else if pz_W σ a < 1000 then (if pz_W σ a = pz_W σ b then pz_ma mi f σ nb tr r st else pz_bd mi σ nb tr r (pz_W σ a) (pz_W σ b) (fun σ nb tr r => pz_ma mi f σ nb tr r st))
          else if pz_W σ b < 1000 then pz_bd mi σ nb tr r (pz_W σ b) (pz_W σ a) (fun σ nb tr r => pz_ma mi f σ nb tr r st)
          else if pz_kd1 mi (pz_W σ a) = pz_kd1 mi (pz_W σ b) ∧ mi 4 (pz_ct1 (pz_W σ a)) = mi 4 (pz_ct1 (pz_W σ b)) then pz_ma mi f σ nb tr r st
          else some (false, σ, nb, tr, r)) := rfl
        rw [eo] at h
        split at h
        · exact ih h
        · split at h
          · split at h
            · exact ih h
            · exact bd _ _ h
          · split at h
            · exact bd _ _ h
            · split at h
              · exact ih h
              · cases h
                rfl
theorem pz_ma_te (h : pz_te mi mi') {f : Nat} : ∀ (σ : Nat → Option Nat) (nb : Nat) (tr : List Nat) (r : Nat) (st : List (Nat × Nat)), pz_ma mi' f σ nb tr r st = pz_ma mi f σ nb tr r st := by
  induction f with
  | zero => exact fun _ _ _ _ _ => rfl
  | succ f ih =>
    intro σ nb tr r st
    cases st with
    | nil => rfl
    | cons ab st =>
      obtain ⟨a, b⟩ := ab
      cases r with
      | zero => rfl
      | succ r =>
        have eo : ∀ m : Nat → Nat → Int, pz_ma m (f + 1) σ nb tr (r + 1) ((a, b) :: st) = (if pz_kd1 m (pz_W σ a) = 2 ∧ pz_kd1 m (pz_W σ b) = 2 then pz_ma m f σ nb tr r ((pz_hf m (pz_W σ a) true, pz_hf m (pz_W σ b) true) :: (pz_hf m (pz_W σ a) false, pz_hf m (pz_W σ b) false) :: st)
          else if pz_W σ a < 1000 then (if pz_W σ a = pz_W σ b then pz_ma m f σ nb tr r st else pz_bd m σ nb tr r (pz_W σ a) (pz_W σ b) (fun σ nb tr r => pz_ma m f σ nb tr r st))
          else if pz_W σ b < 1000 then pz_bd m σ nb tr r (pz_W σ b) (pz_W σ a) (fun σ nb tr r => pz_ma m f σ nb tr r st)
          else if pz_kd1 m (pz_W σ a) = pz_kd1 m (pz_W σ b) ∧ m 4 (pz_ct1 (pz_W σ a)) = m 4 (pz_ct1 (pz_W σ b)) then pz_ma m f σ nb tr r st
          else some (false, σ, nb, tr, r)) := fun _ => rfl
        have bd : ∀ x y, pz_bd mi' σ nb tr r x y (fun σ nb tr r => pz_ma mi' f σ nb tr r st) = pz_bd mi σ nb tr r x y (fun σ nb tr r => pz_ma mi f σ nb tr r st) := by
          intro x y
          unfold pz_bd
          rw [pz_oc_te h]
          simp only [ih]
        rw [eo, eo, pz_kd1_te h, pz_hf_te h, bd, bd, h.2.2.1, ih, ih]
/-- how judged ends -/
def pz_kQ (n0 : Nat) (ml : Nat → Nat → Int64) (mr : Nat → Nat → Option Nat) (c s : Nat) (F : Int) (n : Nat) (σ : Nat → Option Nat) (nb : Nat) (mi : Nat → Nat → Int) (x : Option pz_mE) : pz_O → pz_H → Prop := fun o h => ∃ mi' b, (o = .inl (some (.inl b)) ∧ h = pz_hp n0 mi' ml mr c s) ∧ pz_fr [182, 186, 187, 188] [27, 29, 31, 33, 35] mi mi' ∧ (b = 0 ∨ b = 1 ∨ b = 2) ∧ pz_rw n mi mi' ∧ match x with
  | none => mi' 165 31 = 1
  | some (q, _, nb', _, r') => b = (if q then (if nb' = nb then 2 else 1) else 0) ∧ mi' 165 31 = 0 ∧ mi' 165 27 = 500 - (r' : Int) ∧ r' ≤ 500 ∧ mi' 165 29 = nb' ∧ nb' ≤ 1000 ∧ pz_mS mi' F n σ
/-- the reference's judged -/
theorem pz_judgedC (ht : pz_tm mi) (hF : F ≤ 40) (hn : n < 63) {nb r : Nat} {x y : Int} (hx : pz_vm mi F x) (hy : pz_vm mi F y) (hr : r ≤ 500) (hl : mi 165 27 = 500 - (r : Int)) (ho : mi 165 31 = 0) (hnb : mi 165 29 = (nb : Int)) (hnb1 : nb ≤ 1000) (hs : pz_mS mi F n σ) (hg : pz_gd σ) :
    pz_Rn (d + 6) 127 (0, [], [(0, .inr (.inr (some 165))), (1, .inl (n : Int)), (2, .inl x), (3, .inl y)], pz_hp n0 mi ml mr c s, true) (pz_kQ n0 ml mr c s F n σ nb mi (pz_ma mi 501 σ nb [] r [(pz_cm mi x, pz_cm mi y)])) := by
  refine pz_g127_0 ?_
  refine pz_Rn_e (Nat.le_refl _) (pz_matchesC (d := d) ht hF hn hx hy hr hl ho hnb hnb1 hs hg) ?_
  rintro _ _ ⟨m1, b, ⟨rfl, rfl⟩, f1, hb, r1, hp⟩
  cases ex : pz_ma mi 501 σ nb [] r [(pz_cm mi x, pz_cm mi y)] with
  | none =>
    rw [ex] at hp
    obtain ⟨o1, o2⟩ := hp
    have un := pz_un_x (d := 0) (n0 := n0) (ml := ml) (mr := mr) (c := c) (s := s) hn (m1 165 33).toNat m1 (by have := o2.1; omega) o2
    have fin : ∀ t : Int, (t = 1 ∨ t = 2) → pz_Rn (d + 5) 126 (0, [], [(0, .inr (.inr (some 165))), (1, .inl (n : Int))], pz_hp n0 m1 ml mr c s, true) (pz_K (d + 5 + 1) 127 25 [] [(4, .inl b), (5, .inl t)] (pz_kQ n0 ml mr c s F n σ nb mi none) true) := by
      intro t ht2
      refine pz_Rn_e (Nat.zero_le _) un ?_
      rintro _ _ ⟨m2, ⟨rfl, rfl⟩, f2, r2⟩
      have key : ∀ b', (b' = 0 ∨ b' = 1 ∨ b' = 2) → pz_kQ n0 ml mr c s F n σ nb mi none (.inl (some (.inl b'))) (pz_hp n0 m2 ml mr c s) := fun b' h => ⟨m2, b', ⟨rfl, rfl⟩, pz_fr_trans f1 (pz_fr_sub (by decide) (by decide) f2), h, pz_rw_trans r1 r2, (f2.2 31 (by decide)).trans o1⟩
      exact pz_g127_28 ⟨fun _ => key 0 (.inl rfl), fun _ => key t (.inr ht2)⟩
    exact pz_g127_7 ⟨fun _ => fin 2 (.inr rfl), fun _ => fin 1 (.inl rfl)⟩
  | some z =>
    obtain ⟨q, σ', nb', tr', r'⟩ := z
    rw [ex] at hp
    obtain ⟨o1, o2, o3, o4, o5, o6, o7⟩ := hp
    have hlen := pz_ma_len ex
    rw [List.length_nil] at hlen
    have len2 := pz_mI_len hF o7
    obtain ⟨s1, s2, s3, s4, s5, s6, s7⟩ := o7
    have un := pz_un1 (d := 0) (n0 := n0) (ml := ml) (mr := mr) (c := c) (s := s) hn tr' σ' m1 s1 s3 len2 s4 (fun v hv => by have := (s6 v hv).1; omega)
    have e : (fun u => if u ∈ tr' then none else σ' u) = σ := by
      funext u
      by_cases hu : u ∈ tr'
      · rw [if_pos hu]
        exact (s6 u hu).2.1.symm
      · rw [if_neg hu]
        rcases s7 u with h | h
        · exact h
        · exact absurd h hu
    rw [e] at un
    have fin : ∀ t : Int, (t = if nb' = nb then 2 else 1) → pz_Rn (d + 5) 126 (0, [], [(0, .inr (.inr (some 165))), (1, .inl (n : Int))], pz_hp n0 m1 ml mr c s, true) (pz_K (d + 5 + 1) 127 25 [] [(4, .inl b), (5, .inl t)] (pz_kQ n0 ml mr c s F n σ nb mi (some (q, σ', nb', tr', r'))) true) := by
      intro t ht2
      refine pz_Rn_e (Nat.zero_le _) un ?_
      rintro _ _ ⟨m2, ⟨rfl, rfl⟩, f2, r2, z2, hs2⟩
      have t12 : t = 1 ∨ t = 2 := by
        rw [ht2]
        split
        · exact .inr rfl
        · exact .inl rfl
      have key : ∀ b', (b = 0 → b' = 0) → (b ≠ 0 → b' = t) → pz_kQ n0 ml mr c s F n σ nb mi (some (q, σ', nb', tr', r')) (.inl (some (.inl b'))) (pz_hp n0 m2 ml mr c s) := by
        intro b' h1 h2
        refine ⟨m2, b', ⟨rfl, rfl⟩, pz_fr_trans f1 (pz_fr_sub (by decide) (by decide) f2), ?_, pz_rw_trans r1 r2, ?_, (f2.2 31 (by decide)).trans o2, (f2.2 27 (by decide)).trans o3, o4, (f2.2 29 (by decide)).trans o5, o6, hs2⟩
        · by_cases hb0 : b = 0
          · exact .inl (h1 hb0)
          · rw [h2 hb0]
            exact .inr t12
        · cases q with
          | false =>
            have : b = 0 := o1
            rw [h1 this]
            rfl
          | true =>
            have : b = 1 := o1
            rw [h2 (by omega)]
            exact ht2
      exact pz_g127_28 ⟨fun h => key 0 (fun _ => rfl) (fun h2 => absurd h h2), fun h => key t (fun h2 => absurd h2 h) (fun _ => rfl)⟩
    refine pz_g127_7 ⟨fun h => fin 2 ?_, fun h => fin 1 ?_⟩
    · rw [if_pos (by omega)]
    · rw [if_neg (by omega)]
end pzl
