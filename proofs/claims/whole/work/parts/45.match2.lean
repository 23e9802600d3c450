/-! The class's match against the abstract one. -/
/-- too many looks or bindings; what goBack reads is in range -/
def pz_oR (mi : Nat → Nat → Int) (nb0 : Nat) : Prop := (mi 155 5 = 501 ∨ mi 150 5 = 1001) ∧ (0 ≤ mi 155 5 ∧ mi 155 5 ≤ 501) ∧ (nb0 : Int) ≤ mi 150 5 ∧ mi 150 5 ≤ 1001 ∧ ∀ j : Nat, nb0 ≤ j → (j : Int) < mi 150 5 → 0 ≤ mi 151 j ∧ mi 151 j < 246
def pz_lo (nb0 : Nat) (mi mi' : Nat → Nat → Int) : Prop := ∀ j : Nat, j < nb0 → mi' 151 j = mi 151 j ∧ mi' 152 j = mi 152 j ∧ mi' 153 j = mi 153 j
/-- how the class's match ends -/
def pz_mQ (n0 : Nat) (ml : Nat → Nat → Int64) (mr : Nat → Nat → Option Nat) (c s : Nat) (F : Int) (σ0 : Nat → Option Nat) (nb0 : Nat) (mi : Nat → Nat → Int) (x : Option pz_mE) : pz_O → pz_H → Prop := fun o h => ∃ mi' b, (o = .inl (some (.inl b)) ∧ h = pz_hp n0 mi' ml mr c s) ∧ pz_fr [150, 151, 152, 153, 154, 155, 156, 157, 158] [] mi mi' ∧ (b = 0 ∨ b = 1) ∧ pz_lo nb0 mi mi' ∧ match x with
  | none => pz_oR mi' nb0
  | some (q, σ', nb', _, r') => b = (if q then 1 else 0) ∧ mi' 155 5 = 500 - (r' : Int) ∧ r' ≤ 500 ∧ mi' 150 5 = nb' ∧ nb' ≤ 1000 ∧ pz_cI mi' F σ0 σ' nb0
section pze
variable {d n0 : Nat} {mi mi' mi'' : Nat → Nat → Int} {ml : Nat → Nat → Int64} {mr : Nat → Nat → Option Nat} {c s : Nat} {F : Int} {σ σ0 : Nat → Option Nat} {Q : pz_O → pz_H → Prop} {nb0 : Nat}
theorem pz_lo_refl : pz_lo nb0 mi mi := fun _ _ => ⟨rfl, rfl, rfl⟩
theorem pz_lo_trans (h : pz_lo nb0 mi mi') (h' : pz_lo nb0 mi' mi'') : pz_lo nb0 mi mi'' := fun j hj => ⟨(h' j hj).1.trans (h j hj).1, (h' j hj).2.1.trans (h j hj).2.1, (h' j hj).2.2.trans (h j hj).2.2⟩
theorem pz_lo_eq (h1 : mi' 151 = mi 151) (h2 : mi' 152 = mi 152) (h3 : mi' 153 = mi 153) : pz_lo nb0 mi mi' := fun j _ => ⟨by rw [h1], by rw [h2], by rw [h3]⟩
theorem pz_fr_sub {A B A' B' : List Nat} (hA : A.all (fun p => A'.contains p) = true) (hB : B.all (fun p => B'.contains p) = true) (h : pz_fr A B mi mi') : pz_fr A' B' mi mi' := by
  refine ⟨fun p hp hp2 => h.1 p (fun hn => hp ?_) hp2, fun k hk => h.2 k (fun hn => hk ?_)⟩
  · exact List.contains_iff_mem.mp (List.all_eq_true.mp hA p hn)
  · exact List.contains_iff_mem.mp (List.all_eq_true.mp hB k hn)
theorem pz_mQ_up (h : pz_fr [150, 151, 152, 153, 154, 155, 156, 157, 158] [] mi mi') (h2 : pz_lo nb0 mi mi') {x : Option pz_mE} {o : pz_O} {hp : pz_H} : pz_mQ n0 ml mr c s F σ0 nb0 mi' x o hp → pz_mQ n0 ml mr c s F σ0 nb0 mi x o hp := by
  rintro ⟨m, b, h1, h3, h4, h5, h6⟩
  exact ⟨m, b, h1, pz_fr_trans h h3, h4, pz_lo_trans h2 h5, h6⟩
theorem pz_cI_te (te : pz_te mi mi') (h0 : mi' 150 = mi 150) (h1 : mi' 151 = mi 151) (h2 : mi' 152 = mi 152) (h3 : mi' 153 = mi 153) (h4 : mi' 154 = mi 154) (h : pz_cI mi F σ0 σ nb0) : pz_cI mi' F σ0 σ nb0 := by
  obtain ⟨s1, s2, s3, s4, s5, s6⟩ := h
  refine ⟨pz_sp_te te h4 s1, s2, ?_, by rw [h0]; exact s4, by rw [h0, h1]; exact s5, by rw [h0, h1]; exact s6⟩
  rw [h0]
  exact pz_cS_te te (by rw [h0]; exact Int.le_refl _) (fun j _ => ⟨by rw [h1], by rw [h2], by rw [h3]⟩) s3
theorem pz_cI_n {v : Nat} (h : pz_cI mi F σ0 σ nb0) (hn : σ v = none) : σ0 v = none := by
  obtain ⟨s1, s2, s3, s4, s5, s6⟩ := h
  rcases s6 v with e | ⟨j, h1, h2, h3⟩
  · rw [← e]
    exact hn
  · have := (s5 j h1 h2).2.2
    rw [h3] at this
    exact this
theorem pz_oR_b {v : Nat} {y : Int} (h : pz_cI mi F σ0 σ nb0) (hF : F ≤ 40) (hm : 0 ≤ mi 150 5 ∧ mi 150 5 ≤ 1000) (hv : v < 240) (hl : 0 ≤ mi 155 5 ∧ mi 155 5 ≤ 501) (ho : mi 155 5 = 501 ∨ mi 150 5 = 1000) : pz_oR (pz_bh mi v y) nb0 := by
  obtain ⟨s1, s2, s3, s4, s5, s6⟩ := h
  obtain ⟨b1, b2, b3, b4, b5, b6, b7⟩ := pz_bh_f (mi := mi) (v : Int) y
  have e : pz_bh mi v y 155 = mi 155 := (pz_bh_fr (mi := mi) (v : Int) y).1 155 (by decide) (by decide)
  refine ⟨?_, by rw [e]; exact hl, by rw [b1]; omega, by rw [b1]; omega, fun j h1 h2 => ?_⟩
  · rw [e, b1]
    omega
  · by_cases ej : j = (mi 150 5).toNat
    · rw [ej, b5]
      omega
    · rw [(b4 j ej).1]
      have := s5 j h1 (by rw [b1] at h2; omega)
      omega
theorem pz_oR_c (h : pz_cI mi F σ0 σ nb0) (hF : F ≤ 40) (hm : 0 ≤ mi 150 5 ∧ mi 150 5 ≤ 1000) (hl : mi 155 5 = 501) : pz_oR mi nb0 := by
  obtain ⟨s1, s2, s3, s4, s5, s6⟩ := h
  refine ⟨.inl hl, by omega, s4, by omega, fun j h1 h2 => ?_⟩
  have := s5 j h1 h2
  omega
theorem pz_lo_bh {v : Nat} {y : Int} (h : (nb0 : Int) ≤ mi 150 5) : pz_lo nb0 mi (pz_bh mi v y) := fun j hj => (pz_bh_f (mi := mi) (v : Int) y).2.2.2.1 j (by omega)
/-- the loop's head, when there is too much already -/
theorem pz_mt_x {st : Int} {mi0 : Nat → Nat → Int} (hfr : pz_fr [150, 151, 152, 153, 154, 155, 156, 157, 158] [] mi0 mi) (hlo : pz_lo nb0 mi0 mi) (h : pz_oR mi nb0) : pz_Rn (d + 2) 54 (16, [], [(0, .inr (.inr (some 155))), (3, .inl st)], pz_hp n0 mi ml mr c s, true) (pz_mQ n0 ml mr c s F σ0 nb0 mi0 none) := by
  have fin : pz_mQ n0 ml mr c s F σ0 nb0 mi0 none (.inl (some (.inl 1))) (pz_hp n0 mi ml mr c s) := ⟨mi, 1, ⟨rfl, rfl⟩, hfr, .inr rfl, hlo, h⟩
  have h1 := h.1
  refine pz_g54_16 ⟨fun _ => fin, fun _ => ⟨fun _ => fin, fun h2 => ?_⟩⟩
  refine pz_Rn_c (d' := 0) (v := some (.inl 1)) (H := pz_hp n0 mi ml mr c s) (Nat.zero_le _) (pz_g48_0 ⟨fun h3 => absurd h3 (by omega), fun _ => ⟨rfl, rfl⟩⟩) ?_
  exact pz_g54_37 ⟨fun _ => fin, fun h3 => absurd h3 (by decide)⟩
set_option maxHeartbeats 2000000 in
theorem pz_ma1 {mi0 : Nat → Nat → Int} (ht : pz_tm mi0) (hF : F ≤ 40) : ∀ (n : Nat) (σ : Nat → Option Nat) (nb : Nat) (tr : List Nat) (r : Nat) (st : List (Nat × Nat)) (mi : Nat → Nat → Int), pz_te mi0 mi → r < n → r ≤ 500 → mi 155 5 = 500 - (r : Int) → mi 150 5 = (nb : Int) → nb ≤ 1000 → pz_cI mi F σ0 σ nb0 → (st.length : Int) ≤ mi 155 5 + 1 → pz_sk mi 156 F (st.map Prod.fst) → pz_sk mi 157 F (st.map Prod.snd) →
    pz_Rn (d + 2) 54 (16, [], [(0, .inr (.inr (some 155))), (3, .inl (st.length : Int))], pz_hp n0 mi ml mr c s, true) (pz_mQ n0 ml mr c s F σ0 nb0 mi (pz_ma mi0 n σ nb tr r st)) := by
  intro n
  induction n with
  | zero => exact fun σ nb tr r st mi _ h => absurd h (by omega)
  | succ n ih =>
    intro σ nb tr r st mi hte hrn hr hl hmd hnb hc hlen hk1 hk2
    have ht1 := pz_tm_te hte ht
    cases st with
    | nil =>
      have e : pz_ma mi0 (n + 1) σ nb tr r [] = some (true, σ, nb, tr, r) := rfl
      rw [e]
      exact pz_g54_16 ⟨fun _ => ⟨mi, 1, ⟨rfl, rfl⟩, pz_fr_refl, .inr rfl, pz_lo_refl, rfl, hl, hr, hmd, hnb, hc⟩, fun h => absurd h (by decide)⟩
    | cons ab st =>
      obtain ⟨a, b⟩ := ab
      have hL : ((((a, b) :: st).length : Nat) : Int) = st.length + 1 := by rw [List.length_cons]; omega
      have k1 : pz_sk mi 156 F (a :: st.map Prod.fst) := hk1
      have k2 : pz_sk mi 157 F (b :: st.map Prod.snd) := hk2
      have s4 : (nb0 : Int) ≤ mi 150 5 := hc.2.2.2.1
      have fr1 : pz_fr [155] [] mi (pz_up mi 155 5 (mi 155 5 + 1)) := pz_fr_up (by decide) (by decide)
      have l1 : pz_up mi 155 5 (mi 155 5 + 1) 155 5 = mi 155 5 + 1 := pz_up_at
      have te1 := pz_te_fr fr1 (by decide) (by decide)
      have c1 : pz_cI (pz_up mi 155 5 (mi 155 5 + 1)) F σ0 σ nb0 := pz_cI_te te1 (fr1.1 150 (by decide) (by decide)) (fr1.1 151 (by decide) (by decide)) (fr1.1 152 (by decide) (by decide)) (fr1.1 153 (by decide) (by decide)) (fr1.1 154 (by decide) (by decide)) hc
      have d1 : pz_up mi 155 5 (mi 155 5 + 1) 150 = mi 150 := fr1.1 150 (by decide) (by decide)
      have F1 : pz_fr [150, 151, 152, 153, 154, 155, 156, 157, 158] [] mi (pz_up mi 155 5 (mi 155 5 + 1)) := pz_fr_sub (by decide) (by decide) fr1
      have L1 : pz_lo nb0 mi (pz_up mi 155 5 (mi 155 5 + 1)) := pz_lo_eq (fr1.1 151 (by decide) (by decide)) (fr1.1 152 (by decide) (by decide)) (fr1.1 153 (by decide) (by decide))
      have j1 : pz_sk (pz_up mi 155 5 (mi 155 5 + 1)) 156 F (st.map Prod.fst) := pz_sk_te te1 (fun j _ => by rw [pz_upq (by decide)]) k1.2.2
      have j2 : pz_sk (pz_up mi 155 5 (mi 155 5 + 1)) 157 F (st.map Prod.snd) := pz_sk_te te1 (fun j _ => by rw [pz_upq (by decide)]) k2.2.2
      generalize hm1 : pz_up mi 155 5 (mi 155 5 + 1) = m1 at *
      have ht2 := pz_tm_te te1 ht1
      -- behind the occurs check
      have after : ∀ (m2 : Nat → Nat → Int), pz_fr [155, 158] [] m1 m2 → pz_cI m2 F σ0 σ nb0 ∧ m2 150 = mi 150 ∧ pz_te m1 m2 ∧ pz_fr [150, 151, 152, 153, 154, 155, 156, 157, 158] [] mi m2 ∧ pz_lo nb0 mi m2 ∧ m2 156 = m1 156 ∧ m2 157 = m1 157 := by
        intro m2 f2
        have te2 := pz_te_fr f2 (by decide) (by decide)
        refine ⟨pz_cI_te te2 (f2.1 150 (by decide) (by decide)) (f2.1 151 (by decide) (by decide)) (f2.1 152 (by decide) (by decide)) (f2.1 153 (by decide) (by decide)) (f2.1 154 (by decide) (by decide)) c1, (f2.1 150 (by decide) (by decide)).trans d1, te2, pz_fr_trans F1 (pz_fr_sub (by decide) (by decide) f2), pz_lo_trans L1 (pz_lo_eq (f2.1 151 (by decide) (by decide)) (f2.1 152 (by decide) (by decide)) (f2.1 153 (by decide) (by decide))), f2.1 156 (by decide) (by decide), f2.1 157 (by decide) (by decide)⟩
      have FB : ∀ (m2 : Nat → Nat → Int) (v : Nat) (y : Int), pz_fr [150, 151, 152, 153, 154, 155, 156, 157, 158] [] mi m2 → pz_fr [150, 151, 152, 153, 154, 155, 156, 157, 158] [] mi (pz_bh m2 v y) := fun m2 v y f => pz_fr_trans f (pz_fr_sub (by decide) (by decide) (pz_bh_fr (v : Int) y))
      cases r with
      | zero =>
        have e : pz_ma mi0 (n + 1) σ nb tr 0 ((a, b) :: st) = none := rfl
        rw [e]
        have o1 : pz_oR m1 nb0 := pz_oR_c c1 hF (by rw [d1]; omega) (by omega)
        refine pz_mt_b ht1 hF hc.1 (by omega) (by omega) (by omega) k1 k2 (fun _ _ mi' f1 f2 _ _ => ?_) (fun _ => ?_) (fun _ _ _ _ => ?_) (fun v y hv hvF hy hfv => ?_)
        · have te3 := pz_te_fr f1 (by decide) (by decide)
          refine pz_mt_x (pz_fr_sub (by decide) (by decide) f1) (pz_lo_eq (f1.1 151 (by decide) (by decide)) (f1.1 152 (by decide) (by decide)) (f1.1 153 (by decide) (by decide))) ?_
          refine pz_oR_c (pz_cI_te te3 (f1.1 150 (by decide) (by decide)) (f1.1 151 (by decide) (by decide)) (f1.1 152 (by decide) (by decide)) (f1.1 153 (by decide) (by decide)) (f1.1 154 (by decide) (by decide)) hc) hF ?_ (by omega)
          rw [f1.1 150 (by decide) (by decide)]
          omega
        · rw [hm1]
          exact pz_mt_x F1 L1 o1
        · rw [hm1]
          exact ⟨m1, 0, ⟨rfl, rfl⟩, F1, .inl rfl, L1, o1⟩
        · rw [hm1]
          refine ⟨_, pz_inside_x (by omega), ?_⟩
          rintro o h ⟨m2, q, h1, f2, h3, h4⟩
          obtain ⟨a1, a2, a3, a4, a5, -, -⟩ := after m2 f2
          have h4' : m2 155 5 = 501 := h4
          refine ⟨m2, q, h1, f2, fun _ => ⟨m2, 0, ⟨rfl, rfl⟩, a4, .inl rfl, a5, pz_oR_c a1 hF (by rw [a2]; omega) h4'⟩, fun _ => ?_⟩
          refine pz_mt_x (FB m2 v y a4) (pz_lo_trans a5 (pz_lo_bh (by rw [a2]; exact s4))) ?_
          exact pz_oR_b a1 hF (by rw [a2]; omega) hv (by omega) (.inl h4')
      | succ r =>
        have eo : pz_ma mi0 (n + 1) σ nb tr (r + 1) ((a, b) :: st) = (if pz_kd1 mi0 (pz_W σ a) = 2 ∧ pz_kd1 mi0 (pz_W σ b) = 2 then pz_ma mi0 n σ nb tr r ((pz_hf mi0 (pz_W σ a) true, pz_hf mi0 (pz_W σ b) true) :: (pz_hf mi0 (pz_W σ a) false, pz_hf mi0 (pz_W σ b) false) :: st)
          else if pz_W σ a < 1000 then (if pz_W σ a = pz_W σ b then pz_ma mi0 n σ nb tr r st else pz_bd mi0 σ nb tr r (pz_W σ a) (pz_W σ b) (fun σ nb tr r => pz_ma mi0 n σ nb tr r st))
          else if pz_W σ b < 1000 then pz_bd mi0 σ nb tr r (pz_W σ b) (pz_W σ a) (fun σ nb tr r => pz_ma mi0 n σ nb tr r st)
          else if pz_kd1 mi0 (pz_W σ a) = pz_kd1 mi0 (pz_W σ b) ∧ mi0 4 (pz_ct1 (pz_W σ a)) = mi0 4 (pz_ct1 (pz_W σ b)) then pz_ma mi0 n σ nb tr r st
          else some (false, σ, nb, tr, r)) := rfl
        have kv : ∀ u, u < 1000 → pz_kd1 mi0 u ≠ 2 := by
          intro u hu
          unfold pz_kd1
          rw [if_pos hu]
          decide
        have kk := pz_kd1_te hte
        have kh := pz_hf_te hte
        have k4 : mi 4 = mi0 4 := hte.2.2.1
        refine pz_mt_b ht1 hF hc.1 (by omega) (by omega) (by omega) k1 k2 ?_ ?_ ?_ ?_
        · intro h1 h2 mi' f1 f2 f3 f4
          rw [kk] at h1 h2
          rw [kh] at f3 f4
          rw [eo, if_pos ⟨h1, h2⟩]
          have te3 := pz_te_fr f1 (by decide) (by decide)
          have hq := ih σ nb tr r ((pz_hf mi0 (pz_W σ a) true, pz_hf mi0 (pz_W σ b) true) :: (pz_hf mi0 (pz_W σ a) false, pz_hf mi0 (pz_W σ b) false) :: st) mi' (pz_te_trans hte te3) (by omega) (by omega) (by omega) (by rw [f1.1 150 (by decide) (by decide)]; exact hmd) hnb (pz_cI_te te3 (f1.1 150 (by decide) (by decide)) (f1.1 151 (by decide) (by decide)) (f1.1 152 (by decide) (by decide)) (f1.1 153 (by decide) (by decide)) (f1.1 154 (by decide) (by decide)) hc) (by rw [List.length_cons, List.length_cons]; omega) f3 f4
          have el : (((pz_hf mi0 (pz_W σ a) true, pz_hf mi0 (pz_W σ b) true) :: (pz_hf mi0 (pz_W σ a) false, pz_hf mi0 (pz_W σ b) false) :: st).length : Int) = ((st.length + 2 : Nat) : Int) := by rw [List.length_cons, List.length_cons]
          rw [el] at hq
          exact hq.mono (Nat.le_refl _) (fun _ _ => pz_mQ_up (pz_fr_sub (by decide) (by decide) f1) (pz_lo_eq (f1.1 151 (by decide) (by decide)) (f1.1 152 (by decide) (by decide)) (f1.1 153 (by decide) (by decide))))
        · intro h
          rw [kk, k4] at h
          have e2 : pz_ma mi0 (n + 1) σ nb tr (r + 1) ((a, b) :: st) = pz_ma mi0 n σ nb tr r st := by
            rw [eo]
            rcases h with ⟨h1, h2⟩ | ⟨h1, h2, h3, h4⟩
            · rw [if_neg (fun e => kv _ h1 e.1), if_pos h1, if_pos h2]
            · rw [if_neg h3, if_neg (by omega), if_neg (by omega), if_pos h4]
          rw [e2, hm1]
          exact (ih σ nb tr r st m1 (pz_te_trans hte te1) (by omega) (by omega) (by omega) (by rw [d1]; exact hmd) hnb c1 (by omega) j1 j2).mono (Nat.le_refl _) (fun _ _ => pz_mQ_up F1 L1)
        · intro h1 h2 h3 h4
          rw [kk] at h3
          rw [kk, k4] at h4
          rw [eo, if_neg h3, if_neg (by omega), if_neg (by omega), if_neg h4, hm1]
          exact ⟨m1, 0, ⟨rfl, rfl⟩, F1, .inl rfl, L1, rfl, by omega, by omega, by rw [d1]; exact hmd, hnb, c1⟩
        · intro v y hv hvF hy hfv
          have e2 : pz_ma mi0 (n + 1) σ nb tr (r + 1) ((a, b) :: st) = pz_bd mi0 σ nb tr r v (pz_cs mi y) (fun σ nb tr r => pz_ma mi0 n σ nb tr r st) := by
            rw [eo]
            rcases hfv with ⟨h1, h2, h3, h4⟩ | ⟨h1, h2, h3, h4⟩
            · rw [if_neg (fun e => kv _ h1 e.1), if_pos h1, if_neg h2, h3, h4]
            · rw [if_neg (fun e => kv _ h2 e.2), if_neg (by omega), if_pos h2, h3, h4]
          rw [e2, hm1]
          have hy1 : pz_vs m1 F y := by
            rw [pz_vs_te te1]
            exact hy
          have hin := pz_inside (d := d) (n0 := n0) (ml := ml) (mr := mr) (c := c) (s := s) ht2 hF c1.1 (v := v) (by omega) hy1 (r := r) (by omega) (by omega)
          rw [pz_oc_te (pz_te_trans hte te1), pz_cs_te te1] at hin
          refine ⟨_, hin, ?_⟩
          rintro o h ⟨m2, q, h1, f2, h3, h4⟩
          obtain ⟨a1, a2, a3, a4, a5, a6, a7⟩ := after m2 f2
          refine ⟨m2, q, h1, f2, fun hq => ?_, fun hq => ?_⟩
          · unfold pz_bd
            cases ex : pz_oc mi0 σ v r [pz_cs mi y] with
            | none =>
              rw [ex] at h4
              exact ⟨m2, 0, ⟨rfl, rfl⟩, a4, .inl rfl, a5, pz_oR_c a1 hF (by rw [a2]; omega) h4⟩
            | some qk =>
              obtain ⟨q', k⟩ := qk
              rw [ex] at h4
              obtain ⟨g1, g2, g3⟩ := h4
              cases q' with
              | false => exact absurd g1 hq
              | true => exact ⟨m2, 0, ⟨rfl, rfl⟩, a4, .inl rfl, a5, rfl, g2, g3, by rw [a2]; exact hmd, hnb, a1⟩
          · unfold pz_bd
            cases ex : pz_oc mi0 σ v r [pz_cs mi y] with
            | none =>
              rw [ex] at h4
              have h4' : m2 155 5 = 501 := h4
              refine pz_mt_x (FB m2 v y a4) (pz_lo_trans a5 (pz_lo_bh (by rw [a2]; exact s4))) ?_
              exact pz_oR_b a1 hF (by rw [a2]; omega) hv (by omega) (.inl h4')
            | some qk =>
              obtain ⟨q', k⟩ := qk
              rw [ex] at h4
              obtain ⟨g1, g2, g3⟩ := h4
              cases q' with
              | true => exact absurd (g1.symm.trans hq) (by decide)
              | false =>
                show pz_Rn (d + 2) 54 _ (pz_mQ n0 ml mr c s F σ0 nb0 mi (if nb = 1000 then none else pz_ma mi0 n (pz_ub σ v (pz_cs mi y)) (nb + 1) (v :: tr) k st))
                have hk := pz_oc_le ex
                by_cases hnb1 : nb = 1000
                · rw [if_pos hnb1]
                  refine pz_mt_x (FB m2 v y a4) (pz_lo_trans a5 (pz_lo_bh (by rw [a2]; exact s4))) ?_
                  exact pz_oR_b a1 hF (by rw [a2]; omega) hv (by omega) (.inr (by rw [a2]; omega))
                · rw [if_neg hnb1]
                  have hrs : ∀ u, pz_rs σ (pz_W σ u) := hc.2.1
                  have hn : σ v = none := by
                    rcases hfv with ⟨h5, -, h6, -⟩ | ⟨-, h5, h6, -⟩
                    · rcases hrs a with h7 | h7
                      · omega
                      · rw [h6]
                        exact h7
                    · rcases hrs b with h7 | h7
                      · omega
                      · rw [h6]
                        exact h7
                  have hw : pz_W σ (pz_cs mi y) ≠ v := by
                    rcases hfv with ⟨h5, h6, h7, h8⟩ | ⟨h5, h6, h7, h8⟩
                    · rw [h8]
                      rw [show pz_W σ (pz_W σ b) = pz_W σ b from pz_wk_rs (hrs b) 246]
                      omega
                    · rw [h8]
                      rw [show pz_W σ (pz_W σ a) = pz_W σ a from pz_wk_rs (hrs a) 246]
                      omega
                  have te2 := pz_te_trans te1 a3
                  have ht3 := pz_tm_te te2 ht1
                  have ec := pz_cs_te te2
                  have hb := pz_cI_b ht3 hF a1 (v := v) (x := y) (by rw [a2]; omega) hvF hn (pz_cI_n a1 hn) (by rw [pz_vs_te te2]; exact hy) (by rw [ec]; exact hw)
                  rw [ec] at hb
                  have fb := pz_bh_fr (mi := m2) (v : Int) y
                  have teb := pz_te_fr fb (by decide) (by decide)
                  have e155 : pz_bh m2 v y 155 = m2 155 := fb.1 155 (by decide) (by decide)
                  have emd : pz_bh m2 v y 150 5 = m2 150 5 + 1 := (pz_bh_f (mi := m2) (v : Int) y).1
                  refine (ih (pz_ub σ v (pz_cs mi y)) (nb + 1) (v :: tr) k st (pz_bh m2 v y) (pz_te_trans (pz_te_trans hte te2) teb) (by omega) (by omega) (by rw [e155]; exact g2) (by rw [emd, a2]; omega) (by omega) hb (by rw [e155]; omega) ?_ ?_).mono (Nat.le_refl _) (fun _ _ => pz_mQ_up (FB m2 v y a4) (pz_lo_trans a5 (pz_lo_bh (by rw [a2]; exact s4))))
                  · refine pz_sk_te (pz_te_trans a3 teb) (fun j _ => ?_) j1
                    rw [fb.1 156 (by decide) (by decide), a6]
                  · refine pz_sk_te (pz_te_trans a3 teb) (fun j _ => ?_) j2
                    rw [fb.1 157 (by decide) (by decide), a7]
/-- Matcher.match -/
theorem pz_matchC (ht : pz_tm mi) (hF : F ≤ 40) {nb r : Nat} {x y : Int} (hx : pz_vs mi F x) (hy : pz_vs mi F y) (hr : r ≤ 500) (hl : mi 155 5 = 500 - (r : Int)) (hmd : mi 150 5 = (nb : Int)) (hnb : nb ≤ 1000) (hc : pz_cI mi F σ0 σ nb0) :
    pz_Rn (d + 2) 54 (0, [], [(0, .inr (.inr (some 155))), (1, .inl x), (2, .inl y)], pz_hp n0 mi ml mr c s, true) (pz_mQ n0 ml mr c s F σ0 nb0 mi (pz_ma mi 501 σ nb [] r [(pz_cs mi x, pz_cs mi y)])) := by
  refine pz_g54_0 ?_
  have fr1 : pz_fr [156, 157] [] mi (pz_up (pz_up mi 156 0 x) 157 0 y) := pz_fr_trans (pz_fr_up (by decide) (by decide)) (pz_fr_up (by decide) (by decide))
  have te1 := pz_te_fr fr1 (by decide) (by decide)
  have e5 : pz_up (pz_up mi 156 0 x) 157 0 y 155 = mi 155 := fr1.1 155 (by decide) (by decide)
  have e0 : pz_up (pz_up mi 156 0 x) 157 0 y 150 = mi 150 := fr1.1 150 (by decide) (by decide)
  refine (pz_ma1 (d := d) (σ0 := σ0) (nb0 := nb0) ht hF 501 σ nb [] r [(pz_cs mi x, pz_cs mi y)] (pz_up (pz_up mi 156 0 x) 157 0 y) te1 (by omega) hr (by rw [e5]; exact hl) (by rw [e0]; exact hmd) hnb (pz_cI_te te1 e0 (fr1.1 151 (by decide) (by decide)) (fr1.1 152 (by decide) (by decide)) (fr1.1 153 (by decide) (by decide)) (fr1.1 154 (by decide) (by decide)) hc) ?_ ?_ ?_).mono (Nat.le_refl _) (fun _ _ => pz_mQ_up (pz_fr_sub (by decide) (by decide) fr1) (pz_lo_eq (fr1.1 151 (by decide) (by decide)) (fr1.1 152 (by decide) (by decide)) (fr1.1 153 (by decide) (by decide))))
  · rw [e5]
    show (1 : Int) ≤ _
    omega
  · show pz_vs _ F (pz_up (pz_up mi 156 0 x) 157 0 y 156 0) ∧ pz_cs _ (pz_up (pz_up mi 156 0 x) 157 0 y 156 0) = pz_cs mi x ∧ True
    rw [pz_upq (by decide), pz_up_at, pz_vs_te te1, pz_cs_te te1]
    exact ⟨hx, rfl, trivial⟩
  · show pz_vs _ F (pz_up (pz_up mi 156 0 x) 157 0 y 157 0) ∧ pz_cs _ (pz_up (pz_up mi 156 0 x) 157 0 y 157 0) = pz_cs mi y ∧ True
    rw [pz_up_at, pz_vs_te te1, pz_cs_te te1]
    exact ⟨hy, rfl, trivial⟩
end pze
