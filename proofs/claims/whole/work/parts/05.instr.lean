/-! A plain step, instruction by instruction. -/
theorem pz_no {α : Prop} (h : false = true) : α := nomatch h
theorem pz_bi {v : Int} (h1 : -128 ≤ v) (h2 : v ≤ 127) : (Int8.ofInt v).toInt32 = Int32.ofInt v := by
  rw [← Int32.ofInt_int8ToInt, Int8.toInt_ofInt_of_le (by omega) (by omega)]
theorem pz_si {v : Int} (h1 : -32768 ≤ v) (h2 : v ≤ 32767) : (Int16.ofInt v).toInt32 = Int32.ofInt v := by
  rw [← Int32.ofInt_int16ToInt, Int16.toInt_ofInt_of_le (by omega) (by omega)]
theorem pz_div {a b : Int} (ha : pz_in a = true) (hb : pz_in b = true) (h0 : 0 ≤ a) (h1 : 0 < b) : Int32.ofInt a / Int32.ofInt b = Int32.ofInt (a / b) := by
  rw [pz_in_iff] at ha hb
  rw [← Int.tdiv_eq_ediv_of_nonneg h0]
  exact (Int32.ofInt_tdiv (by show (-2147483648 : Int) ≤ a; omega) (by show a ≤ (2147483647 : Int); omega) (by show (-2147483648 : Int) ≤ b; omega) (by show b ≤ (2147483647 : Int); omega)).symm
theorem pz_div_in {a b : Int} (ha : pz_in a = true) (h0 : 0 ≤ a) (h1 : 0 < b) : pz_in (a / b) = true ∧ pz_in (a % b) = true := by
  rw [pz_in_iff] at ha
  have h2 : a / b ≤ a := Int.ediv_le_self b h0
  have h3 : 0 ≤ a / b := Int.ediv_nonneg h0 (by omega)
  have h6 : 0 ≤ b * (a / b) := Int.mul_nonneg (by omega) h3
  have h7 : a % b = a - b * (a / b) := Int.emod_def a b
  have h4 : a % b ≤ a := by omega
  have h5 : 0 ≤ a % b := Int.emod_nonneg a (by omega)
  exact ⟨pz_in_iff.mpr ⟨by omega, by omega⟩, pz_in_iff.mpr ⟨by omega, by omega⟩⟩
theorem pz_rem {a b : Int} (ha : pz_in a = true) (hb : pz_in b = true) (h0 : 0 ≤ a) (h1 : 0 < b) : Int32.ofInt a - Int32.ofInt a / Int32.ofInt b * Int32.ofInt b = Int32.ofInt (a % b) := by
  rw [pz_div ha hb h0 h1, ← Int32.ofInt_mul, ← Int32.ofInt_sub]
  congr 1
  have := Int.emod_def a b
  rw [this, Int.mul_comm]
theorem pz_ne0 {b : Int} (hb : pz_in b = true) (h1 : 0 < b) : ¬ Int32.ofInt b = 0 := by
  rw [← pz_of0, pz_eq hb (by decide)]
  omega
theorem pz_lcmp (x y : Int64) : lg_cmp x y = Int32.ofInt (pz_lc x y) := by
  unfold lg_cmp pz_lc
  by_cases h1 : y < x
  · simp [h1]
  · by_cases h2 : x = y
    · simp [h1, h2]
    · simp [h1, h2]
theorem pz_lc_in (x y : Int64) : pz_in (pz_lc x y) = true := by
  unfold pz_lc
  split
  · decide
  · split <;> decide
section pzi
variable {p : Program} {l : Launch} {e : Env} {R : Room} {s : State} {mm : MethodId} {args : Array Value} {below : List Frame} {meth : Method} {c : Code} {m : Nat} {D : va_G} {tc : Nat → ClassId} {A : Nat → Prop} {b n0 : Nat} {xs : Nat → Int} {ad0 : Nat → Nat} {h0 : pz_H} {Q : State → Prop}
variable {pc pc' n k : Nat} {st : List pz_V} {L : List (Nat × pz_V)} {h : pz_H} {ok ok' : Bool}
theorem pz_i_int {f : Int32 → Int32 → Int32} (hok : (pz_b2 (pz_i32 f) (fun _ _ => true) n pc st L h).2.2.2.2 = true)
    (row : ∀ (x y : Int32) (r : List Value) (H : Heap) (locs : List Loc) (ls : Array Slot) (cells slots : Nat), W p l e R s mm args below meth c H locs cells slots Q (F0 mm (pc + n) ls (.int (f x y) :: r)) → W p l e R s mm args below meth c H locs cells slots Q (F0 mm pc ls (.int y :: .int x :: r)))
    (kk : pz_PW p l e R s mm args below meth c m D tc A b n0 xs ad0 h0 Q (pz_b2 (pz_i32 f) (fun _ _ => true) n pc st L h)) : pz_PW p l e R s mm args below meth c m D tc A b n0 xs ad0 h0 Q (pc, st, L, h, ok) :=
  pz_s_b2 hok (fun a b _ _ _ => pz_in_toInt _) (fun a b' r H locs ls cells slots _ _ _ w => row _ _ r H locs ls cells slots (by
    have hE : Int32.ofInt (pz_i32 f a b') = f (Int32.ofInt a) (Int32.ofInt b') := Int32.ofInt_toInt _
    rw [hE] at w
    exact w)) kk
theorem pz_i_if {cd : Jvm.ClassFile.Cond} {off : Int} (hx : p.tables.exec = Jvm.exec) (hb : c.code = pz_b m) (hd : decode (pz_b m) pc = .ok (.ifCond cd off, 3)) {own nL : Nat} {ini : Bool}
    (hok : (pz_step own nL ini (.ifCond cd off) 3 pc st L h).2.2.2.2 = true) (kk : pz_PW p l e R s mm args below meth c m D tc A b n0 xs ad0 h0 Q (pz_step own nL ini (.ifCond cd off) 3 pc st L h)) : pz_PW p l e R s mm args below meth c m D tc A b n0 xs ad0 h0 Q (pc, st, L, h, ok) := by
  rcases st with _ | ⟨a | a | a, r⟩
  case cons.inl =>
    refine pz_s_br (r := r) (cnd := pz_cp cd a 0) hok (fun v hv => List.mem_cons_of_mem _ hv) (fun ad H locs ls cells slots tgt ht hst kt kf => ?_) kk
    have ha : pz_in a = true := hst (.inl a) List.mem_cons_self
    have h00 : pz_in 0 = true := by decide
    show W p l e R s mm args below meth c H locs cells slots Q (F0 mm pc ls (.int (Int32.ofInt a) :: r.map (pz_v ad)))
    cases cd with
    | eq => exact lv_if_eq hx hb hd ht (fun q => kt (by rw [← pz_of0, pz_eq ha h00] at q; simp [pz_cp, q])) (fun q => kf (by rw [← pz_of0, pz_eq ha h00] at q; simp [pz_cp, q]))
    | ne => exact lv_if_ne hx hb hd ht (fun q => kt (by rw [← pz_of0, pz_eq ha h00] at q; simp [pz_cp, q])) (fun q => kf (by rw [← pz_of0, pz_eq ha h00] at q; simp [pz_cp, q]))
    | lt => exact lv_if_lt hx hb hd ht (fun q => kt (by rw [← pz_of0, pz_lt ha h00] at q; simp [pz_cp, q])) (fun q => kf (by rw [← pz_of0, pz_lt ha h00] at q; simp [pz_cp]; omega))
    | ge => exact lv_if_ge hx hb hd ht (fun q => kt (by rw [← pz_of0, pz_le h00 ha] at q; simp [pz_cp]; omega)) (fun q => kf (by rw [← pz_of0, pz_le h00 ha] at q; simp [pz_cp]; omega))
    | gt => exact lv_if_gt hx hb hd ht (fun q => kt (by rw [← pz_of0, pz_lt h00 ha] at q; simp [pz_cp, q])) (fun q => kf (by rw [← pz_of0, pz_lt h00 ha] at q; simp [pz_cp]; omega))
    | le => exact lv_if_le hx hb hd ht (fun q => kt (by rw [← pz_of0, pz_le ha h00] at q; simp [pz_cp]; omega)) (fun q => kf (by rw [← pz_of0, pz_le ha h00] at q; simp [pz_cp]; omega))
  all_goals exact pz_no hok
theorem pz_i_icmp {cd : Jvm.ClassFile.Cond} {off : Int} (hx : p.tables.exec = Jvm.exec) (hb : c.code = pz_b m) (hd : decode (pz_b m) pc = .ok (.if_icmp cd off, 3)) {own nL : Nat} {ini : Bool}
    (hok : (pz_step own nL ini (.if_icmp cd off) 3 pc st L h).2.2.2.2 = true) (kk : pz_PW p l e R s mm args below meth c m D tc A b n0 xs ad0 h0 Q (pz_step own nL ini (.if_icmp cd off) 3 pc st L h)) : pz_PW p l e R s mm args below meth c m D tc A b n0 xs ad0 h0 Q (pc, st, L, h, ok) := by
  rcases st with _ | ⟨y | y | y, _ | ⟨x | x | x, r⟩⟩
  case cons.inl.cons.inl =>
    refine pz_s_br (r := r) (cnd := pz_cp cd x y) hok (fun v hv => List.mem_cons_of_mem _ (List.mem_cons_of_mem _ hv)) (fun ad H locs ls cells slots tgt ht hst kt kf => ?_) kk
    have hy : pz_in y = true := hst (.inl y) List.mem_cons_self
    have hxx : pz_in x = true := hst (.inl x) (List.mem_cons_of_mem _ List.mem_cons_self)
    show W p l e R s mm args below meth c H locs cells slots Q (F0 mm pc ls (.int (Int32.ofInt y) :: .int (Int32.ofInt x) :: r.map (pz_v ad)))
    cases cd with
    | eq => exact lv_icmp_eq hx hb hd ht (fun q => kt (by rw [pz_eq hxx hy] at q; simp [pz_cp, q])) (fun q => kf (by rw [pz_eq hxx hy] at q; simp [pz_cp, q]))
    | ne => exact lv_icmp_ne hx hb hd ht (fun q => kt (by rw [pz_eq hxx hy] at q; simp [pz_cp, q])) (fun q => kf (by rw [pz_eq hxx hy] at q; simp [pz_cp, q]))
    | lt => exact lv_icmp_lt hx hb hd ht (fun q => kt (by rw [pz_lt hxx hy] at q; simp [pz_cp, q])) (fun q => kf (by rw [pz_lt hxx hy] at q; simp [pz_cp]; omega))
    | ge => exact lv_icmp_ge hx hb hd ht (fun q => kt (by rw [pz_le hy hxx] at q; simp [pz_cp]; omega)) (fun q => kf (by rw [pz_le hy hxx] at q; simp [pz_cp]; omega))
    | gt => exact lv_icmp_gt hx hb hd ht (fun q => kt (by rw [pz_lt hy hxx] at q; simp [pz_cp, q])) (fun q => kf (by rw [pz_lt hy hxx] at q; simp [pz_cp]; omega))
    | le => exact lv_icmp_le hx hb hd ht (fun q => kt (by rw [pz_le hxx hy] at q; simp [pz_cp]; omega)) (fun q => kf (by rw [pz_le hxx hy] at q; simp [pz_cp]; omega))
  all_goals exact pz_no hok
theorem pz_i_sw {dflt lo hi : Int} {offs : Array Int} (hx : p.tables.exec = Jvm.exec) (hb : c.code = pz_b m) (hd : decode (pz_b m) pc = .ok (.tableswitch dflt lo hi offs, n)) {own nL : Nat} {ini : Bool}
    (hok : (pz_step own nL ini (.tableswitch dflt lo hi offs) n pc st L h).2.2.2.2 = true) (kk : pz_PW p l e R s mm args below meth c m D tc A b n0 xs ad0 h0 Q (pz_step own nL ini (.tableswitch dflt lo hi offs) n pc st L h)) : pz_PW p l e R s mm args below meth c m D tc A b n0 xs ad0 h0 Q (pc, st, L, h, ok) := by
  rcases st with _ | ⟨a | a | a, r⟩
  case cons.inl =>
    refine pz_s_br (r := r) (cnd := true) hok (fun v hv => List.mem_cons_of_mem _ hv) (fun ad H locs ls cells slots tgt ht hst kt kf => ?_) kk
    have ha : pz_in a = true := hst (.inl a) List.mem_cons_self
    show W p l e R s mm args below meth c H locs cells slots Q (F0 mm pc ls (.int (Int32.ofInt a) :: r.map (pz_v ad)))
    by_cases h1 : a < lo ∨ hi < a
    · rw [if_pos h1] at ht
      exact lv_tableOut hx hb hd (by rw [pz_toInt ha]; exact h1) ht (kt rfl)
    · rw [if_neg h1] at ht
      have h2 : ¬ a < lo := fun q => h1 (Or.inl q)
      have h3 : ¬ hi < a := fun q => h1 (Or.inr q)
      cases ho : offs[(a - lo).toNat]? with
      | none =>
        rw [ho] at ht
        simp only [Option.getD_none] at ht
        omega
      | some off =>
        rw [ho] at ht
        exact lv_tableIn hx hb hd (by rw [pz_toInt ha]; exact h2) (by rw [pz_toInt ha]; exact h3) (by rw [pz_toInt ha]; exact ho) ht (kt rfl)
  all_goals exact pz_no hok
end pzi
