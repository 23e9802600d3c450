/-! What part 02's machine does in a plain step, the machine does. -/
-- a value, a cell, the world of a heap; ad: where a place lies; tc: the classes of int[], long[], Node[]
def pz_v (ad : Nat → Nat) (v : pz_V) : Value := match v with
  | .inl a => .int (Int32.ofInt a)
  | .inr (.inl x) => .long x
  | .inr (.inr r) => va_rf (r.map ad)
def pz_cell (ad : Nat → Nat) (tc : Nat → ClassId) (h : pz_H) (p : Nat) : va_E :=
  if (pz_ln h p).1 = 100 then .inl (tc 0, (pz_ln h p).2, .inl (fun k => Int32.ofInt (h.2.1 p k)))
  else if (pz_ln h p).1 = 101 then .inl (tc 1, (pz_ln h p).2, .inr (.inl (fun k => h.2.2.1 p k)))
  else if (pz_ln h p).1 = 102 then .inl (tc 2, (pz_ln h p).2, .inr (.inr (.inr (.inr (fun k => (h.2.2.2.1 p k).map ad)))))
  else .inr ((pz_ln h p).1, (List.range (pz_ln h p).2).map (fun k => pz_v ad (pz_gf h p k (pz_ty (pz_ln h p).1 k))))
-- place 0 is the script's: it isn't in the world
def pz_w (ad : Nat → Nat) (tc : Nat → ClassId) (h : pz_H) : va_W := (List.range (h.1.length - 1)).map (fun i => (ad (i + 1), pz_cell ad tc h (i + 1)))
def pz_tys (tc : Nat → ClassId) : List (ClassId × FieldType) := [(tc 0, .int), (tc 1, .long), (tc 2, .object (pz_R pz_nodeC))]
def pz_wv (n : Nat) (v : pz_V) : Prop := match v with
  | .inl a => pz_in a = true
  | .inr (.inl _) => True
  | .inr (.inr r) => ∀ x, r = some x → x < n
-- numbers in range, references to places that are there, the script at place 0 alone
def pz_wf (n0 : Nat) (h : pz_H) : Prop := (∀ p k, pz_in (h.2.1 p k) = true) ∧ (∀ p k r, h.2.2.2.1 p k = some r → r < h.1.length) ∧ h.1[0]? = some (103, n0) ∧ ∀ p N, h.1[p]? = some (103, N) → p = 0
theorem pz_in_iff {a : Int} : pz_in a = true ↔ -2147483648 ≤ a ∧ a ≤ 2147483647 := by simp [pz_in]
theorem pz_toInt {a : Int} (h : pz_in a = true) : (Int32.ofInt a).toInt = a := by
  rw [pz_in_iff] at h
  exact Int32.toInt_ofInt_of_le (by omega) (by omega)
theorem pz_in_toInt (x : Int32) : pz_in x.toInt = true := by
  rw [pz_in_iff]
  have h1 := x.toInt_lt
  have h2 := x.le_toInt
  omega
theorem pz_lt {a b : Int} (ha : pz_in a = true) (hb : pz_in b = true) : Int32.ofInt a < Int32.ofInt b ↔ a < b := by rw [Int32.lt_iff_toInt_lt, pz_toInt ha, pz_toInt hb]
theorem pz_le {a b : Int} (ha : pz_in a = true) (hb : pz_in b = true) : Int32.ofInt a ≤ Int32.ofInt b ↔ a ≤ b := by rw [Int32.le_iff_toInt_le, pz_toInt ha, pz_toInt hb]
theorem pz_eq {a b : Int} (ha : pz_in a = true) (hb : pz_in b = true) : Int32.ofInt a = Int32.ofInt b ↔ a = b := by rw [← Int32.toInt_inj, pz_toInt ha, pz_toInt hb]
theorem pz_of0 : Int32.ofInt 0 = 0 := by decide
theorem pz_clamp {a : Int} (h : pz_in a = true) : (Int32.ofInt a).toNatClampNeg = a.toNat := by
  rw [pz_in_iff] at h
  exact Int32.toNatClampNeg_ofInt_of_le (by omega) (by omega)
theorem pz_idx {a : Int} {N : Nat} (h : pz_in a = true) (h0 : 0 ≤ a) (h1 : a < (N : Int)) : vp_in (Int32.ofInt a) N := by
  rw [vp_in_iff, pz_toInt h]
  exact ⟨h0, h1⟩
theorem pz_cat_v (ad : Nat → Nat) (v : pz_V) : (pz_v ad v).category = pz_cat v := by
  rcases v with a | x | r
  · rfl
  · rfl
  · cases r <;> rfl
theorem pz_at0 {h : pz_H} {p c N : Nat} (e : h.1[p]? = some (c, N)) : p < h.1.length := (List.getElem?_eq_some_iff.mp e).1
theorem pz_ln_of {h : pz_H} {p : Nat} {x : Nat × Nat} (e : h.1[p]? = some x) : pz_ln h p = x := by simp [pz_ln, e]
theorem pz_w_at {ad : Nat → Nat} {tc : Nat → ClassId} {h : pz_H} {p : Nat} (h0 : p ≠ 0) (hp : p < h.1.length) : (pz_w ad tc h)[p - 1]? = some (ad p, pz_cell ad tc h p) := by
  obtain ⟨q, rfl⟩ : ∃ q, p = q + 1 := ⟨p - 1, by omega⟩
  have hq : q < h.1.length - 1 := by omega
  simp [pz_w, hq]
theorem pz_cell_congr {ad : Nat → Nat} {tc : Nat → ClassId} {h h' : pz_H} {p : Nat} (e0 : pz_ln h' p = pz_ln h p) (e1 : ∀ k, h'.2.1 p k = h.2.1 p k) (e2 : ∀ k, h'.2.2.1 p k = h.2.2.1 p k) (e3 : ∀ k, h'.2.2.2.1 p k = h.2.2.2.1 p k) : pz_cell ad tc h' p = pz_cell ad tc h p := by
  have g : ∀ k t, pz_gf h' p k t = pz_gf h p k t := by
    intro k t
    unfold pz_gf
    split <;> simp [e1, e2, e3]
  simp only [pz_cell, e0, e1, e2, e3, g]
theorem pz_w_set {ad : Nat → Nat} {tc : Nat → ClassId} {h h' : pz_H} {p : Nat} {E : va_E} (hs : h'.1 = h.1) (h0 : p ≠ 0) (hp : p < h.1.length) (hE : pz_cell ad tc h' p = E) (hq : ∀ q, q ≠ p → pz_cell ad tc h' q = pz_cell ad tc h q) : (pz_w ad tc h).set (p - 1) (ad p, E) = pz_w ad tc h' := by
  apply List.ext_getElem?
  intro i
  rw [List.getElem?_set]
  by_cases hi : p - 1 = i
  · subst hi
    have hl : p - 1 < (pz_w ad tc h).length := by simp [pz_w]; omega
    rw [if_pos rfl, if_pos hl, ← hE, pz_w_at h0 (by rw [hs]; exact hp)]
  · rw [if_neg hi]
    unfold pz_w
    rw [hs, List.getElem?_map, List.getElem?_map]
    by_cases hl : i < h.1.length - 1
    · rw [List.getElem?_range hl, Option.map_some, Option.map_some, hq (i + 1) (by omega)]
    · rw [List.getElem?_eq_none (by simp; omega)]
      rfl
-- what stays fixed while a frame of method m runs
def pz_Cx (p : Program) (l : Launch) (s : State) (mm : MethodId) (args : Array Value) (meth : Method) (c : Code) (m : Nat) (D : va_G) (tc : Nat → ClassId) (A : Nat → Prop) (b n0 : Nat) (xs : Nat → Int) : Prop :=
  p.tables.exec = Jvm.exec ∧ c.code = pz_b m ∧ c.maxLocals = pz_mL m ∧ s.vm.findClass (pz_R (pz_mow m)) = some mm.cls ∧ (∀ w ∈ pz_T, w.before args s = true) ∧ (pz_min m = true → meth.name = "<init>") ∧ va_K D pz_cls (pz_tys tc) s ∧ (∀ q, s.heap.size ≤ q → A q) ∧
  va_X b n0 (fun k => Int32.ofInt (xs k)) s s.heap ∧ b < s.heap.size ∧ ¬ A b
/-- the frame x of method m, in every heap and with all locals that hold it, comes to Q; h0, ad0: the heap and places with which the method began -/
def pz_PW (p : Program) (l : Launch) (e : Env) (R : Room) (s : State) (mm : MethodId) (args : Array Value) (below : List Frame) (meth : Method) (c : Code) (m : Nat) (D : va_G) (tc : Nat → ClassId) (A : Nat → Prop) (b n0 : Nat) (xs : Nat → Int) (ad0 : Nat → Nat) (h0 : pz_H) (Q : State → Prop) (x : pz_S) : Prop :=
  ∀ (ad : Nat → Nat) (H : Heap) (locs : List Loc) (ls : Array Slot), (∀ q, q < h0.1.length → ad q = ad0 q) → h0.1.length ≤ x.2.2.2.1.1.length → h0.2.2.2.2.1 ≤ x.2.2.2.1.2.2.2.2.1 → h0.2.2.2.2.2 ≤ x.2.2.2.1.2.2.2.2.2 → ad 0 = b → (∀ k, k < n0 → x.2.2.2.1.2.1 0 k = xs k) →
    va_P D pz_cls (pz_w ad tc x.2.2.2.1) H → va_D A (pz_w ad tc x.2.2.2.1) → va_S A s.heap H locs → pz_wf n0 x.2.2.2.1 → (∀ v ∈ x.2.1, pz_wv x.2.2.2.1.1.length v) → (∀ q ∈ x.2.2.1, pz_wv x.2.2.2.1.1.length q.2) → lv_has ls (pz_mL m) (x.2.2.1.map (fun q => (q.1, pz_v ad q.2))) →
    W p l e R s mm args below meth c H locs (x.2.2.2.1.2.2.2.2.1 - h0.2.2.2.2.1) (x.2.2.2.1.2.2.2.2.2 - h0.2.2.2.2.2) Q (F0 mm x.1 ls (x.2.1.map (pz_v ad)))
section pzs
variable {p : Program} {l : Launch} {e : Env} {R : Room} {s : State} {mm : MethodId} {args : Array Value} {below : List Frame} {meth : Method} {c : Code} {m : Nat} {D : va_G} {tc : Nat → ClassId} {A : Nat → Prop} {b n0 : Nat} {xs : Nat → Int} {ad0 : Nat → Nat} {h0 : pz_H} {Q : State → Prop}
variable {pc pc' n k : Nat} {st : List pz_V} {L : List (Nat × pz_V)} {h : pz_H} {ok ok' : Bool}
-- a value comes onto the stack
theorem pz_w_push {v : pz_V} (hv : ∀ (ad : Nat → Nat) (H : Heap), pz_wf n0 h → (∀ v ∈ st, pz_wv h.1.length v) → (∀ q ∈ L, pz_wv h.1.length q.2) → pz_wv h.1.length v)
    (row : ∀ (ad : Nat → Nat) (H : Heap) (locs : List Loc) (ls : Array Slot) (cells slots : Nat), lv_has ls (pz_mL m) (L.map (fun q => (q.1, pz_v ad q.2))) → W p l e R s mm args below meth c H locs cells slots Q (F0 mm pc' ls (pz_v ad v :: st.map (pz_v ad))) → W p l e R s mm args below meth c H locs cells slots Q (F0 mm pc ls (st.map (pz_v ad))))
    (kk : pz_PW p l e R s mm args below meth c m D tc A b n0 xs ad0 h0 Q (pc', v :: st, L, h, ok')) : pz_PW p l e R s mm args below meth c m D tc A b n0 xs ad0 h0 Q (pc, st, L, h, ok) := by
  intro ad H locs ls a1 a2 a3 a4 a5 a6 hP hD hS hwf hst hL hl
  refine row ad H locs ls _ _ hl (kk ad H locs ls a1 a2 a3 a4 a5 a6 hP hD hS hwf (fun w hw => ?_) hL hl)
  rcases List.mem_cons.mp hw with rfl | hw
  · exact hv ad H hwf hst hL
  · exact hst w hw
-- the stack alone changes
theorem pz_w_stk {st' : List pz_V} (hv : pz_wf n0 h → (∀ v ∈ st, pz_wv h.1.length v) → ∀ v ∈ st', pz_wv h.1.length v)
    (row : ∀ (ad : Nat → Nat) (H : Heap) (locs : List Loc) (ls : Array Slot) (cells slots : Nat), pz_wf n0 h → (∀ v ∈ st, pz_wv h.1.length v) → va_P D pz_cls (pz_w ad tc h) H → va_S A s.heap H locs → ad 0 = b → (∀ k, k < n0 → h.2.1 0 k = xs k) → W p l e R s mm args below meth c H locs cells slots Q (F0 mm pc' ls (st'.map (pz_v ad))) → W p l e R s mm args below meth c H locs cells slots Q (F0 mm pc ls (st.map (pz_v ad))))
    (kk : pz_PW p l e R s mm args below meth c m D tc A b n0 xs ad0 h0 Q (pc', st', L, h, ok')) : pz_PW p l e R s mm args below meth c m D tc A b n0 xs ad0 h0 Q (pc, st, L, h, ok) := by
  intro ad H locs ls a1 a2 a3 a4 a5 a6 hP hD hS hwf hst hL hl
  exact row ad H locs ls _ _ hwf hst hP hS a5 a6 (kk ad H locs ls a1 a2 a3 a4 a5 a6 hP hD hS hwf (hv hwf hst) hL hl)
theorem pz_look_mem {α : Type} {L : List (Nat × α)} {k : Nat} {v : α} (e : pz_look L k = some v) : (k, v) ∈ L := by
  induction L with
  | nil => cases e
  | cons q r ih =>
    unfold pz_look at e
    cases hq : Nat.beq q.1 k with
    | true =>
      rw [hq] at e
      have h1 : q.1 = k := Nat.eq_of_beq_eq_true hq
      have h2 : q.2 = v := Option.some.inj e
      rw [← h1, ← h2]
      exact List.mem_cons_self
    | false =>
      rw [hq] at e
      exact List.mem_cons_of_mem _ (ih e)
theorem pz_loc {ls : Array Slot} {ad : Nat → Nat} {nL : Nat} {v : pz_V} (hl : lv_has ls nL (L.map (fun q => (q.1, pz_v ad q.2)))) (e : pz_look L k = some v) : ls[k]? = some (.val (pz_v ad v)) :=
  hl.2.2 (k, pz_v ad v) (List.mem_map.mpr ⟨(k, v), pz_look_mem e, rfl⟩)
theorem pz_tag0 {v : pz_V} (h : pz_tag v = 0) : ∃ a, v = .inl a := by
  rcases v with a | x | r
  · exact ⟨a, rfl⟩
  · cases h
  · cases h
theorem pz_tag2 {v : pz_V} (h : pz_tag v = 2) : ∃ x, v = .inr (.inl x) := by
  rcases v with a | x | r
  · cases h
  · exact ⟨x, rfl⟩
  · cases h
theorem pz_tag3 {v : pz_V} (h : pz_tag v = 3) : ∃ r, v = .inr (.inr r) := by
  rcases v with a | x | r
  · cases h
  · cases h
  · exact ⟨r, rfl⟩
-- loads
theorem pz_s_ld {t : Nat} (hok : (pz_ld t k n pc st L h).2.2.2.2 = true)
    (row : ∀ (v : pz_V) (ad : Nat → Nat) (H : Heap) (locs : List Loc) (ls : Array Slot) (cells slots : Nat), pz_tag v = t → ls[k]? = some (.val (pz_v ad v)) → W p l e R s mm args below meth c H locs cells slots Q (F0 mm (pc + n) ls (pz_v ad v :: st.map (pz_v ad))) → W p l e R s mm args below meth c H locs cells slots Q (F0 mm pc ls (st.map (pz_v ad))))
    (kk : pz_PW p l e R s mm args below meth c m D tc A b n0 xs ad0 h0 Q (pz_ld t k n pc st L h)) : pz_PW p l e R s mm args below meth c m D tc A b n0 xs ad0 h0 Q (pc, st, L, h, ok) := by
  unfold pz_ld at hok kk
  cases hv : pz_look L k with
  | none => rw [hv] at hok; cases hok
  | some v =>
    rw [hv] at hok kk
    exact pz_w_push (v := v) (fun ad H _ _ hL => hL (k, v) (pz_look_mem hv)) (fun ad H locs ls cells slots hl w => row v ad H locs ls cells slots (of_decide_eq_true hok) (pz_loc hl hv) w) kk
-- stores
theorem pz_st1_map (ad : Nat → Nat) (v : pz_V) (i : Nat) : (pz_st1 L i v).map (fun q => (q.1, pz_v ad q.2)) = (i, pz_v ad v) :: (L.map (fun q => (q.1, pz_v ad q.2))).filter (fun q => !(q.1 == i) && !(q.1 + 1 == i && q.2.category == 2)) := by
  unfold pz_st1
  rw [List.map_cons, List.filter_map]
  congr 2
  apply List.filter_congr
  intro q _
  simp only [Function.comp, pz_cat_v]
theorem pz_st2_map (ad : Nat → Nat) (v : pz_V) (i : Nat) : (pz_st2 L i v).map (fun q => (q.1, pz_v ad q.2)) = (i, pz_v ad v) :: (L.map (fun q => (q.1, pz_v ad q.2))).filter (fun q => !(q.1 == i) && (!(q.1 == i + 1) && !(q.1 + 1 == i && q.2.category == 2))) := by
  unfold pz_st2
  rw [List.map_cons, List.filter_map]
  congr 2
  apply List.filter_congr
  intro q _
  simp only [Function.comp, pz_cat_v]
theorem pz_s_loc {v : pz_V} {r : List pz_V} {L' : List (Nat × pz_V)} (hL' : ∀ q ∈ L', q = (k, v) ∨ q ∈ L) (hv : pz_wf n0 h → (∀ w ∈ st, pz_wv h.1.length w) → (∀ q ∈ L, pz_wv h.1.length q.2) → pz_wv h.1.length v ∧ ∀ w ∈ r, pz_wv h.1.length w)
    (row : ∀ (ad : Nat → Nat) (H : Heap) (locs : List Loc) (ls : Array Slot) (cells slots : Nat), lv_has ls (pz_mL m) (L.map (fun q => (q.1, pz_v ad q.2))) → (∀ ls' : Array Slot, lv_has ls' (pz_mL m) (L'.map (fun q => (q.1, pz_v ad q.2))) → W p l e R s mm args below meth c H locs cells slots Q (F0 mm pc' ls' (r.map (pz_v ad)))) → W p l e R s mm args below meth c H locs cells slots Q (F0 mm pc ls (st.map (pz_v ad))))
    (kk : pz_PW p l e R s mm args below meth c m D tc A b n0 xs ad0 h0 Q (pc', r, L', h, ok')) : pz_PW p l e R s mm args below meth c m D tc A b n0 xs ad0 h0 Q (pc, st, L, h, ok) := by
  intro ad H locs ls a1 a2 a3 a4 a5 a6 hP hD hS hwf hst hL hl
  refine row ad H locs ls _ _ hl (fun ls' hl' => kk ad H locs ls' a1 a2 a3 a4 a5 a6 hP hD hS hwf (hv hwf hst hL).2 (fun q hq => ?_) hl')
  rcases hL' q hq with rfl | hq
  · exact (hv hwf hst hL).1
  · exact hL q hq
theorem pz_st1_in {v : pz_V} {i : Nat} : ∀ q ∈ pz_st1 L i v, q = (i, v) ∨ q ∈ L := by
  intro q hq
  rcases List.mem_cons.mp hq with h | h
  · exact Or.inl h
  · exact Or.inr (List.mem_filter.mp h).1
theorem pz_st2_in {v : pz_V} {i : Nat} : ∀ q ∈ pz_st2 L i v, q = (i, v) ∨ q ∈ L := by
  intro q hq
  rcases List.mem_cons.mp hq with h | h
  · exact Or.inl h
  · exact Or.inr (List.mem_filter.mp h).1
theorem pz_s_sto {t : Nat} (hok : (pz_sto t (pz_mL m) k n pc st L h).2.2.2.2 = true)
    (row : ∀ (v : pz_V) (r : List pz_V) (ad : Nat → Nat) (H : Heap) (locs : List Loc) (ls : Array Slot) (cells slots : Nat) (lv lv' : List (Nat × Value)), pz_tag v = t → k < pz_mL m → lv_has ls (pz_mL m) lv → (k, pz_v ad v) :: lv.filter (fun q => !(q.1 == k) && !(q.1 + 1 == k && q.2.category == 2)) = lv' → (∀ ls' : Array Slot, lv_has ls' (pz_mL m) lv' → W p l e R s mm args below meth c H locs cells slots Q (F0 mm (pc + n) ls' (r.map (pz_v ad)))) → W p l e R s mm args below meth c H locs cells slots Q (F0 mm pc ls (pz_v ad v :: r.map (pz_v ad))))
    (kk : pz_PW p l e R s mm args below meth c m D tc A b n0 xs ad0 h0 Q (pz_sto t (pz_mL m) k n pc st L h)) : pz_PW p l e R s mm args below meth c m D tc A b n0 xs ad0 h0 Q (pc, st, L, h, ok) := by
  unfold pz_sto at hok kk
  cases st with
  | nil => cases hok
  | cons v r =>
    have hk := Bool.and_eq_true_iff.mp hok
    exact pz_s_loc (v := v) (r := r) pz_st1_in (fun _ hst _ => ⟨hst v List.mem_cons_self, fun w hw => hst w (List.mem_cons_of_mem _ hw)⟩)
      (fun ad H locs ls cells slots hl w => row v r ad H locs ls cells slots _ _ (of_decide_eq_true hk.1) (of_decide_eq_true hk.2) hl (pz_st1_map ad v k).symm w) kk
theorem pz_s_stl (hok : (pz_stl (pz_mL m) k n pc st L h).2.2.2.2 = true)
    (row : ∀ (v : pz_V) (r : List pz_V) (ad : Nat → Nat) (H : Heap) (locs : List Loc) (ls : Array Slot) (cells slots : Nat) (lv lv' : List (Nat × Value)), pz_tag v = 2 → k + 1 < pz_mL m → lv_has ls (pz_mL m) lv → (k, pz_v ad v) :: lv.filter (fun q => !(q.1 == k) && (!(q.1 == k + 1) && !(q.1 + 1 == k && q.2.category == 2))) = lv' → (∀ ls' : Array Slot, lv_has ls' (pz_mL m) lv' → W p l e R s mm args below meth c H locs cells slots Q (F0 mm (pc + n) ls' (r.map (pz_v ad)))) → W p l e R s mm args below meth c H locs cells slots Q (F0 mm pc ls (pz_v ad v :: r.map (pz_v ad))))
    (kk : pz_PW p l e R s mm args below meth c m D tc A b n0 xs ad0 h0 Q (pz_stl (pz_mL m) k n pc st L h)) : pz_PW p l e R s mm args below meth c m D tc A b n0 xs ad0 h0 Q (pc, st, L, h, ok) := by
  unfold pz_stl at hok kk
  cases st with
  | nil => cases hok
  | cons v r =>
    have hk := Bool.and_eq_true_iff.mp hok
    exact pz_s_loc (v := v) (r := r) pz_st2_in (fun _ hst _ => ⟨hst v List.mem_cons_self, fun w hw => hst w (List.mem_cons_of_mem _ hw)⟩)
      (fun ad H locs ls cells slots hl w => row v r ad H locs ls cells slots _ _ (of_decide_eq_true hk.1) (of_decide_eq_true hk.2) hl (pz_st2_map ad v k).symm w) kk
-- two ints to one, two longs to one, a long and an int to a long
theorem pz_s_b2 {f : Int → Int → Int} {g : Int → Int → Bool} (hok : (pz_b2 f g n pc st L h).2.2.2.2 = true) (hin : ∀ a b', pz_in a = true → pz_in b' = true → g a b' = true → pz_in (f a b') = true)
    (row : ∀ (a b' : Int) (r : List Value) (H : Heap) (locs : List Loc) (ls : Array Slot) (cells slots : Nat), pz_in a = true → pz_in b' = true → g a b' = true → W p l e R s mm args below meth c H locs cells slots Q (F0 mm (pc + n) ls (.int (Int32.ofInt (f a b')) :: r)) → W p l e R s mm args below meth c H locs cells slots Q (F0 mm pc ls (.int (Int32.ofInt b') :: .int (Int32.ofInt a) :: r)))
    (kk : pz_PW p l e R s mm args below meth c m D tc A b n0 xs ad0 h0 Q (pz_b2 f g n pc st L h)) : pz_PW p l e R s mm args below meth c m D tc A b n0 xs ad0 h0 Q (pc, st, L, h, ok) := by
  rcases st with _ | ⟨y | y | y, _ | ⟨x | x | x, r⟩⟩
  case cons.inl.cons.inl =>
    have hg : g x y = true := hok
    have kk : pz_PW p l e R s mm args below meth c m D tc A b n0 xs ad0 h0 Q (pc + n, .inl (f x y) :: r, L, h, g x y) := kk
    refine pz_w_stk (st' := .inl (f x y) :: r) (fun _ hst v hv => ?_) (fun ad H locs ls cells slots _ hst _ _ _ _ w => row x y _ H locs ls cells slots (hst (.inl x) (List.mem_cons_of_mem _ List.mem_cons_self)) (hst (.inl y) List.mem_cons_self) hg w) kk
    rcases List.mem_cons.mp hv with rfl | hv
    · exact hin x y (hst (.inl x) (List.mem_cons_of_mem _ List.mem_cons_self)) (hst (.inl y) List.mem_cons_self) hg
    · exact hst v (List.mem_cons_of_mem _ (List.mem_cons_of_mem _ hv))
  all_goals cases hok
theorem pz_s_l2 {f : Int64 → Int64 → Int64} (hok : (pz_l2 f n pc st L h).2.2.2.2 = true)
    (row : ∀ (x y : Int64) (r : List Value) (H : Heap) (locs : List Loc) (ls : Array Slot) (cells slots : Nat), W p l e R s mm args below meth c H locs cells slots Q (F0 mm (pc + n) ls (.long (f x y) :: r)) → W p l e R s mm args below meth c H locs cells slots Q (F0 mm pc ls (.long y :: .long x :: r)))
    (kk : pz_PW p l e R s mm args below meth c m D tc A b n0 xs ad0 h0 Q (pz_l2 f n pc st L h)) : pz_PW p l e R s mm args below meth c m D tc A b n0 xs ad0 h0 Q (pc, st, L, h, ok) := by
  rcases st with _ | ⟨y | y | y, _ | ⟨x | x | x, r⟩⟩
  case cons.inr.inl.cons.inr.inl =>
    have kk : pz_PW p l e R s mm args below meth c m D tc A b n0 xs ad0 h0 Q (pc + n, .inr (.inl (f x y)) :: r, L, h, true) := kk
    refine pz_w_stk (st' := .inr (.inl (f x y)) :: r) (fun _ hst v hv => ?_) (fun ad H locs ls cells slots _ hst _ _ _ _ w => row x y _ H locs ls cells slots w) kk
    rcases List.mem_cons.mp hv with rfl | hv
    · exact trivial
    · exact hst v (List.mem_cons_of_mem _ (List.mem_cons_of_mem _ hv))
  all_goals cases hok
theorem pz_s_ls {f : Int64 → Int32 → Int64} (hok : (pz_ls f n pc st L h).2.2.2.2 = true)
    (row : ∀ (x : Int64) (y : Int32) (r : List Value) (H : Heap) (locs : List Loc) (ls : Array Slot) (cells slots : Nat), W p l e R s mm args below meth c H locs cells slots Q (F0 mm (pc + n) ls (.long (f x y) :: r)) → W p l e R s mm args below meth c H locs cells slots Q (F0 mm pc ls (.int y :: .long x :: r)))
    (kk : pz_PW p l e R s mm args below meth c m D tc A b n0 xs ad0 h0 Q (pz_ls f n pc st L h)) : pz_PW p l e R s mm args below meth c m D tc A b n0 xs ad0 h0 Q (pc, st, L, h, ok) := by
  rcases st with _ | ⟨y | y | y, _ | ⟨x | x | x, r⟩⟩
  case cons.inl.cons.inr.inl =>
    have kk : pz_PW p l e R s mm args below meth c m D tc A b n0 xs ad0 h0 Q (pc + n, .inr (.inl (f x (Int32.ofInt y))) :: r, L, h, true) := kk
    refine pz_w_stk (st' := .inr (.inl (f x (Int32.ofInt y))) :: r) (fun _ hst v hv => ?_) (fun ad H locs ls cells slots _ hst _ _ _ _ w => row x _ _ H locs ls cells slots w) kk
    rcases List.mem_cons.mp hv with rfl | hv
    · exact trivial
    · exact hst v (List.mem_cons_of_mem _ (List.mem_cons_of_mem _ hv))
  all_goals cases hok
-- a branch
theorem pz_s_br {cnd : Bool} {off : Int} {r : List pz_V} (hok : (pz_br cnd off n pc r L h).2.2.2.2 = true) (hr : ∀ v ∈ r, v ∈ st)
    (row : ∀ (ad : Nat → Nat) (H : Heap) (locs : List Loc) (ls : Array Slot) (cells slots tgt : Nat), (pc : Int) + off = (tgt : Int) → (∀ v ∈ st, pz_wv h.1.length v) → (cnd = true → W p l e R s mm args below meth c H locs cells slots Q (F0 mm tgt ls (r.map (pz_v ad)))) → (cnd = false → W p l e R s mm args below meth c H locs cells slots Q (F0 mm (pc + n) ls (r.map (pz_v ad)))) → W p l e R s mm args below meth c H locs cells slots Q (F0 mm pc ls (st.map (pz_v ad))))
    (kk : pz_PW p l e R s mm args below meth c m D tc A b n0 xs ad0 h0 Q (pz_br cnd off n pc r L h)) : pz_PW p l e R s mm args below meth c m D tc A b n0 xs ad0 h0 Q (pc, st, L, h, ok) := by
  have h9 : 0 ≤ (pc : Int) + off := of_decide_eq_true hok
  intro ad H locs ls a1 a2 a3 a4 a5 a6 hP hD hS hwf hst hL hl
  have w := kk ad H locs ls a1 a2 a3 a4 a5 a6 hP hD hS hwf (fun v hv => hst v (hr v hv)) hL hl
  refine row ad H locs ls _ _ ((pc : Int) + off).toNat (by omega) hst (fun h1 => ?_) (fun h1 => ?_)
  · subst h1
    exact w
  · subst h1
    exact w
end pzs
