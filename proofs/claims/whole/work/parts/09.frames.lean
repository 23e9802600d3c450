/-! Contracts over the pure heap; how a frame begins and ends. -/
-- a static field of references, its class's cell in H, not among A
def pz_Z1 (C n d : String) (A : Nat → Prop) (U : State) (H : Heap) : Prop := ∃ (cc : ClassId) (k : Class) (i : Nat) (f : Field) (a : Nat) (cell : Cell) (v : Value), U.vm.findClass C = some cc ∧ U.fieldFound? C n d = some (cc, k, i, f) ∧ f.isStatic = true ∧ k.statics = some a ∧ H[a]? = some cell ∧ cell.vm.isStatics = true ∧ cell.cls = cc ∧ f.slot < cell.slots.size ∧ k.staticTypes[f.slot]? = some f.type ∧ cell.slots[f.slot]? = some v ∧ v.isRef = true ∧ ¬ A a
theorem pz_Z1.moved {C n d : String} {A : Nat → Prop} {u U : State} {H : Heap} (hvm : u.vm.Alike U.vm) (h : pz_Z1 C n d A u H) : pz_Z1 C n d A U H := by
  obtain ⟨cc, k, i, f, a, cell, v, h1, h2, h3, h4, h5, h6, h7, h8, h9, h10, h11, h12⟩ := h
  obtain ⟨k', hi', he⟩ := State.fieldFound?_setVm hvm h2
  exact ⟨cc, k', i, f, a, cell, v, by rw [hvm.findClass]; exact h1, hi', h3, by rw [he]; exact h4, h5, h6, h7, h8, by rw [he]; exact h9, h10, h11, h12⟩
theorem pz_Z1.kept {C n d : String} {A B : Nat → Prop} {U : State} {H H1 : Heap} (h : pz_Z1 C n d A U H) (hq : ∀ a : Nat, a < H.size → ¬ A a → H1[a]? = H[a]?) (hB : ∀ a : Nat, a < H.size → B a → A a) : pz_Z1 C n d B U H1 := by
  obtain ⟨cc, k, i, f, a, cell, v, h1, h2, h3, h4, h5, h6, h7, h8, h9, h10, h11, h12⟩ := h
  have hl := (Array.getElem?_eq_some_iff.mp h5).1
  exact ⟨cc, k, i, f, a, cell, v, h1, h2, h3, h4, by rw [hq a hl h12]; exact h5, h6, h7, h8, h9, h10, h11, fun q => h12 (hB a hl q)⟩
def pz_Z (A : Nat → Prop) (U : State) (H : Heap) : Prop := pz_Z1 "java/lang/Throwable" "UNASSIGNED_STACK" "[Ljava/lang/StackTraceElement;" A U H ∧ pz_Z1 "java/lang/Throwable" "SUPPRESSED_SENTINEL" "Ljava/util/List;" A U H
theorem pz_Z.moved {A : Nat → Prop} {u U : State} {H : Heap} (hvm : u.vm.Alike U.vm) (h : pz_Z A u H) : pz_Z A U H := ⟨h.1.moved hvm, h.2.moved hvm⟩
theorem pz_Z.kept {A B : Nat → Prop} {U : State} {H H1 : Heap} (h : pz_Z A U H) (hq : ∀ a : Nat, a < H.size → ¬ A a → H1[a]? = H[a]?) (hB : ∀ a : Nat, a < H.size → B a → A a) : pz_Z B U H1 := ⟨h.1.kept hq hB, h.2.kept hq hB⟩
-- words on exceptions that hold of the tables and stay
def pz_CW : List Cond := [.declares ⟨"java/lang/RuntimeException", "<init>", "()V"⟩, .declares ⟨"java/lang/Exception", "<init>", "()V"⟩, .declares ⟨"java/lang/Throwable", "<init>", "()V"⟩, .castable "java/lang/IllegalArgumentException" "java/lang/IllegalArgumentException", .castable "java/lang/IllegalStateException" "java/lang/IllegalStateException", .castable "java/lang/IndexOutOfBoundsException" "java/lang/IndexOutOfBoundsException"]
theorem pz_CW_ok : ∀ w ∈ pz_CW, w.onTables = true ∧ w.keepsCast = true := by decide +kernel
theorem pz_CW_moved {w : Cond} (hw : w ∈ pz_CW) {s U : State} (hW : s.WarmedH U.vm) (h : va_Nw w s) : va_Nw w U :=
  va_tabs (pz_CW_ok w hw).1 (rfl : (s.setVm U.vm).vm = U.vm) (Cond.before_shiftedCast (State.Shifted.of_warmed hW) w (pz_CW_ok w hw).2 h)
-- what a method finds: the world of h at ad, the script, the statics of Throwable
def pz_B0 (D : va_G) (tc : Nat → ClassId) (b n0 : Nat) (xs : Nat → Int) (ad : Nat → Nat) (h : pz_H) (sz : Nat) (U : State) : Prop :=
  U.heap.size = sz ∧ va_P D pz_cls (pz_w ad tc h) U.heap ∧ va_D (fun _ => True) (pz_w ad tc h) ∧ va_K D pz_cls (pz_tys tc) U ∧ va_X b n0 (fun k => Int32.ofInt (xs k)) U U.heap ∧ b < sz ∧ ¬ va_A (pz_w ad tc h) sz b ∧ pz_Z (va_A (pz_w ad tc h) sz) U U.heap ∧ va_AO (pz_R pz_nodeC) U ∧ (∀ q ∈ pz_NL, va_Nw (.methodLinkNest q.1 q.2.1 q.2.2.1 q.2.2.2) U) ∧ (∀ w ∈ pz_CW, va_Nw w U) ∧ va_Nc "java/lang/IllegalStateException" "java/lang/IllegalArgumentException" U
def pz_Pc (D : va_G) (tc : Nat → ClassId) (b n0 : Nat) (xs : Nat → Int) (ad : Nat → Nat) (as : List pz_V) (h : pz_H) (sz : Nat) : Array Value → State → Prop := va_Pc (as.map (pz_v ad)) (pz_B0 D tc b n0 xs ad h sz)
-- what it leaves: the world of h' at an ad' that goes on from ad
def pz_Aft (D : va_G) (tc : Nat → ClassId) (n0 : Nat) (xs : Nat → Int) (ad ad' : Nat → Nat) (h h' : pz_H) (A : Nat → Prop) (H : Heap) : Prop :=
  (∀ q, q < h.1.length → ad' q = ad q) ∧ va_P D pz_cls (pz_w ad' tc h') H ∧ va_D A (pz_w ad' tc h') ∧ h.1.length ≤ h'.1.length ∧ h.2.2.2.2.1 ≤ h'.2.2.2.2.1 ∧ h.2.2.2.2.2 ≤ h'.2.2.2.2.2 ∧ pz_wf n0 h' ∧ ∀ k, k < n0 → h'.2.1 0 k = xs k
def pz_Qr (D : va_G) (tc : Nat → ClassId) (n0 : Nat) (xs : Nat → Int) (ad : Nat → Nat) (h : pz_H) (A : Nat → Prop) (v : Option pz_V) (h' : pz_H) : Array Value → State → Outcome → State → Prop := fun _ st oc t =>
  (∃ ad', pz_Aft D tc n0 xs ad ad' h h' A t.heap ∧ oc = .returned (v.map (pz_v ad')) ∧ ∀ u, v = some u → pz_wv h'.1.length u) ∧ va_F A st t
-- an exception of kind k: its class
def pz_exc (k : Nat) : String := (["", "java/lang/IllegalArgumentException", "java/lang/IllegalStateException", "java/lang/IndexOutOfBoundsException"][k]?).getD ""
def pz_Qx (D : va_G) (tc : Nat → ClassId) (n0 : Nat) (xs : Nat → Int) (ad : Nat → Nat) (h : pz_H) (A : Nat → Prop) (k : Nat) (h' : pz_H) : Array Value → State → Outcome → State → Prop := fun _ st oc t =>
  (∃ (q : Addr) (ce : Cell) (ad' : Nat → Nat) (L : List Loc), oc = .threw q ∧ pz_Aft D tc n0 xs ad ad' h h' A t.heap ∧ t.heap[q]? = some ce ∧ ce.vm = .none ∧ st.vm.findClass (pz_exc k) = some ce.cls ∧ st.WarmedH t.vm ∧ st.sameButNew ({ t with vm := st.vm } : State) L (h'.2.2.2.2.1 - h.2.2.2.2.1) (h'.2.2.2.2.2 - h.2.2.2.2.2) ∧ ∀ z ∈ L, A z.base) ∧ va_F A st t
-- how a frame ends
def pz_End (below : List Frame) (args : Array Value) (s : State) (D : va_G) (tc : Nat → ClassId) (n0 : Nat) (xs : Nat → Int) (ad : Nat → Nat) (h : pz_H) (A : Nat → Prop) (o : pz_O) (h' : pz_H) : State → Prop := match o with
  | .inl v => MQ below (pz_Qr D tc n0 xs ad h A v h') args s (h'.2.2.2.2.1 - h.2.2.2.2.1) (h'.2.2.2.2.2 - h.2.2.2.2.2) A
  | .inr k => fun t => ∃ oc, t.status = .running ∧ Ended t below oc ∧ pz_Qx D tc n0 xs ad h A k h' args s oc t
section pzr
variable {p : Program} {l : Launch} {e : Env} {R : Room} {s : State} {mm : MethodId} {args : Array Value} {below : List Frame} {meth : Method} {c : Code} {m : Nat} {D : va_G} {tc : Nat → ClassId} {A : Nat → Prop} {b n0 : Nat} {xs : Nat → Int} {ad0 : Nat → Nat} {h0 : pz_H} {Q : State → Prop}
variable {pc pc' n k : Nat} {st : List pz_V} {L : List (Nat × pz_V)} {h : pz_H} {ok ok' : Bool}
theorem pz_s_ret {i : Instr} {t : Nat} {v : Option pz_V} (hx : p.tables.exec = Jvm.exec) (hb : c.code = pz_b m) (hd : decode (pz_b m) pc = .ok (i, 1)) (hr : meth.sig.returnType = pz_rT m) (hrt : pz_rok (pz_mrt m) (pz_rT m)) (hlocks : meth.locks = false) (hi : pz_rtn i = some t) (hv : pz_re (pz_mrt m) t st = some (v, true)) :
    pz_PW p l e R s mm args below meth c m D tc A b n0 xs ad0 h0 (pz_End below args s D tc n0 xs ad0 h0 A (.inl v) h) (pc, st, L, h, ok) := by
  intro ad H locs ls a1 a2 a3 a4 a5 a6 hP hD hS hwf hst hL hl
  have fin : ∀ (v : Option pz_V) (t : State), (∀ u, v = some u → pz_wv h.1.length u) → t.heap = H → pz_Qr D tc n0 xs ad0 h0 A v h args s (.returned (v.map (pz_v ad))) t := fun v t hw ht => ⟨⟨ad, ⟨a1, by rw [ht]; exact hP, hD, a2, a3, a4, hwf, a6⟩, rfl, hw⟩, hS.F ht⟩
  rcases st with _ | ⟨u, _ | ⟨u2, r⟩⟩
  · have hv : some ((none : Option pz_V), (decide (t = 4) && decide (pz_mrt m = 4))) = some (v, true) := hv
    simp only [Option.some.injEq, Prod.mk.injEq, Bool.and_eq_true, decide_eq_true_eq] at hv
    obtain ⟨rfl, rfl, h4⟩ := hv
    have hn : pz_rT m = none := by
      rcases hrt with ⟨-, h1⟩ | ⟨ty, -, ht⟩
      · exact h1
      · rcases ht with ⟨q, -⟩ | ⟨q, -⟩ | ⟨q, -⟩ | ⟨q, -⟩ <;> omega
    cases i <;> simp [pz_rtn] at hi
    exact W.vret hx hb (hr.trans hn) (fun t ht _ => fin none t (fun _ q => nomatch q) ht) hS.2.2 hd hlocks
  · have hv : some (some u, (decide (pz_tag u = t) && pz_fit (pz_mrt m) u)) = some (v, true) := hv
    simp only [Option.some.injEq, Prod.mk.injEq, Bool.and_eq_true, decide_eq_true_eq] at hv
    obtain ⟨rfl, h3, h4⟩ := hv
    have hu : pz_wv h.1.length u := hst u List.mem_cons_self
    have hty : ∃ ty, pz_rT m = some ty ∧ pz_tyok (pz_mrt m) ty := by
      rcases hrt with ⟨h1, -⟩ | hq
      · rw [h1] at h4
        rcases u with a | x | r <;> simp [pz_fit] at h4
      · exact hq
    obtain ⟨ty, hty, htk⟩ := hty
    have hfit := pz_fits ad htk h4
    rcases u with a | x | r
    · have h3 : 0 = t := h3
      subst h3
      cases i <;> simp [pz_rtn] at hi
      exact W.zret hx hb (hr.trans hty) hfit.1 (fun t ht _ => fin (some (.inl a)) t (fun _ q => by cases q; exact hu) ht) hS.2.2 hd hlocks
    · have h3 : 2 = t := h3
      subst h3
      cases i <;> simp [pz_rtn] at hi
      have h5 : pz_mrt m = 2 := of_decide_eq_true h4
      have h6 : ty = .long := by
        rcases htk with ⟨q, -⟩ | ⟨q, -⟩ | ⟨-, q⟩ | ⟨q, -⟩
        · omega
        · omega
        · exact q
        · omega
      exact W.lret hx hb (hr.trans (hty.trans (by rw [h6]))) (fun t ht _ => fin (some (.inr (.inl x))) t (fun _ q => by cases q; exact hu) ht) hS.2.2 hd hlocks
    · have h3 : 3 = t := h3
      subst h3
      cases i <;> simp [pz_rtn] at hi
      have h5 : pz_mrt m = 3 := of_decide_eq_true h4
      have h6 : (∃ n, ty = .object n) ∨ ∃ u, ty = .array u := by
        rcases htk with ⟨q, -⟩ | ⟨q, -⟩ | ⟨q, -⟩ | ⟨-, q⟩
        · omega
        · omega
        · omega
        · exact q
      exact W.aret hx hb (hr.trans hty) h6 (va_rf_or _) (fun t ht _ => fin (some (.inr (.inr r))) t (fun _ q => by cases q; exact hu) ht) hS.2.2 hd hlocks
  · cases hv
theorem pz_args_map (ad : Nat → Nat) (as : List pz_V) (j : Nat) : lv_args j (as.map (pz_v ad)) = (pz_args j as).map (fun q => (q.1, pz_v ad q.2)) := by
  induction as generalizing j with
  | nil => rfl
  | cons v r ih =>
    show (j, pz_v ad v) :: lv_args (if (pz_v ad v).category = 2 then j + 2 else j + 1) (r.map (pz_v ad)) = (j, pz_v ad v) :: (pz_args (j + pz_cat v) r).map (fun q => (q.1, pz_v ad q.2))
    rw [ih, pz_cat_v]
    rcases v with a | x | q <;> rfl
theorem pz_args_len (ad : Nat → Nat) (as : List pz_V) : (lg_sl (as.map (pz_v ad))).length = (as.map pz_cat).sum := by
  induction as with
  | nil => rfl
  | cons v r ih =>
    have h1 : lg_sl ((v :: r).map (pz_v ad)) = (if (pz_v ad v).category = 2 then [Slot.val (pz_v ad v), Slot.second] else [Slot.val (pz_v ad v)]) ++ lg_sl (r.map (pz_v ad)) := rfl
    rw [h1, List.length_append, ih, List.map_cons, List.sum_cons, pz_cat_v]
    rcases v with a | x | q <;> rfl
theorem pz_args_in {as : List pz_V} {j : Nat} : ∀ q ∈ pz_args j as, q.2 ∈ as := by
  induction as generalizing j with
  | nil => exact fun q hq => nomatch hq
  | cons v r ih =>
    intro q hq
    rcases List.mem_cons.mp hq with rfl | hq
    · exact List.mem_cons_self
    · exact List.mem_cons_of_mem _ (ih q hq)
end pzr
