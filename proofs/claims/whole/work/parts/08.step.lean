/-! Every plain step. -/
section pzx
variable {p : Program} {l : Launch} {e : Env} {R : Room} {s : State} {mm : MethodId} {args : Array Value} {below : List Frame} {meth : Method} {c : Code} {m : Nat} {D : va_G} {tc : Nat → ClassId} {A : Nat → Prop} {b n0 : Nat} {xs : Nat → Int} {ad0 : Nat → Nat} {h0 : pz_H} {Q : State → Prop}
variable {pc pc' n k : Nat} {st : List pz_V} {L : List (Nat × pz_V)} {h : pz_H} {ok ok' : Bool}
set_option maxHeartbeats 4000000 in
theorem pz_step_sound (X : pz_Cx p l s mm args meth c m D tc A b n0 xs) (hAO : va_AO (pz_R pz_nodeC) s) {i : Instr} (hd : decode (pz_b m) pc = .ok (i, n)) (hn : pz_lenb i n = true) (hok : (pz_step (pz_mow m) (pz_mL m) (pz_min m) i n pc st L h).2.2.2.2 = true)
    (hR1 : (pz_step (pz_mow m) (pz_mL m) (pz_min m) i n pc st L h).2.2.2.1.2.2.2.2.1 - h0.2.2.2.2.1 ≤ R.cells) (hR2 : (pz_step (pz_mow m) (pz_mL m) (pz_min m) i n pc st L h).2.2.2.1.2.2.2.2.2 - h0.2.2.2.2.2 ≤ R.slots)
    (kk : pz_PW p l e R s mm args below meth c m D tc A b n0 xs ad0 h0 Q (pz_step (pz_mow m) (pz_mL m) (pz_min m) i n pc st L h)) : pz_PW p l e R s mm args below meth c m D tc A b n0 xs ad0 h0 Q (pc, st, L, h, ok) := by
  have X9 := X
  obtain ⟨hx, hb, hml, hown, hts, hini, hK, hA, hX, hbl, hbA⟩ := X9
  cases i with
  | iconst v =>
    obtain rfl : n = 1 := pz_lenq hn rfl (by decide)
    exact pz_w_push (v := .inl v) (fun _ _ _ _ _ => hok) (fun ad H locs ls cells slots _ w => lv_iconst hx hb hd rfl w) kk
  | bipush v =>
    obtain rfl : n = 2 := pz_lenq hn rfl (by decide)
    have hv : (decide (-128 ≤ v) && decide (v ≤ 127)) = true := hok
    simp only [Bool.and_eq_true, decide_eq_true_eq] at hv
    exact pz_w_push (v := .inl v) (fun _ _ _ _ _ => pz_in_iff.mpr ⟨by omega, by omega⟩) (fun ad H locs ls cells slots _ w => lv_bipush hx hb hd (pz_bi hv.1 hv.2) w) kk
  | sipush v =>
    obtain rfl : n = 3 := pz_lenq hn rfl (by decide)
    have hv : (decide (-32768 ≤ v) && decide (v ≤ 32767)) = true := hok
    simp only [Bool.and_eq_true, decide_eq_true_eq] at hv
    exact pz_w_push (v := .inl v) (fun _ _ _ _ _ => pz_in_iff.mpr ⟨by omega, by omega⟩) (fun ad H locs ls cells slots _ w => lv_sipush hx hb hd (pz_si hv.1 hv.2) w) kk
  | lconst v =>
    obtain rfl : n = 1 := pz_lenq hn rfl (by decide)
    exact pz_w_push (v := .inr (.inl (Int64.ofNat v.val))) (fun _ _ _ _ _ => trivial) (fun ad H locs ls cells slots _ w => lv_lconst hx hb hd rfl w) kk
  | aconst_null =>
    obtain rfl : n = 1 := pz_lenq hn rfl (by decide)
    exact pz_w_push (v := .inr (.inr none)) (fun _ _ _ _ _ => fun x hx => nomatch hx) (fun ad H locs ls cells slots _ w => lv_null hx hb hd w) kk
  | ldc2_w x =>
    obtain rfl : n = 3 := pz_lenq hn rfl (by decide)
    unfold pz_step at hok kk
    dsimp only at hok kk
    cases hf : pz_k2 (pz_mow m) x with
    | none => rw [hf] at hok; exact pz_no hok
    | some q =>
      rw [hf] at hok kk
      exact pz_w_push (v := .inr (.inl q.1)) (fun _ _ _ _ _ => trivial) (fun ad H locs ls cells slots _ w => lv_ldc2 hx hb hown (hts _ (pz_k2_ok hf)) hd w) kk
  | iload j =>
    obtain rfl : n = 2 := pz_lenq hn rfl (by decide)
    refine pz_s_ld hok (fun v ad H locs ls cells slots ht hl w => ?_) kk
    obtain ⟨a, rfl⟩ := pz_tag0 ht
    exact lv_iload hx hb hd hl w
  | iload_n j =>
    obtain rfl : n = 1 := pz_lenq hn rfl (by decide)
    refine pz_s_ld hok (fun v ad H locs ls cells slots ht hl w => ?_) kk
    obtain ⟨a, rfl⟩ := pz_tag0 ht
    exact lv_iload_n hx hb hd rfl hl w
  | lload j =>
    obtain rfl : n = 2 := pz_lenq hn rfl (by decide)
    refine pz_s_ld hok (fun v ad H locs ls cells slots ht hl w => ?_) kk
    obtain ⟨a, rfl⟩ := pz_tag2 ht
    exact lv_lload hx hb hd hl w
  | lload_n j =>
    obtain rfl : n = 1 := pz_lenq hn rfl (by decide)
    refine pz_s_ld hok (fun v ad H locs ls cells slots ht hl w => ?_) kk
    obtain ⟨a, rfl⟩ := pz_tag2 ht
    exact lv_lload_n hx hb hd rfl hl w
  | aload j =>
    obtain rfl : n = 2 := pz_lenq hn rfl (by decide)
    refine pz_s_ld hok (fun v ad H locs ls cells slots ht hl w => ?_) kk
    obtain ⟨a, rfl⟩ := pz_tag3 ht
    cases a with
    | none => exact lv_aloadN hx hb hd hl w
    | some a => exact lv_aload hx hb hd hl w
  | aload_n j =>
    obtain rfl : n = 1 := pz_lenq hn rfl (by decide)
    refine pz_s_ld hok (fun v ad H locs ls cells slots ht hl w => ?_) kk
    obtain ⟨a, rfl⟩ := pz_tag3 ht
    cases a with
    | none => exact lv_aload_nN hx hb hd rfl hl w
    | some a => exact lv_aload_n hx hb hd rfl hl w
  | istore j =>
    obtain rfl : n = 2 := pz_lenq hn rfl (by decide)
    refine pz_s_sto hok (fun v r ad H locs ls cells slots lv lv' ht hk hl he w => ?_) kk
    obtain ⟨a, rfl⟩ := pz_tag0 ht
    exact lv_istore hx hb hd hl hk he w
  | istore_n j =>
    obtain rfl : n = 1 := pz_lenq hn rfl (by decide)
    refine pz_s_sto hok (fun v r ad H locs ls cells slots lv lv' ht hk hl he w => ?_) kk
    obtain ⟨a, rfl⟩ := pz_tag0 ht
    exact lv_istore_n hx hb hd rfl hl hk he w
  | astore j =>
    obtain rfl : n = 2 := pz_lenq hn rfl (by decide)
    refine pz_s_sto hok (fun v r ad H locs ls cells slots lv lv' ht hk hl he w => ?_) kk
    obtain ⟨a, rfl⟩ := pz_tag3 ht
    cases a with
    | none => exact lv_astoreN hx hb hd hl hk he w
    | some a => exact lv_astore hx hb hd hl hk he w
  | astore_n j =>
    obtain rfl : n = 1 := pz_lenq hn rfl (by decide)
    refine pz_s_sto hok (fun v r ad H locs ls cells slots lv lv' ht hk hl he w => ?_) kk
    obtain ⟨a, rfl⟩ := pz_tag3 ht
    cases a with
    | none => exact lv_astore_nN hx hb hd rfl hl hk he w
    | some a => exact lv_astore_n hx hb hd rfl hl hk he w
  | lstore j =>
    obtain rfl : n = 2 := pz_lenq hn rfl (by decide)
    refine pz_s_stl hok (fun v r ad H locs ls cells slots lv lv' ht hk hl he w => ?_) kk
    obtain ⟨a, rfl⟩ := pz_tag2 ht
    exact lv_lstore hx hb hd hl hk he w
  | lstore_n j =>
    obtain rfl : n = 1 := pz_lenq hn rfl (by decide)
    refine pz_s_stl hok (fun v r ad H locs ls cells slots lv lv' ht hk hl he w => ?_) kk
    obtain ⟨a, rfl⟩ := pz_tag2 ht
    exact lv_lstore_n hx hb hd rfl hl hk he w
  | iinc j v =>
    obtain rfl : n = 3 := pz_lenq hn rfl (by decide)
    unfold pz_step at hok kk
    dsimp only at hok kk
    cases hf : pz_look L j with
    | none => rw [hf] at hok; exact pz_no hok
    | some q =>
      rw [hf] at hok kk
      rcases q with a | a | a
      · have hv : (pz_in (a + v) && decide (j < pz_mL m)) = true := hok
        rw [Bool.and_eq_true] at hv
        refine pz_s_loc (v := .inl (a + v)) (r := st) (L' := pz_st1 L j (.inl (a + v))) pz_st1_in (fun _ hst _ => ⟨hv.1, hst⟩) (fun ad H locs ls cells slots hl w => ?_) kk
        obtain ⟨t, ht⟩ := List.getElem?_of_mem (List.mem_map.mpr ⟨(j, .inl a), pz_look_mem hf, rfl⟩ : (j, Value.int (Int32.ofInt a)) ∈ L.map (fun q => (q.1, pz_v ad q.2)))
        exact lv_iinc hx hb hd hl ht (Int32.ofInt_add a v).symm (of_decide_eq_true hv.2) (pz_st1_map ad (.inl (a + v)) j).symm w
      · exact pz_no hok
      · exact pz_no hok
  | iadd =>
    obtain rfl : n = 1 := pz_lenq hn rfl (by decide)
    exact pz_s_b2 hok (fun a b _ _ g => g) (fun a b r H locs ls cells slots _ _ _ w => lv_iadd hx hb hd (by rw [← Int32.ofInt_add]; exact w)) kk
  | isub =>
    obtain rfl : n = 1 := pz_lenq hn rfl (by decide)
    exact pz_s_b2 hok (fun a b _ _ g => g) (fun a b r H locs ls cells slots _ _ _ w => lv_isub hx hb hd (by rw [← Int32.ofInt_sub]; exact w)) kk
  | imul =>
    obtain rfl : n = 1 := pz_lenq hn rfl (by decide)
    exact pz_s_b2 hok (fun a b _ _ g => g) (fun a b r H locs ls cells slots _ _ _ w => lv_imul hx hb hd (by rw [← Int32.ofInt_mul]; exact w)) kk
  | idiv =>
    obtain rfl : n = 1 := pz_lenq hn rfl (by decide)
    exact pz_s_b2 hok (fun a b ha hb g => by simp only [Bool.and_eq_true, decide_eq_true_eq] at g; exact (pz_div_in ha g.1 g.2).1) (fun a b' r H locs ls cells slots ha hb' g w => by
      simp only [Bool.and_eq_true, decide_eq_true_eq] at g
      exact lv_idiv hx hb hd (pz_ne0 hb' g.2) (by rw [pz_div ha hb' g.1 g.2]; exact w)) kk
  | irem =>
    obtain rfl : n = 1 := pz_lenq hn rfl (by decide)
    exact pz_s_b2 hok (fun a b ha hb g => by simp only [Bool.and_eq_true, decide_eq_true_eq] at g; exact (pz_div_in ha g.1 g.2).2) (fun a b' r H locs ls cells slots ha hb' g w => by
      simp only [Bool.and_eq_true, decide_eq_true_eq] at g
      exact lv_irem hx hb hd (pz_ne0 hb' g.2) (by rw [pz_rem ha hb' g.1 g.2]; exact w)) kk
  | iand =>
    obtain rfl : n = 1 := pz_lenq hn rfl (by decide)
    exact pz_i_int hok (fun x y r H locs ls cells slots w => lv_iand hx hb hd w) kk
  | ior =>
    obtain rfl : n = 1 := pz_lenq hn rfl (by decide)
    exact pz_i_int hok (fun x y r H locs ls cells slots w => lv_ior hx hb hd w) kk
  | ixor =>
    obtain rfl : n = 1 := pz_lenq hn rfl (by decide)
    exact pz_i_int hok (fun x y r H locs ls cells slots w => lv_ixor hx hb hd w) kk
  | ishl =>
    obtain rfl : n = 1 := pz_lenq hn rfl (by decide)
    exact pz_i_int hok (fun x y r H locs ls cells slots w => lv_ishl hx hb hd w) kk
  | ishr =>
    obtain rfl : n = 1 := pz_lenq hn rfl (by decide)
    exact pz_i_int hok (fun x y r H locs ls cells slots w => lv_ishr hx hb hd w) kk
  | ladd =>
    obtain rfl : n = 1 := pz_lenq hn rfl (by decide)
    exact pz_s_l2 hok (fun x y r H locs ls cells slots w => lv_ladd hx hb hd w) kk
  | lsub =>
    obtain rfl : n = 1 := pz_lenq hn rfl (by decide)
    exact pz_s_l2 hok (fun x y r H locs ls cells slots w => lv_lsub hx hb hd w) kk
  | land =>
    obtain rfl : n = 1 := pz_lenq hn rfl (by decide)
    exact pz_s_l2 hok (fun x y r H locs ls cells slots w => lv_land hx hb hd w) kk
  | lor =>
    obtain rfl : n = 1 := pz_lenq hn rfl (by decide)
    exact pz_s_l2 hok (fun x y r H locs ls cells slots w => lv_lor hx hb hd w) kk
  | lxor =>
    obtain rfl : n = 1 := pz_lenq hn rfl (by decide)
    exact pz_s_l2 hok (fun x y r H locs ls cells slots w => lv_lxor hx hb hd w) kk
  | lshl =>
    obtain rfl : n = 1 := pz_lenq hn rfl (by decide)
    exact pz_s_ls hok (fun x y r H locs ls cells slots w => lv_lshl hx hb hd rfl w) kk
  | lshr =>
    obtain rfl : n = 1 := pz_lenq hn rfl (by decide)
    exact pz_s_ls hok (fun x y r H locs ls cells slots w => lv_lshr hx hb hd rfl w) kk
  | lushr =>
    obtain rfl : n = 1 := pz_lenq hn rfl (by decide)
    exact pz_s_ls hok (fun x y r H locs ls cells slots w => lv_lushr hx hb hd rfl w) kk
  | i2l =>
    obtain rfl : n = 1 := pz_lenq hn rfl (by decide)
    rcases st with _ | ⟨y | y | y, r⟩
    case cons.inl =>
      exact pz_w_stk (st' := .inr (.inl (Int32.ofInt y).toInt64) :: r) (fun _ hst v hv => (List.mem_cons.mp hv).elim (fun q => by subst q; exact trivial) (fun q => hst v (List.mem_cons_of_mem _ q))) (fun ad H locs ls cells slots _ hst _ _ _ _ w => lv_i2l hx hb hd rfl w) kk
    all_goals exact pz_no hok
  | l2i =>
    obtain rfl : n = 1 := pz_lenq hn rfl (by decide)
    rcases st with _ | ⟨y | y | y, r⟩
    case cons.inr.inl =>
      refine pz_w_stk (st' := .inl y.toInt32.toInt :: r) (fun _ hst v hv => (List.mem_cons.mp hv).elim (fun q => by subst q; exact pz_in_toInt _) (fun q => hst v (List.mem_cons_of_mem _ q))) (fun ad H locs ls cells slots _ hst _ _ _ _ w => lv_l2i hx hb hd rfl ?_) kk
      have w : W p l e R s mm args below meth c H locs cells slots Q (F0 mm (pc + 1) ls (.int (Int32.ofInt y.toInt32.toInt) :: r.map (pz_v ad))) := w
      rw [Int32.ofInt_toInt] at w
      exact w
    all_goals exact pz_no hok
  | lcmp =>
    obtain rfl : n = 1 := pz_lenq hn rfl (by decide)
    rcases st with _ | ⟨y | y | y, _ | ⟨x | x | x, r⟩⟩
    case cons.inr.inl.cons.inr.inl =>
      refine pz_w_stk (st' := .inl (pz_lc x y) :: r) (fun _ hst v hv => (List.mem_cons.mp hv).elim (fun q => by subst q; exact pz_lc_in x y) (fun q => hst v (List.mem_cons_of_mem _ (List.mem_cons_of_mem _ q)))) (fun ad H locs ls cells slots _ hst _ _ _ _ w => W.lcmp hx hb hd ?_) kk
      rw [pz_lcmp]
      exact w
    all_goals exact pz_no hok
  | dup =>
    obtain rfl : n = 1 := pz_lenq hn rfl (by decide)
    rcases st with _ | ⟨v, r⟩
    · exact pz_no hok
    · have hv : pz_cat v = 1 := of_decide_eq_true hok
      exact pz_w_stk (st' := v :: v :: r) (fun _ hst w hw => hst w ((List.mem_cons.mp hw).elim (fun q => by rw [q]; exact List.mem_cons_self) (fun q => q))) (fun ad H locs ls cells slots _ hst _ _ _ _ w => lv_dup hx hb hd ((pz_cat_v ad v).trans hv) w) kk
  | dup_x1 =>
    obtain rfl : n = 1 := pz_lenq hn rfl (by decide)
    rcases st with _ | ⟨v, _ | ⟨u, r⟩⟩
    · exact pz_no hok
    · exact pz_no hok
    · have hv : (decide (pz_cat v = 1) && decide (pz_cat u = 1)) = true := hok
      simp only [Bool.and_eq_true, decide_eq_true_eq] at hv
      exact pz_w_stk (st' := v :: u :: v :: r) (fun _ hst w hw => hst w (by simp only [List.mem_cons] at hw ⊢; rcases hw with q | q | q | q <;> simp [q])) (fun ad H locs ls cells slots _ hst _ _ _ _ w => lv_dup_x1 hx hb hd ((pz_cat_v ad v).trans hv.1) ((pz_cat_v ad u).trans hv.2) w) kk
  | dup_x2 =>
    obtain rfl : n = 1 := pz_lenq hn rfl (by decide)
    rcases st with _ | ⟨v, _ | ⟨u, _ | ⟨z, r⟩⟩⟩
    · exact pz_no hok
    · exact pz_no hok
    · exact pz_no hok
    · have hv : (decide (pz_cat v = 1) && (decide (pz_cat u = 1) && decide (pz_cat z = 1))) = true := hok
      simp only [Bool.and_eq_true, decide_eq_true_eq] at hv
      exact pz_w_stk (st' := v :: u :: z :: v :: r) (fun _ hst w hw => hst w (by simp only [List.mem_cons] at hw ⊢; rcases hw with q | q | q | q | q <;> simp [q])) (fun ad H locs ls cells slots _ hst _ _ _ _ w => lv_dup_x2 hx hb hd ((pz_cat_v ad v).trans hv.1) ((pz_cat_v ad u).trans hv.2.1) ((pz_cat_v ad z).trans hv.2.2) w) kk
  | dup2 =>
    obtain rfl : n = 1 := pz_lenq hn rfl (by decide)
    rcases st with _ | ⟨v, _ | ⟨u, r⟩⟩
    · exact pz_no hok
    · exact pz_no hok
    · have hv : (decide (pz_cat v = 1) && decide (pz_cat u = 1)) = true := hok
      simp only [Bool.and_eq_true, decide_eq_true_eq] at hv
      exact pz_w_stk (st' := v :: u :: v :: u :: r) (fun _ hst w hw => hst w (by simp only [List.mem_cons] at hw ⊢; rcases hw with q | q | q | q | q <;> simp [q])) (fun ad H locs ls cells slots _ hst _ _ _ _ w => lv_dup2_11 hx hb hd ((pz_cat_v ad v).trans hv.1) ((pz_cat_v ad u).trans hv.2) w) kk
  | pop =>
    obtain rfl : n = 1 := pz_lenq hn rfl (by decide)
    rcases st with _ | ⟨v, r⟩
    · exact pz_no hok
    · have hv : pz_cat v = 1 := of_decide_eq_true hok
      exact pz_w_stk (st' := r) (fun _ hst w hw => hst w (List.mem_cons_of_mem _ hw)) (fun ad H locs ls cells slots _ hst _ _ _ _ w => lv_pop hx hb hd ((pz_cat_v ad v).trans hv) w) kk
  | goto off =>
    obtain rfl : n = 3 := pz_lenq hn rfl (by decide)
    exact pz_s_br (cnd := true) hok (fun v hv => hv) (fun ad H locs ls cells slots tgt ht hst kt kf => lv_goto hx hb hd ht (kt rfl)) kk
  | ifCond cd off =>
    obtain rfl : n = 3 := pz_lenq hn rfl (by decide)
    exact pz_i_if hx hb hd hok kk
  | if_icmp cd off =>
    obtain rfl : n = 3 := pz_lenq hn rfl (by decide)
    exact pz_i_icmp hx hb hd hok kk
  | ifnull off =>
    obtain rfl : n = 3 := pz_lenq hn rfl (by decide)
    rcases st with _ | ⟨y | y | y, r⟩
    case cons.inr.inr =>
      refine pz_s_br (r := r) (cnd := y.isNone) hok (fun v hv => List.mem_cons_of_mem _ hv) (fun ad H locs ls cells slots tgt ht hst kt kf => ?_) kk
      cases y with
      | none => exact lv_ifnullN hx hb hd ht (kt rfl)
      | some y => exact lv_ifnull hx hb hd (kf rfl)
    all_goals exact pz_no hok
  | ifnonnull off =>
    obtain rfl : n = 3 := pz_lenq hn rfl (by decide)
    rcases st with _ | ⟨y | y | y, r⟩
    case cons.inr.inr =>
      refine pz_s_br (r := r) (cnd := y.isSome) hok (fun v hv => List.mem_cons_of_mem _ hv) (fun ad H locs ls cells slots tgt ht hst kt kf => ?_) kk
      cases y with
      | none => exact lv_ifnonnullN hx hb hd (kf rfl)
      | some y => exact lv_ifnonnull hx hb hd ht (kt rfl)
    all_goals exact pz_no hok
  | tableswitch dflt lo hi offs =>
    exact pz_i_sw hx hb hd hok kk
  | iaload =>
    obtain rfl : n = 1 := pz_lenq hn rfl (by decide)
    exact pz_i_iald X hd hok kk
  | laload =>
    obtain rfl : n = 1 := pz_lenq hn rfl (by decide)
    exact pz_i_lald X hd hok kk
  | aaload =>
    obtain rfl : n = 1 := pz_lenq hn rfl (by decide)
    exact pz_i_aald X hd hok kk
  | arraylength =>
    obtain rfl : n = 1 := pz_lenq hn rfl (by decide)
    exact pz_i_alen X hd hok kk
  | iastore =>
    obtain rfl : n = 1 := pz_lenq hn rfl (by decide)
    exact pz_i_iast X hd hok kk
  | lastore =>
    obtain rfl : n = 1 := pz_lenq hn rfl (by decide)
    exact pz_i_last X hd hok kk
  | aastore =>
    obtain rfl : n = 1 := pz_lenq hn rfl (by decide)
    exact pz_i_aast X hd hok kk
  | getfield x =>
    obtain rfl : n = 3 := pz_lenq hn rfl (by decide)
    exact pz_i_get X hd hok kk
  | putfield x =>
    obtain rfl : n = 3 := pz_lenq hn rfl (by decide)
    exact pz_i_put X hd hok kk
  | new x =>
    obtain rfl : n = 3 := pz_lenq hn rfl (by decide)
    exact pz_i_new X hd hok hR1 hR2 kk
  | newarray t =>
    obtain rfl : n = 2 := pz_lenq hn rfl (by decide)
    exact pz_i_newa X hd hok hR1 hR2 kk
  | anewarray x =>
    obtain rfl : n = 3 := pz_lenq hn rfl (by decide)
    exact pz_i_newq X hAO hd hok hR1 hR2 kk
  | _ => exact pz_no hok
end pzx
