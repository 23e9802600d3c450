/-! The law's small methods: their tables of handlers. -/
-- handlers, and the place of the one call, by the method's number
def pz_hdL : List (Nat × List (Nat × Nat × Nat × Nat) × Nat) := [(6, [(0, 9, 12, 13), (0, 9, 15, 15)], 4), (8, [(0, 9, 12, 13), (0, 9, 15, 15)], 4), (11, [(0, 10, 13, 13), (0, 10, 17, 15)], 5), (14, [(0, 12, 15, 13), (0, 12, 19, 15)], 7), (17, [(0, 12, 15, 13), (0, 12, 19, 15)], 7), (21, [(0, 14, 17, 13), (0, 14, 21, 15)], 9), (23, [(0, 6, 9, 13)], 3), (38, [(0, 5, 8, 13)], 2), (81, [(0, 10, 13, 13), (0, 10, 17, 15)], 5), (84, [(0, 9, 12, 50)], 4), (88, [(0, 12, 15, 50)], 7), (90, [(0, 9, 12, 50)], 4)]
def pz_hd (m : Nat) : List (Nat × Nat × Nat × Nat) := ((pz_look pz_hdL m).getD ([], 0)).1
def pz_hc (m : Nat) : Nat := ((pz_look pz_hdL m).getD ([], 0)).2
def pz_wr : List (Nat × Nat × Int × Nat × Nat × Nat × Nat) := [(6, 1, 1, 0, 3, 1, 2112), (6, 2, 2, 1, 3, 1, 2113), (8, 1, 1, 0, 3, 1, 2112), (8, 2, 2, 1, 3, 1, 2113), (11, 1, 1, 0, 4, 2, 2112), (11, 2, 2, 1, 4, 2, 2113), (14, 1, 1, 0, 5, 2, 2112), (14, 2, 2, 1, 5, 2, 2113), (17, 1, 1, 0, 5, 2, 2112), (17, 2, 2, 1, 5, 2, 2113), (21, 1, 1, 0, 6, 2, 2112), (21, 2, 2, 1, 6, 2, 2113), (23, 1, 1, 0, 3, 1, 2112), (38, 1, 1, 0, 2, 1, 2112), (81, 1, 1, 0, 4, 2, 2112), (81, 2, 2, 1, 4, 2, 2113), (84, 3, 1, 0, 3, 1, 5068), (88, 3, 1, 0, 5, 2, 5068), (90, 3, 1, 0, 3, 1, 5068)]
def pz_wrap (m : Nat) : Bool := (pz_look pz_hdL m).isSome
-- of a small method: words, type, calls, no more than two rows
def pz_wB (m : Nat) : Bool := pz_ck (pz_a m 6) (.codeWith (pz_y m) (pz_b m) (pz_mL m) (pz_rT m) (pz_hd m)) && (pz_ck (pz_a m 7) (.initialized (pz_y m).cls) && (pz_ck (pz_a m 8) (.static (pz_y m)) && (decide ((pz_y m).cls = pz_R (pz_mow m)) && (plainName (pz_y m).cls && (decide ((pz_y m).cls ≠ "java/lang/invoke/MethodHandle") && (decide ((pz_y m).cls ≠ "java/lang/invoke/VarHandle") && (decide (pz_mL m ≤ 70) &&
  (pz_rokb (pz_mrt m) (pz_rT m) && (decide ((parseMethodDescriptor (pz_y m).desc).map (fun d => d.parameters.length) = some (pz_mna m)) && (decide (pz_mow m = 11) && (decide (pz_mkd m = 2) && (decide (pz_min m = false) && (decide (pz_rT m = some .int) && (decide (pz_thr m = none) && (decide (pz_a m 10 = 1) && (pz_m m).2.2.2.2.all (fun e => match pz_inv e.2.1 with
    | none => true
    | some kx => decide (e.1 = pz_hc m) && (decide (kx.1 = 0) && match pz_mt 11 kx.2 with
      | some q => pz_plain q.1
      | none => false)))))))))))))))))
theorem pz_wB_all : (pz_hdL.map (fun e => e.1)).all pz_wB = true := by decide +kernel
-- of a row: the value that is given, the rows ahead cover the call and name IllegalArgumentException, where IllegalStateException is thrown
def pz_wrB (r : Nat × Nat × Int × Nat × Nat × Nat × Nat) : Bool := match (pz_hd r.1)[r.2.2.2.1]? with
  | none => false
  | some x => decide (pz_ct r.1 0 r.2.1 = some r.2.2.1) && (pz_in r.2.2.1 && (decide (x.1 ≤ pz_hc r.1) && (decide (pz_hc r.1 < x.2.1) && (decide (x.2.2.2 ≠ 0) && (pz_ck r.2.2.2.2.2.2 (.classLink (pz_R 11) x.2.2.2 (pz_exc r.2.1)) && (decide (.castable (pz_exc r.2.1) (pz_exc r.2.1) ∈ pz_CW) && ((if r.2.2.2.2.2.1 = 1 then decide (r.2.2.2.2.1 < 4 ∧ decode (pz_b r.1) x.2.2.1 = .ok (.astore_n (Fin.ofNat 4 r.2.2.2.2.1), 1)) else decide (r.2.2.2.2.2.1 = 2 ∧ decode (pz_b r.1) x.2.2.1 = .ok (.astore r.2.2.2.2.1, 2))) && (decide (decode (pz_b r.1) (x.2.2.1 + r.2.2.2.2.2.1) = .ok (.iconst r.2.2.1, 1)) && (decide (decode (pz_b r.1) (x.2.2.1 + r.2.2.2.2.2.1 + 1) = .ok (.ireturn, 1)) && (decide (r.2.2.2.2.1 < pz_mL r.1) &&
    (decide (r.2.2.2.1 = 0) || (decide (r.2.2.2.1 = 1) && (decide (r.2.1 = 2) && match (pz_hd r.1)[0]? with
      | none => false
      | some z => decide (z.1 ≤ pz_hc r.1) && (decide (pz_hc r.1 < z.2.1) && (decide (z.2.2.2 ≠ 0) && pz_wr.any (fun r2 => decide (r2.1 = r.1) && (decide (r2.2.2.2.1 = 0) && pz_ck r2.2.2.2.2.2.2 (.classLink (pz_R 11) z.2.2.2 "java/lang/IllegalArgumentException"))))))))))))))))))
theorem pz_wr_all : pz_wr.all pz_wrB = true := by decide +kernel
theorem pz_wr_ct : pz_ctL.all (fun e => e.2.all (fun kc => pz_wr.any (fun r => decide (r.1 = e.1) && (decide (r.2.1 = kc.1) && decide (r.2.2.1 = kc.2))))) = true := by decide +kernel
