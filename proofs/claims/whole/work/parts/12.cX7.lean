/-! the reference: the contracts -/
set_option maxHeartbeats 4000000 in
set_option maxRecDepth 100000 in
theorem c_X7_in (l : Launch) (D : va_G) (ks : Nat × Nat) (cI cL cC cM cS : ClassId) (x0 : Int64) (x2 : Int64) (x4 : Int64) : MT l D ks (tyz cI cL cC cM cS) yX7_in cX7_in 6 ((some .boolean)) { frames := 0, cells := 0, slots := 0, locals := 0 } [.long x0, .long x2, .long x4] (w_0 cI cL cC cM cS  ) (fun r : Int32 => (some (.int r), (w_0 cI cL cC cM cS  ))) (f_X7_in x0 x2 x4) := by
  refine MT.of 0 [some (.long x0), none, some (.long x2), none, some (.long x4), none] (by decide) (Nat.le_of_ble_eq_true rfl) rfl ?_
  unfold f_X7_in
  refine G.lload_n dX7_in_0 rfl ?_
  refine G.lload_n dX7_in_1 rfl ?_
  refine G.lcmp dX7_in_2 ?_
  refine G.join (st := []) Value.int 18 (fun v18 => ?_) (fun hJ => ?_)
  · refine G.chk (fun h18 => ?_)
    exact G.zret rfl rfl (isb_n h18) dX7_in_18
  · refine G.ite ?_
    refine G.if_lt 17 dX7_in_3 (by decide) (fun _ => ?_) (fun _ => ?_)
    · refine G.iconst 0 dX7_in_17 (by decide) ?_
      exact hJ _
    · refine G.lload_n dX7_in_6 rfl ?_
      refine G.lload dX7_in_7 rfl ?_
      refine G.lcmp dX7_in_9 ?_
      refine G.ite ?_
      refine G.if_gt 17 dX7_in_10 (by decide) (fun _ => ?_) (fun _ => ?_)
      · refine G.iconst 0 dX7_in_17 (by decide) ?_
        exact hJ _
      · refine G.iconst 1 dX7_in_13 (by decide) ?_
        refine G.goto 18 dX7_in_14 (by decide) ?_
        exact hJ _
set_option maxHeartbeats 4000000 in
set_option maxRecDepth 100000 in
theorem c_X7_isHolder (l : Launch) (D : va_G) (ks : Nat × Nat) (cI cL cC cM cS : ClassId) (a : Nat → Nat) (t_now t_mores t_tape : Nat → Int32) (t_typed t_place t_isFault : Int32) (t_readLamps t_read t_undone : Nat → Int32) (t_undos : Int32) (t_aside t_bays t_bests t_kept : Nat → Int32) (t_keptUndos t_isKept : Int32) (t_lanes t_sizes : Nat → Int32) (t_items t_moved : Nat → Int64) (x1 : Int32) : MT l D ks (tyz cI cL cC cM cS) yX7_isHolder cX7_isHolder 2 ((some .boolean)) { frames := 1, cells := 0, slots := 0, locals := 25 } [.ref (a 0), .int x1] (w_X7 cI cL cC cM cS a t_now t_mores t_tape t_typed t_place t_isFault t_readLamps t_read t_undone t_undos t_aside t_bays t_bests t_kept t_keptUndos t_isKept t_lanes t_sizes t_items t_moved) (fun r : Int32 => (some (.int r), (w_X7 cI cL cC cM cS a t_now t_mores t_tape t_typed t_place t_isFault t_readLamps t_read t_undone t_undos t_aside t_bays t_bests t_kept t_keptUndos t_isKept t_lanes t_sizes t_items t_moved))) (f_X7_isHolder t_now x1) := by
  refine MT.of 0 [some (.ref (a 0)), some (.int x1)] (by decide) (Nat.le_of_ble_eq_true rfl) rfl ?_
  unfold f_X7_isHolder
  refine G.iload_n dX7_isHolder_0 rfl ?_
  refine G.i2l dX7_isHolder_1 ?_
  refine G.lconst 0 dX7_isHolder_2 (by decide) ?_
  refine G.aload_n dX7_isHolder_3 rfl ?_
  refine G.get fl_7_7 0 rfl rfl dX7_isHolder_4 ?_
  refine G.iconst 0 dX7_isHolder_7 (by decide) ?_
  refine G.iaload 1 0 rfl rfl 0 (by decide) (by decide) dX7_isHolder_8 ?_
  refine G.topi (fun v8 => ?_)
  refine G.iconst 1 dX7_isHolder_9 (by decide) ?_
  refine G.isub dX7_isHolder_10 ?_
  refine G.i2l dX7_isHolder_11 ?_
  refine G.callS (st := []) (w' := fun r12 => (w_X7 cI cL cC cM cS a t_now t_mores t_tape t_typed t_place t_isFault t_readLamps t_read t_undone t_undos t_aside t_bays t_bests t_kept t_keptUndos t_isKept t_lanes t_sizes t_items t_moved)) ms_X7_in lk_7_53 (c_X7_in l D ks cI cL cC cM cS (x1.toInt64) 0 ((v8 - 1).toInt64)) [] [0, 1, 2, 3, 4, 5, 6, 7, 8, 9, 10, 11, 12, 13, 14] [0, 1, 2, 3, 4, 5, 6, 7, 8, 9, 10, 11, 12, 13, 14] rfl rfl rfl rfl (by decide +kernel) (fun _ => rfl) (by decide) (Nat.le_of_ble_eq_true rfl) dX7_isHolder_12 (fun r12 => [.int r12]) (fun _ => rfl) (fun r12 _ => ?_)
  refine G.chk (fun h15 => ?_)
  exact G.zret rfl rfl (isb_n h15) dX7_isHolder_15
set_option maxHeartbeats 4000000 in
set_option maxRecDepth 100000 in
theorem g_X7_asides_c2 (l : Launch) (D : va_G) (ks : Nat × Nat) (cI cL cC cM cS : ClassId) (a : Nat → Nat) (t_mores t_tape : Nat → Int32) (t_typed t_place t_isFault : Int32) (t_readLamps t_read t_undone : Nat → Int32) (t_undos : Int32) (t_bays t_bests t_kept : Nat → Int32) (t_keptUndos t_isKept : Int32) (t_lanes t_sizes : Nat → Int32) (t_items t_moved : Nat → Int64) : ∀ (n : Nat), ∀ (t_now t_aside : Nat → Int32) (x1 : Int32), GJ l D ks (tyz cI cL cC cM cS) RX7 cX7_asides 2 none { frames := 0, cells := 0, slots := 0, locals := 0 } (fun r : (Nat → Int32) => (none, (w_X7 cI cL cC cM cS a t_now t_mores t_tape t_typed t_place t_isFault t_readLamps t_read t_undone t_undos r t_bays t_bests t_kept t_keptUndos t_isKept t_lanes t_sizes t_items t_moved))) (w_X7 cI cL cC cM cS a t_now t_mores t_tape t_typed t_place t_isFault t_readLamps t_read t_undone t_undos t_aside t_bays t_bests t_kept t_keptUndos t_isKept t_lanes t_sizes t_items t_moved) 2 [some (.ref (a 0)), some (.int x1)] [] (f_X7_asides_c2 n t_now t_aside x1) := by
  intro n
  induction n with
  | zero =>
    intro t_now t_aside x1
    exact G.no
  | succ n ih =>
    intro t_now t_aside x1
    rw [f_X7_asides_c2]
    refine G.iload_n dX7_asides_2 rfl ?_
    refine G.bipush 40 dX7_asides_3 (by decide) ?_
    refine G.icmp_ge 26 dX7_asides_5 (by decide) (fun h5 => ?_) (fun h5 => ?_)
    · exact G.vret rfl rfl dX7_asides_26
    · refine G.aload_n dX7_asides_8 rfl ?_
      refine G.get fl_7_28 0 rfl rfl dX7_asides_9 ?_
      refine G.iload_n dX7_asides_12 rfl ?_
      refine G.aload_n dX7_asides_13 rfl ?_
      refine G.get fl_7_7 0 rfl rfl dX7_asides_14 ?_
      refine G.iload_n dX7_asides_17 rfl ?_
      refine G.chk (fun h18 => ?_)
      refine G.iaload 1 0 rfl rfl x1.toNatClampNeg rfl h18 dX7_asides_18 ?_
      refine G.topi (fun v18 => ?_)
      refine G.iastore (w' := (w_X7 cI cL cC cM cS a t_now t_mores t_tape t_typed t_place t_isFault t_readLamps t_read t_undone t_undos (upd t_aside x1.toNatClampNeg v18) t_bays t_bests t_kept t_keptUndos t_isKept t_lanes t_sizes t_items t_moved)) 7 0 rfl rfl x1.toNatClampNeg rfl h18 rfl dX7_asides_19 ?_
      refine G.iinc 1 (lv' := [some (.ref (a 0)), some (.int (x1 + 1))]) dX7_asides_20 rfl (by decide) (by decide) (Nat.le_of_ble_eq_true rfl) rfl rfl ?_
      refine G.goto 2 dX7_asides_23 (by decide) ?_
      exact ih t_now (upd t_aside x1.toNatClampNeg v18) (x1 + 1)
set_option maxHeartbeats 4000000 in
set_option maxRecDepth 100000 in
theorem c_X7_asides (l : Launch) (D : va_G) (ks : Nat × Nat) (cI cL cC cM cS : ClassId) (a : Nat → Nat) (t_now t_mores t_tape : Nat → Int32) (t_typed t_place t_isFault : Int32) (t_readLamps t_read t_undone : Nat → Int32) (t_undos : Int32) (t_aside t_bays t_bests t_kept : Nat → Int32) (t_keptUndos t_isKept : Int32) (t_lanes t_sizes : Nat → Int32) (t_items t_moved : Nat → Int64) : MT l D ks (tyz cI cL cC cM cS) yX7_asides cX7_asides 2 none { frames := 0, cells := 0, slots := 0, locals := 0 } [.ref (a 0)] (w_X7 cI cL cC cM cS a t_now t_mores t_tape t_typed t_place t_isFault t_readLamps t_read t_undone t_undos t_aside t_bays t_bests t_kept t_keptUndos t_isKept t_lanes t_sizes t_items t_moved) (fun r : (Nat → Int32) => (none, (w_X7 cI cL cC cM cS a t_now t_mores t_tape t_typed t_place t_isFault t_readLamps t_read t_undone t_undos r t_bays t_bests t_kept t_keptUndos t_isKept t_lanes t_sizes t_items t_moved))) (f_X7_asides t_now t_aside) := by
  refine MT.of 1 [some (.ref (a 0)), none] (by decide) (Nat.le_of_ble_eq_true rfl) rfl ?_
  unfold f_X7_asides
  refine G.iconst 0 dX7_asides_0 (by decide) ?_
  refine G.istore_n (lv' := [some (.ref (a 0)), some (.int 0)]) dX7_asides_1 (by decide) (Nat.le_of_ble_eq_true rfl) rfl rfl ?_
  exact g_X7_asides_c2 l D ks cI cL cC cM cS a t_mores t_tape t_typed t_place t_isFault t_readLamps t_read t_undone t_undos t_bays t_bests t_kept t_keptUndos t_isKept t_lanes t_sizes t_items t_moved fu t_now t_aside 0
set_option maxHeartbeats 4000000 in
set_option maxRecDepth 100000 in
theorem c_X7_told (l : Launch) (D : va_G) (ks : Nat × Nat) (cI cL cC cM cS : ClassId) (a : Nat → Nat) (t_now t_mores t_tape : Nat → Int32) (t_typed t_place t_isFault : Int32) (t_readLamps t_read t_undone : Nat → Int32) (t_undos : Int32) (t_aside t_bays t_bests t_kept : Nat → Int32) (t_keptUndos t_isKept : Int32) (t_lanes t_sizes : Nat → Int32) (t_items t_moved : Nat → Int64) (x1 : Int32) (x2 : Int32) : MT l D ks (tyz cI cL cC cM cS) yX7_told cX7_told 3 ((some .int)) { frames := 0, cells := 0, slots := 0, locals := 0 } [.ref (a 0), .int x1, .int x2] (w_X7 cI cL cC cM cS a t_now t_mores t_tape t_typed t_place t_isFault t_readLamps t_read t_undone t_undos t_aside t_bays t_bests t_kept t_keptUndos t_isKept t_lanes t_sizes t_items t_moved) (fun r : Int32 => (some (.int r), (w_X7 cI cL cC cM cS a t_now t_mores t_tape t_typed t_place t_isFault t_readLamps t_read t_undone t_undos t_aside t_bays t_bests t_kept t_keptUndos t_isKept t_lanes t_sizes t_items t_moved))) (f_X7_told t_now x1 x2) := by
  refine MT.of 0 [some (.ref (a 0)), some (.int x1), some (.int x2)] (by decide) (Nat.le_of_ble_eq_true rfl) rfl ?_
  unfold f_X7_told
  refine G.aload_n dX7_told_0 rfl ?_
  refine G.get fl_7_7 0 rfl rfl dX7_told_1 ?_
  refine G.iconst 4 dX7_told_4 (by decide) ?_
  refine G.iconst 4 dX7_told_5 (by decide) ?_
  refine G.iload_n dX7_told_6 rfl ?_
  refine G.imul dX7_told_7 ?_
  refine G.iadd dX7_told_8 ?_
  refine G.iload_n dX7_told_9 rfl ?_
  refine G.iadd dX7_told_10 ?_
  refine G.chk (fun h11 => ?_)
  refine G.iaload 1 0 rfl rfl (((4 + (4 * x1)) + x2).toNatClampNeg) rfl h11 dX7_told_11 ?_
  refine G.topi (fun v11 => ?_)
  exact G.iret rfl rfl dX7_told_12
set_option maxHeartbeats 4000000 in
set_option maxRecDepth 100000 in
theorem c_X7_used (l : Launch) (D : va_G) (ks : Nat × Nat) (cI cL cC cM cS : ClassId) (a : Nat → Nat) (t_now t_mores t_tape : Nat → Int32) (t_typed t_place t_isFault : Int32) (t_readLamps t_read t_undone : Nat → Int32) (t_undos : Int32) (t_aside t_bays t_bests t_kept : Nat → Int32) (t_keptUndos t_isKept : Int32) (t_lanes t_sizes : Nat → Int32) (t_items t_moved : Nat → Int64) (x1 : Int32) : MT l D ks (tyz cI cL cC cM cS) yX7_used cX7_used 2 ((some .int)) { frames := 1, cells := 0, slots := 0, locals := 22 } [.ref (a 0), .int x1] (w_X7 cI cL cC cM cS a t_now t_mores t_tape t_typed t_place t_isFault t_readLamps t_read t_undone t_undos t_aside t_bays t_bests t_kept t_keptUndos t_isKept t_lanes t_sizes t_items t_moved) (fun r : Int32 => (some (.int r), (w_X7 cI cL cC cM cS a t_now t_mores t_tape t_typed t_place t_isFault t_readLamps t_read t_undone t_undos t_aside t_bays t_bests t_kept t_keptUndos t_isKept t_lanes t_sizes t_items t_moved))) (f_X7_used t_now x1) := by
  refine MT.of 0 [some (.ref (a 0)), some (.int x1)] (by decide) (Nat.le_of_ble_eq_true rfl) rfl ?_
  unfold f_X7_used
  refine G.aload_n dX7_used_0 rfl ?_
  refine G.iload_n dX7_used_1 rfl ?_
  refine G.iconst 1 dX7_used_2 (by decide) ?_
  refine G.callV (st := []) (w' := fun r3 => (w_X7 cI cL cC cM cS a t_now t_mores t_tape t_typed t_place t_isFault t_readLamps t_read t_undone t_undos t_aside t_bays t_bests t_kept t_keptUndos t_isKept t_lanes t_sizes t_items t_moved)) mv_X7_told lk_7_59 (c_X7_told l D ks cI cL cC cM cS a t_now t_mores t_tape t_typed t_place t_isFault t_readLamps t_read t_undone t_undos t_aside t_bays t_bests t_kept t_keptUndos t_isKept t_lanes t_sizes t_items t_moved x1 1) [0, 1, 2, 3, 4, 5, 6, 7, 8, 9, 10, 11, 12, 13, 14] [] [0, 1, 2, 3, 4, 5, 6, 7, 8, 9, 10, 11, 12, 13, 14] rfl rfl rfl rfl (by decide +kernel) (fun _ => rfl) rfl (by decide) (Nat.le_of_ble_eq_true rfl) dX7_used_3 (fun r3 => [.int r3]) (fun _ => rfl) (fun r3 _ => ?_)
  exact G.iret rfl rfl dX7_used_6
set_option maxHeartbeats 4000000 in
set_option maxRecDepth 100000 in
theorem c_X7_isUp (l : Launch) (D : va_G) (ks : Nat × Nat) (cI cL cC cM cS : ClassId) (a : Nat → Nat) (t_now t_mores t_tape : Nat → Int32) (t_typed t_place t_isFault : Int32) (t_readLamps t_read t_undone : Nat → Int32) (t_undos : Int32) (t_aside t_bays t_bests t_kept : Nat → Int32) (t_keptUndos t_isKept : Int32) (t_lanes t_sizes : Nat → Int32) (t_items t_moved : Nat → Int64) (x1 : Int32) : MT l D ks (tyz cI cL cC cM cS) yX7_isUp cX7_isUp 2 ((some .boolean)) { frames := 2, cells := 0, slots := 0, locals := 43 } [.ref (a 0), .int x1] (w_X7 cI cL cC cM cS a t_now t_mores t_tape t_typed t_place t_isFault t_readLamps t_read t_undone t_undos t_aside t_bays t_bests t_kept t_keptUndos t_isKept t_lanes t_sizes t_items t_moved) (fun r : Int32 => (some (.int r), (w_X7 cI cL cC cM cS a t_now t_mores t_tape t_typed t_place t_isFault t_readLamps t_read t_undone t_undos t_aside t_bays t_bests t_kept t_keptUndos t_isKept t_lanes t_sizes t_items t_moved))) (f_X7_isUp t_now x1) := by
  refine MT.of 0 [some (.ref (a 0)), some (.int x1)] (by decide) (Nat.le_of_ble_eq_true rfl) rfl ?_
  unfold f_X7_isUp
  refine G.aload_n dX7_isUp_0 rfl ?_
  refine G.iload_n dX7_isUp_1 rfl ?_
  refine G.callV (st := []) (w' := fun r2 => (w_X7 cI cL cC cM cS a t_now t_mores t_tape t_typed t_place t_isFault t_readLamps t_read t_undone t_undos t_aside t_bays t_bests t_kept t_keptUndos t_isKept t_lanes t_sizes t_items t_moved)) mv_X7_used lk_7_63 (c_X7_used l D ks cI cL cC cM cS a t_now t_mores t_tape t_typed t_place t_isFault t_readLamps t_read t_undone t_undos t_aside t_bays t_bests t_kept t_keptUndos t_isKept t_lanes t_sizes t_items t_moved x1) [0, 1, 2, 3, 4, 5, 6, 7, 8, 9, 10, 11, 12, 13, 14] [] [0, 1, 2, 3, 4, 5, 6, 7, 8, 9, 10, 11, 12, 13, 14] rfl rfl rfl rfl (by decide +kernel) (fun _ => rfl) rfl (by decide) (Nat.le_of_ble_eq_true rfl) dX7_isUp_2 (fun r2 => [.int r2]) (fun _ => rfl) (fun r2 _ => ?_)
  refine G.bipush 99 dX7_isUp_5 (by decide) ?_
  refine G.join (st := []) Value.int 15 (fun v15 => ?_) (fun hJ => ?_)
  · refine G.chk (fun h15 => ?_)
    exact G.zret rfl rfl (isb_n h15) dX7_isUp_15
  · refine G.ite ?_
    refine G.icmp_ne 14 dX7_isUp_7 (by decide) (fun _ => ?_) (fun _ => ?_)
    · refine G.iconst 0 dX7_isUp_14 (by decide) ?_
      exact hJ _
    · refine G.iconst 1 dX7_isUp_10 (by decide) ?_
      refine G.goto 15 dX7_isUp_11 (by decide) ?_
      exact hJ _
set_option maxHeartbeats 4000000 in
set_option maxRecDepth 100000 in
theorem c_X7_bayOf (l : Launch) (D : va_G) (ks : Nat × Nat) (cI cL cC cM cS : ClassId) (a : Nat → Nat) (t_now t_mores t_tape : Nat → Int32) (t_typed t_place t_isFault : Int32) (t_readLamps t_read t_undone : Nat → Int32) (t_undos : Int32) (t_aside t_bays t_bests t_kept : Nat → Int32) (t_keptUndos t_isKept : Int32) (t_lanes t_sizes : Nat → Int32) (t_items t_moved : Nat → Int64) (x1 : Int32) : MT l D ks (tyz cI cL cC cM cS) yX7_bayOf cX7_bayOf 2 ((some .int)) { frames := 1, cells := 0, slots := 0, locals := 22 } [.ref (a 0), .int x1] (w_X7 cI cL cC cM cS a t_now t_mores t_tape t_typed t_place t_isFault t_readLamps t_read t_undone t_undos t_aside t_bays t_bests t_kept t_keptUndos t_isKept t_lanes t_sizes t_items t_moved) (fun r : Int32 => (some (.int r), (w_X7 cI cL cC cM cS a t_now t_mores t_tape t_typed t_place t_isFault t_readLamps t_read t_undone t_undos t_aside t_bays t_bests t_kept t_keptUndos t_isKept t_lanes t_sizes t_items t_moved))) (f_X7_bayOf t_now x1) := by
  refine MT.of 0 [some (.ref (a 0)), some (.int x1)] (by decide) (Nat.le_of_ble_eq_true rfl) rfl ?_
  unfold f_X7_bayOf
  refine G.aload_n dX7_bayOf_0 rfl ?_
  refine G.iload_n dX7_bayOf_1 rfl ?_
  refine G.iconst 2 dX7_bayOf_2 (by decide) ?_
  refine G.callV (st := []) (w' := fun r3 => (w_X7 cI cL cC cM cS a t_now t_mores t_tape t_typed t_place t_isFault t_readLamps t_read t_undone t_undos t_aside t_bays t_bests t_kept t_keptUndos t_isKept t_lanes t_sizes t_items t_moved)) mv_X7_told lk_7_59 (c_X7_told l D ks cI cL cC cM cS a t_now t_mores t_tape t_typed t_place t_isFault t_readLamps t_read t_undone t_undos t_aside t_bays t_bests t_kept t_keptUndos t_isKept t_lanes t_sizes t_items t_moved x1 2) [0, 1, 2, 3, 4, 5, 6, 7, 8, 9, 10, 11, 12, 13, 14] [] [0, 1, 2, 3, 4, 5, 6, 7, 8, 9, 10, 11, 12, 13, 14] rfl rfl rfl rfl (by decide +kernel) (fun _ => rfl) rfl (by decide) (Nat.le_of_ble_eq_true rfl) dX7_bayOf_3 (fun r3 => [.int r3]) (fun _ => rfl) (fun r3 _ => ?_)
  exact G.iret rfl rfl dX7_bayOf_6
set_option maxHeartbeats 4000000 in
set_option maxRecDepth 100000 in
theorem c_X7_apart (l : Launch) (D : va_G) (ks : Nat × Nat) (cI cL cC cM cS : ClassId) (x0 : Int32) (x1 : Int32) : MT l D ks (tyz cI cL cC cM cS) yX7_apart cX7_apart 2 ((some .int)) { frames := 0, cells := 0, slots := 0, locals := 0 } [.int x0, .int x1] (w_0 cI cL cC cM cS  ) (fun r : Int32 => (some (.int r), (w_0 cI cL cC cM cS  ))) (f_X7_apart x0 x1) := by
  refine MT.of 0 [some (.int x0), some (.int x1)] (by decide) (Nat.le_of_ble_eq_true rfl) rfl ?_
  unfold f_X7_apart
  refine G.iload_n dX7_apart_0 rfl ?_
  refine G.iload_n dX7_apart_1 rfl ?_
  refine G.join (st := []) Value.int 14 (fun v14 => ?_) (fun hJ => ?_)
  · exact G.iret rfl rfl dX7_apart_14
  · refine G.ite ?_
    refine G.icmp_ge 11 dX7_apart_2 (by decide) (fun _ => ?_) (fun _ => ?_)
    · refine G.iload_n dX7_apart_11 rfl ?_
      refine G.iload_n dX7_apart_12 rfl ?_
      refine G.isub dX7_apart_13 ?_
      exact hJ _
    · refine G.iload_n dX7_apart_5 rfl ?_
      refine G.iload_n dX7_apart_6 rfl ?_
      refine G.isub dX7_apart_7 ?_
      refine G.goto 14 dX7_apart_8 (by decide) ?_
      exact hJ _
set_option maxHeartbeats 4000000 in
set_option maxRecDepth 100000 in
theorem g_X7_besides_c4 (l : Launch) (D : va_G) (ks : Nat × Nat) (cI cL cC cM cS : ClassId) (a : Nat → Nat) (t_mores t_tape : Nat → Int32) (t_typed t_place t_isFault : Int32) (t_readLamps t_read t_undone : Nat → Int32) (t_undos : Int32) (t_aside t_bays t_bests t_kept : Nat → Int32) (t_keptUndos t_isKept : Int32) (t_lanes t_sizes : Nat → Int32) (t_items t_moved : Nat → Int64) : ∀ (n : Nat), ∀ (t_now : Nat → Int32) (x1 : Int32) (x2 : Int32) (x3 : Int32), GJ l D ks (tyz cI cL cC cM cS) RX7 cX7_besides 4 ((some .int)) { frames := 2, cells := 0, slots := 0, locals := 43 } (fun r : Int32 => (some (.int r), (w_X7 cI cL cC cM cS a t_now t_mores t_tape t_typed t_place t_isFault t_readLamps t_read t_undone t_undos t_aside t_bays t_bests t_kept t_keptUndos t_isKept t_lanes t_sizes t_items t_moved))) (w_X7 cI cL cC cM cS a t_now t_mores t_tape t_typed t_place t_isFault t_readLamps t_read t_undone t_undos t_aside t_bays t_bests t_kept t_keptUndos t_isKept t_lanes t_sizes t_items t_moved) 4 [some (.ref (a 0)), some (.int x1), some (.int x2), some (.int x3)] [] (f_X7_besides_c4 n t_now x1 x2 x3) := by
  intro n
  induction n with
  | zero =>
    intro t_now x1 x2 x3
    exact G.no
  | succ n ih =>
    intro t_now x1 x2 x3
    rw [f_X7_besides_c4]
    refine G.iload_n dX7_besides_4 rfl ?_
    refine G.aload_n dX7_besides_5 rfl ?_
    refine G.get fl_7_7 0 rfl rfl dX7_besides_6 ?_
    refine G.iconst 0 dX7_besides_9 (by decide) ?_
    refine G.iaload 1 0 rfl rfl 0 (by decide) (by decide) dX7_besides_10 ?_
    refine G.topi (fun v10 => ?_)
    refine G.icmp_ge 47 dX7_besides_11 (by decide) (fun h11 => ?_) (fun h11 => ?_)
    · refine G.iload_n dX7_besides_47 rfl ?_
      exact G.iret rfl rfl dX7_besides_48
    · refine G.iload_n dX7_besides_14 rfl ?_
      refine G.aload_n dX7_besides_15 rfl ?_
      refine G.iload_n dX7_besides_16 rfl ?_
      refine G.callV (st := [.int x2]) (w' := fun r17 => (w_X7 cI cL cC cM cS a t_now t_mores t_tape t_typed t_place t_isFault t_readLamps t_read t_undone t_undos t_aside t_bays t_bests t_kept t_keptUndos t_isKept t_lanes t_sizes t_items t_moved)) mv_X7_bayOf lk_7_67 (c_X7_bayOf l D ks cI cL cC cM cS a t_now t_mores t_tape t_typed t_place t_isFault t_readLamps t_read t_undone t_undos t_aside t_bays t_bests t_kept t_keptUndos t_isKept t_lanes t_sizes t_items t_moved x3) [0, 1, 2, 3, 4, 5, 6, 7, 8, 9, 10, 11, 12, 13, 14] [] [0, 1, 2, 3, 4, 5, 6, 7, 8, 9, 10, 11, 12, 13, 14] rfl rfl rfl rfl (by decide +kernel) (fun _ => rfl) rfl (by decide) (Nat.le_of_ble_eq_true rfl) dX7_besides_17 (fun r17 => [.int r17, .int x2]) (fun _ => rfl) (fun r17 _ => ?_)
      refine G.aload_n dX7_besides_20 rfl ?_
      refine G.iload_n dX7_besides_21 rfl ?_
      refine G.callV (st := [.int r17, .int x2]) (w' := fun r22 => (w_X7 cI cL cC cM cS a t_now t_mores t_tape t_typed t_place t_isFault t_readLamps t_read t_undone t_undos t_aside t_bays t_bests t_kept t_keptUndos t_isKept t_lanes t_sizes t_items t_moved)) mv_X7_bayOf lk_7_67 (c_X7_bayOf l D ks cI cL cC cM cS a t_now t_mores t_tape t_typed t_place t_isFault t_readLamps t_read t_undone t_undos t_aside t_bays t_bests t_kept t_keptUndos t_isKept t_lanes t_sizes t_items t_moved x1) [0, 1, 2, 3, 4, 5, 6, 7, 8, 9, 10, 11, 12, 13, 14] [] [0, 1, 2, 3, 4, 5, 6, 7, 8, 9, 10, 11, 12, 13, 14] rfl rfl rfl rfl (by decide +kernel) (fun _ => rfl) rfl (by decide) (Nat.le_of_ble_eq_true rfl) dX7_besides_22 (fun r22 => [.int r22, .int r17, .int x2]) (fun _ => rfl) (fun r22 _ => ?_)
      refine G.callS (st := [.int x2]) (w' := fun r25 => (w_X7 cI cL cC cM cS a t_now t_mores t_tape t_typed t_place t_isFault t_readLamps t_read t_undone t_undos t_aside t_bays t_bests t_kept t_keptUndos t_isKept t_lanes t_sizes t_items t_moved)) ms_X7_apart lk_7_70 (c_X7_apart l D ks cI cL cC cM cS r17 r22) [] [0, 1, 2, 3, 4, 5, 6, 7, 8, 9, 10, 11, 12, 13, 14] [0, 1, 2, 3, 4, 5, 6, 7, 8, 9, 10, 11, 12, 13, 14] rfl rfl rfl rfl (by decide +kernel) (fun _ => rfl) (by decide) (Nat.le_of_ble_eq_true rfl) dX7_besides_25 (fun r25 => [.int r25, .int x2]) (fun _ => rfl) (fun r25 _ => ?_)
      refine G.iconst 1 dX7_besides_28 (by decide) ?_
      refine G.join (st := [.int x2]) Value.int 39 (fun v39 => ?_) (fun hJ => ?_)
      · refine G.ior dX7_besides_39 ?_
        refine G.istore_n (lv' := [some (.ref (a 0)), some (.int x1), some (.int (x2 ||| v39)), some (.int x3)]) dX7_besides_40 (by decide) (Nat.le_of_ble_eq_true rfl) rfl rfl ?_
        refine G.iinc 1 (lv' := [some (.ref (a 0)), some (.int x1), some (.int (x2 ||| v39)), some (.int (x3 + 1))]) dX7_besides_41 rfl (by decide) (by decide) (Nat.le_of_ble_eq_true rfl) rfl rfl ?_
        refine G.goto 4 dX7_besides_44 (by decide) ?_
        exact ih t_now x1 (x2 ||| v39) (x3 + 1)
      · refine G.ite ?_
        refine G.icmp_ne 38 dX7_besides_29 (by decide) (fun _ => ?_) (fun _ => ?_)
        · refine G.iconst 0 dX7_besides_38 (by decide) ?_
          exact hJ _
        · refine G.iconst 1 dX7_besides_32 (by decide) ?_
          refine G.iload_n dX7_besides_33 rfl ?_
          refine G.ishl dX7_besides_34 ?_
          refine G.goto 39 dX7_besides_35 (by decide) ?_
          exact hJ _
set_option maxHeartbeats 4000000 in
set_option maxRecDepth 100000 in
theorem c_X7_besides (l : Launch) (D : va_G) (ks : Nat × Nat) (cI cL cC cM cS : ClassId) (a : Nat → Nat) (t_now t_mores t_tape : Nat → Int32) (t_typed t_place t_isFault : Int32) (t_readLamps t_read t_undone : Nat → Int32) (t_undos : Int32) (t_aside t_bays t_bests t_kept : Nat → Int32) (t_keptUndos t_isKept : Int32) (t_lanes t_sizes : Nat → Int32) (t_items t_moved : Nat → Int64) (x1 : Int32) : MT l D ks (tyz cI cL cC cM cS) yX7_besides cX7_besides 4 ((some .int)) { frames := 2, cells := 0, slots := 0, locals := 43 } [.ref (a 0), .int x1] (w_X7 cI cL cC cM cS a t_now t_mores t_tape t_typed t_place t_isFault t_readLamps t_read t_undone t_undos t_aside t_bays t_bests t_kept t_keptUndos t_isKept t_lanes t_sizes t_items t_moved) (fun r : Int32 => (some (.int r), (w_X7 cI cL cC cM cS a t_now t_mores t_tape t_typed t_place t_isFault t_readLamps t_read t_undone t_undos t_aside t_bays t_bests t_kept t_keptUndos t_isKept t_lanes t_sizes t_items t_moved))) (f_X7_besides t_now x1) := by
  refine MT.of 2 [some (.ref (a 0)), some (.int x1), none, none] (by decide) (Nat.le_of_ble_eq_true rfl) rfl ?_
  unfold f_X7_besides
  refine G.iconst 0 dX7_besides_0 (by decide) ?_
  refine G.istore_n (lv' := [some (.ref (a 0)), some (.int x1), some (.int 0), none]) dX7_besides_1 (by decide) (Nat.le_of_ble_eq_true rfl) rfl rfl ?_
  refine G.iconst 0 dX7_besides_2 (by decide) ?_
  refine G.istore_n (lv' := [some (.ref (a 0)), some (.int x1), some (.int 0), some (.int 0)]) dX7_besides_3 (by decide) (Nat.le_of_ble_eq_true rfl) rfl rfl ?_
  exact g_X7_besides_c4 l D ks cI cL cC cM cS a t_mores t_tape t_typed t_place t_isFault t_readLamps t_read t_undone t_undos t_aside t_bays t_bests t_kept t_keptUndos t_isKept t_lanes t_sizes t_items t_moved fu t_now x1 0 0
set_option maxHeartbeats 4000000 in
set_option maxRecDepth 100000 in
theorem g_X7_ups_c4 (l : Launch) (D : va_G) (ks : Nat × Nat) (cI cL cC cM cS : ClassId) (a : Nat → Nat) (t_mores t_tape : Nat → Int32) (t_typed t_place t_isFault : Int32) (t_readLamps t_read t_undone : Nat → Int32) (t_undos : Int32) (t_aside t_bays t_bests t_kept : Nat → Int32) (t_keptUndos t_isKept : Int32) (t_lanes t_sizes : Nat → Int32) (t_items t_moved : Nat → Int64) : ∀ (n : Nat), ∀ (t_now : Nat → Int32) (x1 : Int32) (x2 : Int32), GJ l D ks (tyz cI cL cC cM cS) RX7 cX7_ups 3 ((some .int)) { frames := 3, cells := 0, slots := 0, locals := 64 } (fun r : Int32 => (some (.int r), (w_X7 cI cL cC cM cS a t_now t_mores t_tape t_typed t_place t_isFault t_readLamps t_read t_undone t_undos t_aside t_bays t_bests t_kept t_keptUndos t_isKept t_lanes t_sizes t_items t_moved))) (w_X7 cI cL cC cM cS a t_now t_mores t_tape t_typed t_place t_isFault t_readLamps t_read t_undone t_undos t_aside t_bays t_bests t_kept t_keptUndos t_isKept t_lanes t_sizes t_items t_moved) 4 [some (.ref (a 0)), some (.int x1), some (.int x2)] [] (f_X7_ups_c4 n t_now x1 x2) := by
  intro n
  induction n with
  | zero =>
    intro t_now x1 x2
    exact G.no
  | succ n ih =>
    intro t_now x1 x2
    rw [f_X7_ups_c4]
    refine G.iload_n dX7_ups_4 rfl ?_
    refine G.aload_n dX7_ups_5 rfl ?_
    refine G.get fl_7_7 0 rfl rfl dX7_ups_6 ?_
    refine G.iconst 0 dX7_ups_9 (by decide) ?_
    refine G.iaload 1 0 rfl rfl 0 (by decide) (by decide) dX7_ups_10 ?_
    refine G.topi (fun v10 => ?_)
    refine G.icmp_ge 38 dX7_ups_11 (by decide) (fun h11 => ?_) (fun h11 => ?_)
    · refine G.iload_n dX7_ups_38 rfl ?_
      exact G.iret rfl rfl dX7_ups_39
    · refine G.iload_n dX7_ups_14 rfl ?_
      refine G.aload_n dX7_ups_15 rfl ?_
      refine G.iload_n dX7_ups_16 rfl ?_
      refine G.callV (st := [.int x1]) (w' := fun r17 => (w_X7 cI cL cC cM cS a t_now t_mores t_tape t_typed t_place t_isFault t_readLamps t_read t_undone t_undos t_aside t_bays t_bests t_kept t_keptUndos t_isKept t_lanes t_sizes t_items t_moved)) mv_X7_isUp lk_7_76 (c_X7_isUp l D ks cI cL cC cM cS a t_now t_mores t_tape t_typed t_place t_isFault t_readLamps t_read t_undone t_undos t_aside t_bays t_bests t_kept t_keptUndos t_isKept t_lanes t_sizes t_items t_moved x2) [0, 1, 2, 3, 4, 5, 6, 7, 8, 9, 10, 11, 12, 13, 14] [] [0, 1, 2, 3, 4, 5, 6, 7, 8, 9, 10, 11, 12, 13, 14] rfl rfl rfl rfl (by decide +kernel) (fun _ => rfl) rfl (by decide) (Nat.le_of_ble_eq_true rfl) dX7_ups_17 (fun r17 => [.int r17, .int x1]) (fun _ => rfl) (fun r17 _ => ?_)
      refine G.join (st := [.int x1]) Value.int 30 (fun v30 => ?_) (fun hJ => ?_)
      · refine G.ior dX7_ups_30 ?_
        refine G.istore_n (lv' := [some (.ref (a 0)), some (.int (x1 ||| v30)), some (.int x2)]) dX7_ups_31 (by decide) (Nat.le_of_ble_eq_true rfl) rfl rfl ?_
        refine G.iinc 1 (lv' := [some (.ref (a 0)), some (.int (x1 ||| v30)), some (.int (x2 + 1))]) dX7_ups_32 rfl (by decide) (by decide) (Nat.le_of_ble_eq_true rfl) rfl rfl ?_
        refine G.goto 4 dX7_ups_35 (by decide) ?_
        exact ih t_now (x1 ||| v30) (x2 + 1)
      · refine G.ite ?_
        refine G.if_eq 29 dX7_ups_20 (by decide) (fun _ => ?_) (fun _ => ?_)
        · refine G.iconst 0 dX7_ups_29 (by decide) ?_
          exact hJ _
        · refine G.iconst 1 dX7_ups_23 (by decide) ?_
          refine G.iload_n dX7_ups_24 rfl ?_
          refine G.ishl dX7_ups_25 ?_
          refine G.goto 30 dX7_ups_26 (by decide) ?_
          exact hJ _
set_option maxHeartbeats 4000000 in
set_option maxRecDepth 100000 in
theorem c_X7_ups (l : Launch) (D : va_G) (ks : Nat × Nat) (cI cL cC cM cS : ClassId) (a : Nat → Nat) (t_now t_mores t_tape : Nat → Int32) (t_typed t_place t_isFault : Int32) (t_readLamps t_read t_undone : Nat → Int32) (t_undos : Int32) (t_aside t_bays t_bests t_kept : Nat → Int32) (t_keptUndos t_isKept : Int32) (t_lanes t_sizes : Nat → Int32) (t_items t_moved : Nat → Int64) : MT l D ks (tyz cI cL cC cM cS) yX7_ups cX7_ups 3 ((some .int)) { frames := 3, cells := 0, slots := 0, locals := 64 } [.ref (a 0)] (w_X7 cI cL cC cM cS a t_now t_mores t_tape t_typed t_place t_isFault t_readLamps t_read t_undone t_undos t_aside t_bays t_bests t_kept t_keptUndos t_isKept t_lanes t_sizes t_items t_moved) (fun r : Int32 => (some (.int r), (w_X7 cI cL cC cM cS a t_now t_mores t_tape t_typed t_place t_isFault t_readLamps t_read t_undone t_undos t_aside t_bays t_bests t_kept t_keptUndos t_isKept t_lanes t_sizes t_items t_moved))) (f_X7_ups t_now) := by
  refine MT.of 2 [some (.ref (a 0)), none, none] (by decide) (Nat.le_of_ble_eq_true rfl) rfl ?_
  unfold f_X7_ups
  refine G.iconst 0 dX7_ups_0 (by decide) ?_
  refine G.istore_n (lv' := [some (.ref (a 0)), some (.int 0), none]) dX7_ups_1 (by decide) (Nat.le_of_ble_eq_true rfl) rfl rfl ?_
  refine G.iconst 0 dX7_ups_2 (by decide) ?_
  refine G.istore_n (lv' := [some (.ref (a 0)), some (.int 0), some (.int 0)]) dX7_ups_3 (by decide) (Nat.le_of_ble_eq_true rfl) rfl rfl ?_
  exact g_X7_ups_c4 l D ks cI cL cC cM cS a t_mores t_tape t_typed t_place t_isFault t_readLamps t_read t_undone t_undos t_aside t_bays t_bests t_kept t_keptUndos t_isKept t_lanes t_sizes t_items t_moved fu t_now 0 0
set_option maxHeartbeats 4000000 in
set_option maxRecDepth 100000 in
theorem g_X7_many_c4 (l : Launch) (D : va_G) (ks : Nat × Nat) (cI cL cC cM cS : ClassId) : ∀ (n : Nat), ∀ (x1 : Int32) (x2 : Int32), GJ l D ks (tyz cI cL cC cM cS) RX7 cX7_many 3 ((some .int)) { frames := 0, cells := 0, slots := 0, locals := 0 } (fun r : Int32 => (some (.int r), (w_0 cI cL cC cM cS  ))) (w_0 cI cL cC cM cS  ) 4 [none, some (.int x1), some (.int x2)] [] (f_X7_many_c4 n x1 x2) := by
  intro n
  induction n with
  | zero =>
    intro x1 x2
    exact G.no
  | succ n ih =>
    intro x1 x2
    rw [f_X7_many_c4]
    refine G.iload_n dX7_many_4 rfl ?_
    refine G.if_eq 20 dX7_many_5 (by decide) (fun h5 => ?_) (fun h5 => ?_)
    · refine G.iload_n dX7_many_20 rfl ?_
      exact G.iret rfl rfl dX7_many_21
    · refine G.iinc 1 (lv' := [none, some (.int (x1 + 1)), some (.int x2)]) dX7_many_8 rfl (by decide) (by decide) (Nat.le_of_ble_eq_true rfl) rfl rfl ?_
      refine G.iload_n dX7_many_11 rfl ?_
      refine G.iload_n dX7_many_12 rfl ?_
      refine G.iconst 1 dX7_many_13 (by decide) ?_
      refine G.isub dX7_many_14 ?_
      refine G.iand dX7_many_15 ?_
      refine G.istore_n (lv' := [none, some (.int (x1 + 1)), some (.int (x2 &&& (x2 - 1)))]) dX7_many_16 (by decide) (Nat.le_of_ble_eq_true rfl) rfl rfl ?_
      refine G.goto 4 dX7_many_17 (by decide) ?_
      exact ih (x1 + 1) (x2 &&& (x2 - 1))
set_option maxHeartbeats 4000000 in
set_option maxRecDepth 100000 in
theorem c_X7_many (l : Launch) (D : va_G) (ks : Nat × Nat) (cI cL cC cM cS : ClassId) (x0 : Int32) : MT l D ks (tyz cI cL cC cM cS) yX7_many cX7_many 3 ((some .int)) { frames := 0, cells := 0, slots := 0, locals := 0 } [.int x0] (w_0 cI cL cC cM cS  ) (fun r : Int32 => (some (.int r), (w_0 cI cL cC cM cS  ))) (f_X7_many x0) := by
  refine MT.of 2 [some (.int x0), none, none] (by decide) (Nat.le_of_ble_eq_true rfl) rfl ?_
  unfold f_X7_many
  refine G.iconst 0 dX7_many_0 (by decide) ?_
  refine G.istore_n (lv' := [some (.int x0), some (.int 0), none]) dX7_many_1 (by decide) (Nat.le_of_ble_eq_true rfl) rfl rfl ?_
  refine G.iload_n dX7_many_2 rfl ?_
  refine G.istore_n (lv' := [some (.int x0), some (.int 0), some (.int x0)]) dX7_many_3 (by decide) (Nat.le_of_ble_eq_true rfl) rfl rfl ?_
  refine G.mask (lv' := [none, some (.int 0), some (.int x0)]) [false, true, true] rfl ?_
  exact g_X7_many_c4 l D ks cI cL cC cM cS fu 0 x0
set_option maxHeartbeats 4000000 in
set_option maxRecDepth 100000 in
theorem c_X7_more (l : Launch) (D : va_G) (ks : Nat × Nat) (cI cL cC cM cS : ClassId) (a : Nat → Nat) (t_now t_mores t_tape : Nat → Int32) (t_typed t_place t_isFault : Int32) (t_readLamps t_read t_undone : Nat → Int32) (t_undos : Int32) (t_aside t_bays t_bests t_kept : Nat → Int32) (t_keptUndos t_isKept : Int32) (t_lanes t_sizes : Nat → Int32) (t_items t_moved : Nat → Int64) (x1 : Int32) : MT l D ks (tyz cI cL cC cM cS) yX7_more cX7_more 6 ((some .int)) { frames := 4, cells := 0, slots := 0, locals := 86 } [.ref (a 0), .int x1] (w_X7 cI cL cC cM cS a t_now t_mores t_tape t_typed t_place t_isFault t_readLamps t_read t_undone t_undos t_aside t_bays t_bests t_kept t_keptUndos t_isKept t_lanes t_sizes t_items t_moved) (fun r : Int32 => (some (.int r), (w_X7 cI cL cC cM cS a t_now t_mores t_tape t_typed t_place t_isFault t_readLamps t_read t_undone t_undos t_aside t_bays t_bests t_kept t_keptUndos t_isKept t_lanes t_sizes t_items t_moved))) (f_X7_more t_now x1) := by
  refine MT.of 4 [some (.ref (a 0)), some (.int x1), none, none, none, none] (by decide) (Nat.le_of_ble_eq_true rfl) rfl ?_
  unfold f_X7_more
  refine G.aload_n dX7_more_0 rfl ?_
  refine G.iload_n dX7_more_1 rfl ?_
  refine G.callV (st := []) (w' := fun r2 => (w_X7 cI cL cC cM cS a t_now t_mores t_tape t_typed t_place t_isFault t_readLamps t_read t_undone t_undos t_aside t_bays t_bests t_kept t_keptUndos t_isKept t_lanes t_sizes t_items t_moved)) mv_X7_isUp lk_7_76 (c_X7_isUp l D ks cI cL cC cM cS a t_now t_mores t_tape t_typed t_place t_isFault t_readLamps t_read t_undone t_undos t_aside t_bays t_bests t_kept t_keptUndos t_isKept t_lanes t_sizes t_items t_moved x1) [0, 1, 2, 3, 4, 5, 6, 7, 8, 9, 10, 11, 12, 13, 14] [] [0, 1, 2, 3, 4, 5, 6, 7, 8, 9, 10, 11, 12, 13, 14] rfl rfl rfl rfl (by decide +kernel) (fun _ => rfl) rfl (by decide) (Nat.le_of_ble_eq_true rfl) dX7_more_2 (fun r2 => [.int r2]) (fun _ => rfl) (fun r2 _ => ?_)
  refine G.if_eq 10 dX7_more_5 (by decide) (fun h5 => ?_) (fun h5 => ?_)
  · refine G.bipush 10 dX7_more_10 (by decide) ?_
    refine G.aload_n dX7_more_12 rfl ?_
    refine G.get fl_7_7 0 rfl rfl dX7_more_13 ?_
    refine G.bipush 28 dX7_more_16 (by decide) ?_
    refine G.aload_n dX7_more_18 rfl ?_
    refine G.iload_n dX7_more_19 rfl ?_
    refine G.callV (st := [.int 28, .ref (a 1), .int 10]) (w' := fun r20 => (w_X7 cI cL cC cM cS a t_now t_mores t_tape t_typed t_place t_isFault t_readLamps t_read t_undone t_undos t_aside t_bays t_bests t_kept t_keptUndos t_isKept t_lanes t_sizes t_items t_moved)) mv_X7_bayOf lk_7_67 (c_X7_bayOf l D ks cI cL cC cM cS a t_now t_mores t_tape t_typed t_place t_isFault t_readLamps t_read t_undone t_undos t_aside t_bays t_bests t_kept t_keptUndos t_isKept t_lanes t_sizes t_items t_moved x1) [0, 1, 2, 3, 4, 5, 6, 7, 8, 9, 10, 11, 12, 13, 14] [] [0, 1, 2, 3, 4, 5, 6, 7, 8, 9, 10, 11, 12, 13, 14] rfl rfl rfl rfl (by decide +kernel) (fun _ => rfl) rfl (by decide) (Nat.le_of_ble_eq_true rfl) dX7_more_20 (fun r20 => [.int r20, .int 28, .ref (a 1), .int 10]) (fun _ => rfl) (fun r20 _ => ?_)
    refine G.iadd dX7_more_23 ?_
    refine G.chk (fun h24 => ?_)
    refine G.iaload 1 0 rfl rfl ((28 + r20).toNatClampNeg) rfl h24 dX7_more_24 ?_
    refine G.topi (fun v24 => ?_)
    refine G.isub dX7_more_25 ?_
    refine G.istore_n (lv' := [some (.ref (a 0)), some (.int x1), some (.int (10 - v24)), none, none, none]) dX7_more_26 (by decide) (Nat.le_of_ble_eq_true rfl) rfl rfl ?_
    refine G.aload_n dX7_more_27 rfl ?_
    refine G.iload_n dX7_more_28 rfl ?_
    refine G.callV (st := []) (w' := fun r29 => (w_X7 cI cL cC cM cS a t_now t_mores t_tape t_typed t_place t_isFault t_readLamps t_read t_undone t_undos t_aside t_bays t_bests t_kept t_keptUndos t_isKept t_lanes t_sizes t_items t_moved)) mv_X7_besides lk_7_80 (c_X7_besides l D ks cI cL cC cM cS a t_now t_mores t_tape t_typed t_place t_isFault t_readLamps t_read t_undone t_undos t_aside t_bays t_bests t_kept t_keptUndos t_isKept t_lanes t_sizes t_items t_moved x1) [0, 1, 2, 3, 4, 5, 6, 7, 8, 9, 10, 11, 12, 13, 14] [] [0, 1, 2, 3, 4, 5, 6, 7, 8, 9, 10, 11, 12, 13, 14] rfl rfl rfl rfl (by decide +kernel) (fun _ => rfl) rfl (by decide) (Nat.le_of_ble_eq_true rfl) dX7_more_29 (fun r29 => [.int r29]) (fun _ => rfl) (fun r29 _ => ?_)
    refine G.istore_n (lv' := [some (.ref (a 0)), some (.int x1), some (.int (10 - v24)), some (.int r29), none, none]) dX7_more_32 (by decide) (Nat.le_of_ble_eq_true rfl) rfl rfl ?_
    refine G.iload_n dX7_more_33 rfl ?_
    refine G.iload_n dX7_more_34 rfl ?_
    refine G.aload_n dX7_more_35 rfl ?_
    refine G.callV (st := [.int r29, .int (10 - v24)]) (w' := fun r36 => (w_X7 cI cL cC cM cS a t_now t_mores t_tape t_typed t_place t_isFault t_readLamps t_read t_undone t_undos t_aside t_bays t_bests t_kept t_keptUndos t_isKept t_lanes t_sizes t_items t_moved)) mv_X7_ups lk_7_83 (c_X7_ups l D ks cI cL cC cM cS a t_now t_mores t_tape t_typed t_place t_isFault t_readLamps t_read t_undone t_undos t_aside t_bays t_bests t_kept t_keptUndos t_isKept t_lanes t_sizes t_items t_moved) [0, 1, 2, 3, 4, 5, 6, 7, 8, 9, 10, 11, 12, 13, 14] [] [0, 1, 2, 3, 4, 5, 6, 7, 8, 9, 10, 11, 12, 13, 14] rfl rfl rfl rfl (by decide +kernel) (fun _ => rfl) rfl (by decide) (Nat.le_of_ble_eq_true rfl) dX7_more_36 (fun r36 => [.int r36, .int r29, .int (10 - v24)]) (fun _ => rfl) (fun r36 _ => ?_)
    refine G.iconst (-1) dX7_more_39 (by decide) ?_
    refine G.ixor dX7_more_40 ?_
    refine G.iand dX7_more_41 ?_
    refine G.callS (st := [.int (10 - v24)]) (w' := fun r42 => (w_X7 cI cL cC cM cS a t_now t_mores t_tape t_typed t_place t_isFault t_readLamps t_read t_undone t_undos t_aside t_bays t_bests t_kept t_keptUndos t_isKept t_lanes t_sizes t_items t_moved)) ms_X7_many lk_7_87 (c_X7_many l D ks cI cL cC cM cS (r29 &&& (r36 ^^^ (-1)))) [] [0, 1, 2, 3, 4, 5, 6, 7, 8, 9, 10, 11, 12, 13, 14] [0, 1, 2, 3, 4, 5, 6, 7, 8, 9, 10, 11, 12, 13, 14] rfl rfl rfl rfl (by decide +kernel) (fun _ => rfl) (by decide) (Nat.le_of_ble_eq_true rfl) dX7_more_42 (fun r42 => [.int r42, .int (10 - v24)]) (fun _ => rfl) (fun r42 _ => ?_)
    refine G.isub dX7_more_45 ?_
    refine G.istore (lv' := [some (.ref (a 0)), some (.int x1), some (.int (10 - v24)), some (.int r29), some (.int ((10 - v24) - r42)), none]) dX7_more_46 (by decide) (Nat.le_of_ble_eq_true rfl) rfl rfl ?_
    refine G.iload dX7_more_48 rfl ?_
    refine G.join (st := []) Value.int 59 (fun v59 => ?_) (fun hJ => ?_)
    · refine G.istore (lv' := [some (.ref (a 0)), some (.int x1), some (.int (10 - v24)), some (.int r29), some (.int v59), none]) dX7_more_59 (by decide) (Nat.le_of_ble_eq_true rfl) rfl rfl ?_
      refine G.iload_n dX7_more_61 rfl ?_
      refine G.aload_n dX7_more_62 rfl ?_
      refine G.iload_n dX7_more_63 rfl ?_
      refine G.callV (st := [.int (10 - v24)]) (w' := fun r64 => (w_X7 cI cL cC cM cS a t_now t_mores t_tape t_typed t_place t_isFault t_readLamps t_read t_undone t_undos t_aside t_bays t_bests t_kept t_keptUndos t_isKept t_lanes t_sizes t_items t_moved)) mv_X7_bayOf lk_7_67 (c_X7_bayOf l D ks cI cL cC cM cS a t_now t_mores t_tape t_typed t_place t_isFault t_readLamps t_read t_undone t_undos t_aside t_bays t_bests t_kept t_keptUndos t_isKept t_lanes t_sizes t_items t_moved x1) [0, 1, 2, 3, 4, 5, 6, 7, 8, 9, 10, 11, 12, 13, 14] [] [0, 1, 2, 3, 4, 5, 6, 7, 8, 9, 10, 11, 12, 13, 14] rfl rfl rfl rfl (by decide +kernel) (fun _ => rfl) rfl (by decide) (Nat.le_of_ble_eq_true rfl) dX7_more_64 (fun r64 => [.int r64, .int (10 - v24)]) (fun _ => rfl) (fun r64 _ => ?_)
      refine G.iconst 5 dX7_more_67 (by decide) ?_
      refine G.irem dX7_more_68 (by decide) ?_
      refine G.join (st := [.int (10 - v24)]) Value.int 77 (fun v77 => ?_) (fun hJ => ?_)
      · refine G.iadd dX7_more_77 ?_
        refine G.istore (lv' := [some (.ref (a 0)), some (.int x1), some (.int (10 - v24)), some (.int r29), some (.int v59), some (.int ((10 - v24) + v77))]) dX7_more_78 (by decide) (Nat.le_of_ble_eq_true rfl) rfl rfl ?_
        refine G.aload_n dX7_more_80 rfl ?_
        refine G.iload_n dX7_more_81 rfl ?_
        refine G.iconst 0 dX7_more_82 (by decide) ?_
        refine G.callV (st := []) (w' := fun r83 => (w_X7 cI cL cC cM cS a t_now t_mores t_tape t_typed t_place t_isFault t_readLamps t_read t_undone t_undos t_aside t_bays t_bests t_kept t_keptUndos t_isKept t_lanes t_sizes t_items t_moved)) mv_X7_told lk_7_59 (c_X7_told l D ks cI cL cC cM cS a t_now t_mores t_tape t_typed t_place t_isFault t_readLamps t_read t_undone t_undos t_aside t_bays t_bests t_kept t_keptUndos t_isKept t_lanes t_sizes t_items t_moved x1 0) [0, 1, 2, 3, 4, 5, 6, 7, 8, 9, 10, 11, 12, 13, 14] [] [0, 1, 2, 3, 4, 5, 6, 7, 8, 9, 10, 11, 12, 13, 14] rfl rfl rfl rfl (by decide +kernel) (fun _ => rfl) rfl (by decide) (Nat.le_of_ble_eq_true rfl) dX7_more_83 (fun r83 => [.int r83]) (fun _ => rfl) (fun r83 _ => ?_)
        by_cases h86_0 : r83 = 0
        · rw [if_pos h86_0]
          refine G.tin (off := 30) 0 116 h86_0 dX7_more_86 (by decide) (by decide) (by decide) (by decide) ?_
          refine G.iload_n dX7_more_116 rfl ?_
          exact G.iret rfl rfl dX7_more_117
        rw [if_neg h86_0]
        by_cases h86_1 : r83 = 1
        · rw [if_pos h86_1]
          refine G.tin (off := 32) 1 118 h86_1 dX7_more_86 (by decide) (by decide) (by decide) (by decide) ?_
          refine G.iload dX7_more_118 rfl ?_
          exact G.iret rfl rfl dX7_more_120
        rw [if_neg h86_1]
        by_cases h86_2 : r83 = 2
        · rw [if_pos h86_2]
          refine G.tin (off := 35) 2 121 h86_2 dX7_more_86 (by decide) (by decide) (by decide) (by decide) ?_
          refine G.iload dX7_more_121 rfl ?_
          exact G.iret rfl rfl dX7_more_123
        rw [if_neg h86_2]
        by_cases h86_3 : r83 = 3
        · rw [if_pos h86_3]
          refine G.tin (off := 38) 3 124 h86_3 dX7_more_86 (by decide) (by decide) (by decide) (by decide) ?_
          refine G.iload dX7_more_124 rfl ?_
          refine G.iconst 4 dX7_more_126 (by decide) ?_
          refine G.join (st := []) Value.int 136 (fun v136 => ?_) (fun hJ => ?_)
          · exact G.iret rfl rfl dX7_more_136
          · refine G.ite ?_
            refine G.icmp_le 134 dX7_more_127 (by decide) (fun _ => ?_) (fun _ => ?_)
            · refine G.iload dX7_more_134 rfl ?_
              exact hJ _
            · refine G.iconst 4 dX7_more_130 (by decide) ?_
              refine G.goto 136 dX7_more_131 (by decide) ?_
              exact hJ _
        rw [if_neg h86_3]
        refine G.tout 137 (g_o4 h86_0 h86_1 h86_2 h86_3) dX7_more_86 (by decide) ?_
        refine G.iload dX7_more_137 rfl ?_
        refine G.iconst 2 dX7_more_139 (by decide) ?_
        refine G.iload_n dX7_more_140 rfl ?_
        refine G.aload_n dX7_more_141 rfl ?_
        refine G.callV (st := [.int r29, .int 2, .int ((10 - v24) + v77)]) (w' := fun r142 => (w_X7 cI cL cC cM cS a t_now t_mores t_tape t_typed t_place t_isFault t_readLamps t_read t_undone t_undos t_aside t_bays t_bests t_kept t_keptUndos t_isKept t_lanes t_sizes t_items t_moved)) mv_X7_ups lk_7_83 (c_X7_ups l D ks cI cL cC cM cS a t_now t_mores t_tape t_typed t_place t_isFault t_readLamps t_read t_undone t_undos t_aside t_bays t_bests t_kept t_keptUndos t_isKept t_lanes t_sizes t_items t_moved) [0, 1, 2, 3, 4, 5, 6, 7, 8, 9, 10, 11, 12, 13, 14] [] [0, 1, 2, 3, 4, 5, 6, 7, 8, 9, 10, 11, 12, 13, 14] rfl rfl rfl rfl (by decide +kernel) (fun _ => rfl) rfl (by decide) (Nat.le_of_ble_eq_true rfl) dX7_more_142 (fun r142 => [.int r142, .int r29, .int 2, .int ((10 - v24) + v77)]) (fun _ => rfl) (fun r142 _ => ?_)
        refine G.iand dX7_more_145 ?_
        refine G.callS (st := [.int 2, .int ((10 - v24) + v77)]) (w' := fun r146 => (w_X7 cI cL cC cM cS a t_now t_mores t_tape t_typed t_place t_isFault t_readLamps t_read t_undone t_undos t_aside t_bays t_bests t_kept t_keptUndos t_isKept t_lanes t_sizes t_items t_moved)) ms_X7_many lk_7_87 (c_X7_many l D ks cI cL cC cM cS (r29 &&& r142)) [] [0, 1, 2, 3, 4, 5, 6, 7, 8, 9, 10, 11, 12, 13, 14] [0, 1, 2, 3, 4, 5, 6, 7, 8, 9, 10, 11, 12, 13, 14] rfl rfl rfl rfl (by decide +kernel) (fun _ => rfl) (by decide) (Nat.le_of_ble_eq_true rfl) dX7_more_146 (fun r146 => [.int r146, .int 2, .int ((10 - v24) + v77)]) (fun _ => rfl) (fun r146 _ => ?_)
        refine G.imul dX7_more_149 ?_
        refine G.iadd dX7_more_150 ?_
        exact G.iret rfl rfl dX7_more_151
      · refine G.ite ?_
        refine G.if_ne 76 dX7_more_69 (by decide) (fun _ => ?_) (fun _ => ?_)
        · refine G.iconst 0 dX7_more_76 (by decide) ?_
          exact hJ _
        · refine G.iconst 3 dX7_more_72 (by decide) ?_
          refine G.goto 77 dX7_more_73 (by decide) ?_
          exact hJ _
    · refine G.ite ?_
      refine G.if_ge 57 dX7_more_50 (by decide) (fun _ => ?_) (fun _ => ?_)
      · refine G.iload dX7_more_57 rfl ?_
        exact hJ _
      · refine G.iconst 0 dX7_more_53 (by decide) ?_
        refine G.goto 59 dX7_more_54 (by decide) ?_
        exact hJ _
  · refine G.iconst 0 dX7_more_8 (by decide) ?_
    exact G.iret rfl rfl dX7_more_9
set_option maxHeartbeats 4000000 in
set_option maxRecDepth 100000 in
theorem c_X7_usedBy (l : Launch) (D : va_G) (ks : Nat × Nat) (cI cL cC cM cS : ClassId) (a : Nat → Nat) (t_now t_mores t_tape : Nat → Int32) (t_typed t_place t_isFault : Int32) (t_readLamps t_read t_undone : Nat → Int32) (t_undos : Int32) (t_aside t_bays t_bests t_kept : Nat → Int32) (t_keptUndos t_isKept : Int32) (t_lanes t_sizes : Nat → Int32) (t_items t_moved : Nat → Int64) (x1 : Int32) (x2 : Int32) : MT l D ks (tyz cI cL cC cM cS) yX7_usedBy cX7_usedBy 3 none { frames := 0, cells := 0, slots := 0, locals := 0 } [.ref (a 0), .int x1, .int x2] (w_X7 cI cL cC cM cS a t_now t_mores t_tape t_typed t_place t_isFault t_readLamps t_read t_undone t_undos t_aside t_bays t_bests t_kept t_keptUndos t_isKept t_lanes t_sizes t_items t_moved) (fun r : (Nat → Int32) => (none, (w_X7 cI cL cC cM cS a r t_mores t_tape t_typed t_place t_isFault t_readLamps t_read t_undone t_undos t_aside t_bays t_bests t_kept t_keptUndos t_isKept t_lanes t_sizes t_items t_moved))) (f_X7_usedBy t_now x1 x2) := by
  refine MT.of 0 [some (.ref (a 0)), some (.int x1), some (.int x2)] (by decide) (Nat.le_of_ble_eq_true rfl) rfl ?_
  unfold f_X7_usedBy
  refine G.aload_n dX7_usedBy_0 rfl ?_
  refine G.get fl_7_7 0 rfl rfl dX7_usedBy_1 ?_
  refine G.iconst 4 dX7_usedBy_4 (by decide) ?_
  refine G.iconst 4 dX7_usedBy_5 (by decide) ?_
  refine G.iload_n dX7_usedBy_6 rfl ?_
  refine G.imul dX7_usedBy_7 ?_
  refine G.iadd dX7_usedBy_8 ?_
  refine G.iconst 1 dX7_usedBy_9 (by decide) ?_
  refine G.iadd dX7_usedBy_10 ?_
  refine G.iload_n dX7_usedBy_11 rfl ?_
  refine G.bipush 99 dX7_usedBy_12 (by decide) ?_
  refine G.join (st := [.int ((4 + (4 * x1)) + 1), .ref (a 1)]) Value.int 31 (fun v31 => ?_) (fun hJ => ?_)
  · refine G.chk (fun h31 => ?_)
    refine G.iastore (w' := (w_X7 cI cL cC cM cS a (upd t_now (((4 + (4 * x1)) + 1).toNatClampNeg) v31) t_mores t_tape t_typed t_place t_isFault t_readLamps t_read t_undone t_undos t_aside t_bays t_bests t_kept t_keptUndos t_isKept t_lanes t_sizes t_items t_moved)) 1 0 rfl rfl (((4 + (4 * x1)) + 1).toNatClampNeg) rfl h31 rfl dX7_usedBy_31 ?_
    exact G.vret rfl rfl dX7_usedBy_32
  · refine G.ite ?_
    refine G.icmp_le 22 dX7_usedBy_14 (by decide) (fun _ => ?_) (fun _ => ?_)
    · refine G.iload_n dX7_usedBy_22 rfl ?_
      refine G.ite ?_
      refine G.if_ge 30 dX7_usedBy_23 (by decide) (fun _ => ?_) (fun _ => ?_)
      · refine G.iload_n dX7_usedBy_30 rfl ?_
        exact hJ _
      · refine G.iconst 0 dX7_usedBy_26 (by decide) ?_
        refine G.goto 31 dX7_usedBy_27 (by decide) ?_
        exact hJ _
    · refine G.bipush 99 dX7_usedBy_17 (by decide) ?_
      refine G.goto 31 dX7_usedBy_19 (by decide) ?_
      exact hJ _
set_option maxHeartbeats 4000000 in
set_option maxRecDepth 100000 in
theorem g_X7_goesBy_c65 (l : Launch) (D : va_G) (ks : Nat × Nat) (cI cL cC cM cS : ClassId) (a : Nat → Nat) (t_tape : Nat → Int32) (t_typed t_place t_isFault : Int32) (t_readLamps t_read t_undone : Nat → Int32) (t_undos : Int32) (t_aside t_bays t_bests t_kept : Nat → Int32) (t_keptUndos t_isKept : Int32) (t_lanes t_sizes : Nat → Int32) (t_items t_moved : Nat → Int64) : ∀ (n : Nat), ∀ (t_now t_mores : Nat → Int32) (x1 : Int32), GJ l D ks (tyz cI cL cC cM cS) RX7 cX7_goesBy 2 none { frames := 5, cells := 0, slots := 0, locals := 111 } (fun r : (Nat → Int32) × (Nat → Int32) => (none, (w_X7 cI cL cC cM cS a r.1 r.2 t_tape t_typed t_place t_isFault t_readLamps t_read t_undone t_undos t_aside t_bays t_bests t_kept t_keptUndos t_isKept t_lanes t_sizes t_items t_moved))) (w_X7 cI cL cC cM cS a t_now t_mores t_tape t_typed t_place t_isFault t_readLamps t_read t_undone t_undos t_aside t_bays t_bests t_kept t_keptUndos t_isKept t_lanes t_sizes t_items t_moved) 65 [some (.ref (a 0)), some (.int x1)] [] (f_X7_goesBy_c65 n t_now t_mores x1) := by
  intro n
  induction n with
  | zero =>
    intro t_now t_mores x1
    exact G.no
  | succ n ih =>
    intro t_now t_mores x1
    rw [f_X7_goesBy_c65]
    refine G.iload_n dX7_goesBy_65 rfl ?_
    refine G.aload_n dX7_goesBy_66 rfl ?_
    refine G.get fl_7_7 0 rfl rfl dX7_goesBy_67 ?_
    refine G.iconst 0 dX7_goesBy_70 (by decide) ?_
    refine G.iaload 1 0 rfl rfl 0 (by decide) (by decide) dX7_goesBy_71 ?_
    refine G.topi (fun v71 => ?_)
    refine G.icmp_ge 98 dX7_goesBy_72 (by decide) (fun h72 => ?_) (fun h72 => ?_)
    · refine G.aload_n dX7_goesBy_98 rfl ?_
      refine G.get fl_7_7 0 rfl rfl dX7_goesBy_99 ?_
      refine G.iconst 1 dX7_goesBy_102 (by decide) ?_
      refine G.dup2 dX7_goesBy_103 rfl rfl ?_
      refine G.iaload 1 0 rfl rfl 1 (by decide) (by decide) dX7_goesBy_104 ?_
      refine G.topi (fun v104 => ?_)
      refine G.iconst 1 dX7_goesBy_105 (by decide) ?_
      refine G.iadd dX7_goesBy_106 ?_
      refine G.iastore (w' := (w_X7 cI cL cC cM cS a (upd t_now 1 (v104 + 1)) t_mores t_tape t_typed t_place t_isFault t_readLamps t_read t_undone t_undos t_aside t_bays t_bests t_kept t_keptUndos t_isKept t_lanes t_sizes t_items t_moved)) 1 0 rfl rfl 1 (by decide) (by decide) rfl dX7_goesBy_107 ?_
      exact G.vret rfl rfl dX7_goesBy_108
    · refine G.aload_n dX7_goesBy_75 rfl ?_
      refine G.iload_n dX7_goesBy_76 rfl ?_
      refine G.aload_n dX7_goesBy_77 rfl ?_
      refine G.iload_n dX7_goesBy_78 rfl ?_
      refine G.callV (st := [.int x1, .ref (a 0)]) (w' := fun r79 => (w_X7 cI cL cC cM cS a t_now t_mores t_tape t_typed t_place t_isFault t_readLamps t_read t_undone t_undos t_aside t_bays t_bests t_kept t_keptUndos t_isKept t_lanes t_sizes t_items t_moved)) mv_X7_used lk_7_63 (c_X7_used l D ks cI cL cC cM cS a t_now t_mores t_tape t_typed t_place t_isFault t_readLamps t_read t_undone t_undos t_aside t_bays t_bests t_kept t_keptUndos t_isKept t_lanes t_sizes t_items t_moved x1) [0, 1, 2, 3, 4, 5, 6, 7, 8, 9, 10, 11, 12, 13, 14] [] [0, 1, 2, 3, 4, 5, 6, 7, 8, 9, 10, 11, 12, 13, 14] rfl rfl rfl rfl (by decide +kernel) (fun _ => rfl) rfl (by decide) (Nat.le_of_ble_eq_true rfl) dX7_goesBy_79 (fun r79 => [.int r79, .int x1, .ref (a 0)]) (fun _ => rfl) (fun r79 _ => ?_)
      refine G.aload_n dX7_goesBy_82 rfl ?_
      refine G.get fl_7_13 0 rfl rfl dX7_goesBy_83 ?_
      refine G.iload_n dX7_goesBy_86 rfl ?_
      refine G.chk (fun h87 => ?_)
      refine G.iaload 2 0 rfl rfl x1.toNatClampNeg rfl h87 dX7_goesBy_87 ?_
      refine G.topi (fun v87 => ?_)
      refine G.iadd dX7_goesBy_88 ?_
      refine G.callV (st := []) (w' := fun r89 => (w_X7 cI cL cC cM cS a r89 t_mores t_tape t_typed t_place t_isFault t_readLamps t_read t_undone t_undos t_aside t_bays t_bests t_kept t_keptUndos t_isKept t_lanes t_sizes t_items t_moved)) mv_X7_usedBy lk_7_93 (c_X7_usedBy l D ks cI cL cC cM cS a t_now t_mores t_tape t_typed t_place t_isFault t_readLamps t_read t_undone t_undos t_aside t_bays t_bests t_kept t_keptUndos t_isKept t_lanes t_sizes t_items t_moved x1 (r79 + v87)) [0, 1, 2, 3, 4, 5, 6, 7, 8, 9, 10, 11, 12, 13, 14] [] [0, 1, 2, 3, 4, 5, 6, 7, 8, 9, 10, 11, 12, 13, 14] rfl rfl rfl rfl (by decide +kernel) (fun _ => rfl) rfl (by decide) (Nat.le_of_ble_eq_true rfl) dX7_goesBy_89 (fun r89 => []) (fun _ => rfl) (fun r89 _ => ?_)
      refine G.iinc 1 (lv' := [some (.ref (a 0)), some (.int (x1 + 1))]) dX7_goesBy_92 rfl (by decide) (by decide) (Nat.le_of_ble_eq_true rfl) rfl rfl ?_
      refine G.goto 65 dX7_goesBy_95 (by decide) ?_
      exact ih r89 t_mores (x1 + 1)
set_option maxHeartbeats 4000000 in
set_option maxRecDepth 100000 in
theorem g_X7_goesBy_c55 (l : Launch) (D : va_G) (ks : Nat × Nat) (cI cL cC cM cS : ClassId) (a : Nat → Nat) (t_tape : Nat → Int32) (t_typed t_place t_isFault : Int32) (t_readLamps t_read t_undone : Nat → Int32) (t_undos : Int32) (t_aside t_bays t_bests t_kept : Nat → Int32) (t_keptUndos t_isKept : Int32) (t_lanes t_sizes : Nat → Int32) (t_items t_moved : Nat → Int64) (k2 : (Nat → Int32) → (Nat → Int32) → Int32 → (Option ((Nat → Int32) × (Nat → Int32)))) (hk2 : ∀ (t_now t_mores : Nat → Int32) (x1 : Int32), GJ l D ks (tyz cI cL cC cM cS) RX7 cX7_goesBy 2 none { frames := 5, cells := 0, slots := 0, locals := 111 } (fun r : (Nat → Int32) × (Nat → Int32) => (none, (w_X7 cI cL cC cM cS a r.1 r.2 t_tape t_typed t_place t_isFault t_readLamps t_read t_undone t_undos t_aside t_bays t_bests t_kept t_keptUndos t_isKept t_lanes t_sizes t_items t_moved))) (w_X7 cI cL cC cM cS a t_now t_mores t_tape t_typed t_place t_isFault t_readLamps t_read t_undone t_undos t_aside t_bays t_bests t_kept t_keptUndos t_isKept t_lanes t_sizes t_items t_moved) 2 [some (.ref (a 0)), some (.int x1)] [] (k2 t_now t_mores x1)) (t_now t_mores : Nat → Int32) (x1 : Int32) (s0 : Int32) (s1 : Int32) : GJ l D ks (tyz cI cL cC cM cS) RX7 cX7_goesBy 2 none { frames := 5, cells := 0, slots := 0, locals := 111 } (fun r : (Nat → Int32) × (Nat → Int32) => (none, (w_X7 cI cL cC cM cS a r.1 r.2 t_tape t_typed t_place t_isFault t_readLamps t_read t_undone t_undos t_aside t_bays t_bests t_kept t_keptUndos t_isKept t_lanes t_sizes t_items t_moved))) (w_X7 cI cL cC cM cS a t_now t_mores t_tape t_typed t_place t_isFault t_readLamps t_read t_undone t_undos t_aside t_bays t_bests t_kept t_keptUndos t_isKept t_lanes t_sizes t_items t_moved) 55 [some (.ref (a 0)), some (.int x1)] [.int s0, .int s1, .int 2, .ref (a 1)] (f_X7_goesBy_c55 k2 t_now t_mores x1 s0 s1) := by
  unfold f_X7_goesBy_c55
  refine G.iadd dX7_goesBy_55 ?_
  refine G.iastore (w' := (w_X7 cI cL cC cM cS a (upd t_now 2 (s1 + s0)) t_mores t_tape t_typed t_place t_isFault t_readLamps t_read t_undone t_undos t_aside t_bays t_bests t_kept t_keptUndos t_isKept t_lanes t_sizes t_items t_moved)) 1 0 rfl rfl 2 (by decide) (by decide) rfl dX7_goesBy_56 ?_
  refine G.iinc 1 (lv' := [some (.ref (a 0)), some (.int (x1 + 1))]) dX7_goesBy_57 rfl (by decide) (by decide) (Nat.le_of_ble_eq_true rfl) rfl rfl ?_
  refine G.goto 2 dX7_goesBy_60 (by decide) ?_
  exact hk2 (upd t_now 2 (s1 + s0)) t_mores (x1 + 1)
set_option maxHeartbeats 4000000 in
set_option maxRecDepth 100000 in
theorem g_X7_goesBy_c2 (l : Launch) (D : va_G) (ks : Nat × Nat) (cI cL cC cM cS : ClassId) (a : Nat → Nat) (t_tape : Nat → Int32) (t_typed t_place t_isFault : Int32) (t_readLamps t_read t_undone : Nat → Int32) (t_undos : Int32) (t_aside t_bays t_bests t_kept : Nat → Int32) (t_keptUndos t_isKept : Int32) (t_lanes t_sizes : Nat → Int32) (t_items t_moved : Nat → Int64) : ∀ (n : Nat), ∀ (t_now t_mores : Nat → Int32) (x1 : Int32), GJ l D ks (tyz cI cL cC cM cS) RX7 cX7_goesBy 2 none { frames := 5, cells := 0, slots := 0, locals := 111 } (fun r : (Nat → Int32) × (Nat → Int32) => (none, (w_X7 cI cL cC cM cS a r.1 r.2 t_tape t_typed t_place t_isFault t_readLamps t_read t_undone t_undos t_aside t_bays t_bests t_kept t_keptUndos t_isKept t_lanes t_sizes t_items t_moved))) (w_X7 cI cL cC cM cS a t_now t_mores t_tape t_typed t_place t_isFault t_readLamps t_read t_undone t_undos t_aside t_bays t_bests t_kept t_keptUndos t_isKept t_lanes t_sizes t_items t_moved) 2 [some (.ref (a 0)), some (.int x1)] [] (f_X7_goesBy_c2 n t_now t_mores x1) := by
  intro n
  induction n with
  | zero =>
    intro t_now t_mores x1
    exact G.no
  | succ n ih =>
    intro t_now t_mores x1
    rw [f_X7_goesBy_c2]
    refine G.iload_n dX7_goesBy_2 rfl ?_
    refine G.aload_n dX7_goesBy_3 rfl ?_
    refine G.get fl_7_7 0 rfl rfl dX7_goesBy_4 ?_
    refine G.iconst 0 dX7_goesBy_7 (by decide) ?_
    refine G.iaload 1 0 rfl rfl 0 (by decide) (by decide) dX7_goesBy_8 ?_
    refine G.topi (fun v8 => ?_)
    refine G.icmp_ge 63 dX7_goesBy_9 (by decide) (fun h9 => ?_) (fun h9 => ?_)
    · refine G.iconst 0 dX7_goesBy_63 (by decide) ?_
      refine G.istore_n (lv' := [some (.ref (a 0)), some (.int 0)]) dX7_goesBy_64 (by decide) (Nat.le_of_ble_eq_true rfl) rfl rfl ?_
      exact g_X7_goesBy_c65 l D ks cI cL cC cM cS a t_tape t_typed t_place t_isFault t_readLamps t_read t_undone t_undos t_aside t_bays t_bests t_kept t_keptUndos t_isKept t_lanes t_sizes t_items t_moved fu t_now t_mores 0
    · refine G.aload_n dX7_goesBy_12 rfl ?_
      refine G.get fl_7_13 0 rfl rfl dX7_goesBy_13 ?_
      refine G.iload_n dX7_goesBy_16 rfl ?_
      refine G.aload_n dX7_goesBy_17 rfl ?_
      refine G.iload_n dX7_goesBy_18 rfl ?_
      refine G.callV (st := [.int x1, .ref (a 2)]) (w' := fun r19 => (w_X7 cI cL cC cM cS a t_now t_mores t_tape t_typed t_place t_isFault t_readLamps t_read t_undone t_undos t_aside t_bays t_bests t_kept t_keptUndos t_isKept t_lanes t_sizes t_items t_moved)) mv_X7_more lk_7_90 (c_X7_more l D ks cI cL cC cM cS a t_now t_mores t_tape t_typed t_place t_isFault t_readLamps t_read t_undone t_undos t_aside t_bays t_bests t_kept t_keptUndos t_isKept t_lanes t_sizes t_items t_moved x1) [0, 1, 2, 3, 4, 5, 6, 7, 8, 9, 10, 11, 12, 13, 14] [] [0, 1, 2, 3, 4, 5, 6, 7, 8, 9, 10, 11, 12, 13, 14] rfl rfl rfl rfl (by decide +kernel) (fun _ => rfl) rfl (by decide) (Nat.le_of_ble_eq_true rfl) dX7_goesBy_19 (fun r19 => [.int r19, .int x1, .ref (a 2)]) (fun _ => rfl) (fun r19 _ => ?_)
      refine G.chk (fun h22 => ?_)
      refine G.iastore (w' := (w_X7 cI cL cC cM cS a t_now (upd t_mores x1.toNatClampNeg r19) t_tape t_typed t_place t_isFault t_readLamps t_read t_undone t_undos t_aside t_bays t_bests t_kept t_keptUndos t_isKept t_lanes t_sizes t_items t_moved)) 2 0 rfl rfl x1.toNatClampNeg rfl h22 rfl dX7_goesBy_22 ?_
      refine G.aload_n dX7_goesBy_23 rfl ?_
      refine G.get fl_7_7 0 rfl rfl dX7_goesBy_24 ?_
      refine G.iconst 2 dX7_goesBy_27 (by decide) ?_
      refine G.dup2 dX7_goesBy_28 rfl rfl ?_
      refine G.iaload 1 0 rfl rfl 2 (by decide) (by decide) dX7_goesBy_29 ?_
      refine G.topi (fun v29 => ?_)
      refine G.aload_n dX7_goesBy_30 rfl ?_
      refine G.iload_n dX7_goesBy_31 rfl ?_
      refine G.callV (st := [.int v29, .int 2, .ref (a 1)]) (w' := fun r32 => (w_X7 cI cL cC cM cS a t_now (upd t_mores x1.toNatClampNeg r19) t_tape t_typed t_place t_isFault t_readLamps t_read t_undone t_undos t_aside t_bays t_bests t_kept t_keptUndos t_isKept t_lanes t_sizes t_items t_moved)) mv_X7_isUp lk_7_76 (c_X7_isUp l D ks cI cL cC cM cS a t_now (upd t_mores x1.toNatClampNeg r19) t_tape t_typed t_place t_isFault t_readLamps t_read t_undone t_undos t_aside t_bays t_bests t_kept t_keptUndos t_isKept t_lanes t_sizes t_items t_moved x1) [0, 1, 2, 3, 4, 5, 6, 7, 8, 9, 10, 11, 12, 13, 14] [] [0, 1, 2, 3, 4, 5, 6, 7, 8, 9, 10, 11, 12, 13, 14] rfl rfl rfl rfl (by decide +kernel) (fun _ => rfl) rfl (by decide) (Nat.le_of_ble_eq_true rfl) dX7_goesBy_32 (fun r32 => [.int r32, .int v29, .int 2, .ref (a 1)]) (fun _ => rfl) (fun r32 _ => ?_)
      refine G.if_eq 42 dX7_goesBy_35 (by decide) (fun h35 => ?_) (fun h35 => ?_)
      · refine G.aload_n dX7_goesBy_42 rfl ?_
        refine G.get fl_7_7 0 rfl rfl dX7_goesBy_43 ?_
        refine G.bipush 34 dX7_goesBy_46 (by decide) ?_
        refine G.aload_n dX7_goesBy_48 rfl ?_
        refine G.iload_n dX7_goesBy_49 rfl ?_
        refine G.callV (st := [.int 34, .ref (a 1), .int v29, .int 2, .ref (a 1)]) (w' := fun r50 => (w_X7 cI cL cC cM cS a t_now (upd t_mores x1.toNatClampNeg r19) t_tape t_typed t_place t_isFault t_readLamps t_read t_undone t_undos t_aside t_bays t_bests t_kept t_keptUndos t_isKept t_lanes t_sizes t_items t_moved)) mv_X7_bayOf lk_7_67 (c_X7_bayOf l D ks cI cL cC cM cS a t_now (upd t_mores x1.toNatClampNeg r19) t_tape t_typed t_place t_isFault t_readLamps t_read t_undone t_undos t_aside t_bays t_bests t_kept t_keptUndos t_isKept t_lanes t_sizes t_items t_moved x1) [0, 1, 2, 3, 4, 5, 6, 7, 8, 9, 10, 11, 12, 13, 14] [] [0, 1, 2, 3, 4, 5, 6, 7, 8, 9, 10, 11, 12, 13, 14] rfl rfl rfl rfl (by decide +kernel) (fun _ => rfl) rfl (by decide) (Nat.le_of_ble_eq_true rfl) dX7_goesBy_50 (fun r50 => [.int r50, .int 34, .ref (a 1), .int v29, .int 2, .ref (a 1)]) (fun _ => rfl) (fun r50 _ => ?_)
        refine G.iadd dX7_goesBy_53 ?_
        refine G.chk (fun h54 => ?_)
        refine G.iaload 1 0 rfl rfl ((34 + r50).toNatClampNeg) rfl h54 dX7_goesBy_54 ?_
        refine G.topi (fun v54 => ?_)
        exact g_X7_goesBy_c55 l D ks cI cL cC cM cS a t_tape t_typed t_place t_isFault t_readLamps t_read t_undone t_undos t_aside t_bays t_bests t_kept t_keptUndos t_isKept t_lanes t_sizes t_items t_moved (f_X7_goesBy_c2 n) ih t_now (upd t_mores x1.toNatClampNeg r19) x1 v54 v29
      · refine G.iconst 0 dX7_goesBy_38 (by decide) ?_
        refine G.goto 55 dX7_goesBy_39 (by decide) ?_
        exact g_X7_goesBy_c55 l D ks cI cL cC cM cS a t_tape t_typed t_place t_isFault t_readLamps t_read t_undone t_undos t_aside t_bays t_bests t_kept t_keptUndos t_isKept t_lanes t_sizes t_items t_moved (f_X7_goesBy_c2 n) ih t_now (upd t_mores x1.toNatClampNeg r19) x1 0 v29
set_option maxHeartbeats 4000000 in
set_option maxRecDepth 100000 in
theorem c_X7_goesBy (l : Launch) (D : va_G) (ks : Nat × Nat) (cI cL cC cM cS : ClassId) (a : Nat → Nat) (t_now t_mores t_tape : Nat → Int32) (t_typed t_place t_isFault : Int32) (t_readLamps t_read t_undone : Nat → Int32) (t_undos : Int32) (t_aside t_bays t_bests t_kept : Nat → Int32) (t_keptUndos t_isKept : Int32) (t_lanes t_sizes : Nat → Int32) (t_items t_moved : Nat → Int64) : MT l D ks (tyz cI cL cC cM cS) yX7_goesBy cX7_goesBy 2 none { frames := 5, cells := 0, slots := 0, locals := 111 } [.ref (a 0)] (w_X7 cI cL cC cM cS a t_now t_mores t_tape t_typed t_place t_isFault t_readLamps t_read t_undone t_undos t_aside t_bays t_bests t_kept t_keptUndos t_isKept t_lanes t_sizes t_items t_moved) (fun r : (Nat → Int32) × (Nat → Int32) => (none, (w_X7 cI cL cC cM cS a r.1 r.2 t_tape t_typed t_place t_isFault t_readLamps t_read t_undone t_undos t_aside t_bays t_bests t_kept t_keptUndos t_isKept t_lanes t_sizes t_items t_moved))) (f_X7_goesBy t_now t_mores) := by
  refine MT.of 1 [some (.ref (a 0)), none] (by decide) (Nat.le_of_ble_eq_true rfl) rfl ?_
  unfold f_X7_goesBy
  refine G.iconst 0 dX7_goesBy_0 (by decide) ?_
  refine G.istore_n (lv' := [some (.ref (a 0)), some (.int 0)]) dX7_goesBy_1 (by decide) (Nat.le_of_ble_eq_true rfl) rfl rfl ?_
  exact g_X7_goesBy_c2 l D ks cI cL cC cM cS a t_tape t_typed t_place t_isFault t_readLamps t_read t_undone t_undos t_aside t_bays t_bests t_kept t_keptUndos t_isKept t_lanes t_sizes t_items t_moved fu t_now t_mores 0
set_option maxHeartbeats 4000000 in
set_option maxRecDepth 100000 in
theorem g_X7_goesOn_c2 (l : Launch) (D : va_G) (ks : Nat × Nat) (cI cL cC cM cS : ClassId) (a : Nat → Nat) (t_tape : Nat → Int32) (t_typed t_place t_isFault : Int32) (t_readLamps t_read t_undone : Nat → Int32) (t_undos : Int32) (t_aside t_bays t_bests t_kept : Nat → Int32) (t_keptUndos t_isKept : Int32) (t_lanes t_sizes : Nat → Int32) (t_items t_moved : Nat → Int64) : ∀ (n : Nat), ∀ (t_now t_mores : Nat → Int32) (x1 : Int32) (x2 : Int32), GJ l D ks (tyz cI cL cC cM cS) RX7 cX7_goesOn 3 none { frames := 6, cells := 0, slots := 0, locals := 132 } (fun r : (Nat → Int32) × (Nat → Int32) => (none, (w_X7 cI cL cC cM cS a r.1 r.2 t_tape t_typed t_place t_isFault t_readLamps t_read t_undone t_undos t_aside t_bays t_bests t_kept t_keptUndos t_isKept t_lanes t_sizes t_items t_moved))) (w_X7 cI cL cC cM cS a t_now t_mores t_tape t_typed t_place t_isFault t_readLamps t_read t_undone t_undos t_aside t_bays t_bests t_kept t_keptUndos t_isKept t_lanes t_sizes t_items t_moved) 2 [some (.ref (a 0)), some (.int x1), some (.int x2)] [] (f_X7_goesOn_c2 n t_now t_mores x1 x2) := by
  intro n
  induction n with
  | zero =>
    intro t_now t_mores x1 x2
    exact G.no
  | succ n ih =>
    intro t_now t_mores x1 x2
    rw [f_X7_goesOn_c2]
    refine G.iload_n dX7_goesOn_2 rfl ?_
    refine G.iload_n dX7_goesOn_3 rfl ?_
    refine G.icmp_ge 17 dX7_goesOn_4 (by decide) (fun h4 => ?_) (fun h4 => ?_)
    · exact G.vret rfl rfl dX7_goesOn_17
    · refine G.aload_n dX7_goesOn_7 rfl ?_
      refine G.callV (st := []) (w' := fun r8 => (w_X7 cI cL cC cM cS a r8.1 r8.2 t_tape t_typed t_place t_isFault t_readLamps t_read t_undone t_undos t_aside t_bays t_bests t_kept t_keptUndos t_isKept t_lanes t_sizes t_items t_moved)) mv_X7_goesBy lk_7_97 (c_X7_goesBy l D ks cI cL cC cM cS a t_now t_mores t_tape t_typed t_place t_isFault t_readLamps t_read t_undone t_undos t_aside t_bays t_bests t_kept t_keptUndos t_isKept t_lanes t_sizes t_items t_moved) [0, 1, 2, 3, 4, 5, 6, 7, 8, 9, 10, 11, 12, 13, 14] [] [0, 1, 2, 3, 4, 5, 6, 7, 8, 9, 10, 11, 12, 13, 14] rfl rfl rfl rfl (by decide +kernel) (fun _ => rfl) rfl (by decide) (Nat.le_of_ble_eq_true rfl) dX7_goesOn_8 (fun r8 => []) (fun _ => rfl) (fun r8 _ => ?_)
      refine G.iinc 1 (lv' := [some (.ref (a 0)), some (.int x1), some (.int (x2 + 1))]) dX7_goesOn_11 rfl (by decide) (by decide) (Nat.le_of_ble_eq_true rfl) rfl rfl ?_
      refine G.goto 2 dX7_goesOn_14 (by decide) ?_
      exact ih r8.1 r8.2 x1 (x2 + 1)
set_option maxHeartbeats 4000000 in
set_option maxRecDepth 100000 in
theorem c_X7_goesOn (l : Launch) (D : va_G) (ks : Nat × Nat) (cI cL cC cM cS : ClassId) (a : Nat → Nat) (t_now t_mores t_tape : Nat → Int32) (t_typed t_place t_isFault : Int32) (t_readLamps t_read t_undone : Nat → Int32) (t_undos : Int32) (t_aside t_bays t_bests t_kept : Nat → Int32) (t_keptUndos t_isKept : Int32) (t_lanes t_sizes : Nat → Int32) (t_items t_moved : Nat → Int64) (x1 : Int32) : MT l D ks (tyz cI cL cC cM cS) yX7_goesOn cX7_goesOn 3 none { frames := 6, cells := 0, slots := 0, locals := 132 } [.ref (a 0), .int x1] (w_X7 cI cL cC cM cS a t_now t_mores t_tape t_typed t_place t_isFault t_readLamps t_read t_undone t_undos t_aside t_bays t_bests t_kept t_keptUndos t_isKept t_lanes t_sizes t_items t_moved) (fun r : (Nat → Int32) × (Nat → Int32) => (none, (w_X7 cI cL cC cM cS a r.1 r.2 t_tape t_typed t_place t_isFault t_readLamps t_read t_undone t_undos t_aside t_bays t_bests t_kept t_keptUndos t_isKept t_lanes t_sizes t_items t_moved))) (f_X7_goesOn t_now t_mores x1) := by
  refine MT.of 1 [some (.ref (a 0)), some (.int x1), none] (by decide) (Nat.le_of_ble_eq_true rfl) rfl ?_
  unfold f_X7_goesOn
  refine G.iconst 0 dX7_goesOn_0 (by decide) ?_
  refine G.istore_n (lv' := [some (.ref (a 0)), some (.int x1), some (.int 0)]) dX7_goesOn_1 (by decide) (Nat.le_of_ble_eq_true rfl) rfl rfl ?_
  exact g_X7_goesOn_c2 l D ks cI cL cC cM cS a t_tape t_typed t_place t_isFault t_readLamps t_read t_undone t_undos t_aside t_bays t_bests t_kept t_keptUndos t_isKept t_lanes t_sizes t_items t_moved fu t_now t_mores x1 0
set_option maxHeartbeats 4000000 in
set_option maxRecDepth 100000 in
theorem g_X7_backs_c2 (l : Launch) (D : va_G) (ks : Nat × Nat) (cI cL cC cM cS : ClassId) (a : Nat → Nat) (t_mores t_tape : Nat → Int32) (t_typed t_place t_isFault : Int32) (t_readLamps t_read t_undone : Nat → Int32) (t_undos : Int32) (t_bays t_bests t_kept : Nat → Int32) (t_keptUndos t_isKept : Int32) (t_lanes t_sizes : Nat → Int32) (t_items t_moved : Nat → Int64) : ∀ (n : Nat), ∀ (t_now t_aside : Nat → Int32) (x1 : Int32), GJ l D ks (tyz cI cL cC cM cS) RX7 cX7_backs 2 none { frames := 0, cells := 0, slots := 0, locals := 0 } (fun r : (Nat → Int32) => (none, (w_X7 cI cL cC cM cS a r t_mores t_tape t_typed t_place t_isFault t_readLamps t_read t_undone t_undos t_aside t_bays t_bests t_kept t_keptUndos t_isKept t_lanes t_sizes t_items t_moved))) (w_X7 cI cL cC cM cS a t_now t_mores t_tape t_typed t_place t_isFault t_readLamps t_read t_undone t_undos t_aside t_bays t_bests t_kept t_keptUndos t_isKept t_lanes t_sizes t_items t_moved) 2 [some (.ref (a 0)), some (.int x1)] [] (f_X7_backs_c2 n t_now t_aside x1) := by
  intro n
  induction n with
  | zero =>
    intro t_now t_aside x1
    exact G.no
  | succ n ih =>
    intro t_now t_aside x1
    rw [f_X7_backs_c2]
    refine G.iload_n dX7_backs_2 rfl ?_
    refine G.bipush 40 dX7_backs_3 (by decide) ?_
    refine G.icmp_ge 26 dX7_backs_5 (by decide) (fun h5 => ?_) (fun h5 => ?_)
    · exact G.vret rfl rfl dX7_backs_26
    · refine G.aload_n dX7_backs_8 rfl ?_
      refine G.get fl_7_7 0 rfl rfl dX7_backs_9 ?_
      refine G.iload_n dX7_backs_12 rfl ?_
      refine G.aload_n dX7_backs_13 rfl ?_
      refine G.get fl_7_28 0 rfl rfl dX7_backs_14 ?_
      refine G.iload_n dX7_backs_17 rfl ?_
      refine G.chk (fun h18 => ?_)
      refine G.iaload 7 0 rfl rfl x1.toNatClampNeg rfl h18 dX7_backs_18 ?_
      refine G.topi (fun v18 => ?_)
      refine G.iastore (w' := (w_X7 cI cL cC cM cS a (upd t_now x1.toNatClampNeg v18) t_mores t_tape t_typed t_place t_isFault t_readLamps t_read t_undone t_undos t_aside t_bays t_bests t_kept t_keptUndos t_isKept t_lanes t_sizes t_items t_moved)) 1 0 rfl rfl x1.toNatClampNeg rfl h18 rfl dX7_backs_19 ?_
      refine G.iinc 1 (lv' := [some (.ref (a 0)), some (.int (x1 + 1))]) dX7_backs_20 rfl (by decide) (by decide) (Nat.le_of_ble_eq_true rfl) rfl rfl ?_
      refine G.goto 2 dX7_backs_23 (by decide) ?_
      exact ih (upd t_now x1.toNatClampNeg v18) t_aside (x1 + 1)
set_option maxHeartbeats 4000000 in
set_option maxRecDepth 100000 in
theorem c_X7_backs (l : Launch) (D : va_G) (ks : Nat × Nat) (cI cL cC cM cS : ClassId) (a : Nat → Nat) (t_now t_mores t_tape : Nat → Int32) (t_typed t_place t_isFault : Int32) (t_readLamps t_read t_undone : Nat → Int32) (t_undos : Int32) (t_aside t_bays t_bests t_kept : Nat → Int32) (t_keptUndos t_isKept : Int32) (t_lanes t_sizes : Nat → Int32) (t_items t_moved : Nat → Int64) : MT l D ks (tyz cI cL cC cM cS) yX7_backs cX7_backs 2 none { frames := 0, cells := 0, slots := 0, locals := 0 } [.ref (a 0)] (w_X7 cI cL cC cM cS a t_now t_mores t_tape t_typed t_place t_isFault t_readLamps t_read t_undone t_undos t_aside t_bays t_bests t_kept t_keptUndos t_isKept t_lanes t_sizes t_items t_moved) (fun r : (Nat → Int32) => (none, (w_X7 cI cL cC cM cS a r t_mores t_tape t_typed t_place t_isFault t_readLamps t_read t_undone t_undos t_aside t_bays t_bests t_kept t_keptUndos t_isKept t_lanes t_sizes t_items t_moved))) (f_X7_backs t_now t_aside) := by
  refine MT.of 1 [some (.ref (a 0)), none] (by decide) (Nat.le_of_ble_eq_true rfl) rfl ?_
  unfold f_X7_backs
  refine G.iconst 0 dX7_backs_0 (by decide) ?_
  refine G.istore_n (lv' := [some (.ref (a 0)), some (.int 0)]) dX7_backs_1 (by decide) (Nat.le_of_ble_eq_true rfl) rfl rfl ?_
  exact g_X7_backs_c2 l D ks cI cL cC cM cS a t_mores t_tape t_typed t_place t_isFault t_readLamps t_read t_undone t_undos t_bays t_bests t_kept t_keptUndos t_isKept t_lanes t_sizes t_items t_moved fu t_now t_aside 0
set_option maxHeartbeats 4000000 in
set_option maxRecDepth 100000 in
theorem c_X7_ahead (l : Launch) (D : va_G) (ks : Nat × Nat) (cI cL cC cM cS : ClassId) (a : Nat → Nat) (t_now t_mores t_tape : Nat → Int32) (t_typed t_place t_isFault : Int32) (t_readLamps t_read t_undone : Nat → Int32) (t_undos : Int32) (t_aside t_bays t_bests t_kept : Nat → Int32) (t_keptUndos t_isKept : Int32) (t_lanes t_sizes : Nat → Int32) (t_items t_moved : Nat → Int64) (x1 : Int32) (x2 : Int32) : MT l D ks (tyz cI cL cC cM cS) yX7_ahead cX7_ahead 4 ((some .int)) { frames := 7, cells := 0, slots := 0, locals := 154 } [.ref (a 0), .int x1, .int x2] (w_X7 cI cL cC cM cS a t_now t_mores t_tape t_typed t_place t_isFault t_readLamps t_read t_undone t_undos t_aside t_bays t_bests t_kept t_keptUndos t_isKept t_lanes t_sizes t_items t_moved) (fun r : Int32 × (Nat → Int32) × (Nat → Int32) × (Nat → Int32) => (some (.int r.1), (w_X7 cI cL cC cM cS a r.2.1 r.2.2.1 t_tape t_typed t_place t_isFault t_readLamps t_read t_undone t_undos r.2.2.2 t_bays t_bests t_kept t_keptUndos t_isKept t_lanes t_sizes t_items t_moved))) (f_X7_ahead t_now t_mores t_aside x1 x2) := by
  refine MT.of 1 [some (.ref (a 0)), some (.int x1), some (.int x2), none] (by decide) (Nat.le_of_ble_eq_true rfl) rfl ?_
  unfold f_X7_ahead
  refine G.aload_n dX7_ahead_0 rfl ?_
  refine G.iload_n dX7_ahead_1 rfl ?_
  refine G.callV (st := []) (w' := fun r2 => (w_X7 cI cL cC cM cS a t_now t_mores t_tape t_typed t_place t_isFault t_readLamps t_read t_undone t_undos t_aside t_bays t_bests t_kept t_keptUndos t_isKept t_lanes t_sizes t_items t_moved)) mv_X7_isHolder lk_7_120 (c_X7_isHolder l D ks cI cL cC cM cS a t_now t_mores t_tape t_typed t_place t_isFault t_readLamps t_read t_undone t_undos t_aside t_bays t_bests t_kept t_keptUndos t_isKept t_lanes t_sizes t_items t_moved x1) [0, 1, 2, 3, 4, 5, 6, 7, 8, 9, 10, 11, 12, 13, 14] [] [0, 1, 2, 3, 4, 5, 6, 7, 8, 9, 10, 11, 12, 13, 14] rfl rfl rfl rfl (by decide +kernel) (fun _ => rfl) rfl (by decide) (Nat.le_of_ble_eq_true rfl) dX7_ahead_2 (fun r2 => [.int r2]) (fun _ => rfl) (fun r2 _ => ?_)
  refine G.if_eq 20 dX7_ahead_5 (by decide) (fun h5 => ?_) (fun h5 => ?_)
  · refine G.iconst (-1) dX7_ahead_20 (by decide) ?_
    exact G.iret rfl rfl dX7_ahead_21
  · refine G.iload_n dX7_ahead_8 rfl ?_
    refine G.i2l dX7_ahead_9 ?_
    refine G.lconst 0 dX7_ahead_10 (by decide) ?_
    refine G.ldc2 kl_7_106 dX7_ahead_11 ?_
    refine G.callS (st := []) (w' := fun r14 => (w_X7 cI cL cC cM cS a t_now t_mores t_tape t_typed t_place t_isFault t_readLamps t_read t_undone t_undos t_aside t_bays t_bests t_kept t_keptUndos t_isKept t_lanes t_sizes t_items t_moved)) ms_X7_in lk_7_53 (c_X7_in l D ks cI cL cC cM cS (x2.toInt64) 0 99) [] [0, 1, 2, 3, 4, 5, 6, 7, 8, 9, 10, 11, 12, 13, 14] [0, 1, 2, 3, 4, 5, 6, 7, 8, 9, 10, 11, 12, 13, 14] rfl rfl rfl rfl (by decide +kernel) (fun _ => rfl) (by decide) (Nat.le_of_ble_eq_true rfl) dX7_ahead_14 (fun r14 => [.int r14]) (fun _ => rfl) (fun r14 _ => ?_)
    refine G.if_ne 22 dX7_ahead_17 (by decide) (fun h17 => ?_) (fun h17 => ?_)
    · refine G.aload_n dX7_ahead_22 rfl ?_
      refine G.callV (st := []) (w' := fun r23 => (w_X7 cI cL cC cM cS a t_now t_mores t_tape t_typed t_place t_isFault t_readLamps t_read t_undone t_undos r23 t_bays t_bests t_kept t_keptUndos t_isKept t_lanes t_sizes t_items t_moved)) mv_X7_asides lk_7_187 (c_X7_asides l D ks cI cL cC cM cS a t_now t_mores t_tape t_typed t_place t_isFault t_readLamps t_read t_undone t_undos t_aside t_bays t_bests t_kept t_keptUndos t_isKept t_lanes t_sizes t_items t_moved) [0, 1, 2, 3, 4, 5, 6, 7, 8, 9, 10, 11, 12, 13, 14] [] [0, 1, 2, 3, 4, 5, 6, 7, 8, 9, 10, 11, 12, 13, 14] rfl rfl rfl rfl (by decide +kernel) (fun _ => rfl) rfl (by decide) (Nat.le_of_ble_eq_true rfl) dX7_ahead_23 (fun r23 => []) (fun _ => rfl) (fun r23 _ => ?_)
      refine G.aload_n dX7_ahead_26 rfl ?_
      refine G.iload_n dX7_ahead_27 rfl ?_
      refine G.callV (st := []) (w' := fun r28 => (w_X7 cI cL cC cM cS a r28.1 r28.2 t_tape t_typed t_place t_isFault t_readLamps t_read t_undone t_undos r23 t_bays t_bests t_kept t_keptUndos t_isKept t_lanes t_sizes t_items t_moved)) mv_X7_goesOn lk_7_190 (c_X7_goesOn l D ks cI cL cC cM cS a t_now t_mores t_tape t_typed t_place t_isFault t_readLamps t_read t_undone t_undos r23 t_bays t_bests t_kept t_keptUndos t_isKept t_lanes t_sizes t_items t_moved x2) [0, 1, 2, 3, 4, 5, 6, 7, 8, 9, 10, 11, 12, 13, 14] [] [0, 1, 2, 3, 4, 5, 6, 7, 8, 9, 10, 11, 12, 13, 14] rfl rfl rfl rfl (by decide +kernel) (fun _ => rfl) rfl (by decide) (Nat.le_of_ble_eq_true rfl) dX7_ahead_28 (fun r28 => []) (fun _ => rfl) (fun r28 _ => ?_)
      refine G.aload_n dX7_ahead_31 rfl ?_
      refine G.iload_n dX7_ahead_32 rfl ?_
      refine G.callV (st := []) (w' := fun r33 => (w_X7 cI cL cC cM cS a r28.1 r28.2 t_tape t_typed t_place t_isFault t_readLamps t_read t_undone t_undos r23 t_bays t_bests t_kept t_keptUndos t_isKept t_lanes t_sizes t_items t_moved)) mv_X7_used lk_7_63 (c_X7_used l D ks cI cL cC cM cS a r28.1 r28.2 t_tape t_typed t_place t_isFault t_readLamps t_read t_undone t_undos r23 t_bays t_bests t_kept t_keptUndos t_isKept t_lanes t_sizes t_items t_moved x1) [0, 1, 2, 3, 4, 5, 6, 7, 8, 9, 10, 11, 12, 13, 14] [] [0, 1, 2, 3, 4, 5, 6, 7, 8, 9, 10, 11, 12, 13, 14] rfl rfl rfl rfl (by decide +kernel) (fun _ => rfl) rfl (by decide) (Nat.le_of_ble_eq_true rfl) dX7_ahead_33 (fun r33 => [.int r33]) (fun _ => rfl) (fun r33 _ => ?_)
      refine G.istore_n (lv' := [some (.ref (a 0)), some (.int x1), some (.int x2), some (.int r33)]) dX7_ahead_36 (by decide) (Nat.le_of_ble_eq_true rfl) rfl rfl ?_
      refine G.aload_n dX7_ahead_37 rfl ?_
      refine G.callV (st := []) (w' := fun r38 => (w_X7 cI cL cC cM cS a r38 r28.2 t_tape t_typed t_place t_isFault t_readLamps t_read t_undone t_undos r23 t_bays t_bests t_kept t_keptUndos t_isKept t_lanes t_sizes t_items t_moved)) mv_X7_backs lk_7_193 (c_X7_backs l D ks cI cL cC cM cS a r28.1 r28.2 t_tape t_typed t_place t_isFault t_readLamps t_read t_undone t_undos r23 t_bays t_bests t_kept t_keptUndos t_isKept t_lanes t_sizes t_items t_moved) [0, 1, 2, 3, 4, 5, 6, 7, 8, 9, 10, 11, 12, 13, 14] [] [0, 1, 2, 3, 4, 5, 6, 7, 8, 9, 10, 11, 12, 13, 14] rfl rfl rfl rfl (by decide +kernel) (fun _ => rfl) rfl (by decide) (Nat.le_of_ble_eq_true rfl) dX7_ahead_38 (fun r38 => []) (fun _ => rfl) (fun r38 _ => ?_)
      refine G.iload_n dX7_ahead_41 rfl ?_
      exact G.iret rfl rfl dX7_ahead_42
    · refine G.iconst (-1) dX7_ahead_20 (by decide) ?_
      exact G.iret rfl rfl dX7_ahead_21
set_option maxHeartbeats 4000000 in
set_option maxRecDepth 100000 in
theorem g_X7_alikes_c69 (l : Launch) (D : va_G) (ks : Nat × Nat) (cI cL cC cM cS : ClassId) (a : Nat → Nat) (t_mores t_tape : Nat → Int32) (t_typed t_place t_isFault : Int32) (t_readLamps t_read t_undone : Nat → Int32) (t_undos : Int32) (t_aside t_bays t_bests t_kept : Nat → Int32) (t_keptUndos t_isKept : Int32) (t_lanes t_sizes : Nat → Int32) (t_items t_moved : Nat → Int64) (k5 : (Nat → Int32) → Int32 → Int32 → Option (Int32)) (hk5 : ∀ (t_now : Nat → Int32) (x1 : Int32) (x2 : Int32), GJ l D ks (tyz cI cL cC cM cS) RX7 cX7_alikes 5 ((some .int)) { frames := 3, cells := 0, slots := 0, locals := 64 } (fun r : Int32 => (some (.int r), (w_X7 cI cL cC cM cS a t_now t_mores t_tape t_typed t_place t_isFault t_readLamps t_read t_undone t_undos t_aside t_bays t_bests t_kept t_keptUndos t_isKept t_lanes t_sizes t_items t_moved))) (w_X7 cI cL cC cM cS a t_now t_mores t_tape t_typed t_place t_isFault t_readLamps t_read t_undone t_undos t_aside t_bays t_bests t_kept t_keptUndos t_isKept t_lanes t_sizes t_items t_moved) 5 [some (.ref (a 0)), some (.int x1), some (.int x2), none, none] [] (k5 t_now x1 x2)) (k11 : (Nat → Int32) → Int32 → Int32 → Int32 → Option (Int32)) (hk11 : ∀ (t_now : Nat → Int32) (x1 : Int32) (x2 : Int32) (x3 : Int32), GJ l D ks (tyz cI cL cC cM cS) RX7 cX7_alikes 5 ((some .int)) { frames := 3, cells := 0, slots := 0, locals := 64 } (fun r : Int32 => (some (.int r), (w_X7 cI cL cC cM cS a t_now t_mores t_tape t_typed t_place t_isFault t_readLamps t_read t_undone t_undos t_aside t_bays t_bests t_kept t_keptUndos t_isKept t_lanes t_sizes t_items t_moved))) (w_X7 cI cL cC cM cS a t_now t_mores t_tape t_typed t_place t_isFault t_readLamps t_read t_undone t_undos t_aside t_bays t_bests t_kept t_keptUndos t_isKept t_lanes t_sizes t_items t_moved) 11 [some (.ref (a 0)), some (.int x1), some (.int x2), some (.int x3), none] [] (k11 t_now x1 x2 x3)) (t_now : Nat → Int32) (x1 : Int32) (x2 : Int32) (x3 : Int32) : GJ l D ks (tyz cI cL cC cM cS) RX7 cX7_alikes 5 ((some .int)) { frames := 3, cells := 0, slots := 0, locals := 64 } (fun r : Int32 => (some (.int r), (w_X7 cI cL cC cM cS a t_now t_mores t_tape t_typed t_place t_isFault t_readLamps t_read t_undone t_undos t_aside t_bays t_bests t_kept t_keptUndos t_isKept t_lanes t_sizes t_items t_moved))) (w_X7 cI cL cC cM cS a t_now t_mores t_tape t_typed t_place t_isFault t_readLamps t_read t_undone t_undos t_aside t_bays t_bests t_kept t_keptUndos t_isKept t_lanes t_sizes t_items t_moved) 69 [some (.ref (a 0)), some (.int x1), some (.int x2), some (.int x3), none] [.int 0] (f_X7_alikes_c69 k5 k11 t_now x1 x2 x3) := by
  unfold f_X7_alikes_c69
  refine G.istore (lv' := [some (.ref (a 0)), some (.int x1), some (.int x2), some (.int x3), some (.int 0)]) dX7_alikes_69 (by decide) (Nat.le_of_ble_eq_true rfl) rfl rfl ?_
  refine G.iload dX7_alikes_71 rfl ?_
  refine G.join (st := []) Value.int 86 (fun v86 => ?_) (fun hJ => ?_)
  · refine G.istore_n (lv' := [some (.ref (a 0)), some (.int v86), some (.int x2), some (.int x3), some (.int 0)]) dX7_alikes_86 (by decide) (Nat.le_of_ble_eq_true rfl) rfl rfl ?_
    refine G.iinc (-1) (lv' := [some (.ref (a 0)), some (.int v86), some (.int x2), some (.int (x3 + (-1))), some (.int 0)]) dX7_alikes_87 rfl (by decide) (by decide) (Nat.le_of_ble_eq_true rfl) rfl rfl ?_
    refine G.goto 11 dX7_alikes_90 (by decide) ?_
    refine G.mask (lv' := [some (.ref (a 0)), some (.int v86), some (.int x2), some (.int (x3 + (-1))), none]) [true, true, true, true, false] rfl ?_
    exact hk11 t_now v86 x2 (x3 + (-1))
  · refine G.ite ?_
    refine G.if_eq 85 dX7_alikes_73 (by decide) (fun _ => ?_) (fun _ => ?_)
    · refine G.iload_n dX7_alikes_85 rfl ?_
      exact hJ _
    · refine G.bipush 10 dX7_alikes_76 (by decide) ?_
      refine G.iload_n dX7_alikes_78 rfl ?_
      refine G.imul dX7_alikes_79 ?_
      refine G.iload_n dX7_alikes_80 rfl ?_
      refine G.iadd dX7_alikes_81 ?_
      refine G.goto 86 dX7_alikes_82 (by decide) ?_
      exact hJ _
set_option maxHeartbeats 4000000 in
set_option maxRecDepth 100000 in
theorem g_X7_alikes_c68 (l : Launch) (D : va_G) (ks : Nat × Nat) (cI cL cC cM cS : ClassId) (a : Nat → Nat) (t_mores t_tape : Nat → Int32) (t_typed t_place t_isFault : Int32) (t_readLamps t_read t_undone : Nat → Int32) (t_undos : Int32) (t_aside t_bays t_bests t_kept : Nat → Int32) (t_keptUndos t_isKept : Int32) (t_lanes t_sizes : Nat → Int32) (t_items t_moved : Nat → Int64) (k5 : (Nat → Int32) → Int32 → Int32 → Option (Int32)) (hk5 : ∀ (t_now : Nat → Int32) (x1 : Int32) (x2 : Int32), GJ l D ks (tyz cI cL cC cM cS) RX7 cX7_alikes 5 ((some .int)) { frames := 3, cells := 0, slots := 0, locals := 64 } (fun r : Int32 => (some (.int r), (w_X7 cI cL cC cM cS a t_now t_mores t_tape t_typed t_place t_isFault t_readLamps t_read t_undone t_undos t_aside t_bays t_bests t_kept t_keptUndos t_isKept t_lanes t_sizes t_items t_moved))) (w_X7 cI cL cC cM cS a t_now t_mores t_tape t_typed t_place t_isFault t_readLamps t_read t_undone t_undos t_aside t_bays t_bests t_kept t_keptUndos t_isKept t_lanes t_sizes t_items t_moved) 5 [some (.ref (a 0)), some (.int x1), some (.int x2), none, none] [] (k5 t_now x1 x2)) (k11 : (Nat → Int32) → Int32 → Int32 → Int32 → Option (Int32)) (hk11 : ∀ (t_now : Nat → Int32) (x1 : Int32) (x2 : Int32) (x3 : Int32), GJ l D ks (tyz cI cL cC cM cS) RX7 cX7_alikes 5 ((some .int)) { frames := 3, cells := 0, slots := 0, locals := 64 } (fun r : Int32 => (some (.int r), (w_X7 cI cL cC cM cS a t_now t_mores t_tape t_typed t_place t_isFault t_readLamps t_read t_undone t_undos t_aside t_bays t_bests t_kept t_keptUndos t_isKept t_lanes t_sizes t_items t_moved))) (w_X7 cI cL cC cM cS a t_now t_mores t_tape t_typed t_place t_isFault t_readLamps t_read t_undone t_undos t_aside t_bays t_bests t_kept t_keptUndos t_isKept t_lanes t_sizes t_items t_moved) 11 [some (.ref (a 0)), some (.int x1), some (.int x2), some (.int x3), none] [] (k11 t_now x1 x2 x3)) (t_now : Nat → Int32) (x1 : Int32) (x2 : Int32) (x3 : Int32) : GJ l D ks (tyz cI cL cC cM cS) RX7 cX7_alikes 5 ((some .int)) { frames := 3, cells := 0, slots := 0, locals := 64 } (fun r : Int32 => (some (.int r), (w_X7 cI cL cC cM cS a t_now t_mores t_tape t_typed t_place t_isFault t_readLamps t_read t_undone t_undos t_aside t_bays t_bests t_kept t_keptUndos t_isKept t_lanes t_sizes t_items t_moved))) (w_X7 cI cL cC cM cS a t_now t_mores t_tape t_typed t_place t_isFault t_readLamps t_read t_undone t_undos t_aside t_bays t_bests t_kept t_keptUndos t_isKept t_lanes t_sizes t_items t_moved) 68 [some (.ref (a 0)), some (.int x1), some (.int x2), some (.int x3), none] [] (f_X7_alikes_c68 k5 k11 t_now x1 x2 x3) := by
  unfold f_X7_alikes_c68
  refine G.iconst 0 dX7_alikes_68 (by decide) ?_
  exact g_X7_alikes_c69 l D ks cI cL cC cM cS a t_mores t_tape t_typed t_place t_isFault t_readLamps t_read t_undone t_undos t_aside t_bays t_bests t_kept t_keptUndos t_isKept t_lanes t_sizes t_items t_moved k5 hk5 k11 hk11 t_now x1 x2 x3
set_option maxHeartbeats 4000000 in
set_option maxRecDepth 100000 in
theorem g_X7_alikes_c11 (l : Launch) (D : va_G) (ks : Nat × Nat) (cI cL cC cM cS : ClassId) (a : Nat → Nat) (t_mores t_tape : Nat → Int32) (t_typed t_place t_isFault : Int32) (t_readLamps t_read t_undone : Nat → Int32) (t_undos : Int32) (t_aside t_bays t_bests t_kept : Nat → Int32) (t_keptUndos t_isKept : Int32) (t_lanes t_sizes : Nat → Int32) (t_items t_moved : Nat → Int64) (k5 : (Nat → Int32) → Int32 → Int32 → Option (Int32)) (hk5 : ∀ (t_now : Nat → Int32) (x1 : Int32) (x2 : Int32), GJ l D ks (tyz cI cL cC cM cS) RX7 cX7_alikes 5 ((some .int)) { frames := 3, cells := 0, slots := 0, locals := 64 } (fun r : Int32 => (some (.int r), (w_X7 cI cL cC cM cS a t_now t_mores t_tape t_typed t_place t_isFault t_readLamps t_read t_undone t_undos t_aside t_bays t_bests t_kept t_keptUndos t_isKept t_lanes t_sizes t_items t_moved))) (w_X7 cI cL cC cM cS a t_now t_mores t_tape t_typed t_place t_isFault t_readLamps t_read t_undone t_undos t_aside t_bays t_bests t_kept t_keptUndos t_isKept t_lanes t_sizes t_items t_moved) 5 [some (.ref (a 0)), some (.int x1), some (.int x2), none, none] [] (k5 t_now x1 x2)) : ∀ (n : Nat), ∀ (t_now : Nat → Int32) (x1 : Int32) (x2 : Int32) (x3 : Int32), GJ l D ks (tyz cI cL cC cM cS) RX7 cX7_alikes 5 ((some .int)) { frames := 3, cells := 0, slots := 0, locals := 64 } (fun r : Int32 => (some (.int r), (w_X7 cI cL cC cM cS a t_now t_mores t_tape t_typed t_place t_isFault t_readLamps t_read t_undone t_undos t_aside t_bays t_bests t_kept t_keptUndos t_isKept t_lanes t_sizes t_items t_moved))) (w_X7 cI cL cC cM cS a t_now t_mores t_tape t_typed t_place t_isFault t_readLamps t_read t_undone t_undos t_aside t_bays t_bests t_kept t_keptUndos t_isKept t_lanes t_sizes t_items t_moved) 11 [some (.ref (a 0)), some (.int x1), some (.int x2), some (.int x3), none] [] (f_X7_alikes_c11 k5 n t_now x1 x2 x3) := by
  intro n
  induction n with
  | zero =>
    intro t_now x1 x2 x3
    exact G.no
  | succ n ih =>
    intro t_now x1 x2 x3
    rw [f_X7_alikes_c11]
    refine G.iload_n dX7_alikes_11 rfl ?_
    refine G.iload_n dX7_alikes_12 rfl ?_
    refine G.icmp_le 93 dX7_alikes_13 (by decide) (fun h13 => ?_) (fun h13 => ?_)
    · refine G.iinc (-1) (lv' := [some (.ref (a 0)), some (.int x1), some (.int (x2 + (-1))), some (.int x3), none]) dX7_alikes_93 rfl (by decide) (by decide) (Nat.le_of_ble_eq_true rfl) rfl rfl ?_
      refine G.goto 5 dX7_alikes_96 (by decide) ?_
      refine G.mask (lv' := [some (.ref (a 0)), some (.int x1), some (.int (x2 + (-1))), none, none]) [true, true, true, false, false] rfl ?_
      exact hk5 t_now x1 (x2 + (-1))
    · refine G.iload_n dX7_alikes_16 rfl ?_
      refine G.aload_n dX7_alikes_17 rfl ?_
      refine G.get fl_7_7 0 rfl rfl dX7_alikes_18 ?_
      refine G.iconst 0 dX7_alikes_21 (by decide) ?_
      refine G.iaload 1 0 rfl rfl 0 (by decide) (by decide) dX7_alikes_22 ?_
      refine G.topi (fun v22 => ?_)
      refine G.icmp_ge 68 dX7_alikes_23 (by decide) (fun h23 => ?_) (fun h23 => ?_)
      · exact g_X7_alikes_c68 l D ks cI cL cC cM cS a t_mores t_tape t_typed t_place t_isFault t_readLamps t_read t_undone t_undos t_aside t_bays t_bests t_kept t_keptUndos t_isKept t_lanes t_sizes t_items t_moved k5 hk5 (f_X7_alikes_c11 k5 n) ih t_now x1 x2 x3
      · refine G.aload_n dX7_alikes_26 rfl ?_
        refine G.iload_n dX7_alikes_27 rfl ?_
        refine G.callV (st := []) (w' := fun r28 => (w_X7 cI cL cC cM cS a t_now t_mores t_tape t_typed t_place t_isFault t_readLamps t_read t_undone t_undos t_aside t_bays t_bests t_kept t_keptUndos t_isKept t_lanes t_sizes t_items t_moved)) mv_X7_bayOf lk_7_67 (c_X7_bayOf l D ks cI cL cC cM cS a t_now t_mores t_tape t_typed t_place t_isFault t_readLamps t_read t_undone t_undos t_aside t_bays t_bests t_kept t_keptUndos t_isKept t_lanes t_sizes t_items t_moved x2) [0, 1, 2, 3, 4, 5, 6, 7, 8, 9, 10, 11, 12, 13, 14] [] [0, 1, 2, 3, 4, 5, 6, 7, 8, 9, 10, 11, 12, 13, 14] rfl rfl rfl rfl (by decide +kernel) (fun _ => rfl) rfl (by decide) (Nat.le_of_ble_eq_true rfl) dX7_alikes_28 (fun r28 => [.int r28]) (fun _ => rfl) (fun r28 _ => ?_)
        refine G.aload_n dX7_alikes_31 rfl ?_
        refine G.iload_n dX7_alikes_32 rfl ?_
        refine G.callV (st := [.int r28]) (w' := fun r33 => (w_X7 cI cL cC cM cS a t_now t_mores t_tape t_typed t_place t_isFault t_readLamps t_read t_undone t_undos t_aside t_bays t_bests t_kept t_keptUndos t_isKept t_lanes t_sizes t_items t_moved)) mv_X7_bayOf lk_7_67 (c_X7_bayOf l D ks cI cL cC cM cS a t_now t_mores t_tape t_typed t_place t_isFault t_readLamps t_read t_undone t_undos t_aside t_bays t_bests t_kept t_keptUndos t_isKept t_lanes t_sizes t_items t_moved x3) [0, 1, 2, 3, 4, 5, 6, 7, 8, 9, 10, 11, 12, 13, 14] [] [0, 1, 2, 3, 4, 5, 6, 7, 8, 9, 10, 11, 12, 13, 14] rfl rfl rfl rfl (by decide +kernel) (fun _ => rfl) rfl (by decide) (Nat.le_of_ble_eq_true rfl) dX7_alikes_33 (fun r33 => [.int r33, .int r28]) (fun _ => rfl) (fun r33 _ => ?_)
        refine G.callS (st := []) (w' := fun r36 => (w_X7 cI cL cC cM cS a t_now t_mores t_tape t_typed t_place t_isFault t_readLamps t_read t_undone t_undos t_aside t_bays t_bests t_kept t_keptUndos t_isKept t_lanes t_sizes t_items t_moved)) ms_X7_apart lk_7_70 (c_X7_apart l D ks cI cL cC cM cS r28 r33) [] [0, 1, 2, 3, 4, 5, 6, 7, 8, 9, 10, 11, 12, 13, 14] [0, 1, 2, 3, 4, 5, 6, 7, 8, 9, 10, 11, 12, 13, 14] rfl rfl rfl rfl (by decide +kernel) (fun _ => rfl) (by decide) (Nat.le_of_ble_eq_true rfl) dX7_alikes_36 (fun r36 => [.int r36]) (fun _ => rfl) (fun r36 _ => ?_)
        refine G.iconst 1 dX7_alikes_39 (by decide) ?_
        refine G.icmp_ne 68 dX7_alikes_40 (by decide) (fun h40 => ?_) (fun h40 => ?_)
        · exact g_X7_alikes_c68 l D ks cI cL cC cM cS a t_mores t_tape t_typed t_place t_isFault t_readLamps t_read t_undone t_undos t_aside t_bays t_bests t_kept t_keptUndos t_isKept t_lanes t_sizes t_items t_moved k5 hk5 (f_X7_alikes_c11 k5 n) ih t_now x1 x2 x3
        · refine G.aload_n dX7_alikes_43 rfl ?_
          refine G.iload_n dX7_alikes_44 rfl ?_
          refine G.callV (st := []) (w' := fun r45 => (w_X7 cI cL cC cM cS a t_now t_mores t_tape t_typed t_place t_isFault t_readLamps t_read t_undone t_undos t_aside t_bays t_bests t_kept t_keptUndos t_isKept t_lanes t_sizes t_items t_moved)) mv_X7_used lk_7_63 (c_X7_used l D ks cI cL cC cM cS a t_now t_mores t_tape t_typed t_place t_isFault t_readLamps t_read t_undone t_undos t_aside t_bays t_bests t_kept t_keptUndos t_isKept t_lanes t_sizes t_items t_moved x2) [0, 1, 2, 3, 4, 5, 6, 7, 8, 9, 10, 11, 12, 13, 14] [] [0, 1, 2, 3, 4, 5, 6, 7, 8, 9, 10, 11, 12, 13, 14] rfl rfl rfl rfl (by decide +kernel) (fun _ => rfl) rfl (by decide) (Nat.le_of_ble_eq_true rfl) dX7_alikes_45 (fun r45 => [.int r45]) (fun _ => rfl) (fun r45 _ => ?_)
          refine G.aload_n dX7_alikes_48 rfl ?_
          refine G.iload_n dX7_alikes_49 rfl ?_
          refine G.callV (st := [.int r45]) (w' := fun r50 => (w_X7 cI cL cC cM cS a t_now t_mores t_tape t_typed t_place t_isFault t_readLamps t_read t_undone t_undos t_aside t_bays t_bests t_kept t_keptUndos t_isKept t_lanes t_sizes t_items t_moved)) mv_X7_used lk_7_63 (c_X7_used l D ks cI cL cC cM cS a t_now t_mores t_tape t_typed t_place t_isFault t_readLamps t_read t_undone t_undos t_aside t_bays t_bests t_kept t_keptUndos t_isKept t_lanes t_sizes t_items t_moved x3) [0, 1, 2, 3, 4, 5, 6, 7, 8, 9, 10, 11, 12, 13, 14] [] [0, 1, 2, 3, 4, 5, 6, 7, 8, 9, 10, 11, 12, 13, 14] rfl rfl rfl rfl (by decide +kernel) (fun _ => rfl) rfl (by decide) (Nat.le_of_ble_eq_true rfl) dX7_alikes_50 (fun r50 => [.int r50, .int r45]) (fun _ => rfl) (fun r50 _ => ?_)
          refine G.icmp_ne 68 dX7_alikes_53 (by decide) (fun h53 => ?_) (fun h53 => ?_)
          · exact g_X7_alikes_c68 l D ks cI cL cC cM cS a t_mores t_tape t_typed t_place t_isFault t_readLamps t_read t_undone t_undos t_aside t_bays t_bests t_kept t_keptUndos t_isKept t_lanes t_sizes t_items t_moved k5 hk5 (f_X7_alikes_c11 k5 n) ih t_now x1 x2 x3
          · refine G.aload_n dX7_alikes_56 rfl ?_
            refine G.iload_n dX7_alikes_57 rfl ?_
            refine G.callV (st := []) (w' := fun r58 => (w_X7 cI cL cC cM cS a t_now t_mores t_tape t_typed t_place t_isFault t_readLamps t_read t_undone t_undos t_aside t_bays t_bests t_kept t_keptUndos t_isKept t_lanes t_sizes t_items t_moved)) mv_X7_isUp lk_7_76 (c_X7_isUp l D ks cI cL cC cM cS a t_now t_mores t_tape t_typed t_place t_isFault t_readLamps t_read t_undone t_undos t_aside t_bays t_bests t_kept t_keptUndos t_isKept t_lanes t_sizes t_items t_moved x2) [0, 1, 2, 3, 4, 5, 6, 7, 8, 9, 10, 11, 12, 13, 14] [] [0, 1, 2, 3, 4, 5, 6, 7, 8, 9, 10, 11, 12, 13, 14] rfl rfl rfl rfl (by decide +kernel) (fun _ => rfl) rfl (by decide) (Nat.le_of_ble_eq_true rfl) dX7_alikes_58 (fun r58 => [.int r58]) (fun _ => rfl) (fun r58 _ => ?_)
            refine G.join (st := []) Value.int 69 (fun v69 => ?_) (fun hJ => ?_)
            · refine G.istore (lv' := [some (.ref (a 0)), some (.int x1), some (.int x2), some (.int x3), some (.int v69)]) dX7_alikes_69 (by decide) (Nat.le_of_ble_eq_true rfl) rfl rfl ?_
              refine G.iload dX7_alikes_71 rfl ?_
              refine G.join (st := []) Value.int 86 (fun v86 => ?_) (fun hJ => ?_)
              · refine G.istore_n (lv' := [some (.ref (a 0)), some (.int v86), some (.int x2), some (.int x3), some (.int v69)]) dX7_alikes_86 (by decide) (Nat.le_of_ble_eq_true rfl) rfl rfl ?_
                refine G.iinc (-1) (lv' := [some (.ref (a 0)), some (.int v86), some (.int x2), some (.int (x3 + (-1))), some (.int v69)]) dX7_alikes_87 rfl (by decide) (by decide) (Nat.le_of_ble_eq_true rfl) rfl rfl ?_
                refine G.goto 11 dX7_alikes_90 (by decide) ?_
                refine G.mask (lv' := [some (.ref (a 0)), some (.int v86), some (.int x2), some (.int (x3 + (-1))), none]) [true, true, true, true, false] rfl ?_
                exact ih t_now v86 x2 (x3 + (-1))
              · refine G.ite ?_
                refine G.if_eq 85 dX7_alikes_73 (by decide) (fun _ => ?_) (fun _ => ?_)
                · refine G.iload_n dX7_alikes_85 rfl ?_
                  exact hJ _
                · refine G.bipush 10 dX7_alikes_76 (by decide) ?_
                  refine G.iload_n dX7_alikes_78 rfl ?_
                  refine G.imul dX7_alikes_79 ?_
                  refine G.iload_n dX7_alikes_80 rfl ?_
                  refine G.iadd dX7_alikes_81 ?_
                  refine G.goto 86 dX7_alikes_82 (by decide) ?_
                  exact hJ _
            · refine G.ite ?_
              refine G.if_ne 68 dX7_alikes_61 (by decide) (fun _ => ?_) (fun _ => ?_)
              · refine G.iconst 0 dX7_alikes_68 (by decide) ?_
                exact hJ _
              · refine G.iconst 1 dX7_alikes_64 (by decide) ?_
                refine G.goto 69 dX7_alikes_65 (by decide) ?_
                exact hJ _
set_option maxHeartbeats 4000000 in
set_option maxRecDepth 100000 in
theorem g_X7_alikes_c5 (l : Launch) (D : va_G) (ks : Nat × Nat) (cI cL cC cM cS : ClassId) (a : Nat → Nat) (t_mores t_tape : Nat → Int32) (t_typed t_place t_isFault : Int32) (t_readLamps t_read t_undone : Nat → Int32) (t_undos : Int32) (t_aside t_bays t_bests t_kept : Nat → Int32) (t_keptUndos t_isKept : Int32) (t_lanes t_sizes : Nat → Int32) (t_items t_moved : Nat → Int64) : ∀ (n : Nat), ∀ (t_now : Nat → Int32) (x1 : Int32) (x2 : Int32), GJ l D ks (tyz cI cL cC cM cS) RX7 cX7_alikes 5 ((some .int)) { frames := 3, cells := 0, slots := 0, locals := 64 } (fun r : Int32 => (some (.int r), (w_X7 cI cL cC cM cS a t_now t_mores t_tape t_typed t_place t_isFault t_readLamps t_read t_undone t_undos t_aside t_bays t_bests t_kept t_keptUndos t_isKept t_lanes t_sizes t_items t_moved))) (w_X7 cI cL cC cM cS a t_now t_mores t_tape t_typed t_place t_isFault t_readLamps t_read t_undone t_undos t_aside t_bays t_bests t_kept t_keptUndos t_isKept t_lanes t_sizes t_items t_moved) 5 [some (.ref (a 0)), some (.int x1), some (.int x2), none, none] [] (f_X7_alikes_c5 n t_now x1 x2) := by
  intro n
  induction n with
  | zero =>
    intro t_now x1 x2
    exact G.no
  | succ n ih =>
    intro t_now x1 x2
    rw [f_X7_alikes_c5]
    refine G.iload_n dX7_alikes_5 rfl ?_
    refine G.if_lt 99 dX7_alikes_6 (by decide) (fun h6 => ?_) (fun h6 => ?_)
    · refine G.iload_n dX7_alikes_99 rfl ?_
      exact G.iret rfl rfl dX7_alikes_100
    · refine G.iconst 5 dX7_alikes_9 (by decide) ?_
      refine G.istore_n (lv' := [some (.ref (a 0)), some (.int x1), some (.int x2), some (.int 5), none]) dX7_alikes_10 (by decide) (Nat.le_of_ble_eq_true rfl) rfl rfl ?_
      exact g_X7_alikes_c11 l D ks cI cL cC cM cS a t_mores t_tape t_typed t_place t_isFault t_readLamps t_read t_undone t_undos t_aside t_bays t_bests t_kept t_keptUndos t_isKept t_lanes t_sizes t_items t_moved (f_X7_alikes_c5 n) ih fu t_now x1 x2 5
set_option maxHeartbeats 4000000 in
set_option maxRecDepth 100000 in
theorem c_X7_alikes (l : Launch) (D : va_G) (ks : Nat × Nat) (cI cL cC cM cS : ClassId) (a : Nat → Nat) (t_now t_mores t_tape : Nat → Int32) (t_typed t_place t_isFault : Int32) (t_readLamps t_read t_undone : Nat → Int32) (t_undos : Int32) (t_aside t_bays t_bests t_kept : Nat → Int32) (t_keptUndos t_isKept : Int32) (t_lanes t_sizes : Nat → Int32) (t_items t_moved : Nat → Int64) : MT l D ks (tyz cI cL cC cM cS) yX7_alikes cX7_alikes 5 ((some .int)) { frames := 3, cells := 0, slots := 0, locals := 64 } [.ref (a 0)] (w_X7 cI cL cC cM cS a t_now t_mores t_tape t_typed t_place t_isFault t_readLamps t_read t_undone t_undos t_aside t_bays t_bests t_kept t_keptUndos t_isKept t_lanes t_sizes t_items t_moved) (fun r : Int32 => (some (.int r), (w_X7 cI cL cC cM cS a t_now t_mores t_tape t_typed t_place t_isFault t_readLamps t_read t_undone t_undos t_aside t_bays t_bests t_kept t_keptUndos t_isKept t_lanes t_sizes t_items t_moved))) (f_X7_alikes t_now) := by
  refine MT.of 4 [some (.ref (a 0)), none, none, none, none] (by decide) (Nat.le_of_ble_eq_true rfl) rfl ?_
  unfold f_X7_alikes
  refine G.bipush (-4) dX7_alikes_0 (by decide) ?_
  refine G.istore_n (lv' := [some (.ref (a 0)), some (.int (-4)), none, none, none]) dX7_alikes_2 (by decide) (Nat.le_of_ble_eq_true rfl) rfl rfl ?_
  refine G.iconst 5 dX7_alikes_3 (by decide) ?_
  refine G.istore_n (lv' := [some (.ref (a 0)), some (.int (-4)), some (.int 5), none, none]) dX7_alikes_4 (by decide) (Nat.le_of_ble_eq_true rfl) rfl rfl ?_
  exact g_X7_alikes_c5 l D ks cI cL cC cM cS a t_mores t_tape t_typed t_place t_isFault t_readLamps t_read t_undone t_undos t_aside t_bays t_bests t_kept t_keptUndos t_isKept t_lanes t_sizes t_items t_moved fu t_now (-4) 5
set_option maxHeartbeats 4000000 in
set_option maxRecDepth 100000 in
theorem c_X7_isBay (l : Launch) (D : va_G) (ks : Nat × Nat) (cI cL cC cM cS : ClassId) (x0 : Int32) : MT l D ks (tyz cI cL cC cM cS) yX7_isBay cX7_isBay 1 ((some .boolean)) { frames := 1, cells := 0, slots := 0, locals := 25 } [.int x0] (w_0 cI cL cC cM cS  ) (fun r : Int32 => (some (.int r), (w_0 cI cL cC cM cS  ))) (f_X7_isBay x0) := by
  refine MT.of 0 [some (.int x0)] (by decide) (Nat.le_of_ble_eq_true rfl) rfl ?_
  unfold f_X7_isBay
  refine G.iload_n dX7_isBay_0 rfl ?_
  refine G.i2l dX7_isBay_1 ?_
  refine G.lconst 0 dX7_isBay_2 (by decide) ?_
  refine G.ldc2 kl_7_57 dX7_isBay_3 ?_
  refine G.callS (st := []) (w' := fun r6 => (w_0 cI cL cC cM cS  )) ms_X7_in lk_7_53 (c_X7_in l D ks cI cL cC cM cS (x0.toInt64) 0 5) [] [] [] rfl rfl rfl rfl (by decide +kernel) (fun _ => rfl) (by decide) (Nat.le_of_ble_eq_true rfl) dX7_isBay_6 (fun r6 => [.int r6]) (fun _ => rfl) (fun r6 _ => ?_)
  refine G.chk (fun h9 => ?_)
  exact G.zret rfl rfl (isb_n h9) dX7_isBay_9
set_option maxHeartbeats 4000000 in
set_option maxRecDepth 100000 in
theorem g_X7_whoHas_c5 (l : Launch) (D : va_G) (ks : Nat × Nat) (cI cL cC cM cS : ClassId) (a : Nat → Nat) (t_mores t_tape : Nat → Int32) (t_typed t_place t_isFault : Int32) (t_readLamps t_read t_undone : Nat → Int32) (t_undos : Int32) (t_aside t_bays t_bests t_kept : Nat → Int32) (t_keptUndos t_isKept : Int32) (t_lanes t_sizes : Nat → Int32) (t_items t_moved : Nat → Int64) : ∀ (n : Nat), ∀ (t_now : Nat → Int32) (x1 : Int32) (x2 : Int32) (x3 : Int32), GJ l D ks (tyz cI cL cC cM cS) RX7 cX7_whoHas 4 ((some .int)) { frames := 2, cells := 0, slots := 0, locals := 43 } (fun r : Int32 => (some (.int r), (w_X7 cI cL cC cM cS a t_now t_mores t_tape t_typed t_place t_isFault t_readLamps t_read t_undone t_undos t_aside t_bays t_bests t_kept t_keptUndos t_isKept t_lanes t_sizes t_items t_moved))) (w_X7 cI cL cC cM cS a t_now t_mores t_tape t_typed t_place t_isFault t_readLamps t_read t_undone t_undos t_aside t_bays t_bests t_kept t_keptUndos t_isKept t_lanes t_sizes t_items t_moved) 5 [some (.ref (a 0)), some (.int x1), some (.int x2), some (.int x3)] [] (f_X7_whoHas_c5 n t_now x1 x2 x3) := by
  intro n
  induction n with
  | zero =>
    intro t_now x1 x2 x3
    exact G.no
  | succ n ih =>
    intro t_now x1 x2 x3
    rw [f_X7_whoHas_c5]
    refine G.iload_n dX7_whoHas_5 rfl ?_
    refine G.aload_n dX7_whoHas_6 rfl ?_
    refine G.get fl_7_7 0 rfl rfl dX7_whoHas_7 ?_
    refine G.iconst 0 dX7_whoHas_10 (by decide) ?_
    refine G.iaload 1 0 rfl rfl 0 (by decide) (by decide) dX7_whoHas_11 ?_
    refine G.topi (fun v11 => ?_)
    refine G.icmp_ge 36 dX7_whoHas_12 (by decide) (fun h12 => ?_) (fun h12 => ?_)
    · refine G.iload_n dX7_whoHas_36 rfl ?_
      exact G.iret rfl rfl dX7_whoHas_37
    · refine G.aload_n dX7_whoHas_15 rfl ?_
      refine G.iload_n dX7_whoHas_16 rfl ?_
      refine G.callV (st := []) (w' := fun r17 => (w_X7 cI cL cC cM cS a t_now t_mores t_tape t_typed t_place t_isFault t_readLamps t_read t_undone t_undos t_aside t_bays t_bests t_kept t_keptUndos t_isKept t_lanes t_sizes t_items t_moved)) mv_X7_bayOf lk_7_67 (c_X7_bayOf l D ks cI cL cC cM cS a t_now t_mores t_tape t_typed t_place t_isFault t_readLamps t_read t_undone t_undos t_aside t_bays t_bests t_kept t_keptUndos t_isKept t_lanes t_sizes t_items t_moved x3) [0, 1, 2, 3, 4, 5, 6, 7, 8, 9, 10, 11, 12, 13, 14] [] [0, 1, 2, 3, 4, 5, 6, 7, 8, 9, 10, 11, 12, 13, 14] rfl rfl rfl rfl (by decide +kernel) (fun _ => rfl) rfl (by decide) (Nat.le_of_ble_eq_true rfl) dX7_whoHas_17 (fun r17 => [.int r17]) (fun _ => rfl) (fun r17 _ => ?_)
      refine G.iload_n dX7_whoHas_20 rfl ?_
      refine G.join (st := []) Value.int 29 (fun v29 => ?_) (fun hJ => ?_)
      · refine G.istore_n (lv' := [some (.ref (a 0)), some (.int x1), some (.int v29), some (.int x3)]) dX7_whoHas_29 (by decide) (Nat.le_of_ble_eq_true rfl) rfl rfl ?_
        refine G.iinc 1 (lv' := [some (.ref (a 0)), some (.int x1), some (.int v29), some (.int (x3 + 1))]) dX7_whoHas_30 rfl (by decide) (by decide) (Nat.le_of_ble_eq_true rfl) rfl rfl ?_
        refine G.goto 5 dX7_whoHas_33 (by decide) ?_
        exact ih t_now x1 v29 (x3 + 1)
      · refine G.ite ?_
        refine G.icmp_ne 28 dX7_whoHas_21 (by decide) (fun _ => ?_) (fun _ => ?_)
        · refine G.iload_n dX7_whoHas_28 rfl ?_
          exact hJ _
        · refine G.iload_n dX7_whoHas_24 rfl ?_
          refine G.goto 29 dX7_whoHas_25 (by decide) ?_
          exact hJ _
set_option maxHeartbeats 4000000 in
set_option maxRecDepth 100000 in
theorem c_X7_whoHas (l : Launch) (D : va_G) (ks : Nat × Nat) (cI cL cC cM cS : ClassId) (a : Nat → Nat) (t_now t_mores t_tape : Nat → Int32) (t_typed t_place t_isFault : Int32) (t_readLamps t_read t_undone : Nat → Int32) (t_undos : Int32) (t_aside t_bays t_bests t_kept : Nat → Int32) (t_keptUndos t_isKept : Int32) (t_lanes t_sizes : Nat → Int32) (t_items t_moved : Nat → Int64) (x1 : Int32) : MT l D ks (tyz cI cL cC cM cS) yX7_whoHas cX7_whoHas 4 ((some .int)) { frames := 2, cells := 0, slots := 0, locals := 43 } [.ref (a 0), .int x1] (w_X7 cI cL cC cM cS a t_now t_mores t_tape t_typed t_place t_isFault t_readLamps t_read t_undone t_undos t_aside t_bays t_bests t_kept t_keptUndos t_isKept t_lanes t_sizes t_items t_moved) (fun r : Int32 => (some (.int r), (w_X7 cI cL cC cM cS a t_now t_mores t_tape t_typed t_place t_isFault t_readLamps t_read t_undone t_undos t_aside t_bays t_bests t_kept t_keptUndos t_isKept t_lanes t_sizes t_items t_moved))) (f_X7_whoHas t_now x1) := by
  refine MT.of 2 [some (.ref (a 0)), some (.int x1), none, none] (by decide) (Nat.le_of_ble_eq_true rfl) rfl ?_
  unfold f_X7_whoHas
  refine G.bipush (-4) dX7_whoHas_0 (by decide) ?_
  refine G.istore_n (lv' := [some (.ref (a 0)), some (.int x1), some (.int (-4)), none]) dX7_whoHas_2 (by decide) (Nat.le_of_ble_eq_true rfl) rfl rfl ?_
  refine G.iconst 0 dX7_whoHas_3 (by decide) ?_
  refine G.istore_n (lv' := [some (.ref (a 0)), some (.int x1), some (.int (-4)), some (.int 0)]) dX7_whoHas_4 (by decide) (Nat.le_of_ble_eq_true rfl) rfl rfl ?_
  exact g_X7_whoHas_c5 l D ks cI cL cC cM cS a t_mores t_tape t_typed t_place t_isFault t_readLamps t_read t_undone t_undos t_aside t_bays t_bests t_kept t_keptUndos t_isKept t_lanes t_sizes t_items t_moved fu t_now x1 (-4) 0
set_option maxHeartbeats 4000000 in
set_option maxRecDepth 100000 in
theorem c_X7_at (l : Launch) (D : va_G) (ks : Nat × Nat) (cI cL cC cM cS : ClassId) (a : Nat → Nat) (t_now t_mores t_tape : Nat → Int32) (t_typed t_place t_isFault : Int32) (t_readLamps t_read t_undone : Nat → Int32) (t_undos : Int32) (t_aside t_bays t_bests t_kept : Nat → Int32) (t_keptUndos t_isKept : Int32) (t_lanes t_sizes : Nat → Int32) (t_items t_moved : Nat → Int64) (x1 : Int32) (x2 : Int32) : MT l D ks (tyz cI cL cC cM cS) yX7_at cX7_at 3 ((some .int)) { frames := 3, cells := 0, slots := 0, locals := 66 } [.ref (a 0), .int x1, .int x2] (w_X7 cI cL cC cM cS a t_now t_mores t_tape t_typed t_place t_isFault t_readLamps t_read t_undone t_undos t_aside t_bays t_bests t_kept t_keptUndos t_isKept t_lanes t_sizes t_items t_moved) (fun r : Int32 => (some (.int r), (w_X7 cI cL cC cM cS a t_now t_mores t_tape t_typed t_place t_isFault t_readLamps t_read t_undone t_undos t_aside t_bays t_bests t_kept t_keptUndos t_isKept t_lanes t_sizes t_items t_moved))) (f_X7_at t_now x1 x2) := by
  refine MT.of 0 [some (.ref (a 0)), some (.int x1), some (.int x2)] (by decide) (Nat.le_of_ble_eq_true rfl) rfl ?_
  unfold f_X7_at
  refine G.iload_n dX7_at_0 rfl ?_
  refine G.callS (st := []) (w' := fun r1 => (w_X7 cI cL cC cM cS a t_now t_mores t_tape t_typed t_place t_isFault t_readLamps t_read t_undone t_undos t_aside t_bays t_bests t_kept t_keptUndos t_isKept t_lanes t_sizes t_items t_moved)) ms_X7_isBay lk_7_108 (c_X7_isBay l D ks cI cL cC cM cS x1) [] [0, 1, 2, 3, 4, 5, 6, 7, 8, 9, 10, 11, 12, 13, 14] [0, 1, 2, 3, 4, 5, 6, 7, 8, 9, 10, 11, 12, 13, 14] rfl rfl rfl rfl (by decide +kernel) (fun _ => rfl) (by decide) (Nat.le_of_ble_eq_true rfl) dX7_at_1 (fun r1 => [.int r1]) (fun _ => rfl) (fun r1 _ => ?_)
  refine G.if_eq 19 dX7_at_4 (by decide) (fun h4 => ?_) (fun h4 => ?_)
  · refine G.iconst (-1) dX7_at_19 (by decide) ?_
    exact G.iret rfl rfl dX7_at_20
  · refine G.iload_n dX7_at_7 rfl ?_
    refine G.i2l dX7_at_8 ?_
    refine G.lconst 0 dX7_at_9 (by decide) ?_
    refine G.ldc2 kl_7_123 dX7_at_10 ?_
    refine G.callS (st := []) (w' := fun r13 => (w_X7 cI cL cC cM cS a t_now t_mores t_tape t_typed t_place t_isFault t_readLamps t_read t_undone t_undos t_aside t_bays t_bests t_kept t_keptUndos t_isKept t_lanes t_sizes t_items t_moved)) ms_X7_in lk_7_53 (c_X7_in l D ks cI cL cC cM cS (x2.toInt64) 0 2) [] [0, 1, 2, 3, 4, 5, 6, 7, 8, 9, 10, 11, 12, 13, 14] [0, 1, 2, 3, 4, 5, 6, 7, 8, 9, 10, 11, 12, 13, 14] rfl rfl rfl rfl (by decide +kernel) (fun _ => rfl) (by decide) (Nat.le_of_ble_eq_true rfl) dX7_at_13 (fun r13 => [.int r13]) (fun _ => rfl) (fun r13 _ => ?_)
    refine G.if_ne 21 dX7_at_16 (by decide) (fun h16 => ?_) (fun h16 => ?_)
    · refine G.iload_n dX7_at_21 rfl ?_
      refine G.if_ne 37 dX7_at_22 (by decide) (fun h22 => ?_) (fun h22 => ?_)
      · refine G.iload_n dX7_at_37 rfl ?_
        refine G.iconst 1 dX7_at_38 (by decide) ?_
        refine G.icmp_ne 54 dX7_at_39 (by decide) (fun h39 => ?_) (fun h39 => ?_)
        · refine G.aload_n dX7_at_54 rfl ?_
          refine G.iload_n dX7_at_55 rfl ?_
          refine G.callV (st := []) (w' := fun r56 => (w_X7 cI cL cC cM cS a t_now t_mores t_tape t_typed t_place t_isFault t_readLamps t_read t_undone t_undos t_aside t_bays t_bests t_kept t_keptUndos t_isKept t_lanes t_sizes t_items t_moved)) mv_X7_whoHas lk_7_111 (c_X7_whoHas l D ks cI cL cC cM cS a t_now t_mores t_tape t_typed t_place t_isFault t_readLamps t_read t_undone t_undos t_aside t_bays t_bests t_kept t_keptUndos t_isKept t_lanes t_sizes t_items t_moved x1) [0, 1, 2, 3, 4, 5, 6, 7, 8, 9, 10, 11, 12, 13, 14] [] [0, 1, 2, 3, 4, 5, 6, 7, 8, 9, 10, 11, 12, 13, 14] rfl rfl rfl rfl (by decide +kernel) (fun _ => rfl) rfl (by decide) (Nat.le_of_ble_eq_true rfl) dX7_at_56 (fun r56 => [.int r56]) (fun _ => rfl) (fun r56 _ => ?_)
          exact G.iret rfl rfl dX7_at_59
        · refine G.aload_n dX7_at_42 rfl ?_
          refine G.get fl_7_7 0 rfl rfl dX7_at_43 ?_
          refine G.bipush 34 dX7_at_46 (by decide) ?_
          refine G.iload_n dX7_at_48 rfl ?_
          refine G.iadd dX7_at_49 ?_
          refine G.chk (fun h50 => ?_)
          refine G.iaload 1 0 rfl rfl ((34 + x1).toNatClampNeg) rfl h50 dX7_at_50 ?_
          refine G.topi (fun v50 => ?_)
          refine G.goto 59 dX7_at_51 (by decide) ?_
          exact G.iret rfl rfl dX7_at_59
      · refine G.aload_n dX7_at_25 rfl ?_
        refine G.get fl_7_7 0 rfl rfl dX7_at_26 ?_
        refine G.bipush 28 dX7_at_29 (by decide) ?_
        refine G.iload_n dX7_at_31 rfl ?_
        refine G.iadd dX7_at_32 ?_
        refine G.chk (fun h33 => ?_)
        refine G.iaload 1 0 rfl rfl ((28 + x1).toNatClampNeg) rfl h33 dX7_at_33 ?_
        refine G.topi (fun v33 => ?_)
        refine G.goto 59 dX7_at_34 (by decide) ?_
        exact G.iret rfl rfl dX7_at_59
    · refine G.iconst (-1) dX7_at_19 (by decide) ?_
      exact G.iret rfl rfl dX7_at_20
set_option maxHeartbeats 4000000 in
set_option maxRecDepth 100000 in
theorem g_X7_notes_c84 (l : Launch) (D : va_G) (ks : Nat × Nat) (cI cL cC cM cS : ClassId) (a : Nat → Nat) (t_mores t_tape : Nat → Int32) (t_typed t_place t_isFault : Int32) (t_readLamps t_read t_aside t_bays t_bests t_kept : Nat → Int32) (t_keptUndos t_isKept : Int32) (t_lanes t_sizes : Nat → Int32) (t_items t_moved : Nat → Int64) : ∀ (n : Nat), ∀ (t_now t_undone : Nat → Int32) (t_undos : Int32) (x1 : Int32) (x2 : Int32), GJ l D ks (tyz cI cL cC cM cS) RX7 cX7_notes 3 none { frames := 2, cells := 0, slots := 0, locals := 43 } (fun r : (Nat → Int32) × Int32 => (none, (w_X7 cI cL cC cM cS a t_now t_mores t_tape t_typed t_place t_isFault t_readLamps t_read r.1 r.2 t_aside t_bays t_bests t_kept t_keptUndos t_isKept t_lanes t_sizes t_items t_moved))) (w_X7 cI cL cC cM cS a t_now t_mores t_tape t_typed t_place t_isFault t_readLamps t_read t_undone t_undos t_aside t_bays t_bests t_kept t_keptUndos t_isKept t_lanes t_sizes t_items t_moved) 84 [some (.ref (a 0)), some (.int x1), some (.int x2)] [] (f_X7_notes_c84 n t_now t_undone t_undos x1 x2) := by
  intro n
  induction n with
  | zero =>
    intro t_now t_undone t_undos x1 x2
    exact G.no
  | succ n ih =>
    intro t_now t_undone t_undos x1 x2
    rw [f_X7_notes_c84]
    refine G.iload_n dX7_notes_84 rfl ?_
    refine G.bipush 6 dX7_notes_85 (by decide) ?_
    refine G.icmp_ge 127 dX7_notes_87 (by decide) (fun h87 => ?_) (fun h87 => ?_)
    · refine G.aload_n dX7_notes_127 rfl ?_
      refine G.dup dX7_notes_128 rfl ?_
      refine G.get fl_7_100 0 rfl rfl dX7_notes_129 ?_
      refine G.iconst 1 dX7_notes_132 (by decide) ?_
      refine G.iadd dX7_notes_133 ?_
      refine G.put (w' := (w_X7 cI cL cC cM cS a t_now t_mores t_tape t_typed t_place t_isFault t_readLamps t_read t_undone (t_undos + 1) t_aside t_bays t_bests t_kept t_keptUndos t_isKept t_lanes t_sizes t_items t_moved)) fp_7_100 0 rfl (Nat.le_of_ble_eq_true rfl) rfl rfl rfl dX7_notes_134 ?_
      exact G.vret rfl rfl dX7_notes_137
    · refine G.aload_n dX7_notes_90 rfl ?_
      refine G.get fl_7_25 0 rfl rfl dX7_notes_91 ?_
      refine G.iload_n dX7_notes_94 rfl ?_
      refine G.iconst 3 dX7_notes_95 (by decide) ?_
      refine G.iadd dX7_notes_96 ?_
      refine G.iload_n dX7_notes_97 rfl ?_
      refine G.iadd dX7_notes_98 ?_
      refine G.aload_n dX7_notes_99 rfl ?_
      refine G.iload_n dX7_notes_100 rfl ?_
      refine G.callV (st := [.int ((x1 + 3) + x2), .ref (a 6)]) (w' := fun r101 => (w_X7 cI cL cC cM cS a t_now t_mores t_tape t_typed t_place t_isFault t_readLamps t_read t_undone t_undos t_aside t_bays t_bests t_kept t_keptUndos t_isKept t_lanes t_sizes t_items t_moved)) mv_X7_used lk_7_63 (c_X7_used l D ks cI cL cC cM cS a t_now t_mores t_tape t_typed t_place t_isFault t_readLamps t_read t_undone t_undos t_aside t_bays t_bests t_kept t_keptUndos t_isKept t_lanes t_sizes t_items t_moved x2) [0, 1, 2, 3, 4, 5, 6, 7, 8, 9, 10, 11, 12, 13, 14] [] [0, 1, 2, 3, 4, 5, 6, 7, 8, 9, 10, 11, 12, 13, 14] rfl rfl rfl rfl (by decide +kernel) (fun _ => rfl) rfl (by decide) (Nat.le_of_ble_eq_true rfl) dX7_notes_101 (fun r101 => [.int r101, .int ((x1 + 3) + x2), .ref (a 6)]) (fun _ => rfl) (fun r101 _ => ?_)
      refine G.chk (fun h104 => ?_)
      refine G.iastore (w' := (w_X7 cI cL cC cM cS a t_now t_mores t_tape t_typed t_place t_isFault t_readLamps t_read (upd t_undone (((x1 + 3) + x2).toNatClampNeg) r101) t_undos t_aside t_bays t_bests t_kept t_keptUndos t_isKept t_lanes t_sizes t_items t_moved)) 6 0 rfl rfl (((x1 + 3) + x2).toNatClampNeg) rfl h104 rfl dX7_notes_104 ?_
      refine G.aload_n dX7_notes_105 rfl ?_
      refine G.get fl_7_25 0 rfl rfl dX7_notes_106 ?_
      refine G.iload_n dX7_notes_109 rfl ?_
      refine G.bipush 9 dX7_notes_110 (by decide) ?_
      refine G.iadd dX7_notes_112 ?_
      refine G.iload_n dX7_notes_113 rfl ?_
      refine G.iadd dX7_notes_114 ?_
      refine G.aload_n dX7_notes_115 rfl ?_
      refine G.iload_n dX7_notes_116 rfl ?_
      refine G.callV (st := [.int ((x1 + 9) + x2), .ref (a 6)]) (w' := fun r117 => (w_X7 cI cL cC cM cS a t_now t_mores t_tape t_typed t_place t_isFault t_readLamps t_read (upd t_undone (((x1 + 3) + x2).toNatClampNeg) r101) t_undos t_aside t_bays t_bests t_kept t_keptUndos t_isKept t_lanes t_sizes t_items t_moved)) mv_X7_bayOf lk_7_67 (c_X7_bayOf l D ks cI cL cC cM cS a t_now t_mores t_tape t_typed t_place t_isFault t_readLamps t_read (upd t_undone (((x1 + 3) + x2).toNatClampNeg) r101) t_undos t_aside t_bays t_bests t_kept t_keptUndos t_isKept t_lanes t_sizes t_items t_moved x2) [0, 1, 2, 3, 4, 5, 6, 7, 8, 9, 10, 11, 12, 13, 14] [] [0, 1, 2, 3, 4, 5, 6, 7, 8, 9, 10, 11, 12, 13, 14] rfl rfl rfl rfl (by decide +kernel) (fun _ => rfl) rfl (by decide) (Nat.le_of_ble_eq_true rfl) dX7_notes_117 (fun r117 => [.int r117, .int ((x1 + 9) + x2), .ref (a 6)]) (fun _ => rfl) (fun r117 _ => ?_)
      refine G.chk (fun h120 => ?_)
      refine G.iastore (w' := (w_X7 cI cL cC cM cS a t_now t_mores t_tape t_typed t_place t_isFault t_readLamps t_read (upd (upd t_undone (((x1 + 3) + x2).toNatClampNeg) r101) (((x1 + 9) + x2).toNatClampNeg) r117) t_undos t_aside t_bays t_bests t_kept t_keptUndos t_isKept t_lanes t_sizes t_items t_moved)) 6 0 rfl rfl (((x1 + 9) + x2).toNatClampNeg) rfl h120 rfl dX7_notes_120 ?_
      refine G.iinc 1 (lv' := [some (.ref (a 0)), some (.int x1), some (.int (x2 + 1))]) dX7_notes_121 rfl (by decide) (by decide) (Nat.le_of_ble_eq_true rfl) rfl rfl ?_
      refine G.goto 84 dX7_notes_124 (by decide) ?_
      exact ih t_now (upd (upd t_undone (((x1 + 3) + x2).toNatClampNeg) r101) (((x1 + 9) + x2).toNatClampNeg) r117) t_undos x1 (x2 + 1)
set_option maxHeartbeats 4000000 in
set_option maxRecDepth 100000 in
theorem g_X7_notes_c55 (l : Launch) (D : va_G) (ks : Nat × Nat) (cI cL cC cM cS : ClassId) (a : Nat → Nat) (t_mores t_tape : Nat → Int32) (t_typed t_place t_isFault : Int32) (t_readLamps t_read t_aside t_bays t_bests t_kept : Nat → Int32) (t_keptUndos t_isKept : Int32) (t_lanes t_sizes : Nat → Int32) (t_items t_moved : Nat → Int64) : ∀ (n : Nat), ∀ (t_now t_undone : Nat → Int32) (t_undos : Int32) (x1 : Int32) (x2 : Int32), GJ l D ks (tyz cI cL cC cM cS) RX7 cX7_notes 3 none { frames := 2, cells := 0, slots := 0, locals := 43 } (fun r : (Nat → Int32) × Int32 => (none, (w_X7 cI cL cC cM cS a t_now t_mores t_tape t_typed t_place t_isFault t_readLamps t_read r.1 r.2 t_aside t_bays t_bests t_kept t_keptUndos t_isKept t_lanes t_sizes t_items t_moved))) (w_X7 cI cL cC cM cS a t_now t_mores t_tape t_typed t_place t_isFault t_readLamps t_read t_undone t_undos t_aside t_bays t_bests t_kept t_keptUndos t_isKept t_lanes t_sizes t_items t_moved) 55 [some (.ref (a 0)), some (.int x1), some (.int x2)] [] (f_X7_notes_c55 n t_now t_undone t_undos x1 x2) := by
  intro n
  induction n with
  | zero =>
    intro t_now t_undone t_undos x1 x2
    exact G.no
  | succ n ih =>
    intro t_now t_undone t_undos x1 x2
    rw [f_X7_notes_c55]
    refine G.iload_n dX7_notes_55 rfl ?_
    refine G.iconst 3 dX7_notes_56 (by decide) ?_
    refine G.icmp_ge 82 dX7_notes_57 (by decide) (fun h57 => ?_) (fun h57 => ?_)
    · refine G.iconst 0 dX7_notes_82 (by decide) ?_
      refine G.istore_n (lv' := [some (.ref (a 0)), some (.int x1), some (.int 0)]) dX7_notes_83 (by decide) (Nat.le_of_ble_eq_true rfl) rfl rfl ?_
      exact g_X7_notes_c84 l D ks cI cL cC cM cS a t_mores t_tape t_typed t_place t_isFault t_readLamps t_read t_aside t_bays t_bests t_kept t_keptUndos t_isKept t_lanes t_sizes t_items t_moved fu t_now t_undone t_undos x1 0
    · refine G.aload_n dX7_notes_60 rfl ?_
      refine G.get fl_7_25 0 rfl rfl dX7_notes_61 ?_
      refine G.iload_n dX7_notes_64 rfl ?_
      refine G.iload_n dX7_notes_65 rfl ?_
      refine G.iadd dX7_notes_66 ?_
      refine G.aload_n dX7_notes_67 rfl ?_
      refine G.get fl_7_7 0 rfl rfl dX7_notes_68 ?_
      refine G.iconst 1 dX7_notes_71 (by decide) ?_
      refine G.iload_n dX7_notes_72 rfl ?_
      refine G.iadd dX7_notes_73 ?_
      refine G.chk (fun h74 => ?_)
      refine G.iaload 1 0 rfl rfl ((1 + x2).toNatClampNeg) rfl h74 dX7_notes_74 ?_
      refine G.topi (fun v74 => ?_)
      refine G.chk (fun h75 => ?_)
      refine G.iastore (w' := (w_X7 cI cL cC cM cS a t_now t_mores t_tape t_typed t_place t_isFault t_readLamps t_read (upd t_undone ((x1 + x2).toNatClampNeg) v74) t_undos t_aside t_bays t_bests t_kept t_keptUndos t_isKept t_lanes t_sizes t_items t_moved)) 6 0 rfl rfl ((x1 + x2).toNatClampNeg) rfl h75 rfl dX7_notes_75 ?_
      refine G.iinc 1 (lv' := [some (.ref (a 0)), some (.int x1), some (.int (x2 + 1))]) dX7_notes_76 rfl (by decide) (by decide) (Nat.le_of_ble_eq_true rfl) rfl rfl ?_
      refine G.goto 55 dX7_notes_79 (by decide) ?_
      exact ih t_now (upd t_undone ((x1 + x2).toNatClampNeg) v74) t_undos x1 (x2 + 1)
set_option maxHeartbeats 4000000 in
set_option maxRecDepth 100000 in
theorem g_X7_notes_c45 (l : Launch) (D : va_G) (ks : Nat × Nat) (cI cL cC cM cS : ClassId) (a : Nat → Nat) (t_mores t_tape : Nat → Int32) (t_typed t_place t_isFault : Int32) (t_readLamps t_read t_aside t_bays t_bests t_kept : Nat → Int32) (t_keptUndos t_isKept : Int32) (t_lanes t_sizes : Nat → Int32) (t_items t_moved : Nat → Int64) (t_now t_undone : Nat → Int32) (t_undos : Int32) : GJ l D ks (tyz cI cL cC cM cS) RX7 cX7_notes 3 none { frames := 2, cells := 0, slots := 0, locals := 43 } (fun r : (Nat → Int32) × Int32 => (none, (w_X7 cI cL cC cM cS a t_now t_mores t_tape t_typed t_place t_isFault t_readLamps t_read r.1 r.2 t_aside t_bays t_bests t_kept t_keptUndos t_isKept t_lanes t_sizes t_items t_moved))) (w_X7 cI cL cC cM cS a t_now t_mores t_tape t_typed t_place t_isFault t_readLamps t_read t_undone t_undos t_aside t_bays t_bests t_kept t_keptUndos t_isKept t_lanes t_sizes t_items t_moved) 45 [some (.ref (a 0)), none, none] [] (f_X7_notes_c45 t_now t_undone t_undos) := by
  unfold f_X7_notes_c45
  refine G.bipush 15 dX7_notes_45 (by decide) ?_
  refine G.aload_n dX7_notes_47 rfl ?_
  refine G.get fl_7_100 0 rfl rfl dX7_notes_48 ?_
  refine G.imul dX7_notes_51 ?_
  refine G.istore_n (lv' := [some (.ref (a 0)), some (.int (15 * t_undos)), none]) dX7_notes_52 (by decide) (Nat.le_of_ble_eq_true rfl) rfl rfl ?_
  refine G.iconst 0 dX7_notes_53 (by decide) ?_
  refine G.istore_n (lv' := [some (.ref (a 0)), some (.int (15 * t_undos)), some (.int 0)]) dX7_notes_54 (by decide) (Nat.le_of_ble_eq_true rfl) rfl rfl ?_
  exact g_X7_notes_c55 l D ks cI cL cC cM cS a t_mores t_tape t_typed t_place t_isFault t_readLamps t_read t_aside t_bays t_bests t_kept t_keptUndos t_isKept t_lanes t_sizes t_items t_moved fu t_now t_undone t_undos (15 * t_undos) 0
set_option maxHeartbeats 4000000 in
set_option maxRecDepth 100000 in
theorem g_X7_notes_c12 (l : Launch) (D : va_G) (ks : Nat × Nat) (cI cL cC cM cS : ClassId) (a : Nat → Nat) (t_mores t_tape : Nat → Int32) (t_typed t_place t_isFault : Int32) (t_readLamps t_read t_aside t_bays t_bests t_kept : Nat → Int32) (t_keptUndos t_isKept : Int32) (t_lanes t_sizes : Nat → Int32) (t_items t_moved : Nat → Int64) : ∀ (n : Nat), ∀ (t_now t_undone : Nat → Int32) (t_undos : Int32) (x1 : Int32), GJ l D ks (tyz cI cL cC cM cS) RX7 cX7_notes 3 none { frames := 2, cells := 0, slots := 0, locals := 43 } (fun r : (Nat → Int32) × Int32 => (none, (w_X7 cI cL cC cM cS a t_now t_mores t_tape t_typed t_place t_isFault t_readLamps t_read r.1 r.2 t_aside t_bays t_bests t_kept t_keptUndos t_isKept t_lanes t_sizes t_items t_moved))) (w_X7 cI cL cC cM cS a t_now t_mores t_tape t_typed t_place t_isFault t_readLamps t_read t_undone t_undos t_aside t_bays t_bests t_kept t_keptUndos t_isKept t_lanes t_sizes t_items t_moved) 12 [some (.ref (a 0)), some (.int x1), none] [] (f_X7_notes_c12 n t_now t_undone t_undos x1) := by
  intro n
  induction n with
  | zero =>
    intro t_now t_undone t_undos x1
    exact G.no
  | succ n ih =>
    intro t_now t_undone t_undos x1
    rw [f_X7_notes_c12]
    refine G.iload_n dX7_notes_12 rfl ?_
    refine G.bipush 120 dX7_notes_13 (by decide) ?_
    refine G.icmp_ge 39 dX7_notes_15 (by decide) (fun h15 => ?_) (fun h15 => ?_)
    · refine G.aload_n dX7_notes_39 rfl ?_
      refine G.bipush 7 dX7_notes_40 (by decide) ?_
      refine G.put (w' := (w_X7 cI cL cC cM cS a t_now t_mores t_tape t_typed t_place t_isFault t_readLamps t_read t_undone 7 t_aside t_bays t_bests t_kept t_keptUndos t_isKept t_lanes t_sizes t_items t_moved)) fp_7_100 0 rfl (Nat.le_of_ble_eq_true rfl) rfl rfl rfl dX7_notes_42 ?_
      refine G.mask (lv' := [some (.ref (a 0)), none, none]) [true, false, false] rfl ?_
      exact g_X7_notes_c45 l D ks cI cL cC cM cS a t_mores t_tape t_typed t_place t_isFault t_readLamps t_read t_aside t_bays t_bests t_kept t_keptUndos t_isKept t_lanes t_sizes t_items t_moved t_now t_undone 7
    · refine G.aload_n dX7_notes_18 rfl ?_
      refine G.get fl_7_25 0 rfl rfl dX7_notes_19 ?_
      refine G.iload_n dX7_notes_22 rfl ?_
      refine G.bipush 15 dX7_notes_23 (by decide) ?_
      refine G.isub dX7_notes_25 ?_
      refine G.aload_n dX7_notes_26 rfl ?_
      refine G.get fl_7_25 0 rfl rfl dX7_notes_27 ?_
      refine G.iload_n dX7_notes_30 rfl ?_
      refine G.chk (fun h31 => ?_)
      refine G.iaload 6 0 rfl rfl x1.toNatClampNeg rfl h31 dX7_notes_31 ?_
      refine G.topi (fun v31 => ?_)
      refine G.chk (fun h32 => ?_)
      refine G.iastore (w' := (w_X7 cI cL cC cM cS a t_now t_mores t_tape t_typed t_place t_isFault t_readLamps t_read (upd t_undone ((x1 - 15).toNatClampNeg) v31) t_undos t_aside t_bays t_bests t_kept t_keptUndos t_isKept t_lanes t_sizes t_items t_moved)) 6 0 rfl rfl ((x1 - 15).toNatClampNeg) rfl h32 rfl dX7_notes_32 ?_
      refine G.iinc 1 (lv' := [some (.ref (a 0)), some (.int (x1 + 1)), none]) dX7_notes_33 rfl (by decide) (by decide) (Nat.le_of_ble_eq_true rfl) rfl rfl ?_
      refine G.goto 12 dX7_notes_36 (by decide) ?_
      exact ih t_now (upd t_undone ((x1 - 15).toNatClampNeg) v31) t_undos (x1 + 1)
set_option maxHeartbeats 4000000 in
set_option maxRecDepth 100000 in
theorem c_X7_notes (l : Launch) (D : va_G) (ks : Nat × Nat) (cI cL cC cM cS : ClassId) (a : Nat → Nat) (t_now t_mores t_tape : Nat → Int32) (t_typed t_place t_isFault : Int32) (t_readLamps t_read t_undone : Nat → Int32) (t_undos : Int32) (t_aside t_bays t_bests t_kept : Nat → Int32) (t_keptUndos t_isKept : Int32) (t_lanes t_sizes : Nat → Int32) (t_items t_moved : Nat → Int64) : MT l D ks (tyz cI cL cC cM cS) yX7_notes cX7_notes 3 none { frames := 2, cells := 0, slots := 0, locals := 43 } [.ref (a 0)] (w_X7 cI cL cC cM cS a t_now t_mores t_tape t_typed t_place t_isFault t_readLamps t_read t_undone t_undos t_aside t_bays t_bests t_kept t_keptUndos t_isKept t_lanes t_sizes t_items t_moved) (fun r : (Nat → Int32) × Int32 => (none, (w_X7 cI cL cC cM cS a t_now t_mores t_tape t_typed t_place t_isFault t_readLamps t_read r.1 r.2 t_aside t_bays t_bests t_kept t_keptUndos t_isKept t_lanes t_sizes t_items t_moved))) (f_X7_notes t_now t_undone t_undos) := by
  refine MT.of 2 [some (.ref (a 0)), none, none] (by decide) (Nat.le_of_ble_eq_true rfl) rfl ?_
  unfold f_X7_notes
  refine G.aload_n dX7_notes_0 rfl ?_
  refine G.get fl_7_100 0 rfl rfl dX7_notes_1 ?_
  refine G.bipush 8 dX7_notes_4 (by decide) ?_
  refine G.icmp_ne 45 dX7_notes_6 (by decide) (fun h6 => ?_) (fun h6 => ?_)
  · exact g_X7_notes_c45 l D ks cI cL cC cM cS a t_mores t_tape t_typed t_place t_isFault t_readLamps t_read t_aside t_bays t_bests t_kept t_keptUndos t_isKept t_lanes t_sizes t_items t_moved t_now t_undone t_undos
  · refine G.bipush 15 dX7_notes_9 (by decide) ?_
    refine G.istore_n (lv' := [some (.ref (a 0)), some (.int 15), none]) dX7_notes_11 (by decide) (Nat.le_of_ble_eq_true rfl) rfl rfl ?_
    exact g_X7_notes_c12 l D ks cI cL cC cM cS a t_mores t_tape t_typed t_place t_isFault t_readLamps t_read t_aside t_bays t_bests t_kept t_keptUndos t_isKept t_lanes t_sizes t_items t_moved fu t_now t_undone t_undos 15
set_option maxHeartbeats 4000000 in
set_option maxRecDepth 100000 in
theorem c_X7_sits (l : Launch) (D : va_G) (ks : Nat × Nat) (cI cL cC cM cS : ClassId) (a : Nat → Nat) (t_now t_mores t_tape : Nat → Int32) (t_typed t_place t_isFault : Int32) (t_readLamps t_read t_undone : Nat → Int32) (t_undos : Int32) (t_aside t_bays t_bests t_kept : Nat → Int32) (t_keptUndos t_isKept : Int32) (t_lanes t_sizes : Nat → Int32) (t_items t_moved : Nat → Int64) (x1 : Int32) (x2 : Int32) : MT l D ks (tyz cI cL cC cM cS) yX7_sits cX7_sits 3 none { frames := 0, cells := 0, slots := 0, locals := 0 } [.ref (a 0), .int x1, .int x2] (w_X7 cI cL cC cM cS a t_now t_mores t_tape t_typed t_place t_isFault t_readLamps t_read t_undone t_undos t_aside t_bays t_bests t_kept t_keptUndos t_isKept t_lanes t_sizes t_items t_moved) (fun r : (Nat → Int32) => (none, (w_X7 cI cL cC cM cS a r t_mores t_tape t_typed t_place t_isFault t_readLamps t_read t_undone t_undos t_aside t_bays t_bests t_kept t_keptUndos t_isKept t_lanes t_sizes t_items t_moved))) (f_X7_sits t_now x1 x2) := by
  refine MT.of 0 [some (.ref (a 0)), some (.int x1), some (.int x2)] (by decide) (Nat.le_of_ble_eq_true rfl) rfl ?_
  unfold f_X7_sits
  refine G.aload_n dX7_sits_0 rfl ?_
  refine G.get fl_7_7 0 rfl rfl dX7_sits_1 ?_
  refine G.iconst 4 dX7_sits_4 (by decide) ?_
  refine G.iconst 4 dX7_sits_5 (by decide) ?_
  refine G.iload_n dX7_sits_6 rfl ?_
  refine G.imul dX7_sits_7 ?_
  refine G.iadd dX7_sits_8 ?_
  refine G.iconst 2 dX7_sits_9 (by decide) ?_
  refine G.iadd dX7_sits_10 ?_
  refine G.iload_n dX7_sits_11 rfl ?_
  refine G.chk (fun h12 => ?_)
  refine G.iastore (w' := (w_X7 cI cL cC cM cS a (upd t_now (((4 + (4 * x1)) + 2).toNatClampNeg) x2) t_mores t_tape t_typed t_place t_isFault t_readLamps t_read t_undone t_undos t_aside t_bays t_bests t_kept t_keptUndos t_isKept t_lanes t_sizes t_items t_moved)) 1 0 rfl rfl (((4 + (4 * x1)) + 2).toNatClampNeg) rfl h12 rfl dX7_sits_12 ?_
  exact G.vret rfl rfl dX7_sits_13
set_option maxHeartbeats 4000000 in
set_option maxRecDepth 100000 in
theorem c_X7_exchanges (l : Launch) (D : va_G) (ks : Nat × Nat) (cI cL cC cM cS : ClassId) (a : Nat → Nat) (t_now t_mores t_tape : Nat → Int32) (t_typed t_place t_isFault : Int32) (t_readLamps t_read t_undone : Nat → Int32) (t_undos : Int32) (t_aside t_bays t_bests t_kept : Nat → Int32) (t_keptUndos t_isKept : Int32) (t_lanes t_sizes : Nat → Int32) (t_items t_moved : Nat → Int64) (x1 : Int32) (x2 : Int32) : MT l D ks (tyz cI cL cC cM cS) yX7_exchanges cX7_exchanges 4 none { frames := 2, cells := 0, slots := 0, locals := 43 } [.ref (a 0), .int x1, .int x2] (w_X7 cI cL cC cM cS a t_now t_mores t_tape t_typed t_place t_isFault t_readLamps t_read t_undone t_undos t_aside t_bays t_bests t_kept t_keptUndos t_isKept t_lanes t_sizes t_items t_moved) (fun r : (Nat → Int32) => (none, (w_X7 cI cL cC cM cS a r t_mores t_tape t_typed t_place t_isFault t_readLamps t_read t_undone t_undos t_aside t_bays t_bests t_kept t_keptUndos t_isKept t_lanes t_sizes t_items t_moved))) (f_X7_exchanges t_now x1 x2) := by
  refine MT.of 1 [some (.ref (a 0)), some (.int x1), some (.int x2), none] (by decide) (Nat.le_of_ble_eq_true rfl) rfl ?_
  unfold f_X7_exchanges
  refine G.aload_n dX7_exchanges_0 rfl ?_
  refine G.iload_n dX7_exchanges_1 rfl ?_
  refine G.callV (st := []) (w' := fun r2 => (w_X7 cI cL cC cM cS a t_now t_mores t_tape t_typed t_place t_isFault t_readLamps t_read t_undone t_undos t_aside t_bays t_bests t_kept t_keptUndos t_isKept t_lanes t_sizes t_items t_moved)) mv_X7_bayOf lk_7_67 (c_X7_bayOf l D ks cI cL cC cM cS a t_now t_mores t_tape t_typed t_place t_isFault t_readLamps t_read t_undone t_undos t_aside t_bays t_bests t_kept t_keptUndos t_isKept t_lanes t_sizes t_items t_moved x1) [0, 1, 2, 3, 4, 5, 6, 7, 8, 9, 10, 11, 12, 13, 14] [] [0, 1, 2, 3, 4, 5, 6, 7, 8, 9, 10, 11, 12, 13, 14] rfl rfl rfl rfl (by decide +kernel) (fun _ => rfl) rfl (by decide) (Nat.le_of_ble_eq_true rfl) dX7_exchanges_2 (fun r2 => [.int r2]) (fun _ => rfl) (fun r2 _ => ?_)
  refine G.istore_n (lv' := [some (.ref (a 0)), some (.int x1), some (.int x2), some (.int r2)]) dX7_exchanges_5 (by decide) (Nat.le_of_ble_eq_true rfl) rfl rfl ?_
  refine G.aload_n dX7_exchanges_6 rfl ?_
  refine G.iload_n dX7_exchanges_7 rfl ?_
  refine G.aload_n dX7_exchanges_8 rfl ?_
  refine G.iload_n dX7_exchanges_9 rfl ?_
  refine G.callV (st := [.int x1, .ref (a 0)]) (w' := fun r10 => (w_X7 cI cL cC cM cS a t_now t_mores t_tape t_typed t_place t_isFault t_readLamps t_read t_undone t_undos t_aside t_bays t_bests t_kept t_keptUndos t_isKept t_lanes t_sizes t_items t_moved)) mv_X7_bayOf lk_7_67 (c_X7_bayOf l D ks cI cL cC cM cS a t_now t_mores t_tape t_typed t_place t_isFault t_readLamps t_read t_undone t_undos t_aside t_bays t_bests t_kept t_keptUndos t_isKept t_lanes t_sizes t_items t_moved x2) [0, 1, 2, 3, 4, 5, 6, 7, 8, 9, 10, 11, 12, 13, 14] [] [0, 1, 2, 3, 4, 5, 6, 7, 8, 9, 10, 11, 12, 13, 14] rfl rfl rfl rfl (by decide +kernel) (fun _ => rfl) rfl (by decide) (Nat.le_of_ble_eq_true rfl) dX7_exchanges_10 (fun r10 => [.int r10, .int x1, .ref (a 0)]) (fun _ => rfl) (fun r10 _ => ?_)
  refine G.callV (st := []) (w' := fun r13 => (w_X7 cI cL cC cM cS a r13 t_mores t_tape t_typed t_place t_isFault t_readLamps t_read t_undone t_undos t_aside t_bays t_bests t_kept t_keptUndos t_isKept t_lanes t_sizes t_items t_moved)) mv_X7_sits lk_7_170 (c_X7_sits l D ks cI cL cC cM cS a t_now t_mores t_tape t_typed t_place t_isFault t_readLamps t_read t_undone t_undos t_aside t_bays t_bests t_kept t_keptUndos t_isKept t_lanes t_sizes t_items t_moved x1 r10) [0, 1, 2, 3, 4, 5, 6, 7, 8, 9, 10, 11, 12, 13, 14] [] [0, 1, 2, 3, 4, 5, 6, 7, 8, 9, 10, 11, 12, 13, 14] rfl rfl rfl rfl (by decide +kernel) (fun _ => rfl) rfl (by decide) (Nat.le_of_ble_eq_true rfl) dX7_exchanges_13 (fun r13 => []) (fun _ => rfl) (fun r13 _ => ?_)
  refine G.aload_n dX7_exchanges_16 rfl ?_
  refine G.iload_n dX7_exchanges_17 rfl ?_
  refine G.iload_n dX7_exchanges_18 rfl ?_
  refine G.callV (st := []) (w' := fun r19 => (w_X7 cI cL cC cM cS a r19 t_mores t_tape t_typed t_place t_isFault t_readLamps t_read t_undone t_undos t_aside t_bays t_bests t_kept t_keptUndos t_isKept t_lanes t_sizes t_items t_moved)) mv_X7_sits lk_7_170 (c_X7_sits l D ks cI cL cC cM cS a r13 t_mores t_tape t_typed t_place t_isFault t_readLamps t_read t_undone t_undos t_aside t_bays t_bests t_kept t_keptUndos t_isKept t_lanes t_sizes t_items t_moved x2 r2) [0, 1, 2, 3, 4, 5, 6, 7, 8, 9, 10, 11, 12, 13, 14] [] [0, 1, 2, 3, 4, 5, 6, 7, 8, 9, 10, 11, 12, 13, 14] rfl rfl rfl rfl (by decide +kernel) (fun _ => rfl) rfl (by decide) (Nat.le_of_ble_eq_true rfl) dX7_exchanges_19 (fun r19 => []) (fun _ => rfl) (fun r19 _ => ?_)
  exact G.vret rfl rfl dX7_exchanges_22
set_option maxHeartbeats 4000000 in
set_option maxRecDepth 100000 in
theorem c_X7_change (l : Launch) (D : va_G) (ks : Nat × Nat) (cI cL cC cM cS : ClassId) (a : Nat → Nat) (t_now t_mores t_tape : Nat → Int32) (t_typed t_place t_isFault : Int32) (t_readLamps t_read t_undone : Nat → Int32) (t_undos : Int32) (t_aside t_bays t_bests t_kept : Nat → Int32) (t_keptUndos t_isKept : Int32) (t_lanes t_sizes : Nat → Int32) (t_items t_moved : Nat → Int64) (x1 : Int32) (x2 : Int32) : MT l D ks (tyz cI cL cC cM cS) yX7_change cX7_change 3 ((some .int)) { frames := 3, cells := 0, slots := 0, locals := 66 } [.ref (a 0), .int x1, .int x2] (w_X7 cI cL cC cM cS a t_now t_mores t_tape t_typed t_place t_isFault t_readLamps t_read t_undone t_undos t_aside t_bays t_bests t_kept t_keptUndos t_isKept t_lanes t_sizes t_items t_moved) (fun r : Int32 × (Nat → Int32) × (Nat → Int32) × Int32 => (some (.int r.1), (w_X7 cI cL cC cM cS a r.2.1 t_mores t_tape t_typed t_place t_isFault t_readLamps t_read r.2.2.1 r.2.2.2 t_aside t_bays t_bests t_kept t_keptUndos t_isKept t_lanes t_sizes t_items t_moved))) (f_X7_change t_now t_undone t_undos x1 x2) := by
  refine MT.of 0 [some (.ref (a 0)), some (.int x1), some (.int x2)] (by decide) (Nat.le_of_ble_eq_true rfl) rfl ?_
  unfold f_X7_change
  refine G.aload_n dX7_change_0 rfl ?_
  refine G.iload_n dX7_change_1 rfl ?_
  refine G.callV (st := []) (w' := fun r2 => (w_X7 cI cL cC cM cS a t_now t_mores t_tape t_typed t_place t_isFault t_readLamps t_read t_undone t_undos t_aside t_bays t_bests t_kept t_keptUndos t_isKept t_lanes t_sizes t_items t_moved)) mv_X7_isHolder lk_7_120 (c_X7_isHolder l D ks cI cL cC cM cS a t_now t_mores t_tape t_typed t_place t_isFault t_readLamps t_read t_undone t_undos t_aside t_bays t_bests t_kept t_keptUndos t_isKept t_lanes t_sizes t_items t_moved x1) [0, 1, 2, 3, 4, 5, 6, 7, 8, 9, 10, 11, 12, 13, 14] [] [0, 1, 2, 3, 4, 5, 6, 7, 8, 9, 10, 11, 12, 13, 14] rfl rfl rfl rfl (by decide +kernel) (fun _ => rfl) rfl (by decide) (Nat.le_of_ble_eq_true rfl) dX7_change_2 (fun r2 => [.int r2]) (fun _ => rfl) (fun r2 _ => ?_)
  refine G.if_eq 21 dX7_change_5 (by decide) (fun h5 => ?_) (fun h5 => ?_)
  · refine G.iconst (-1) dX7_change_21 (by decide) ?_
    exact G.iret rfl rfl dX7_change_22
  · refine G.aload_n dX7_change_8 rfl ?_
    refine G.iload_n dX7_change_9 rfl ?_
    refine G.callV (st := []) (w' := fun r10 => (w_X7 cI cL cC cM cS a t_now t_mores t_tape t_typed t_place t_isFault t_readLamps t_read t_undone t_undos t_aside t_bays t_bests t_kept t_keptUndos t_isKept t_lanes t_sizes t_items t_moved)) mv_X7_isHolder lk_7_120 (c_X7_isHolder l D ks cI cL cC cM cS a t_now t_mores t_tape t_typed t_place t_isFault t_readLamps t_read t_undone t_undos t_aside t_bays t_bests t_kept t_keptUndos t_isKept t_lanes t_sizes t_items t_moved x2) [0, 1, 2, 3, 4, 5, 6, 7, 8, 9, 10, 11, 12, 13, 14] [] [0, 1, 2, 3, 4, 5, 6, 7, 8, 9, 10, 11, 12, 13, 14] rfl rfl rfl rfl (by decide +kernel) (fun _ => rfl) rfl (by decide) (Nat.le_of_ble_eq_true rfl) dX7_change_10 (fun r10 => [.int r10]) (fun _ => rfl) (fun r10 _ => ?_)
    refine G.if_eq 21 dX7_change_13 (by decide) (fun h13 => ?_) (fun h13 => ?_)
    · refine G.iconst (-1) dX7_change_21 (by decide) ?_
      exact G.iret rfl rfl dX7_change_22
    · refine G.iload_n dX7_change_16 rfl ?_
      refine G.iload_n dX7_change_17 rfl ?_
      refine G.icmp_ne 23 dX7_change_18 (by decide) (fun h18 => ?_) (fun h18 => ?_)
      · refine G.aload_n dX7_change_23 rfl ?_
        refine G.callV (st := []) (w' := fun r24 => (w_X7 cI cL cC cM cS a t_now t_mores t_tape t_typed t_place t_isFault t_readLamps t_read r24.1 r24.2 t_aside t_bays t_bests t_kept t_keptUndos t_isKept t_lanes t_sizes t_items t_moved)) mv_X7_notes lk_7_167 (c_X7_notes l D ks cI cL cC cM cS a t_now t_mores t_tape t_typed t_place t_isFault t_readLamps t_read t_undone t_undos t_aside t_bays t_bests t_kept t_keptUndos t_isKept t_lanes t_sizes t_items t_moved) [0, 1, 2, 3, 4, 5, 6, 7, 8, 9, 10, 11, 12, 13, 14] [] [0, 1, 2, 3, 4, 5, 6, 7, 8, 9, 10, 11, 12, 13, 14] rfl rfl rfl rfl (by decide +kernel) (fun _ => rfl) rfl (by decide) (Nat.le_of_ble_eq_true rfl) dX7_change_24 (fun r24 => []) (fun _ => rfl) (fun r24 _ => ?_)
        refine G.aload_n dX7_change_27 rfl ?_
        refine G.iload_n dX7_change_28 rfl ?_
        refine G.iload_n dX7_change_29 rfl ?_
        refine G.callV (st := []) (w' := fun r30 => (w_X7 cI cL cC cM cS a r30 t_mores t_tape t_typed t_place t_isFault t_readLamps t_read r24.1 r24.2 t_aside t_bays t_bests t_kept t_keptUndos t_isKept t_lanes t_sizes t_items t_moved)) mv_X7_exchanges lk_7_173 (c_X7_exchanges l D ks cI cL cC cM cS a t_now t_mores t_tape t_typed t_place t_isFault t_readLamps t_read r24.1 r24.2 t_aside t_bays t_bests t_kept t_keptUndos t_isKept t_lanes t_sizes t_items t_moved x1 x2) [0, 1, 2, 3, 4, 5, 6, 7, 8, 9, 10, 11, 12, 13, 14] [] [0, 1, 2, 3, 4, 5, 6, 7, 8, 9, 10, 11, 12, 13, 14] rfl rfl rfl rfl (by decide +kernel) (fun _ => rfl) rfl (by decide) (Nat.le_of_ble_eq_true rfl) dX7_change_30 (fun r30 => []) (fun _ => rfl) (fun r30 _ => ?_)
        refine G.aload_n dX7_change_33 rfl ?_
        refine G.iload_n dX7_change_34 rfl ?_
        refine G.callV (st := []) (w' := fun r35 => (w_X7 cI cL cC cM cS a r30 t_mores t_tape t_typed t_place t_isFault t_readLamps t_read r24.1 r24.2 t_aside t_bays t_bests t_kept t_keptUndos t_isKept t_lanes t_sizes t_items t_moved)) mv_X7_bayOf lk_7_67 (c_X7_bayOf l D ks cI cL cC cM cS a r30 t_mores t_tape t_typed t_place t_isFault t_readLamps t_read r24.1 r24.2 t_aside t_bays t_bests t_kept t_keptUndos t_isKept t_lanes t_sizes t_items t_moved x1) [0, 1, 2, 3, 4, 5, 6, 7, 8, 9, 10, 11, 12, 13, 14] [] [0, 1, 2, 3, 4, 5, 6, 7, 8, 9, 10, 11, 12, 13, 14] rfl rfl rfl rfl (by decide +kernel) (fun _ => rfl) rfl (by decide) (Nat.le_of_ble_eq_true rfl) dX7_change_35 (fun r35 => [.int r35]) (fun _ => rfl) (fun r35 _ => ?_)
        exact G.iret rfl rfl dX7_change_38
      · refine G.iconst (-1) dX7_change_21 (by decide) ?_
        exact G.iret rfl rfl dX7_change_22
set_option maxHeartbeats 4000000 in
set_option maxRecDepth 100000 in
theorem g_X7_numbers_c4 (l : Launch) (D : va_G) (ks : Nat × Nat) (cI cL cC cM cS : ClassId) (a : Nat → Nat) (t_mores t_tape : Nat → Int32) (t_typed t_place t_isFault : Int32) (t_readLamps t_read t_undone : Nat → Int32) (t_undos : Int32) (t_aside t_bays t_bests t_kept : Nat → Int32) (t_keptUndos t_isKept : Int32) (t_lanes t_sizes : Nat → Int32) (t_items t_moved : Nat → Int64) : ∀ (n : Nat), ∀ (t_now : Nat → Int32) (x1 : Int32) (x2 : Int32), GJ l D ks (tyz cI cL cC cM cS) RX7 cX7_numbers 3 ((some .int)) { frames := 0, cells := 0, slots := 0, locals := 0 } (fun r : Int32 => (some (.int r), (w_X7 cI cL cC cM cS a t_now t_mores t_tape t_typed t_place t_isFault t_readLamps t_read t_undone t_undos t_aside t_bays t_bests t_kept t_keptUndos t_isKept t_lanes t_sizes t_items t_moved))) (w_X7 cI cL cC cM cS a t_now t_mores t_tape t_typed t_place t_isFault t_readLamps t_read t_undone t_undos t_aside t_bays t_bests t_kept t_keptUndos t_isKept t_lanes t_sizes t_items t_moved) 4 [some (.ref (a 0)), some (.int x1), some (.int x2)] [] (f_X7_numbers_c4 n t_now x1 x2) := by
  intro n
  induction n with
  | zero =>
    intro t_now x1 x2
    exact G.no
  | succ n ih =>
    intro t_now x1 x2
    rw [f_X7_numbers_c4]
    refine G.iload_n dX7_numbers_4 rfl ?_
    refine G.aload_n dX7_numbers_5 rfl ?_
    refine G.get fl_7_7 0 rfl rfl dX7_numbers_6 ?_
    refine G.iconst 0 dX7_numbers_9 (by decide) ?_
    refine G.iaload 1 0 rfl rfl 0 (by decide) (by decide) dX7_numbers_10 ?_
    refine G.topi (fun v10 => ?_)
    refine G.icmp_ge 25 dX7_numbers_11 (by decide) (fun h11 => ?_) (fun h11 => ?_)
    · refine G.iload_n dX7_numbers_25 rfl ?_
      exact G.iret rfl rfl dX7_numbers_26
    · refine G.iload_n dX7_numbers_14 rfl ?_
      refine G.bipush 6 dX7_numbers_15 (by decide) ?_
      refine G.imul dX7_numbers_17 ?_
      refine G.istore_n (lv' := [some (.ref (a 0)), some (.int (x1 * 6)), some (.int x2)]) dX7_numbers_18 (by decide) (Nat.le_of_ble_eq_true rfl) rfl rfl ?_
      refine G.iinc 1 (lv' := [some (.ref (a 0)), some (.int (x1 * 6)), some (.int (x2 + 1))]) dX7_numbers_19 rfl (by decide) (by decide) (Nat.le_of_ble_eq_true rfl) rfl rfl ?_
      refine G.goto 4 dX7_numbers_22 (by decide) ?_
      exact ih t_now (x1 * 6) (x2 + 1)
set_option maxHeartbeats 4000000 in
set_option maxRecDepth 100000 in
theorem c_X7_numbers (l : Launch) (D : va_G) (ks : Nat × Nat) (cI cL cC cM cS : ClassId) (a : Nat → Nat) (t_now t_mores t_tape : Nat → Int32) (t_typed t_place t_isFault : Int32) (t_readLamps t_read t_undone : Nat → Int32) (t_undos : Int32) (t_aside t_bays t_bests t_kept : Nat → Int32) (t_keptUndos t_isKept : Int32) (t_lanes t_sizes : Nat → Int32) (t_items t_moved : Nat → Int64) : MT l D ks (tyz cI cL cC cM cS) yX7_numbers cX7_numbers 3 ((some .int)) { frames := 0, cells := 0, slots := 0, locals := 0 } [.ref (a 0)] (w_X7 cI cL cC cM cS a t_now t_mores t_tape t_typed t_place t_isFault t_readLamps t_read t_undone t_undos t_aside t_bays t_bests t_kept t_keptUndos t_isKept t_lanes t_sizes t_items t_moved) (fun r : Int32 => (some (.int r), (w_X7 cI cL cC cM cS a t_now t_mores t_tape t_typed t_place t_isFault t_readLamps t_read t_undone t_undos t_aside t_bays t_bests t_kept t_keptUndos t_isKept t_lanes t_sizes t_items t_moved))) (f_X7_numbers t_now) := by
  refine MT.of 2 [some (.ref (a 0)), none, none] (by decide) (Nat.le_of_ble_eq_true rfl) rfl ?_
  unfold f_X7_numbers
  refine G.iconst 1 dX7_numbers_0 (by decide) ?_
  refine G.istore_n (lv' := [some (.ref (a 0)), some (.int 1), none]) dX7_numbers_1 (by decide) (Nat.le_of_ble_eq_true rfl) rfl rfl ?_
  refine G.iconst 0 dX7_numbers_2 (by decide) ?_
  refine G.istore_n (lv' := [some (.ref (a 0)), some (.int 1), some (.int 0)]) dX7_numbers_3 (by decide) (Nat.le_of_ble_eq_true rfl) rfl rfl ?_
  exact g_X7_numbers_c4 l D ks cI cL cC cM cS a t_mores t_tape t_typed t_place t_isFault t_readLamps t_read t_undone t_undos t_aside t_bays t_bests t_kept t_keptUndos t_isKept t_lanes t_sizes t_items t_moved fu t_now 1 0
set_option maxHeartbeats 4000000 in
set_option maxRecDepth 100000 in
theorem g_X7_isDealt_c17 (l : Launch) (D : va_G) (ks : Nat × Nat) (cI cL cC cM cS : ClassId) (a : Nat → Nat) (t_mores t_tape : Nat → Int32) (t_typed t_place t_isFault : Int32) (t_readLamps t_read t_undone : Nat → Int32) (t_undos : Int32) (t_aside t_bests t_kept : Nat → Int32) (t_keptUndos t_isKept : Int32) (t_lanes t_sizes : Nat → Int32) (t_items t_moved : Nat → Int64) : ∀ (n : Nat), ∀ (t_now t_bays : Nat → Int32) (x2 : Int32) (x3 : Int32) (x4 : Int32) (x5 : Int32), GJ l D ks (tyz cI cL cC cM cS) RX7 cX7_isDealt 6 ((some .boolean)) { frames := 0, cells := 0, slots := 0, locals := 0 } (fun r : Int32 × (Nat → Int32) => (some (.int r.1), (w_X7 cI cL cC cM cS a t_now t_mores t_tape t_typed t_place t_isFault t_readLamps t_read t_undone t_undos t_aside r.2 t_bests t_kept t_keptUndos t_isKept t_lanes t_sizes t_items t_moved))) (w_X7 cI cL cC cM cS a t_now t_mores t_tape t_typed t_place t_isFault t_readLamps t_read t_undone t_undos t_aside t_bays t_bests t_kept t_keptUndos t_isKept t_lanes t_sizes t_items t_moved) 17 [some (.ref (a 0)), none, some (.int x2), some (.int x3), some (.int x4), some (.int x5)] [] (f_X7_isDealt_c17 n t_now t_bays x2 x3 x4 x5) := by
  intro n
  induction n with
  | zero =>
    intro t_now t_bays x2 x3 x4 x5
    exact G.no
  | succ n ih =>
    intro t_now t_bays x2 x3 x4 x5
    rw [f_X7_isDealt_c17]
    refine G.iload dX7_isDealt_17 rfl ?_
    refine G.if_lt 82 dX7_isDealt_19 (by decide) (fun h19 => ?_) (fun h19 => ?_)
    · refine G.iload dX7_isDealt_82 rfl ?_
      refine G.chk (fun h84 => ?_)
      exact G.zret rfl rfl (isb_n h84) dX7_isDealt_84
    · refine G.aload_n dX7_isDealt_22 rfl ?_
      refine G.get fl_7_31 0 rfl rfl dX7_isDealt_23 ?_
      refine G.iload dX7_isDealt_26 rfl ?_
      refine G.iload_n dX7_isDealt_28 rfl ?_
      refine G.bipush 6 dX7_isDealt_29 (by decide) ?_
      refine G.irem dX7_isDealt_31 (by decide) ?_
      refine G.chk (fun h32 => ?_)
      refine G.iastore (w' := (w_X7 cI cL cC cM cS a t_now t_mores t_tape t_typed t_place t_isFault t_readLamps t_read t_undone t_undos t_aside (upd t_bays x5.toNatClampNeg (x2 - x2 / 6 * 6)) t_bests t_kept t_keptUndos t_isKept t_lanes t_sizes t_items t_moved)) 8 0 rfl rfl x5.toNatClampNeg rfl h32 rfl dX7_isDealt_32 ?_
      refine G.iload_n dX7_isDealt_33 rfl ?_
      refine G.bipush 6 dX7_isDealt_34 (by decide) ?_
      refine G.idiv dX7_isDealt_36 (by decide) ?_
      refine G.istore_n (lv' := [some (.ref (a 0)), none, some (.int (x2 / 6)), some (.int x3), some (.int x4), some (.int x5)]) dX7_isDealt_37 (by decide) (Nat.le_of_ble_eq_true rfl) rfl rfl ?_
      refine G.iload dX7_isDealt_38 rfl ?_
      refine G.join (st := []) Value.int 62 (fun v62 => ?_) (fun hJ => ?_)
      · refine G.istore (lv' := [some (.ref (a 0)), none, some (.int (x2 / 6)), some (.int x3), some (.int v62), some (.int x5)]) dX7_isDealt_62 (by decide) (Nat.le_of_ble_eq_true rfl) rfl rfl ?_
        refine G.iload_n dX7_isDealt_64 rfl ?_
        refine G.iconst 1 dX7_isDealt_65 (by decide) ?_
        refine G.aload_n dX7_isDealt_66 rfl ?_
        refine G.get fl_7_31 0 rfl rfl dX7_isDealt_67 ?_
        refine G.iload dX7_isDealt_70 rfl ?_
        refine G.iaload 8 0 rfl rfl x5.toNatClampNeg rfl h32 dX7_isDealt_72 ?_
        refine G.topi (fun v72 => ?_)
        refine G.ishl dX7_isDealt_73 ?_
        refine G.ior dX7_isDealt_74 ?_
        refine G.istore_n (lv' := [some (.ref (a 0)), none, some (.int (x2 / 6)), some (.int (x3 ||| (1 <<< (v72 &&& 31)))), some (.int v62), some (.int x5)]) dX7_isDealt_75 (by decide) (Nat.le_of_ble_eq_true rfl) rfl rfl ?_
        refine G.iinc (-1) (lv' := [some (.ref (a 0)), none, some (.int (x2 / 6)), some (.int (x3 ||| (1 <<< (v72 &&& 31)))), some (.int v62), some (.int (x5 + (-1)))]) dX7_isDealt_76 rfl (by decide) (by decide) (Nat.le_of_ble_eq_true rfl) rfl rfl ?_
        refine G.goto 17 dX7_isDealt_79 (by decide) ?_
        exact ih t_now (upd t_bays x5.toNatClampNeg (x2 - x2 / 6 * 6)) (x2 / 6) (x3 ||| (1 <<< (v72 &&& 31))) v62 (x5 + (-1))
      · refine G.ite ?_
        refine G.if_eq 61 dX7_isDealt_40 (by decide) (fun _ => ?_) (fun _ => ?_)
        · refine G.iconst 0 dX7_isDealt_61 (by decide) ?_
          exact hJ _
        · refine G.iload_n dX7_isDealt_43 rfl ?_
          refine G.aload_n dX7_isDealt_44 rfl ?_
          refine G.get fl_7_31 0 rfl rfl dX7_isDealt_45 ?_
          refine G.iload dX7_isDealt_48 rfl ?_
          refine G.iaload 8 0 rfl rfl x5.toNatClampNeg rfl h32 dX7_isDealt_50 ?_
          refine G.ishr dX7_isDealt_51 ?_
          refine G.iconst 1 dX7_isDealt_52 (by decide) ?_
          refine G.iand dX7_isDealt_53 ?_
          refine G.ite ?_
          refine G.if_ne 61 dX7_isDealt_54 (by decide) (fun _ => ?_) (fun _ => ?_)
          · refine G.iconst 0 dX7_isDealt_61 (by decide) ?_
            exact hJ _
          · refine G.iconst 1 dX7_isDealt_57 (by decide) ?_
            refine G.goto 62 dX7_isDealt_58 (by decide) ?_
            exact hJ _
set_option maxHeartbeats 4000000 in
set_option maxRecDepth 100000 in
theorem c_X7_isDealt (l : Launch) (D : va_G) (ks : Nat × Nat) (cI cL cC cM cS : ClassId) (a : Nat → Nat) (t_now t_mores t_tape : Nat → Int32) (t_typed t_place t_isFault : Int32) (t_readLamps t_read t_undone : Nat → Int32) (t_undos : Int32) (t_aside t_bays t_bests t_kept : Nat → Int32) (t_keptUndos t_isKept : Int32) (t_lanes t_sizes : Nat → Int32) (t_items t_moved : Nat → Int64) (x1 : Int32) : MT l D ks (tyz cI cL cC cM cS) yX7_isDealt cX7_isDealt 6 ((some .boolean)) { frames := 0, cells := 0, slots := 0, locals := 0 } [.ref (a 0), .int x1] (w_X7 cI cL cC cM cS a t_now t_mores t_tape t_typed t_place t_isFault t_readLamps t_read t_undone t_undos t_aside t_bays t_bests t_kept t_keptUndos t_isKept t_lanes t_sizes t_items t_moved) (fun r : Int32 × (Nat → Int32) => (some (.int r.1), (w_X7 cI cL cC cM cS a t_now t_mores t_tape t_typed t_place t_isFault t_readLamps t_read t_undone t_undos t_aside r.2 t_bests t_kept t_keptUndos t_isKept t_lanes t_sizes t_items t_moved))) (f_X7_isDealt t_now t_bays x1) := by
  refine MT.of 4 [some (.ref (a 0)), some (.int x1), none, none, none, none] (by decide) (Nat.le_of_ble_eq_true rfl) rfl ?_
  unfold f_X7_isDealt
  refine G.iload_n dX7_isDealt_0 rfl ?_
  refine G.istore_n (lv' := [some (.ref (a 0)), some (.int x1), some (.int x1), none, none, none]) dX7_isDealt_1 (by decide) (Nat.le_of_ble_eq_true rfl) rfl rfl ?_
  refine G.iconst 0 dX7_isDealt_2 (by decide) ?_
  refine G.istore_n (lv' := [some (.ref (a 0)), some (.int x1), some (.int x1), some (.int 0), none, none]) dX7_isDealt_3 (by decide) (Nat.le_of_ble_eq_true rfl) rfl rfl ?_
  refine G.iconst 1 dX7_isDealt_4 (by decide) ?_
  refine G.istore (lv' := [some (.ref (a 0)), some (.int x1), some (.int x1), some (.int 0), some (.int 1), none]) dX7_isDealt_5 (by decide) (Nat.le_of_ble_eq_true rfl) rfl rfl ?_
  refine G.aload_n dX7_isDealt_7 rfl ?_
  refine G.get fl_7_7 0 rfl rfl dX7_isDealt_8 ?_
  refine G.iconst 0 dX7_isDealt_11 (by decide) ?_
  refine G.iaload 1 0 rfl rfl 0 (by decide) (by decide) dX7_isDealt_12 ?_
  refine G.topi (fun v12 => ?_)
  refine G.iconst 1 dX7_isDealt_13 (by decide) ?_
  refine G.isub dX7_isDealt_14 ?_
  refine G.istore (lv' := [some (.ref (a 0)), some (.int x1), some (.int x1), some (.int 0), some (.int 1), some (.int (v12 - 1))]) dX7_isDealt_15 (by decide) (Nat.le_of_ble_eq_true rfl) rfl rfl ?_
  refine G.mask (lv' := [some (.ref (a 0)), none, some (.int x1), some (.int 0), some (.int 1), some (.int (v12 - 1))]) [true, false, true, true, true, true] rfl ?_
  exact g_X7_isDealt_c17 l D ks cI cL cC cM cS a t_mores t_tape t_typed t_place t_isFault t_readLamps t_read t_undone t_undos t_aside t_bests t_kept t_keptUndos t_isKept t_lanes t_sizes t_items t_moved fu t_now t_bays x1 0 1 (v12 - 1)
set_option maxHeartbeats 4000000 in
set_option maxRecDepth 100000 in
theorem g_X7_content_c108 (l : Launch) (D : va_G) (ks : Nat × Nat) (cI cL cC cM cS : ClassId) (a : Nat → Nat) (t_mores t_tape : Nat → Int32) (t_typed t_place t_isFault : Int32) (t_readLamps t_read t_undone : Nat → Int32) (t_undos : Int32) (t_aside t_bests t_kept : Nat → Int32) (t_keptUndos t_isKept : Int32) (t_lanes t_sizes : Nat → Int32) (t_items t_moved : Nat → Int64) (k21 : (Nat → Int32) → (Nat → Int32) → Int32 → Int32 → Int32 → Int32 → Int32 → (Option (Int32 × (Nat → Int32)))) (hk21 : ∀ (t_now t_bays : Nat → Int32) (x1 : Int32) (x2 : Int32) (x3 : Int32) (x4 : Int32) (x5 : Int32), GJ l D ks (tyz cI cL cC cM cS) RX7 cX7_content 8 ((some .int)) { frames := 1, cells := 0, slots := 0, locals := 25 } (fun r : Int32 × (Nat → Int32) => (some (.int r.1), (w_X7 cI cL cC cM cS a t_now t_mores t_tape t_typed t_place t_isFault t_readLamps t_read t_undone t_undos t_aside r.2 t_bests t_kept t_keptUndos t_isKept t_lanes t_sizes t_items t_moved))) (w_X7 cI cL cC cM cS a t_now t_mores t_tape t_typed t_place t_isFault t_readLamps t_read t_undone t_undos t_aside t_bays t_bests t_kept t_keptUndos t_isKept t_lanes t_sizes t_items t_moved) 21 [some (.ref (a 0)), some (.int x1), some (.int x2), some (.int x3), some (.int x4), some (.int x5), none, none] [] (k21 t_now t_bays x1 x2 x3 x4 x5)) (t_now t_bays : Nat → Int32) (x1 : Int32) (x2 : Int32) (x3 : Int32) (x4 : Int32) (x5 : Int32) : GJ l D ks (tyz cI cL cC cM cS) RX7 cX7_content 8 ((some .int)) { frames := 1, cells := 0, slots := 0, locals := 25 } (fun r : Int32 × (Nat → Int32) => (some (.int r.1), (w_X7 cI cL cC cM cS a t_now t_mores t_tape t_typed t_place t_isFault t_readLamps t_read t_undone t_undos t_aside r.2 t_bests t_kept t_keptUndos t_isKept t_lanes t_sizes t_items t_moved))) (w_X7 cI cL cC cM cS a t_now t_mores t_tape t_typed t_place t_isFault t_readLamps t_read t_undone t_undos t_aside t_bays t_bests t_kept t_keptUndos t_isKept t_lanes t_sizes t_items t_moved) 108 [some (.ref (a 0)), some (.int x1), some (.int x2), some (.int x3), some (.int x4), some (.int x5), none, none] [] (f_X7_content_c108 k21 t_now t_bays x1 x2 x3 x4 x5) := by
  unfold f_X7_content_c108
  refine G.iinc 1 (lv' := [some (.ref (a 0)), some (.int x1), some (.int x2), some (.int x3), some (.int x4), some (.int (x5 + 1)), none, none]) dX7_content_108 rfl (by decide) (by decide) (Nat.le_of_ble_eq_true rfl) rfl rfl ?_
  refine G.goto 21 dX7_content_111 (by decide) ?_
  exact hk21 t_now t_bays x1 x2 x3 x4 (x5 + 1)
set_option maxHeartbeats 4000000 in
set_option maxRecDepth 100000 in
theorem g_X7_content_c43 (l : Launch) (D : va_G) (ks : Nat × Nat) (cI cL cC cM cS : ClassId) (a : Nat → Nat) (t_mores t_tape : Nat → Int32) (t_typed t_place t_isFault : Int32) (t_readLamps t_read t_undone : Nat → Int32) (t_undos : Int32) (t_aside t_bests t_kept : Nat → Int32) (t_keptUndos t_isKept : Int32) (t_lanes t_sizes : Nat → Int32) (t_items t_moved : Nat → Int64) (k21 : (Nat → Int32) → (Nat → Int32) → Int32 → Int32 → Int32 → Int32 → Int32 → (Option (Int32 × (Nat → Int32)))) (hk21 : ∀ (t_now t_bays : Nat → Int32) (x1 : Int32) (x2 : Int32) (x3 : Int32) (x4 : Int32) (x5 : Int32), GJ l D ks (tyz cI cL cC cM cS) RX7 cX7_content 8 ((some .int)) { frames := 1, cells := 0, slots := 0, locals := 25 } (fun r : Int32 × (Nat → Int32) => (some (.int r.1), (w_X7 cI cL cC cM cS a t_now t_mores t_tape t_typed t_place t_isFault t_readLamps t_read t_undone t_undos t_aside r.2 t_bests t_kept t_keptUndos t_isKept t_lanes t_sizes t_items t_moved))) (w_X7 cI cL cC cM cS a t_now t_mores t_tape t_typed t_place t_isFault t_readLamps t_read t_undone t_undos t_aside t_bays t_bests t_kept t_keptUndos t_isKept t_lanes t_sizes t_items t_moved) 21 [some (.ref (a 0)), some (.int x1), some (.int x2), some (.int x3), some (.int x4), some (.int x5), none, none] [] (k21 t_now t_bays x1 x2 x3 x4 x5)) : ∀ (n : Nat), ∀ (t_now t_bays : Nat → Int32) (x1 : Int32) (x2 : Int32) (x3 : Int32) (x4 : Int32) (x5 : Int32) (x6 : Int32) (x7 : Int32), GJ l D ks (tyz cI cL cC cM cS) RX7 cX7_content 8 ((some .int)) { frames := 1, cells := 0, slots := 0, locals := 25 } (fun r : Int32 × (Nat → Int32) => (some (.int r.1), (w_X7 cI cL cC cM cS a t_now t_mores t_tape t_typed t_place t_isFault t_readLamps t_read t_undone t_undos t_aside r.2 t_bests t_kept t_keptUndos t_isKept t_lanes t_sizes t_items t_moved))) (w_X7 cI cL cC cM cS a t_now t_mores t_tape t_typed t_place t_isFault t_readLamps t_read t_undone t_undos t_aside t_bays t_bests t_kept t_keptUndos t_isKept t_lanes t_sizes t_items t_moved) 43 [some (.ref (a 0)), some (.int x1), some (.int x2), some (.int x3), some (.int x4), some (.int x5), some (.int x6), some (.int x7)] [] (f_X7_content_c43 k21 n t_now t_bays x1 x2 x3 x4 x5 x6 x7) := by
  intro n
  induction n with
  | zero =>
    intro t_now t_bays x1 x2 x3 x4 x5 x6 x7
    exact G.no
  | succ n ih =>
    intro t_now t_bays x1 x2 x3 x4 x5 x6 x7
    rw [f_X7_content_c43]
    refine G.iload dX7_content_43 rfl ?_
    refine G.aload_n dX7_content_45 rfl ?_
    refine G.get fl_7_7 0 rfl rfl dX7_content_46 ?_
    refine G.iconst 0 dX7_content_49 (by decide) ?_
    refine G.iaload 1 0 rfl rfl 0 (by decide) (by decide) dX7_content_50 ?_
    refine G.topi (fun v50 => ?_)
    refine G.icmp_ge 82 dX7_content_51 (by decide) (fun h51 => ?_) (fun h51 => ?_)
    · refine G.iload dX7_content_82 rfl ?_
      refine G.iload_n dX7_content_84 rfl ?_
      refine G.join (st := []) Value.int 94 (fun v94 => ?_) (fun hJ => ?_)
      · refine G.istore_n (lv' := [some (.ref (a 0)), some (.int x1), some (.int v94), some (.int x3), some (.int x4), some (.int x5), some (.int x6), some (.int x7)]) dX7_content_94 (by decide) (Nat.le_of_ble_eq_true rfl) rfl rfl ?_
        refine G.iload dX7_content_95 rfl ?_
        refine G.iload_n dX7_content_97 rfl ?_
        refine G.join (st := []) Value.int 107 (fun v107 => ?_) (fun hJ => ?_)
        · refine G.istore_n (lv' := [some (.ref (a 0)), some (.int x1), some (.int v94), some (.int v107), some (.int x4), some (.int x5), some (.int x6), some (.int x7)]) dX7_content_107 (by decide) (Nat.le_of_ble_eq_true rfl) rfl rfl ?_
          refine G.mask (lv' := [some (.ref (a 0)), some (.int x1), some (.int v94), some (.int v107), some (.int x4), some (.int x5), none, none]) [true, true, true, true, true, true, false, false] rfl ?_
          exact g_X7_content_c108 l D ks cI cL cC cM cS a t_mores t_tape t_typed t_place t_isFault t_readLamps t_read t_undone t_undos t_aside t_bests t_kept t_keptUndos t_isKept t_lanes t_sizes t_items t_moved k21 hk21 t_now t_bays x1 v94 v107 x4 x5
        · refine G.ite ?_
          refine G.icmp_ge 106 dX7_content_98 (by decide) (fun _ => ?_) (fun _ => ?_)
          · refine G.iload_n dX7_content_106 rfl ?_
            exact hJ _
          · refine G.iload dX7_content_101 rfl ?_
            refine G.goto 107 dX7_content_103 (by decide) ?_
            exact hJ _
      · refine G.ite ?_
        refine G.icmp_ge 93 dX7_content_85 (by decide) (fun _ => ?_) (fun _ => ?_)
        · refine G.iload_n dX7_content_93 rfl ?_
          exact hJ _
        · refine G.iload dX7_content_88 rfl ?_
          refine G.goto 94 dX7_content_90 (by decide) ?_
          exact hJ _
    · refine G.iload dX7_content_54 rfl ?_
      refine G.aload_n dX7_content_56 rfl ?_
      refine G.get fl_7_31 0 rfl rfl dX7_content_57 ?_
      refine G.iload dX7_content_60 rfl ?_
      refine G.chk (fun h62 => ?_)
      refine G.iaload 8 0 rfl rfl x7.toNatClampNeg rfl h62 dX7_content_62 ?_
      refine G.topi (fun v62 => ?_)
      refine G.aload_n dX7_content_63 rfl ?_
      refine G.iload dX7_content_64 rfl ?_
      refine G.iconst 3 dX7_content_66 (by decide) ?_
      refine G.callV (st := [.int v62, .int x6]) (w' := fun r67 => (w_X7 cI cL cC cM cS a t_now t_mores t_tape t_typed t_place t_isFault t_readLamps t_read t_undone t_undos t_aside t_bays t_bests t_kept t_keptUndos t_isKept t_lanes t_sizes t_items t_moved)) mv_X7_told lk_7_59 (c_X7_told l D ks cI cL cC cM cS a t_now t_mores t_tape t_typed t_place t_isFault t_readLamps t_read t_undone t_undos t_aside t_bays t_bests t_kept t_keptUndos t_isKept t_lanes t_sizes t_items t_moved x7 3) [0, 1, 2, 3, 4, 5, 6, 7, 8, 9, 10, 11, 12, 13, 14] [] [0, 1, 2, 3, 4, 5, 6, 7, 8, 9, 10, 11, 12, 13, 14] rfl rfl rfl rfl (by decide +kernel) (fun _ => rfl) rfl (by decide) (Nat.le_of_ble_eq_true rfl) dX7_content_67 (fun r67 => [.int r67, .int v62, .int x6]) (fun _ => rfl) (fun r67 _ => ?_)
      refine G.callS (st := [.int x6]) (w' := fun r70 => (w_X7 cI cL cC cM cS a t_now t_mores t_tape t_typed t_place t_isFault t_readLamps t_read t_undone t_undos t_aside t_bays t_bests t_kept t_keptUndos t_isKept t_lanes t_sizes t_items t_moved)) ms_X7_apart lk_7_70 (c_X7_apart l D ks cI cL cC cM cS v62 r67) [] [0, 1, 2, 3, 4, 5, 6, 7, 8, 9, 10, 11, 12, 13, 14] [0, 1, 2, 3, 4, 5, 6, 7, 8, 9, 10, 11, 12, 13, 14] rfl rfl rfl rfl (by decide +kernel) (fun _ => rfl) (by decide) (Nat.le_of_ble_eq_true rfl) dX7_content_70 (fun r70 => [.int r70, .int x6]) (fun _ => rfl) (fun r70 _ => ?_)
      refine G.iadd dX7_content_73 ?_
      refine G.istore (lv' := [some (.ref (a 0)), some (.int x1), some (.int x2), some (.int x3), some (.int x4), some (.int x5), some (.int (x6 + r70)), some (.int x7)]) dX7_content_74 (by decide) (Nat.le_of_ble_eq_true rfl) rfl rfl ?_
      refine G.iinc 1 (lv' := [some (.ref (a 0)), some (.int x1), some (.int x2), some (.int x3), some (.int x4), some (.int x5), some (.int (x6 + r70)), some (.int (x7 + 1))]) dX7_content_76 rfl (by decide) (by decide) (Nat.le_of_ble_eq_true rfl) rfl rfl ?_
      refine G.goto 43 dX7_content_79 (by decide) ?_
      exact ih t_now t_bays x1 x2 x3 x4 x5 (x6 + r70) (x7 + 1)
set_option maxHeartbeats 4000000 in
set_option maxRecDepth 100000 in
theorem g_X7_content_c21 (l : Launch) (D : va_G) (ks : Nat × Nat) (cI cL cC cM cS : ClassId) (a : Nat → Nat) (t_mores t_tape : Nat → Int32) (t_typed t_place t_isFault : Int32) (t_readLamps t_read t_undone : Nat → Int32) (t_undos : Int32) (t_aside t_bests t_kept : Nat → Int32) (t_keptUndos t_isKept : Int32) (t_lanes t_sizes : Nat → Int32) (t_items t_moved : Nat → Int64) : ∀ (n : Nat), ∀ (t_now t_bays : Nat → Int32) (x1 : Int32) (x2 : Int32) (x3 : Int32) (x4 : Int32) (x5 : Int32), GJ l D ks (tyz cI cL cC cM cS) RX7 cX7_content 8 ((some .int)) { frames := 1, cells := 0, slots := 0, locals := 25 } (fun r : Int32 × (Nat → Int32) => (some (.int r.1), (w_X7 cI cL cC cM cS a t_now t_mores t_tape t_typed t_place t_isFault t_readLamps t_read t_undone t_undos t_aside r.2 t_bests t_kept t_keptUndos t_isKept t_lanes t_sizes t_items t_moved))) (w_X7 cI cL cC cM cS a t_now t_mores t_tape t_typed t_place t_isFault t_readLamps t_read t_undone t_undos t_aside t_bays t_bests t_kept t_keptUndos t_isKept t_lanes t_sizes t_items t_moved) 21 [some (.ref (a 0)), some (.int x1), some (.int x2), some (.int x3), some (.int x4), some (.int x5), none, none] [] (f_X7_content_c21 n t_now t_bays x1 x2 x3 x4 x5) := by
  intro n
  induction n with
  | zero =>
    intro t_now t_bays x1 x2 x3 x4 x5
    exact G.no
  | succ n ih =>
    intro t_now t_bays x1 x2 x3 x4 x5
    rw [f_X7_content_c21]
    refine G.iload dX7_content_21 rfl ?_
    refine G.iload dX7_content_23 rfl ?_
    refine G.icmp_ge 114 dX7_content_25 (by decide) (fun h25 => ?_) (fun h25 => ?_)
    · refine G.aload_n dX7_content_114 rfl ?_
      refine G.iload_n dX7_content_115 rfl ?_
      refine G.callV (st := []) (w' := fun r116 => (w_X7 cI cL cC cM cS a t_now t_mores t_tape t_typed t_place t_isFault t_readLamps t_read t_undone t_undos t_aside r116.2 t_bests t_kept t_keptUndos t_isKept t_lanes t_sizes t_items t_moved)) mv_X7_isDealt lk_7_202 (c_X7_isDealt l D ks cI cL cC cM cS a t_now t_mores t_tape t_typed t_place t_isFault t_readLamps t_read t_undone t_undos t_aside t_bays t_bests t_kept t_keptUndos t_isKept t_lanes t_sizes t_items t_moved x2) [0, 1, 2, 3, 4, 5, 6, 7, 8, 9, 10, 11, 12, 13, 14] [] [0, 1, 2, 3, 4, 5, 6, 7, 8, 9, 10, 11, 12, 13, 14] rfl rfl rfl rfl (by decide +kernel) (fun _ => rfl) rfl (by decide) (Nat.le_of_ble_eq_true rfl) dX7_content_116 (fun r116 => [.int r116.1]) (fun _ => rfl) (fun r116 _ => ?_)
      refine G.pop dX7_content_119 rfl ?_
      refine G.iload_n dX7_content_120 rfl ?_
      refine G.if_ge 128 dX7_content_121 (by decide) (fun h121 => ?_) (fun h121 => ?_)
      · refine G.iload_n dX7_content_128 rfl ?_
        refine G.aload_n dX7_content_129 rfl ?_
        refine G.get fl_7_7 0 rfl rfl dX7_content_130 ?_
        refine G.iconst 0 dX7_content_133 (by decide) ?_
        refine G.iaload 1 0 rfl rfl 0 (by decide) (by decide) dX7_content_134 ?_
        refine G.topi (fun v134 => ?_)
        refine G.icmp_ge 147 dX7_content_135 (by decide) (fun h135 => ?_) (fun h135 => ?_)
        · refine G.bipush (-4) dX7_content_147 (by decide) ?_
          exact G.iret rfl rfl dX7_content_149
        · refine G.aload_n dX7_content_138 rfl ?_
          refine G.get fl_7_31 0 rfl rfl dX7_content_139 ?_
          refine G.iload_n dX7_content_142 rfl ?_
          refine G.chk (fun h143 => ?_)
          refine G.iaload 8 0 rfl rfl x1.toNatClampNeg rfl h143 dX7_content_143 ?_
          refine G.topi (fun v143 => ?_)
          refine G.goto 149 dX7_content_144 (by decide) ?_
          exact G.iret rfl rfl dX7_content_149
      · refine G.iload_n dX7_content_124 rfl ?_
        refine G.goto 149 dX7_content_125 (by decide) ?_
        exact G.iret rfl rfl dX7_content_149
    · refine G.aload_n dX7_content_28 rfl ?_
      refine G.iload dX7_content_29 rfl ?_
      refine G.callV (st := []) (w' := fun r31 => (w_X7 cI cL cC cM cS a t_now t_mores t_tape t_typed t_place t_isFault t_readLamps t_read t_undone t_undos t_aside r31.2 t_bests t_kept t_keptUndos t_isKept t_lanes t_sizes t_items t_moved)) mv_X7_isDealt lk_7_202 (c_X7_isDealt l D ks cI cL cC cM cS a t_now t_mores t_tape t_typed t_place t_isFault t_readLamps t_read t_undone t_undos t_aside t_bays t_bests t_kept t_keptUndos t_isKept t_lanes t_sizes t_items t_moved x5) [0, 1, 2, 3, 4, 5, 6, 7, 8, 9, 10, 11, 12, 13, 14] [] [0, 1, 2, 3, 4, 5, 6, 7, 8, 9, 10, 11, 12, 13, 14] rfl rfl rfl rfl (by decide +kernel) (fun _ => rfl) rfl (by decide) (Nat.le_of_ble_eq_true rfl) dX7_content_31 (fun r31 => [.int r31.1]) (fun _ => rfl) (fun r31 _ => ?_)
      refine G.if_eq 108 dX7_content_34 (by decide) (fun h34 => ?_) (fun h34 => ?_)
      · exact g_X7_content_c108 l D ks cI cL cC cM cS a t_mores t_tape t_typed t_place t_isFault t_readLamps t_read t_undone t_undos t_aside t_bests t_kept t_keptUndos t_isKept t_lanes t_sizes t_items t_moved (f_X7_content_c21 n) ih t_now r31.2 x1 x2 x3 x4 x5
      · refine G.iconst 0 dX7_content_37 (by decide) ?_
        refine G.istore (lv' := [some (.ref (a 0)), some (.int x1), some (.int x2), some (.int x3), some (.int x4), some (.int x5), some (.int 0), none]) dX7_content_38 (by decide) (Nat.le_of_ble_eq_true rfl) rfl rfl ?_
        refine G.iconst 0 dX7_content_40 (by decide) ?_
        refine G.istore (lv' := [some (.ref (a 0)), some (.int x1), some (.int x2), some (.int x3), some (.int x4), some (.int x5), some (.int 0), some (.int 0)]) dX7_content_41 (by decide) (Nat.le_of_ble_eq_true rfl) rfl rfl ?_
        exact g_X7_content_c43 l D ks cI cL cC cM cS a t_mores t_tape t_typed t_place t_isFault t_readLamps t_read t_undone t_undos t_aside t_bests t_kept t_keptUndos t_isKept t_lanes t_sizes t_items t_moved (f_X7_content_c21 n) ih fu t_now r31.2 x1 x2 x3 x4 x5 0 0
set_option maxHeartbeats 4000000 in
set_option maxRecDepth 100000 in
theorem c_X7_content (l : Launch) (D : va_G) (ks : Nat × Nat) (cI cL cC cM cS : ClassId) (a : Nat → Nat) (t_now t_mores t_tape : Nat → Int32) (t_typed t_place t_isFault : Int32) (t_readLamps t_read t_undone : Nat → Int32) (t_undos : Int32) (t_aside t_bays t_bests t_kept : Nat → Int32) (t_keptUndos t_isKept : Int32) (t_lanes t_sizes : Nat → Int32) (t_items t_moved : Nat → Int64) (x1 : Int32) : MT l D ks (tyz cI cL cC cM cS) yX7_content cX7_content 8 ((some .int)) { frames := 1, cells := 0, slots := 0, locals := 25 } [.ref (a 0), .int x1] (w_X7 cI cL cC cM cS a t_now t_mores t_tape t_typed t_place t_isFault t_readLamps t_read t_undone t_undos t_aside t_bays t_bests t_kept t_keptUndos t_isKept t_lanes t_sizes t_items t_moved) (fun r : Int32 × (Nat → Int32) => (some (.int r.1), (w_X7 cI cL cC cM cS a t_now t_mores t_tape t_typed t_place t_isFault t_readLamps t_read t_undone t_undos t_aside r.2 t_bests t_kept t_keptUndos t_isKept t_lanes t_sizes t_items t_moved))) (f_X7_content t_now t_bays x1) := by
  refine MT.of 6 [some (.ref (a 0)), some (.int x1), none, none, none, none, none, none] (by decide) (Nat.le_of_ble_eq_true rfl) rfl ?_
  unfold f_X7_content
  refine G.iload_n dX7_content_0 rfl ?_
  refine G.iconst (-1) dX7_content_1 (by decide) ?_
  refine G.icmp_ge 7 dX7_content_2 (by decide) (fun h2 => ?_) (fun h2 => ?_)
  · refine G.iconst 0 dX7_content_7 (by decide) ?_
    refine G.istore_n (lv' := [some (.ref (a 0)), some (.int x1), some (.int 0), none, none, none, none, none]) dX7_content_8 (by decide) (Nat.le_of_ble_eq_true rfl) rfl rfl ?_
    refine G.bipush 99 dX7_content_9 (by decide) ?_
    refine G.istore_n (lv' := [some (.ref (a 0)), some (.int x1), some (.int 0), some (.int 99), none, none, none, none]) dX7_content_11 (by decide) (Nat.le_of_ble_eq_true rfl) rfl rfl ?_
    refine G.aload_n dX7_content_12 rfl ?_
    refine G.callV (st := []) (w' := fun r13 => (w_X7 cI cL cC cM cS a t_now t_mores t_tape t_typed t_place t_isFault t_readLamps t_read t_undone t_undos t_aside t_bays t_bests t_kept t_keptUndos t_isKept t_lanes t_sizes t_items t_moved)) mv_X7_numbers lk_7_199 (c_X7_numbers l D ks cI cL cC cM cS a t_now t_mores t_tape t_typed t_place t_isFault t_readLamps t_read t_undone t_undos t_aside t_bays t_bests t_kept t_keptUndos t_isKept t_lanes t_sizes t_items t_moved) [0, 1, 2, 3, 4, 5, 6, 7, 8, 9, 10, 11, 12, 13, 14] [] [0, 1, 2, 3, 4, 5, 6, 7, 8, 9, 10, 11, 12, 13, 14] rfl rfl rfl rfl (by decide +kernel) (fun _ => rfl) rfl (by decide) (Nat.le_of_ble_eq_true rfl) dX7_content_13 (fun r13 => [.int r13]) (fun _ => rfl) (fun r13 _ => ?_)
    refine G.istore (lv' := [some (.ref (a 0)), some (.int x1), some (.int 0), some (.int 99), some (.int r13), none, none, none]) dX7_content_16 (by decide) (Nat.le_of_ble_eq_true rfl) rfl rfl ?_
    refine G.iconst 0 dX7_content_18 (by decide) ?_
    refine G.istore (lv' := [some (.ref (a 0)), some (.int x1), some (.int 0), some (.int 99), some (.int r13), some (.int 0), none, none]) dX7_content_19 (by decide) (Nat.le_of_ble_eq_true rfl) rfl rfl ?_
    exact g_X7_content_c21 l D ks cI cL cC cM cS a t_mores t_tape t_typed t_place t_isFault t_readLamps t_read t_undone t_undos t_aside t_bests t_kept t_keptUndos t_isKept t_lanes t_sizes t_items t_moved fu t_now t_bays x1 0 99 r13 0
  · refine G.iconst (-1) dX7_content_5 (by decide) ?_
    exact G.iret rfl rfl dX7_content_6
set_option maxHeartbeats 4000000 in
set_option maxRecDepth 100000 in
theorem c_X7_isSheet (l : Launch) (D : va_G) (ks : Nat × Nat) (cI cL cC cM cS : ClassId) (x0 : Int32) : MT l D ks (tyz cI cL cC cM cS) yX7_isSheet cX7_isSheet 1 ((some .boolean)) { frames := 1, cells := 0, slots := 0, locals := 25 } [.int x0] (w_0 cI cL cC cM cS  ) (fun r : Int32 => (some (.int r), (w_0 cI cL cC cM cS  ))) (f_X7_isSheet x0) := by
  refine MT.of 0 [some (.int x0)] (by decide) (Nat.le_of_ble_eq_true rfl) rfl ?_
  unfold f_X7_isSheet
  refine G.iload_n dX7_isSheet_0 rfl ?_
  refine G.i2l dX7_isSheet_1 ?_
  refine G.lconst 0 dX7_isSheet_2 (by decide) ?_
  refine G.ldc2 kl_7_232 dX7_isSheet_3 ?_
  refine G.callS (st := []) (w' := fun r6 => (w_0 cI cL cC cM cS  )) ms_X7_in lk_7_53 (c_X7_in l D ks cI cL cC cM cS (x0.toInt64) 0 3) [] [] [] rfl rfl rfl rfl (by decide +kernel) (fun _ => rfl) (by decide) (Nat.le_of_ble_eq_true rfl) dX7_isSheet_6 (fun r6 => [.int r6]) (fun _ => rfl) (fun r6 _ => ?_)
  refine G.chk (fun h9 => ?_)
  exact G.zret rfl rfl (isb_n h9) dX7_isSheet_9
set_option maxHeartbeats 4000000 in
set_option maxRecDepth 100000 in
theorem c_X7_why (l : Launch) (D : va_G) (ks : Nat × Nat) (cI cL cC cM cS : ClassId) (a : Nat → Nat) (t_now t_mores t_tape : Nat → Int32) (t_typed t_place t_isFault : Int32) (t_readLamps t_read t_undone : Nat → Int32) (t_undos : Int32) (t_aside t_bays t_bests t_kept : Nat → Int32) (t_keptUndos t_isKept : Int32) (t_lanes t_sizes : Nat → Int32) (t_items t_moved : Nat → Int64) (x1 : Int32) (x2 : Int32) (x3 : Int32) (x4 : Int32) : MT l D ks (tyz cI cL cC cM cS) yX7_why cX7_why 5 ((some .int)) { frames := 0, cells := 0, slots := 0, locals := 0 } [.ref (a 0), .int x1, .int x2, .int x3, .int x4] (w_X7 cI cL cC cM cS a t_now t_mores t_tape t_typed t_place t_isFault t_readLamps t_read t_undone t_undos t_aside t_bays t_bests t_kept t_keptUndos t_isKept t_lanes t_sizes t_items t_moved) (fun r : Int32 => (some (.int r), (w_X7 cI cL cC cM cS a t_now t_mores t_tape t_typed t_place t_isFault t_readLamps t_read t_undone t_undos t_aside t_bays t_bests t_kept t_keptUndos t_isKept t_lanes t_sizes t_items t_moved))) (f_X7_why t_lanes t_sizes x1 x2 x3 x4) := by
  refine MT.of 0 [some (.ref (a 0)), some (.int x1), some (.int x2), some (.int x3), some (.int x4)] (by decide) (Nat.le_of_ble_eq_true rfl) rfl ?_
  unfold f_X7_why
  refine G.aload_n dX7_why_0 rfl ?_
  refine G.get fl_7_40 0 rfl rfl dX7_why_1 ?_
  refine G.iload_n dX7_why_4 rfl ?_
  refine G.chk (fun h5 => ?_)
  refine G.iaload 11 0 rfl rfl x1.toNatClampNeg rfl h5 dX7_why_5 ?_
  refine G.topi (fun v5 => ?_)
  refine G.if_ge 12 dX7_why_6 (by decide) (fun h6 => ?_) (fun h6 => ?_)
  · refine G.aload_n dX7_why_12 rfl ?_
    refine G.get fl_7_40 0 rfl rfl dX7_why_13 ?_
    refine G.iload_n dX7_why_16 rfl ?_
    refine G.iaload 11 0 rfl rfl x1.toNatClampNeg rfl h5 dX7_why_17 ?_
    refine G.topi (fun v17 => ?_)
    refine G.iload_n dX7_why_18 rfl ?_
    refine G.icmp_eq 25 dX7_why_19 (by decide) (fun h19 => ?_) (fun h19 => ?_)
    · refine G.iload_n dX7_why_25 rfl ?_
      refine G.join (st := []) Value.int 57 (fun v57 => ?_) (fun hJ => ?_)
      · exact G.iret rfl rfl dX7_why_57
      · refine G.ite ?_
        refine G.if_lt 51 dX7_why_26 (by decide) (fun _ => ?_) (fun _ => ?_)
        · refine G.bipush (-13) dX7_why_51 (by decide) ?_
          refine G.goto 57 dX7_why_53 (by decide) ?_
          exact hJ _
        · refine G.iload dX7_why_29 rfl ?_
          refine G.ite ?_
          refine G.if_lt 51 dX7_why_31 (by decide) (fun _ => ?_) (fun _ => ?_)
          · refine G.bipush (-13) dX7_why_51 (by decide) ?_
            refine G.goto 57 dX7_why_53 (by decide) ?_
            exact hJ _
          · refine G.iload_n dX7_why_34 rfl ?_
            refine G.i2l dX7_why_35 ?_
            refine G.iload dX7_why_36 rfl ?_
            refine G.i2l dX7_why_38 ?_
            refine G.ladd dX7_why_39 ?_
            refine G.aload_n dX7_why_40 rfl ?_
            refine G.get fl_7_43 0 rfl rfl dX7_why_41 ?_
            refine G.iload_n dX7_why_44 rfl ?_
            refine G.iaload 12 0 rfl rfl x1.toNatClampNeg rfl h5 dX7_why_45 ?_
            refine G.i2l dX7_why_46 ?_
            refine G.lcmp dX7_why_47 ?_
            refine G.ite ?_
            refine G.if_le 56 dX7_why_48 (by decide) (fun _ => ?_) (fun _ => ?_)
            · refine G.iconst 0 dX7_why_56 (by decide) ?_
              exact hJ _
            · refine G.bipush (-13) dX7_why_51 (by decide) ?_
              refine G.goto 57 dX7_why_53 (by decide) ?_
              exact hJ _
    · refine G.bipush (-12) dX7_why_22 (by decide) ?_
      exact G.iret rfl rfl dX7_why_24
  · refine G.bipush (-11) dX7_why_9 (by decide) ?_
    exact G.iret rfl rfl dX7_why_11
set_option maxHeartbeats 4000000 in
set_option maxRecDepth 100000 in
theorem g_X7_copy_c128 (l : Launch) (D : va_G) (ks : Nat × Nat) (cI cL cC cM cS : ClassId) (a : Nat → Nat) (t_now t_mores t_tape : Nat → Int32) (t_typed t_place t_isFault : Int32) (t_readLamps t_read t_undone : Nat → Int32) (t_undos : Int32) (t_aside t_bays t_bests t_kept : Nat → Int32) (t_keptUndos t_isKept : Int32) : ∀ (n : Nat), ∀ (t_lanes t_sizes : Nat → Int32) (t_items t_moved : Nat → Int64) (x3 : Int32) (x4 : Int32) (x5 : Int32) (x7 : Int32), GJ l D ks (tyz cI cL cC cM cS) RX7 cX7_copy 8 ((some .int)) { frames := 2, cells := 0, slots := 0, locals := 45 } (fun r : Int32 × (Nat → Int64) × (Nat → Int64) => (some (.int r.1), (w_X7 cI cL cC cM cS a t_now t_mores t_tape t_typed t_place t_isFault t_readLamps t_read t_undone t_undos t_aside t_bays t_bests t_kept t_keptUndos t_isKept t_lanes t_sizes r.2.1 r.2.2))) (w_X7 cI cL cC cM cS a t_now t_mores t_tape t_typed t_place t_isFault t_readLamps t_read t_undone t_undos t_aside t_bays t_bests t_kept t_keptUndos t_isKept t_lanes t_sizes t_items t_moved) 128 [some (.ref (a 0)), none, none, some (.int x3), some (.int x4), some (.int x5), none, some (.int x7)] [] (f_X7_copy_c128 n t_lanes t_sizes t_items t_moved x3 x4 x5 x7) := by
  intro n
  induction n with
  | zero =>
    intro t_lanes t_sizes t_items t_moved x3 x4 x5 x7
    exact G.no
  | succ n ih =>
    intro t_lanes t_sizes t_items t_moved x3 x4 x5 x7
    rw [f_X7_copy_c128]
    refine G.iload dX7_copy_128 rfl ?_
    refine G.iload dX7_copy_130 rfl ?_
    refine G.icmp_ge 163 dX7_copy_132 (by decide) (fun h132 => ?_) (fun h132 => ?_)
    · refine G.iload dX7_copy_163 rfl ?_
      exact G.iret rfl rfl dX7_copy_165
    · refine G.aload_n dX7_copy_135 rfl ?_
      refine G.get fl_7_46 0 rfl rfl dX7_copy_136 ?_
      refine G.bipush 24 dX7_copy_139 (by decide) ?_
      refine G.iload_n dX7_copy_141 rfl ?_
      refine G.imul dX7_copy_142 ?_
      refine G.iload dX7_copy_143 rfl ?_
      refine G.iadd dX7_copy_145 ?_
      refine G.iload dX7_copy_146 rfl ?_
      refine G.iadd dX7_copy_148 ?_
      refine G.aload_n dX7_copy_149 rfl ?_
      refine G.get fl_7_50 0 rfl rfl dX7_copy_150 ?_
      refine G.iload dX7_copy_153 rfl ?_
      refine G.chk (fun h155 => ?_)
      refine G.laload 14 1 rfl rfl x7.toNatClampNeg rfl h155 dX7_copy_155 ?_
      refine G.topl (fun v155 => ?_)
      refine G.chk (fun h156 => ?_)
      refine G.lastore (w' := (w_X7 cI cL cC cM cS a t_now t_mores t_tape t_typed t_place t_isFault t_readLamps t_read t_undone t_undos t_aside t_bays t_bests t_kept t_keptUndos t_isKept t_lanes t_sizes (vp_updL t_items ((((24 * x3) + x4) + x7).toNatClampNeg) v155) t_moved)) 13 1 rfl rfl ((((24 * x3) + x4) + x7).toNatClampNeg) rfl h156 rfl dX7_copy_156 ?_
      refine G.iinc 1 (lv' := [some (.ref (a 0)), none, none, some (.int x3), some (.int x4), some (.int x5), none, some (.int (x7 + 1))]) dX7_copy_157 rfl (by decide) (by decide) (Nat.le_of_ble_eq_true rfl) rfl rfl ?_
      refine G.goto 128 dX7_copy_160 (by decide) ?_
      exact ih t_lanes t_sizes (vp_updL t_items ((((24 * x3) + x4) + x7).toNatClampNeg) v155) t_moved x3 x4 x5 (x7 + 1)
set_option maxHeartbeats 4000000 in
set_option maxRecDepth 100000 in
theorem g_X7_copy_c91 (l : Launch) (D : va_G) (ks : Nat × Nat) (cI cL cC cM cS : ClassId) (a : Nat → Nat) (t_now t_mores t_tape : Nat → Int32) (t_typed t_place t_isFault : Int32) (t_readLamps t_read t_undone : Nat → Int32) (t_undos : Int32) (t_aside t_bays t_bests t_kept : Nat → Int32) (t_keptUndos t_isKept : Int32) : ∀ (n : Nat), ∀ (t_lanes t_sizes : Nat → Int32) (t_items t_moved : Nat → Int64) (x1 : Int32) (x2 : Int32) (x3 : Int32) (x4 : Int32) (x5 : Int32) (x7 : Int32), GJ l D ks (tyz cI cL cC cM cS) RX7 cX7_copy 8 ((some .int)) { frames := 2, cells := 0, slots := 0, locals := 45 } (fun r : Int32 × (Nat → Int64) × (Nat → Int64) => (some (.int r.1), (w_X7 cI cL cC cM cS a t_now t_mores t_tape t_typed t_place t_isFault t_readLamps t_read t_undone t_undos t_aside t_bays t_bests t_kept t_keptUndos t_isKept t_lanes t_sizes r.2.1 r.2.2))) (w_X7 cI cL cC cM cS a t_now t_mores t_tape t_typed t_place t_isFault t_readLamps t_read t_undone t_undos t_aside t_bays t_bests t_kept t_keptUndos t_isKept t_lanes t_sizes t_items t_moved) 91 [some (.ref (a 0)), some (.int x1), some (.int x2), some (.int x3), some (.int x4), some (.int x5), none, some (.int x7)] [] (f_X7_copy_c91 n t_lanes t_sizes t_items t_moved x1 x2 x3 x4 x5 x7) := by
  intro n
  induction n with
  | zero =>
    intro t_lanes t_sizes t_items t_moved x1 x2 x3 x4 x5 x7
    exact G.no
  | succ n ih =>
    intro t_lanes t_sizes t_items t_moved x1 x2 x3 x4 x5 x7
    rw [f_X7_copy_c91]
    refine G.iload dX7_copy_91 rfl ?_
    refine G.iload dX7_copy_93 rfl ?_
    refine G.icmp_ge 125 dX7_copy_95 (by decide) (fun h95 => ?_) (fun h95 => ?_)
    · refine G.iconst 0 dX7_copy_125 (by decide) ?_
      refine G.istore (lv' := [some (.ref (a 0)), some (.int x1), some (.int x2), some (.int x3), some (.int x4), some (.int x5), none, some (.int 0)]) dX7_copy_126 (by decide) (Nat.le_of_ble_eq_true rfl) rfl rfl ?_
      refine G.mask (lv' := [some (.ref (a 0)), none, none, some (.int x3), some (.int x4), some (.int x5), none, some (.int 0)]) [true, false, false, true, true, true, false, true] rfl ?_
      exact g_X7_copy_c128 l D ks cI cL cC cM cS a t_now t_mores t_tape t_typed t_place t_isFault t_readLamps t_read t_undone t_undos t_aside t_bays t_bests t_kept t_keptUndos t_isKept fu t_lanes t_sizes t_items t_moved x3 x4 x5 0
    · refine G.aload_n dX7_copy_98 rfl ?_
      refine G.get fl_7_50 0 rfl rfl dX7_copy_99 ?_
      refine G.iload dX7_copy_102 rfl ?_
      refine G.aload_n dX7_copy_104 rfl ?_
      refine G.get fl_7_46 0 rfl rfl dX7_copy_105 ?_
      refine G.bipush 24 dX7_copy_108 (by decide) ?_
      refine G.iload_n dX7_copy_110 rfl ?_
      refine G.imul dX7_copy_111 ?_
      refine G.iload_n dX7_copy_112 rfl ?_
      refine G.iadd dX7_copy_113 ?_
      refine G.iload dX7_copy_114 rfl ?_
      refine G.iadd dX7_copy_116 ?_
      refine G.chk (fun h117 => ?_)
      refine G.laload 13 1 rfl rfl ((((24 * x1) + x2) + x7).toNatClampNeg) rfl h117 dX7_copy_117 ?_
      refine G.topl (fun v117 => ?_)
      refine G.chk (fun h118 => ?_)
      refine G.lastore (w' := (w_X7 cI cL cC cM cS a t_now t_mores t_tape t_typed t_place t_isFault t_readLamps t_read t_undone t_undos t_aside t_bays t_bests t_kept t_keptUndos t_isKept t_lanes t_sizes t_items (vp_updL t_moved x7.toNatClampNeg v117))) 14 1 rfl rfl x7.toNatClampNeg rfl h118 rfl dX7_copy_118 ?_
      refine G.iinc 1 (lv' := [some (.ref (a 0)), some (.int x1), some (.int x2), some (.int x3), some (.int x4), some (.int x5), none, some (.int (x7 + 1))]) dX7_copy_119 rfl (by decide) (by decide) (Nat.le_of_ble_eq_true rfl) rfl rfl ?_
      refine G.goto 91 dX7_copy_122 (by decide) ?_
      exact ih t_lanes t_sizes t_items (vp_updL t_moved x7.toNatClampNeg v117) x1 x2 x3 x4 x5 (x7 + 1)
set_option maxHeartbeats 4000000 in
set_option maxRecDepth 100000 in
theorem g_X7_copy_c78 (l : Launch) (D : va_G) (ks : Nat × Nat) (cI cL cC cM cS : ClassId) (a : Nat → Nat) (t_now t_mores t_tape : Nat → Int32) (t_typed t_place t_isFault : Int32) (t_readLamps t_read t_undone : Nat → Int32) (t_undos : Int32) (t_aside t_bays t_bests t_kept : Nat → Int32) (t_keptUndos t_isKept : Int32) (t_lanes t_sizes : Nat → Int32) (t_items t_moved : Nat → Int64) (x1 : Int32) (x2 : Int32) (x3 : Int32) (x4 : Int32) (x5 : Int32) (s0 : Int32) : GJ l D ks (tyz cI cL cC cM cS) RX7 cX7_copy 8 ((some .int)) { frames := 2, cells := 0, slots := 0, locals := 45 } (fun r : Int32 × (Nat → Int64) × (Nat → Int64) => (some (.int r.1), (w_X7 cI cL cC cM cS a t_now t_mores t_tape t_typed t_place t_isFault t_readLamps t_read t_undone t_undos t_aside t_bays t_bests t_kept t_keptUndos t_isKept t_lanes t_sizes r.2.1 r.2.2))) (w_X7 cI cL cC cM cS a t_now t_mores t_tape t_typed t_place t_isFault t_readLamps t_read t_undone t_undos t_aside t_bays t_bests t_kept t_keptUndos t_isKept t_lanes t_sizes t_items t_moved) 78 [some (.ref (a 0)), some (.int x1), some (.int x2), some (.int x3), some (.int x4), some (.int x5), none, none] [.int s0] (f_X7_copy_c78 t_lanes t_sizes t_items t_moved x1 x2 x3 x4 x5 s0) := by
  unfold f_X7_copy_c78
  refine G.istore (lv' := [some (.ref (a 0)), some (.int x1), some (.int x2), some (.int x3), some (.int x4), some (.int x5), some (.int s0), none]) dX7_copy_78 (by decide) (Nat.le_of_ble_eq_true rfl) rfl rfl ?_
  refine G.iload dX7_copy_80 rfl ?_
  refine G.if_ge 88 dX7_copy_82 (by decide) (fun h82 => ?_) (fun h82 => ?_)
  · refine G.iconst 0 dX7_copy_88 (by decide) ?_
    refine G.istore (lv' := [some (.ref (a 0)), some (.int x1), some (.int x2), some (.int x3), some (.int x4), some (.int x5), some (.int s0), some (.int 0)]) dX7_copy_89 (by decide) (Nat.le_of_ble_eq_true rfl) rfl rfl ?_
    refine G.mask (lv' := [some (.ref (a 0)), some (.int x1), some (.int x2), some (.int x3), some (.int x4), some (.int x5), none, some (.int 0)]) [true, true, true, true, true, true, false, true] rfl ?_
    exact g_X7_copy_c91 l D ks cI cL cC cM cS a t_now t_mores t_tape t_typed t_place t_isFault t_readLamps t_read t_undone t_undos t_aside t_bays t_bests t_kept t_keptUndos t_isKept fu t_lanes t_sizes t_items t_moved x1 x2 x3 x4 x5 0
  · refine G.iload dX7_copy_85 rfl ?_
    exact G.iret rfl rfl dX7_copy_87
set_option maxHeartbeats 4000000 in
set_option maxRecDepth 100000 in
theorem c_X7_copy (l : Launch) (D : va_G) (ks : Nat × Nat) (cI cL cC cM cS : ClassId) (a : Nat → Nat) (t_now t_mores t_tape : Nat → Int32) (t_typed t_place t_isFault : Int32) (t_readLamps t_read t_undone : Nat → Int32) (t_undos : Int32) (t_aside t_bays t_bests t_kept : Nat → Int32) (t_keptUndos t_isKept : Int32) (t_lanes t_sizes : Nat → Int32) (t_items t_moved : Nat → Int64) (x1 : Int32) (x2 : Int32) (x3 : Int32) (x4 : Int32) (x5 : Int32) : MT l D ks (tyz cI cL cC cM cS) yX7_copy cX7_copy 8 ((some .int)) { frames := 2, cells := 0, slots := 0, locals := 45 } [.ref (a 0), .int x1, .int x2, .int x3, .int x4, .int x5] (w_X7 cI cL cC cM cS a t_now t_mores t_tape t_typed t_place t_isFault t_readLamps t_read t_undone t_undos t_aside t_bays t_bests t_kept t_keptUndos t_isKept t_lanes t_sizes t_items t_moved) (fun r : Int32 × (Nat → Int64) × (Nat → Int64) => (some (.int r.1), (w_X7 cI cL cC cM cS a t_now t_mores t_tape t_typed t_place t_isFault t_readLamps t_read t_undone t_undos t_aside t_bays t_bests t_kept t_keptUndos t_isKept t_lanes t_sizes r.2.1 r.2.2))) (f_X7_copy t_lanes t_sizes t_items t_moved x1 x2 x3 x4 x5) := by
  refine MT.of 2 [some (.ref (a 0)), some (.int x1), some (.int x2), some (.int x3), some (.int x4), some (.int x5), none, none] (by decide) (Nat.le_of_ble_eq_true rfl) rfl ?_
  unfold f_X7_copy
  refine G.iload_n dX7_copy_0 rfl ?_
  refine G.callS (st := []) (w' := fun r1 => (w_X7 cI cL cC cM cS a t_now t_mores t_tape t_typed t_place t_isFault t_readLamps t_read t_undone t_undos t_aside t_bays t_bests t_kept t_keptUndos t_isKept t_lanes t_sizes t_items t_moved)) ms_X7_isSheet lk_7_234 (c_X7_isSheet l D ks cI cL cC cM cS x1) [] [0, 1, 2, 3, 4, 5, 6, 7, 8, 9, 10, 11, 12, 13, 14] [0, 1, 2, 3, 4, 5, 6, 7, 8, 9, 10, 11, 12, 13, 14] rfl rfl rfl rfl (by decide +kernel) (fun _ => rfl) (by decide) (Nat.le_of_ble_eq_true rfl) dX7_copy_1 (fun r1 => [.int r1]) (fun _ => rfl) (fun r1 _ => ?_)
  refine G.if_eq 14 dX7_copy_4 (by decide) (fun h4 => ?_) (fun h4 => ?_)
  · refine G.iconst (-1) dX7_copy_14 (by decide) ?_
    exact G.iret rfl rfl dX7_copy_15
  · refine G.iload_n dX7_copy_7 rfl ?_
    refine G.callS (st := []) (w' := fun r8 => (w_X7 cI cL cC cM cS a t_now t_mores t_tape t_typed t_place t_isFault t_readLamps t_read t_undone t_undos t_aside t_bays t_bests t_kept t_keptUndos t_isKept t_lanes t_sizes t_items t_moved)) ms_X7_isSheet lk_7_234 (c_X7_isSheet l D ks cI cL cC cM cS x3) [] [0, 1, 2, 3, 4, 5, 6, 7, 8, 9, 10, 11, 12, 13, 14] [0, 1, 2, 3, 4, 5, 6, 7, 8, 9, 10, 11, 12, 13, 14] rfl rfl rfl rfl (by decide +kernel) (fun _ => rfl) (by decide) (Nat.le_of_ble_eq_true rfl) dX7_copy_8 (fun r8 => [.int r8]) (fun _ => rfl) (fun r8 _ => ?_)
    refine G.if_ne 16 dX7_copy_11 (by decide) (fun h11 => ?_) (fun h11 => ?_)
    · refine G.aload_n dX7_copy_16 rfl ?_
      refine G.get fl_7_40 0 rfl rfl dX7_copy_17 ?_
      refine G.iload_n dX7_copy_20 rfl ?_
      refine G.chk (fun h21 => ?_)
      refine G.iaload 11 0 rfl rfl x1.toNatClampNeg rfl h21 dX7_copy_21 ?_
      refine G.topi (fun v21 => ?_)
      refine G.if_lt 34 dX7_copy_22 (by decide) (fun h22 => ?_) (fun h22 => ?_)
      · refine G.bipush (-11) dX7_copy_34 (by decide) ?_
        exact G.iret rfl rfl dX7_copy_36
      · refine G.aload_n dX7_copy_25 rfl ?_
        refine G.get fl_7_40 0 rfl rfl dX7_copy_26 ?_
        refine G.iload_n dX7_copy_29 rfl ?_
        refine G.chk (fun h30 => ?_)
        refine G.iaload 11 0 rfl rfl x3.toNatClampNeg rfl h30 dX7_copy_30 ?_
        refine G.topi (fun v30 => ?_)
        refine G.if_ge 37 dX7_copy_31 (by decide) (fun h31 => ?_) (fun h31 => ?_)
        · refine G.aload_n dX7_copy_37 rfl ?_
          refine G.iload_n dX7_copy_38 rfl ?_
          refine G.aload_n dX7_copy_39 rfl ?_
          refine G.get fl_7_40 0 rfl rfl dX7_copy_40 ?_
          refine G.iload_n dX7_copy_43 rfl ?_
          refine G.iaload 11 0 rfl rfl x1.toNatClampNeg rfl h21 dX7_copy_44 ?_
          refine G.topi (fun v44 => ?_)
          refine G.iload dX7_copy_45 rfl ?_
          refine G.iload dX7_copy_47 rfl ?_
          refine G.callV (st := []) (w' := fun r49 => (w_X7 cI cL cC cM cS a t_now t_mores t_tape t_typed t_place t_isFault t_readLamps t_read t_undone t_undos t_aside t_bays t_bests t_kept t_keptUndos t_isKept t_lanes t_sizes t_items t_moved)) mv_X7_why lk_7_242 (c_X7_why l D ks cI cL cC cM cS a t_now t_mores t_tape t_typed t_place t_isFault t_readLamps t_read t_undone t_undos t_aside t_bays t_bests t_kept t_keptUndos t_isKept t_lanes t_sizes t_items t_moved x3 v44 x4 x5) [0, 1, 2, 3, 4, 5, 6, 7, 8, 9, 10, 11, 12, 13, 14] [] [0, 1, 2, 3, 4, 5, 6, 7, 8, 9, 10, 11, 12, 13, 14] rfl rfl rfl rfl (by decide +kernel) (fun _ => rfl) rfl (by decide) (Nat.le_of_ble_eq_true rfl) dX7_copy_49 (fun r49 => [.int r49]) (fun _ => rfl) (fun r49 _ => ?_)
          refine G.istore (lv' := [some (.ref (a 0)), some (.int x1), some (.int x2), some (.int x3), some (.int x4), some (.int x5), some (.int r49), none]) dX7_copy_52 (by decide) (Nat.le_of_ble_eq_true rfl) rfl rfl ?_
          refine G.iload dX7_copy_54 rfl ?_
          refine G.if_ne 76 dX7_copy_56 (by decide) (fun h56 => ?_) (fun h56 => ?_)
          · refine G.iload dX7_copy_76 rfl ?_
            refine G.mask (lv' := [some (.ref (a 0)), some (.int x1), some (.int x2), some (.int x3), some (.int x4), some (.int x5), none, none]) [true, true, true, true, true, true, false, false] rfl ?_
            exact g_X7_copy_c78 l D ks cI cL cC cM cS a t_now t_mores t_tape t_typed t_place t_isFault t_readLamps t_read t_undone t_undos t_aside t_bays t_bests t_kept t_keptUndos t_isKept t_lanes t_sizes t_items t_moved x1 x2 x3 x4 x5 r49
          · refine G.aload_n dX7_copy_59 rfl ?_
            refine G.iload_n dX7_copy_60 rfl ?_
            refine G.aload_n dX7_copy_61 rfl ?_
            refine G.get fl_7_40 0 rfl rfl dX7_copy_62 ?_
            refine G.iload_n dX7_copy_65 rfl ?_
            refine G.iaload 11 0 rfl rfl x1.toNatClampNeg rfl h21 dX7_copy_66 ?_
            refine G.topi (fun v66 => ?_)
            refine G.iload_n dX7_copy_67 rfl ?_
            refine G.iload dX7_copy_68 rfl ?_
            refine G.callV (st := []) (w' := fun r70 => (w_X7 cI cL cC cM cS a t_now t_mores t_tape t_typed t_place t_isFault t_readLamps t_read t_undone t_undos t_aside t_bays t_bests t_kept t_keptUndos t_isKept t_lanes t_sizes t_items t_moved)) mv_X7_why lk_7_242 (c_X7_why l D ks cI cL cC cM cS a t_now t_mores t_tape t_typed t_place t_isFault t_readLamps t_read t_undone t_undos t_aside t_bays t_bests t_kept t_keptUndos t_isKept t_lanes t_sizes t_items t_moved x1 v66 x2 x5) [0, 1, 2, 3, 4, 5, 6, 7, 8, 9, 10, 11, 12, 13, 14] [] [0, 1, 2, 3, 4, 5, 6, 7, 8, 9, 10, 11, 12, 13, 14] rfl rfl rfl rfl (by decide +kernel) (fun _ => rfl) rfl (by decide) (Nat.le_of_ble_eq_true rfl) dX7_copy_70 (fun r70 => [.int r70]) (fun _ => rfl) (fun r70 _ => ?_)
            refine G.goto 78 dX7_copy_73 (by decide) ?_
            refine G.mask (lv' := [some (.ref (a 0)), some (.int x1), some (.int x2), some (.int x3), some (.int x4), some (.int x5), none, none]) [true, true, true, true, true, true, false, false] rfl ?_
            exact g_X7_copy_c78 l D ks cI cL cC cM cS a t_now t_mores t_tape t_typed t_place t_isFault t_readLamps t_read t_undone t_undos t_aside t_bays t_bests t_kept t_keptUndos t_isKept t_lanes t_sizes t_items t_moved x1 x2 x3 x4 x5 r70
        · refine G.bipush (-11) dX7_copy_34 (by decide) ?_
          exact G.iret rfl rfl dX7_copy_36
    · refine G.iconst (-1) dX7_copy_14 (by decide) ?_
      exact G.iret rfl rfl dX7_copy_15
set_option maxHeartbeats 4000000 in
set_option maxRecDepth 100000 in
theorem g_X7_cough_c43 (l : Launch) (D : va_G) (ks : Nat × Nat) (cI cL cC cM cS : ClassId) (a : Nat → Nat) (t_tape : Nat → Int32) (t_typed t_place t_isFault : Int32) (t_readLamps t_read t_undone : Nat → Int32) (t_undos : Int32) (t_bays t_bests t_kept : Nat → Int32) (t_keptUndos t_isKept : Int32) (t_lanes t_sizes : Nat → Int32) (t_items t_moved : Nat → Int64) (t_now t_mores t_aside : Nat → Int32) (x1 : Int32) (x2 : Int32) : GJ l D ks (tyz cI cL cC cM cS) RX7 cX7_cough 4 ((some .int)) { frames := 6, cells := 0, slots := 0, locals := 132 } (fun r : Int32 × (Nat → Int32) × (Nat → Int32) × (Nat → Int32) => (some (.int r.1), (w_X7 cI cL cC cM cS a r.2.1 r.2.2.1 t_tape t_typed t_place t_isFault t_readLamps t_read t_undone t_undos r.2.2.2 t_bays t_bests t_kept t_keptUndos t_isKept t_lanes t_sizes t_items t_moved))) (w_X7 cI cL cC cM cS a t_now t_mores t_tape t_typed t_place t_isFault t_readLamps t_read t_undone t_undos t_aside t_bays t_bests t_kept t_keptUndos t_isKept t_lanes t_sizes t_items t_moved) 43 [some (.ref (a 0)), some (.int x1), some (.int x2), none] [] (f_X7_cough_c43 t_now t_mores t_aside x1 x2) := by
  unfold f_X7_cough_c43
  refine G.aload_n dX7_cough_43 rfl ?_
  refine G.callV (st := []) (w' := fun r44 => (w_X7 cI cL cC cM cS a t_now t_mores t_tape t_typed t_place t_isFault t_readLamps t_read t_undone t_undos t_aside t_bays t_bests t_kept t_keptUndos t_isKept t_lanes t_sizes t_items t_moved)) mv_X7_alikes lk_7_196 (c_X7_alikes l D ks cI cL cC cM cS a t_now t_mores t_tape t_typed t_place t_isFault t_readLamps t_read t_undone t_undos t_aside t_bays t_bests t_kept t_keptUndos t_isKept t_lanes t_sizes t_items t_moved) [0, 1, 2, 3, 4, 5, 6, 7, 8, 9, 10, 11, 12, 13, 14] [] [0, 1, 2, 3, 4, 5, 6, 7, 8, 9, 10, 11, 12, 13, 14] rfl rfl rfl rfl (by decide +kernel) (fun _ => rfl) rfl (by decide) (Nat.le_of_ble_eq_true rfl) dX7_cough_44 (fun r44 => [.int r44]) (fun _ => rfl) (fun r44 _ => ?_)
  refine G.istore_n (lv' := [some (.ref (a 0)), some (.int x1), some (.int x2), some (.int r44)]) dX7_cough_47 (by decide) (Nat.le_of_ble_eq_true rfl) rfl rfl ?_
  refine G.aload_n dX7_cough_48 rfl ?_
  refine G.callV (st := []) (w' := fun r49 => (w_X7 cI cL cC cM cS a r49 t_mores t_tape t_typed t_place t_isFault t_readLamps t_read t_undone t_undos t_aside t_bays t_bests t_kept t_keptUndos t_isKept t_lanes t_sizes t_items t_moved)) mv_X7_backs lk_7_193 (c_X7_backs l D ks cI cL cC cM cS a t_now t_mores t_tape t_typed t_place t_isFault t_readLamps t_read t_undone t_undos t_aside t_bays t_bests t_kept t_keptUndos t_isKept t_lanes t_sizes t_items t_moved) [0, 1, 2, 3, 4, 5, 6, 7, 8, 9, 10, 11, 12, 13, 14] [] [0, 1, 2, 3, 4, 5, 6, 7, 8, 9, 10, 11, 12, 13, 14] rfl rfl rfl rfl (by decide +kernel) (fun _ => rfl) rfl (by decide) (Nat.le_of_ble_eq_true rfl) dX7_cough_49 (fun r49 => []) (fun _ => rfl) (fun r49 _ => ?_)
  refine G.iload_n dX7_cough_52 rfl ?_
  refine G.bipush 100 dX7_cough_53 (by decide) ?_
  refine G.join (st := []) Value.int 72 (fun v72 => ?_) (fun hJ => ?_)
  · exact G.iret rfl rfl dX7_cough_72
  · refine G.ite ?_
    refine G.icmp_ne 63 dX7_cough_55 (by decide) (fun _ => ?_) (fun _ => ?_)
    · refine G.iload_n dX7_cough_63 rfl ?_
      refine G.ite ?_
      refine G.if_ne 71 dX7_cough_64 (by decide) (fun _ => ?_) (fun _ => ?_)
      · refine G.iload_n dX7_cough_71 rfl ?_
        exact hJ _
      · refine G.iload_n dX7_cough_67 rfl ?_
        refine G.goto 72 dX7_cough_68 (by decide) ?_
        exact hJ _
    · refine G.bipush (-4) dX7_cough_58 (by decide) ?_
      refine G.goto 72 dX7_cough_60 (by decide) ?_
      exact hJ _
set_option maxHeartbeats 4000000 in
set_option maxRecDepth 100000 in
theorem g_X7_cough_c18 (l : Launch) (D : va_G) (ks : Nat × Nat) (cI cL cC cM cS : ClassId) (a : Nat → Nat) (t_tape : Nat → Int32) (t_typed t_place t_isFault : Int32) (t_readLamps t_read t_undone : Nat → Int32) (t_undos : Int32) (t_bays t_bests t_kept : Nat → Int32) (t_keptUndos t_isKept : Int32) (t_lanes t_sizes : Nat → Int32) (t_items t_moved : Nat → Int64) : ∀ (n : Nat), ∀ (t_now t_mores t_aside : Nat → Int32) (x1 : Int32) (x2 : Int32), GJ l D ks (tyz cI cL cC cM cS) RX7 cX7_cough 4 ((some .int)) { frames := 6, cells := 0, slots := 0, locals := 132 } (fun r : Int32 × (Nat → Int32) × (Nat → Int32) × (Nat → Int32) => (some (.int r.1), (w_X7 cI cL cC cM cS a r.2.1 r.2.2.1 t_tape t_typed t_place t_isFault t_readLamps t_read t_undone t_undos r.2.2.2 t_bays t_bests t_kept t_keptUndos t_isKept t_lanes t_sizes t_items t_moved))) (w_X7 cI cL cC cM cS a t_now t_mores t_tape t_typed t_place t_isFault t_readLamps t_read t_undone t_undos t_aside t_bays t_bests t_kept t_keptUndos t_isKept t_lanes t_sizes t_items t_moved) 18 [some (.ref (a 0)), some (.int x1), some (.int x2), none] [] (f_X7_cough_c18 n t_now t_mores t_aside x1 x2) := by
  intro n
  induction n with
  | zero =>
    intro t_now t_mores t_aside x1 x2
    exact G.no
  | succ n ih =>
    intro t_now t_mores t_aside x1 x2
    rw [f_X7_cough_c18]
    refine G.iload_n dX7_cough_18 rfl ?_
    refine G.bipush 100 dX7_cough_19 (by decide) ?_
    refine G.icmp_ge 43 dX7_cough_21 (by decide) (fun h21 => ?_) (fun h21 => ?_)
    · exact g_X7_cough_c43 l D ks cI cL cC cM cS a t_tape t_typed t_place t_isFault t_readLamps t_read t_undone t_undos t_bays t_bests t_kept t_keptUndos t_isKept t_lanes t_sizes t_items t_moved t_now t_mores t_aside x1 x2
    · refine G.aload_n dX7_cough_24 rfl ?_
      refine G.callV (st := []) (w' := fun r25 => (w_X7 cI cL cC cM cS a t_now t_mores t_tape t_typed t_place t_isFault t_readLamps t_read t_undone t_undos t_aside t_bays t_bests t_kept t_keptUndos t_isKept t_lanes t_sizes t_items t_moved)) mv_X7_alikes lk_7_196 (c_X7_alikes l D ks cI cL cC cM cS a t_now t_mores t_tape t_typed t_place t_isFault t_readLamps t_read t_undone t_undos t_aside t_bays t_bests t_kept t_keptUndos t_isKept t_lanes t_sizes t_items t_moved) [0, 1, 2, 3, 4, 5, 6, 7, 8, 9, 10, 11, 12, 13, 14] [] [0, 1, 2, 3, 4, 5, 6, 7, 8, 9, 10, 11, 12, 13, 14] rfl rfl rfl rfl (by decide +kernel) (fun _ => rfl) rfl (by decide) (Nat.le_of_ble_eq_true rfl) dX7_cough_25 (fun r25 => [.int r25]) (fun _ => rfl) (fun r25 _ => ?_)
      refine G.bipush (-4) dX7_cough_28 (by decide) ?_
      refine G.icmp_ne 43 dX7_cough_30 (by decide) (fun h30 => ?_) (fun h30 => ?_)
      · exact g_X7_cough_c43 l D ks cI cL cC cM cS a t_tape t_typed t_place t_isFault t_readLamps t_read t_undone t_undos t_bays t_bests t_kept t_keptUndos t_isKept t_lanes t_sizes t_items t_moved t_now t_mores t_aside x1 x2
      · refine G.aload_n dX7_cough_33 rfl ?_
        refine G.callV (st := []) (w' := fun r34 => (w_X7 cI cL cC cM cS a r34.1 r34.2 t_tape t_typed t_place t_isFault t_readLamps t_read t_undone t_undos t_aside t_bays t_bests t_kept t_keptUndos t_isKept t_lanes t_sizes t_items t_moved)) mv_X7_goesBy lk_7_97 (c_X7_goesBy l D ks cI cL cC cM cS a t_now t_mores t_tape t_typed t_place t_isFault t_readLamps t_read t_undone t_undos t_aside t_bays t_bests t_kept t_keptUndos t_isKept t_lanes t_sizes t_items t_moved) [0, 1, 2, 3, 4, 5, 6, 7, 8, 9, 10, 11, 12, 13, 14] [] [0, 1, 2, 3, 4, 5, 6, 7, 8, 9, 10, 11, 12, 13, 14] rfl rfl rfl rfl (by decide +kernel) (fun _ => rfl) rfl (by decide) (Nat.le_of_ble_eq_true rfl) dX7_cough_34 (fun r34 => []) (fun _ => rfl) (fun r34 _ => ?_)
        refine G.iinc 1 (lv' := [some (.ref (a 0)), some (.int x1), some (.int (x2 + 1)), none]) dX7_cough_37 rfl (by decide) (by decide) (Nat.le_of_ble_eq_true rfl) rfl rfl ?_
        refine G.goto 18 dX7_cough_40 (by decide) ?_
        exact ih r34.1 r34.2 t_aside x1 (x2 + 1)
set_option maxHeartbeats 4000000 in
set_option maxRecDepth 100000 in
theorem c_X7_cough (l : Launch) (D : va_G) (ks : Nat × Nat) (cI cL cC cM cS : ClassId) (a : Nat → Nat) (t_now t_mores t_tape : Nat → Int32) (t_typed t_place t_isFault : Int32) (t_readLamps t_read t_undone : Nat → Int32) (t_undos : Int32) (t_aside t_bays t_bests t_kept : Nat → Int32) (t_keptUndos t_isKept : Int32) (t_lanes t_sizes : Nat → Int32) (t_items t_moved : Nat → Int64) (x1 : Int32) : MT l D ks (tyz cI cL cC cM cS) yX7_cough cX7_cough 4 ((some .int)) { frames := 6, cells := 0, slots := 0, locals := 132 } [.ref (a 0), .int x1] (w_X7 cI cL cC cM cS a t_now t_mores t_tape t_typed t_place t_isFault t_readLamps t_read t_undone t_undos t_aside t_bays t_bests t_kept t_keptUndos t_isKept t_lanes t_sizes t_items t_moved) (fun r : Int32 × (Nat → Int32) × (Nat → Int32) × (Nat → Int32) => (some (.int r.1), (w_X7 cI cL cC cM cS a r.2.1 r.2.2.1 t_tape t_typed t_place t_isFault t_readLamps t_read t_undone t_undos r.2.2.2 t_bays t_bests t_kept t_keptUndos t_isKept t_lanes t_sizes t_items t_moved))) (f_X7_cough t_now t_mores t_aside x1) := by
  refine MT.of 2 [some (.ref (a 0)), some (.int x1), none, none] (by decide) (Nat.le_of_ble_eq_true rfl) rfl ?_
  unfold f_X7_cough
  refine G.iload_n dX7_cough_0 rfl ?_
  refine G.i2l dX7_cough_1 ?_
  refine G.lconst 0 dX7_cough_2 (by decide) ?_
  refine G.lconst 1 dX7_cough_3 (by decide) ?_
  refine G.callS (st := []) (w' := fun r4 => (w_X7 cI cL cC cM cS a t_now t_mores t_tape t_typed t_place t_isFault t_readLamps t_read t_undone t_undos t_aside t_bays t_bests t_kept t_keptUndos t_isKept t_lanes t_sizes t_items t_moved)) ms_X7_in lk_7_53 (c_X7_in l D ks cI cL cC cM cS (x1.toInt64) 0 1) [] [0, 1, 2, 3, 4, 5, 6, 7, 8, 9, 10, 11, 12, 13, 14] [0, 1, 2, 3, 4, 5, 6, 7, 8, 9, 10, 11, 12, 13, 14] rfl rfl rfl rfl (by decide +kernel) (fun _ => rfl) (by decide) (Nat.le_of_ble_eq_true rfl) dX7_cough_4 (fun r4 => [.int r4]) (fun _ => rfl) (fun r4 _ => ?_)
  refine G.if_ne 12 dX7_cough_7 (by decide) (fun h7 => ?_) (fun h7 => ?_)
  · refine G.aload_n dX7_cough_12 rfl ?_
    refine G.callV (st := []) (w' := fun r13 => (w_X7 cI cL cC cM cS a t_now t_mores t_tape t_typed t_place t_isFault t_readLamps t_read t_undone t_undos r13 t_bays t_bests t_kept t_keptUndos t_isKept t_lanes t_sizes t_items t_moved)) mv_X7_asides lk_7_187 (c_X7_asides l D ks cI cL cC cM cS a t_now t_mores t_tape t_typed t_place t_isFault t_readLamps t_read t_undone t_undos t_aside t_bays t_bests t_kept t_keptUndos t_isKept t_lanes t_sizes t_items t_moved) [0, 1, 2, 3, 4, 5, 6, 7, 8, 9, 10, 11, 12, 13, 14] [] [0, 1, 2, 3, 4, 5, 6, 7, 8, 9, 10, 11, 12, 13, 14] rfl rfl rfl rfl (by decide +kernel) (fun _ => rfl) rfl (by decide) (Nat.le_of_ble_eq_true rfl) dX7_cough_13 (fun r13 => []) (fun _ => rfl) (fun r13 _ => ?_)
    refine G.iconst 0 dX7_cough_16 (by decide) ?_
    refine G.istore_n (lv' := [some (.ref (a 0)), some (.int x1), some (.int 0), none]) dX7_cough_17 (by decide) (Nat.le_of_ble_eq_true rfl) rfl rfl ?_
    exact g_X7_cough_c18 l D ks cI cL cC cM cS a t_tape t_typed t_place t_isFault t_readLamps t_read t_undone t_undos t_bays t_bests t_kept t_keptUndos t_isKept t_lanes t_sizes t_items t_moved fu t_now t_mores r13 x1 0
  · refine G.iconst (-1) dX7_cough_10 (by decide) ?_
    exact G.iret rfl rfl dX7_cough_11
set_option maxHeartbeats 4000000 in
set_option maxRecDepth 100000 in
theorem c_X7_talks (l : Launch) (D : va_G) (ks : Nat × Nat) (cI cL cC cM cS : ClassId) (a : Nat → Nat) (t_now t_mores t_tape : Nat → Int32) (t_typed t_place t_isFault : Int32) (t_readLamps t_read t_undone : Nat → Int32) (t_undos : Int32) (t_aside t_bays t_bests t_kept : Nat → Int32) (t_keptUndos t_isKept : Int32) (t_lanes t_sizes : Nat → Int32) (t_items t_moved : Nat → Int64) (x1 : Int32) : MT l D ks (tyz cI cL cC cM cS) yX7_talks cX7_talks 2 none { frames := 3, cells := 0, slots := 0, locals := 64 } [.ref (a 0), .int x1] (w_X7 cI cL cC cM cS a t_now t_mores t_tape t_typed t_place t_isFault t_readLamps t_read t_undone t_undos t_aside t_bays t_bests t_kept t_keptUndos t_isKept t_lanes t_sizes t_items t_moved) (fun r : (Nat → Int32) => (none, (w_X7 cI cL cC cM cS a r t_mores t_tape t_typed t_place t_isFault t_readLamps t_read t_undone t_undos t_aside t_bays t_bests t_kept t_keptUndos t_isKept t_lanes t_sizes t_items t_moved))) (f_X7_talks t_now x1) := by
  refine MT.of 0 [some (.ref (a 0)), some (.int x1)] (by decide) (Nat.le_of_ble_eq_true rfl) rfl ?_
  unfold f_X7_talks
  refine G.aload_n dX7_talks_0 rfl ?_
  refine G.iload_n dX7_talks_1 rfl ?_
  refine G.callV (st := []) (w' := fun r2 => (w_X7 cI cL cC cM cS a t_now t_mores t_tape t_typed t_place t_isFault t_readLamps t_read t_undone t_undos t_aside t_bays t_bests t_kept t_keptUndos t_isKept t_lanes t_sizes t_items t_moved)) mv_X7_isUp lk_7_76 (c_X7_isUp l D ks cI cL cC cM cS a t_now t_mores t_tape t_typed t_place t_isFault t_readLamps t_read t_undone t_undos t_aside t_bays t_bests t_kept t_keptUndos t_isKept t_lanes t_sizes t_items t_moved x1) [0, 1, 2, 3, 4, 5, 6, 7, 8, 9, 10, 11, 12, 13, 14] [] [0, 1, 2, 3, 4, 5, 6, 7, 8, 9, 10, 11, 12, 13, 14] rfl rfl rfl rfl (by decide +kernel) (fun _ => rfl) rfl (by decide) (Nat.le_of_ble_eq_true rfl) dX7_talks_2 (fun r2 => [.int r2]) (fun _ => rfl) (fun r2 _ => ?_)
  refine G.if_ne 20 dX7_talks_5 (by decide) (fun h5 => ?_) (fun h5 => ?_)
  · exact G.vret rfl rfl dX7_talks_20
  · refine G.aload_n dX7_talks_8 rfl ?_
    refine G.iload_n dX7_talks_9 rfl ?_
    refine G.aload_n dX7_talks_10 rfl ?_
    refine G.iload_n dX7_talks_11 rfl ?_
    refine G.callV (st := [.int x1, .ref (a 0)]) (w' := fun r12 => (w_X7 cI cL cC cM cS a t_now t_mores t_tape t_typed t_place t_isFault t_readLamps t_read t_undone t_undos t_aside t_bays t_bests t_kept t_keptUndos t_isKept t_lanes t_sizes t_items t_moved)) mv_X7_used lk_7_63 (c_X7_used l D ks cI cL cC cM cS a t_now t_mores t_tape t_typed t_place t_isFault t_readLamps t_read t_undone t_undos t_aside t_bays t_bests t_kept t_keptUndos t_isKept t_lanes t_sizes t_items t_moved x1) [0, 1, 2, 3, 4, 5, 6, 7, 8, 9, 10, 11, 12, 13, 14] [] [0, 1, 2, 3, 4, 5, 6, 7, 8, 9, 10, 11, 12, 13, 14] rfl rfl rfl rfl (by decide +kernel) (fun _ => rfl) rfl (by decide) (Nat.le_of_ble_eq_true rfl) dX7_talks_12 (fun r12 => [.int r12, .int x1, .ref (a 0)]) (fun _ => rfl) (fun r12 _ => ?_)
    refine G.iconst 5 dX7_talks_15 (by decide) ?_
    refine G.isub dX7_talks_16 ?_
    refine G.callV (st := []) (w' := fun r17 => (w_X7 cI cL cC cM cS a r17 t_mores t_tape t_typed t_place t_isFault t_readLamps t_read t_undone t_undos t_aside t_bays t_bests t_kept t_keptUndos t_isKept t_lanes t_sizes t_items t_moved)) mv_X7_usedBy lk_7_93 (c_X7_usedBy l D ks cI cL cC cM cS a t_now t_mores t_tape t_typed t_place t_isFault t_readLamps t_read t_undone t_undos t_aside t_bays t_bests t_kept t_keptUndos t_isKept t_lanes t_sizes t_items t_moved x1 (r12 - 5)) [0, 1, 2, 3, 4, 5, 6, 7, 8, 9, 10, 11, 12, 13, 14] [] [0, 1, 2, 3, 4, 5, 6, 7, 8, 9, 10, 11, 12, 13, 14] rfl rfl rfl rfl (by decide +kernel) (fun _ => rfl) rfl (by decide) (Nat.le_of_ble_eq_true rfl) dX7_talks_17 (fun r17 => []) (fun _ => rfl) (fun r17 _ => ?_)
    exact G.vret rfl rfl dX7_talks_20
set_option maxHeartbeats 4000000 in
set_option maxRecDepth 100000 in
theorem g_X7_coughs_c194 (l : Launch) (D : va_G) (ks : Nat × Nat) (cI cL cC cM cS : ClassId) (a : Nat → Nat) (t_tape : Nat → Int32) (t_typed t_place t_isFault : Int32) (t_readLamps t_read t_undone : Nat → Int32) (t_undos : Int32) (t_bays t_bests t_kept : Nat → Int32) (t_keptUndos t_isKept : Int32) (t_lanes t_sizes : Nat → Int32) (t_items t_moved : Nat → Int64) : ∀ (n : Nat), ∀ (t_now t_mores t_aside : Nat → Int32) (x5 : Int32) (x6 : Int32) (x7 : Int32) (x8 : Int32) (x9 : Int32), GJ l D ks (tyz cI cL cC cM cS) RX7 cX7_coughs 12 ((some .int)) { frames := 6, cells := 0, slots := 0, locals := 132 } (fun r : Int32 × (Nat → Int32) × (Nat → Int32) × (Nat → Int32) => (some (.int r.1), (w_X7 cI cL cC cM cS a r.2.1 r.2.2.1 t_tape t_typed t_place t_isFault t_readLamps t_read t_undone t_undos r.2.2.2 t_bays t_bests t_kept t_keptUndos t_isKept t_lanes t_sizes t_items t_moved))) (w_X7 cI cL cC cM cS a t_now t_mores t_tape t_typed t_place t_isFault t_readLamps t_read t_undone t_undos t_aside t_bays t_bests t_kept t_keptUndos t_isKept t_lanes t_sizes t_items t_moved) 194 [none, none, none, none, none, some (.int x5), some (.int x6), some (.int x7), some (.int x8), some (.int x9), none, none] [] (f_X7_coughs_c194 n t_now t_mores t_aside x5 x6 x7 x8 x9) := by
  intro n
  induction n with
  | zero =>
    intro t_now t_mores t_aside x5 x6 x7 x8 x9
    exact G.no
  | succ n ih =>
    intro t_now t_mores t_aside x5 x6 x7 x8 x9
    rw [f_X7_coughs_c194]
    refine G.iload dX7_coughs_194 rfl ?_
    refine G.if_eq 217 dX7_coughs_196 (by decide) (fun h196 => ?_) (fun h196 => ?_)
    · refine G.iload dX7_coughs_217 rfl ?_
      refine G.if_ne 230 dX7_coughs_219 (by decide) (fun h219 => ?_) (fun h219 => ?_)
      · refine G.iload dX7_coughs_230 rfl ?_
        refine G.iload dX7_coughs_232 rfl ?_
        refine G.nz (fun h234 => ?_)
        refine G.idiv dX7_coughs_234 h234 ?_
        exact G.iret rfl rfl dX7_coughs_235
      · refine G.iload dX7_coughs_222 rfl ?_
        refine G.iload dX7_coughs_224 rfl ?_
        refine G.nz (fun h226 => ?_)
        refine G.idiv dX7_coughs_226 h226 ?_
        refine G.goto 235 dX7_coughs_227 (by decide) ?_
        exact G.iret rfl rfl dX7_coughs_235
    · refine G.iload dX7_coughs_199 rfl ?_
      refine G.iload dX7_coughs_201 rfl ?_
      refine G.nz (fun h203 => ?_)
      refine G.irem dX7_coughs_203 h203 ?_
      refine G.istore (lv' := [none, none, none, none, none, some (.int x5), some (.int x6), some (.int x7), some (.int x8), some (.int x9), some (.int (x8 - x8 / x9 * x9)), none]) dX7_coughs_204 (by decide) (Nat.le_of_ble_eq_true rfl) rfl rfl ?_
      refine G.iload dX7_coughs_206 rfl ?_
      refine G.istore (lv' := [none, none, none, none, none, some (.int x5), some (.int x6), some (.int x7), some (.int x9), some (.int x9), some (.int (x8 - x8 / x9 * x9)), none]) dX7_coughs_208 (by decide) (Nat.le_of_ble_eq_true rfl) rfl rfl ?_
      refine G.iload dX7_coughs_210 rfl ?_
      refine G.istore (lv' := [none, none, none, none, none, some (.int x5), some (.int x6), some (.int x7), some (.int x9), some (.int (x8 - x8 / x9 * x9)), some (.int (x8 - x8 / x9 * x9)), none]) dX7_coughs_212 (by decide) (Nat.le_of_ble_eq_true rfl) rfl rfl ?_
      refine G.goto 194 dX7_coughs_214 (by decide) ?_
      refine G.mask (lv' := [none, none, none, none, none, some (.int x5), some (.int x6), some (.int x7), some (.int x9), some (.int (x8 - x8 / x9 * x9)), none, none]) [false, false, false, false, false, true, true, true, true, true, false, false] rfl ?_
      exact ih t_now t_mores t_aside x5 x6 x7 x9 (x8 - x8 / x9 * x9)
set_option maxHeartbeats 4000000 in
set_option maxRecDepth 100000 in
theorem g_X7_coughs_c139 (l : Launch) (D : va_G) (ks : Nat × Nat) (cI cL cC cM cS : ClassId) (a : Nat → Nat) (t_tape : Nat → Int32) (t_typed t_place t_isFault : Int32) (t_readLamps t_read t_undone : Nat → Int32) (t_undos : Int32) (t_bays t_bests t_kept : Nat → Int32) (t_keptUndos t_isKept : Int32) (t_lanes t_sizes : Nat → Int32) (t_items t_moved : Nat → Int64) (k71 : (Nat → Int32) → (Nat → Int32) → (Nat → Int32) → Int32 → Int32 → Int32 → Int32 → Int32 → Int32 → Int32 → Int32 → (Option (Int32 × (Nat → Int32) × (Nat → Int32) × (Nat → Int32)))) (hk71 : ∀ (t_now t_mores t_aside : Nat → Int32) (x1 : Int32) (x2 : Int32) (x3 : Int32) (x4 : Int32) (x5 : Int32) (x6 : Int32) (x7 : Int32) (x8 : Int32), GJ l D ks (tyz cI cL cC cM cS) RX7 cX7_coughs 12 ((some .int)) { frames := 6, cells := 0, slots := 0, locals := 132 } (fun r : Int32 × (Nat → Int32) × (Nat → Int32) × (Nat → Int32) => (some (.int r.1), (w_X7 cI cL cC cM cS a r.2.1 r.2.2.1 t_tape t_typed t_place t_isFault t_readLamps t_read t_undone t_undos r.2.2.2 t_bays t_bests t_kept t_keptUndos t_isKept t_lanes t_sizes t_items t_moved))) (w_X7 cI cL cC cM cS a t_now t_mores t_tape t_typed t_place t_isFault t_readLamps t_read t_undone t_undos t_aside t_bays t_bests t_kept t_keptUndos t_isKept t_lanes t_sizes t_items t_moved) 71 [some (.ref (a 0)), some (.int x1), some (.int x2), some (.int x3), some (.int x4), some (.int x5), some (.int x6), some (.int x7), some (.int x8), none, none, none] [] (k71 t_now t_mores t_aside x1 x2 x3 x4 x5 x6 x7 x8)) (k85 : (Nat → Int32) → (Nat → Int32) → (Nat → Int32) → Int32 → Int32 → Int32 → Int32 → Int32 → Int32 → Int32 → Int32 → Int32 → Int32 → (Option (Int32 × (Nat → Int32) × (Nat → Int32) × (Nat → Int32)))) (hk85 : ∀ (t_now t_mores t_aside : Nat → Int32) (x1 : Int32) (x2 : Int32) (x3 : Int32) (x4 : Int32) (x5 : Int32) (x6 : Int32) (x7 : Int32) (x8 : Int32) (x9 : Int32) (x10 : Int32), GJ l D ks (tyz cI cL cC cM cS) RX7 cX7_coughs 12 ((some .int)) { frames := 6, cells := 0, slots := 0, locals := 132 } (fun r : Int32 × (Nat → Int32) × (Nat → Int32) × (Nat → Int32) => (some (.int r.1), (w_X7 cI cL cC cM cS a r.2.1 r.2.2.1 t_tape t_typed t_place t_isFault t_readLamps t_read t_undone t_undos r.2.2.2 t_bays t_bests t_kept t_keptUndos t_isKept t_lanes t_sizes t_items t_moved))) (w_X7 cI cL cC cM cS a t_now t_mores t_tape t_typed t_place t_isFault t_readLamps t_read t_undone t_undos t_aside t_bays t_bests t_kept t_keptUndos t_isKept t_lanes t_sizes t_items t_moved) 85 [some (.ref (a 0)), some (.int x1), some (.int x2), some (.int x3), some (.int x4), some (.int x5), some (.int x6), some (.int x7), some (.int x8), some (.int x9), some (.int x10), none] [] (k85 t_now t_mores t_aside x1 x2 x3 x4 x5 x6 x7 x8 x9 x10)) (t_now t_mores t_aside : Nat → Int32) (x1 : Int32) (x2 : Int32) (x3 : Int32) (x4 : Int32) (x5 : Int32) (x6 : Int32) (x7 : Int32) (x8 : Int32) (x9 : Int32) (x10 : Int32) : GJ l D ks (tyz cI cL cC cM cS) RX7 cX7_coughs 12 ((some .int)) { frames := 6, cells := 0, slots := 0, locals := 132 } (fun r : Int32 × (Nat → Int32) × (Nat → Int32) × (Nat → Int32) => (some (.int r.1), (w_X7 cI cL cC cM cS a r.2.1 r.2.2.1 t_tape t_typed t_place t_isFault t_readLamps t_read t_undone t_undos r.2.2.2 t_bays t_bests t_kept t_keptUndos t_isKept t_lanes t_sizes t_items t_moved))) (w_X7 cI cL cC cM cS a t_now t_mores t_tape t_typed t_place t_isFault t_readLamps t_read t_undone t_undos t_aside t_bays t_bests t_kept t_keptUndos t_isKept t_lanes t_sizes t_items t_moved) 139 [some (.ref (a 0)), some (.int x1), some (.int x2), some (.int x3), some (.int x4), some (.int x5), some (.int x6), some (.int x7), some (.int x8), some (.int x9), some (.int x10), none] [] (f_X7_coughs_c139 k71 k85 t_now t_mores t_aside x1 x2 x3 x4 x5 x6 x7 x8 x9 x10) := by
  unfold f_X7_coughs_c139
  refine G.aload_n dX7_coughs_139 rfl ?_
  refine G.callV (st := []) (w' := fun r140 => (w_X7 cI cL cC cM cS a r140.1 r140.2 t_tape t_typed t_place t_isFault t_readLamps t_read t_undone t_undos t_aside t_bays t_bests t_kept t_keptUndos t_isKept t_lanes t_sizes t_items t_moved)) mv_X7_goesBy lk_7_97 (c_X7_goesBy l D ks cI cL cC cM cS a t_now t_mores t_tape t_typed t_place t_isFault t_readLamps t_read t_undone t_undos t_aside t_bays t_bests t_kept t_keptUndos t_isKept t_lanes t_sizes t_items t_moved) [0, 1, 2, 3, 4, 5, 6, 7, 8, 9, 10, 11, 12, 13, 14] [] [0, 1, 2, 3, 4, 5, 6, 7, 8, 9, 10, 11, 12, 13, 14] rfl rfl rfl rfl (by decide +kernel) (fun _ => rfl) rfl (by decide) (Nat.le_of_ble_eq_true rfl) dX7_coughs_140 (fun r140 => []) (fun _ => rfl) (fun r140 _ => ?_)
  refine G.iinc 1 (lv' := [some (.ref (a 0)), some (.int x1), some (.int x2), some (.int x3), some (.int x4), some (.int x5), some (.int x6), some (.int x7), some (.int x8), some (.int x9), some (.int (x10 + 1)), none]) dX7_coughs_143 rfl (by decide) (by decide) (Nat.le_of_ble_eq_true rfl) rfl rfl ?_
  refine G.goto 85 dX7_coughs_146 (by decide) ?_
  exact hk85 r140.1 r140.2 t_aside x1 x2 x3 x4 x5 x6 x7 x8 x9 (x10 + 1)
set_option maxHeartbeats 4000000 in
set_option maxRecDepth 100000 in
theorem g_X7_coughs_c85 (l : Launch) (D : va_G) (ks : Nat × Nat) (cI cL cC cM cS : ClassId) (a : Nat → Nat) (t_tape : Nat → Int32) (t_typed t_place t_isFault : Int32) (t_readLamps t_read t_undone : Nat → Int32) (t_undos : Int32) (t_bays t_bests t_kept : Nat → Int32) (t_keptUndos t_isKept : Int32) (t_lanes t_sizes : Nat → Int32) (t_items t_moved : Nat → Int64) (k71 : (Nat → Int32) → (Nat → Int32) → (Nat → Int32) → Int32 → Int32 → Int32 → Int32 → Int32 → Int32 → Int32 → Int32 → (Option (Int32 × (Nat → Int32) × (Nat → Int32) × (Nat → Int32)))) (hk71 : ∀ (t_now t_mores t_aside : Nat → Int32) (x1 : Int32) (x2 : Int32) (x3 : Int32) (x4 : Int32) (x5 : Int32) (x6 : Int32) (x7 : Int32) (x8 : Int32), GJ l D ks (tyz cI cL cC cM cS) RX7 cX7_coughs 12 ((some .int)) { frames := 6, cells := 0, slots := 0, locals := 132 } (fun r : Int32 × (Nat → Int32) × (Nat → Int32) × (Nat → Int32) => (some (.int r.1), (w_X7 cI cL cC cM cS a r.2.1 r.2.2.1 t_tape t_typed t_place t_isFault t_readLamps t_read t_undone t_undos r.2.2.2 t_bays t_bests t_kept t_keptUndos t_isKept t_lanes t_sizes t_items t_moved))) (w_X7 cI cL cC cM cS a t_now t_mores t_tape t_typed t_place t_isFault t_readLamps t_read t_undone t_undos t_aside t_bays t_bests t_kept t_keptUndos t_isKept t_lanes t_sizes t_items t_moved) 71 [some (.ref (a 0)), some (.int x1), some (.int x2), some (.int x3), some (.int x4), some (.int x5), some (.int x6), some (.int x7), some (.int x8), none, none, none] [] (k71 t_now t_mores t_aside x1 x2 x3 x4 x5 x6 x7 x8)) : ∀ (n : Nat), ∀ (t_now t_mores t_aside : Nat → Int32) (x1 : Int32) (x2 : Int32) (x3 : Int32) (x4 : Int32) (x5 : Int32) (x6 : Int32) (x7 : Int32) (x8 : Int32) (x9 : Int32) (x10 : Int32), GJ l D ks (tyz cI cL cC cM cS) RX7 cX7_coughs 12 ((some .int)) { frames := 6, cells := 0, slots := 0, locals := 132 } (fun r : Int32 × (Nat → Int32) × (Nat → Int32) × (Nat → Int32) => (some (.int r.1), (w_X7 cI cL cC cM cS a r.2.1 r.2.2.1 t_tape t_typed t_place t_isFault t_readLamps t_read t_undone t_undos r.2.2.2 t_bays t_bests t_kept t_keptUndos t_isKept t_lanes t_sizes t_items t_moved))) (w_X7 cI cL cC cM cS a t_now t_mores t_tape t_typed t_place t_isFault t_readLamps t_read t_undone t_undos t_aside t_bays t_bests t_kept t_keptUndos t_isKept t_lanes t_sizes t_items t_moved) 85 [some (.ref (a 0)), some (.int x1), some (.int x2), some (.int x3), some (.int x4), some (.int x5), some (.int x6), some (.int x7), some (.int x8), some (.int x9), some (.int x10), none] [] (f_X7_coughs_c85 k71 n t_now t_mores t_aside x1 x2 x3 x4 x5 x6 x7 x8 x9 x10) := by
  intro n
  induction n with
  | zero =>
    intro t_now t_mores t_aside x1 x2 x3 x4 x5 x6 x7 x8 x9 x10
    exact G.no
  | succ n ih =>
    intro t_now t_mores t_aside x1 x2 x3 x4 x5 x6 x7 x8 x9 x10
    rw [f_X7_coughs_c85]
    refine G.iload dX7_coughs_85 rfl ?_
    refine G.iload_n dX7_coughs_87 rfl ?_
    refine G.icmp_ge 149 dX7_coughs_88 (by decide) (fun h88 => ?_) (fun h88 => ?_)
    · refine G.iload dX7_coughs_149 rfl ?_
      refine G.iload dX7_coughs_151 rfl ?_
      refine G.iadd dX7_coughs_153 ?_
      refine G.istore (lv' := [some (.ref (a 0)), some (.int x1), some (.int x2), some (.int x3), some (.int x4), some (.int x5), some (.int x6), some (.int (x7 + x9)), some (.int x8), some (.int x9), some (.int x10), none]) dX7_coughs_154 (by decide) (Nat.le_of_ble_eq_true rfl) rfl rfl ?_
      refine G.iload dX7_coughs_156 rfl ?_
      refine G.aload_n dX7_coughs_158 rfl ?_
      refine G.iload_n dX7_coughs_159 rfl ?_
      refine G.callV (st := [.int x6]) (w' := fun r160 => (w_X7 cI cL cC cM cS a t_now t_mores t_tape t_typed t_place t_isFault t_readLamps t_read t_undone t_undos t_aside t_bays t_bests t_kept t_keptUndos t_isKept t_lanes t_sizes t_items t_moved)) mv_X7_used lk_7_63 (c_X7_used l D ks cI cL cC cM cS a t_now t_mores t_tape t_typed t_place t_isFault t_readLamps t_read t_undone t_undos t_aside t_bays t_bests t_kept t_keptUndos t_isKept t_lanes t_sizes t_items t_moved x1) [0, 1, 2, 3, 4, 5, 6, 7, 8, 9, 10, 11, 12, 13, 14] [] [0, 1, 2, 3, 4, 5, 6, 7, 8, 9, 10, 11, 12, 13, 14] rfl rfl rfl rfl (by decide +kernel) (fun _ => rfl) rfl (by decide) (Nat.le_of_ble_eq_true rfl) dX7_coughs_160 (fun r160 => [.int r160, .int x6]) (fun _ => rfl) (fun r160 _ => ?_)
      refine G.iload_n dX7_coughs_163 rfl ?_
      refine G.join (st := [.int x6]) Value.int 173 (fun v173 => ?_) (fun hJ => ?_)
      · refine G.iadd dX7_coughs_173 ?_
        refine G.istore (lv' := [some (.ref (a 0)), some (.int x1), some (.int x2), some (.int x3), some (.int x4), some (.int x5), some (.int (x6 + v173)), some (.int (x7 + x9)), some (.int x8), some (.int x9), some (.int x10), none]) dX7_coughs_174 (by decide) (Nat.le_of_ble_eq_true rfl) rfl rfl ?_
        refine G.aload_n dX7_coughs_176 rfl ?_
        refine G.callV (st := []) (w' := fun r177 => (w_X7 cI cL cC cM cS a r177 t_mores t_tape t_typed t_place t_isFault t_readLamps t_read t_undone t_undos t_aside t_bays t_bests t_kept t_keptUndos t_isKept t_lanes t_sizes t_items t_moved)) mv_X7_backs lk_7_193 (c_X7_backs l D ks cI cL cC cM cS a t_now t_mores t_tape t_typed t_place t_isFault t_readLamps t_read t_undone t_undos t_aside t_bays t_bests t_kept t_keptUndos t_isKept t_lanes t_sizes t_items t_moved) [0, 1, 2, 3, 4, 5, 6, 7, 8, 9, 10, 11, 12, 13, 14] [] [0, 1, 2, 3, 4, 5, 6, 7, 8, 9, 10, 11, 12, 13, 14] rfl rfl rfl rfl (by decide +kernel) (fun _ => rfl) rfl (by decide) (Nat.le_of_ble_eq_true rfl) dX7_coughs_177 (fun r177 => []) (fun _ => rfl) (fun r177 _ => ?_)
        refine G.iinc 1 (lv' := [some (.ref (a 0)), some (.int x1), some (.int x2), some (.int x3), some (.int x4), some (.int x5), some (.int (x6 + v173)), some (.int (x7 + x9)), some (.int (x8 + 1)), some (.int x9), some (.int x10), none]) dX7_coughs_180 rfl (by decide) (by decide) (Nat.le_of_ble_eq_true rfl) rfl rfl ?_
        refine G.goto 71 dX7_coughs_183 (by decide) ?_
        refine G.mask (lv' := [some (.ref (a 0)), some (.int x1), some (.int x2), some (.int x3), some (.int x4), some (.int x5), some (.int (x6 + v173)), some (.int (x7 + x9)), some (.int (x8 + 1)), none, none, none]) [true, true, true, true, true, true, true, true, true, false, false, false] rfl ?_
        exact hk71 r177 t_mores t_aside x1 x2 x3 x4 x5 (x6 + v173) (x7 + x9) (x8 + 1)
      · refine G.ite ?_
        refine G.icmp_lt 172 dX7_coughs_164 (by decide) (fun _ => ?_) (fun _ => ?_)
        · refine G.iconst 0 dX7_coughs_172 (by decide) ?_
          exact hJ _
        · refine G.iload dX7_coughs_167 rfl ?_
          refine G.goto 173 dX7_coughs_169 (by decide) ?_
          exact hJ _
    · refine G.iload dX7_coughs_91 rfl ?_
      refine G.iload dX7_coughs_93 rfl ?_
      refine G.ishr dX7_coughs_95 ?_
      refine G.iconst 1 dX7_coughs_96 (by decide) ?_
      refine G.iand dX7_coughs_97 ?_
      refine G.iconst 1 dX7_coughs_98 (by decide) ?_
      refine G.join (st := []) Value.int 107 (fun v107 => ?_) (fun hJ => ?_)
      · refine G.istore (lv' := [some (.ref (a 0)), some (.int x1), some (.int x2), some (.int x3), some (.int x4), some (.int x5), some (.int x6), some (.int x7), some (.int x8), some (.int x9), some (.int x10), some (.int v107)]) dX7_coughs_107 (by decide) (Nat.le_of_ble_eq_true rfl) rfl rfl ?_
        refine G.iload dX7_coughs_109 rfl ?_
        refine G.iload dX7_coughs_111 rfl ?_
        refine G.join (st := [.int x9]) Value.int 126 (fun v126 => ?_) (fun hJ => ?_)
        · refine G.imul dX7_coughs_126 ?_
          refine G.istore (lv' := [some (.ref (a 0)), some (.int x1), some (.int x2), some (.int x3), some (.int x4), some (.int x5), some (.int x6), some (.int x7), some (.int x8), some (.int (x9 * v126)), some (.int x10), some (.int v107)]) dX7_coughs_127 (by decide) (Nat.le_of_ble_eq_true rfl) rfl rfl ?_
          refine G.iload dX7_coughs_129 rfl ?_
          refine G.if_eq 139 dX7_coughs_131 (by decide) (fun h131 => ?_) (fun h131 => ?_)
          · refine G.mask (lv' := [some (.ref (a 0)), some (.int x1), some (.int x2), some (.int x3), some (.int x4), some (.int x5), some (.int x6), some (.int x7), some (.int x8), some (.int (x9 * v126)), some (.int x10), none]) [true, true, true, true, true, true, true, true, true, true, true, false] rfl ?_
            exact g_X7_coughs_c139 l D ks cI cL cC cM cS a t_tape t_typed t_place t_isFault t_readLamps t_read t_undone t_undos t_bays t_bests t_kept t_keptUndos t_isKept t_lanes t_sizes t_items t_moved k71 hk71 (f_X7_coughs_c85 k71 n) ih t_now t_mores t_aside x1 x2 x3 x4 x5 x6 x7 x8 (x9 * v126) x10
          · refine G.aload_n dX7_coughs_134 rfl ?_
            refine G.iload_n dX7_coughs_135 rfl ?_
            refine G.callV (st := []) (w' := fun r136 => (w_X7 cI cL cC cM cS a r136 t_mores t_tape t_typed t_place t_isFault t_readLamps t_read t_undone t_undos t_aside t_bays t_bests t_kept t_keptUndos t_isKept t_lanes t_sizes t_items t_moved)) mv_X7_talks lk_7_176 (c_X7_talks l D ks cI cL cC cM cS a t_now t_mores t_tape t_typed t_place t_isFault t_readLamps t_read t_undone t_undos t_aside t_bays t_bests t_kept t_keptUndos t_isKept t_lanes t_sizes t_items t_moved x1) [0, 1, 2, 3, 4, 5, 6, 7, 8, 9, 10, 11, 12, 13, 14] [] [0, 1, 2, 3, 4, 5, 6, 7, 8, 9, 10, 11, 12, 13, 14] rfl rfl rfl rfl (by decide +kernel) (fun _ => rfl) rfl (by decide) (Nat.le_of_ble_eq_true rfl) dX7_coughs_136 (fun r136 => []) (fun _ => rfl) (fun r136 _ => ?_)
            refine G.mask (lv' := [some (.ref (a 0)), some (.int x1), some (.int x2), some (.int x3), some (.int x4), some (.int x5), some (.int x6), some (.int x7), some (.int x8), some (.int (x9 * v126)), some (.int x10), none]) [true, true, true, true, true, true, true, true, true, true, true, false] rfl ?_
            exact g_X7_coughs_c139 l D ks cI cL cC cM cS a t_tape t_typed t_place t_isFault t_readLamps t_read t_undone t_undos t_bays t_bests t_kept t_keptUndos t_isKept t_lanes t_sizes t_items t_moved k71 hk71 (f_X7_coughs_c85 k71 n) ih r136 t_mores t_aside x1 x2 x3 x4 x5 x6 x7 x8 (x9 * v126) x10
        · refine G.ite ?_
          refine G.if_eq 121 dX7_coughs_113 (by decide) (fun _ => ?_) (fun _ => ?_)
          · refine G.bipush 10 dX7_coughs_121 (by decide) ?_
            refine G.iload dX7_coughs_123 rfl ?_
            refine G.isub dX7_coughs_125 ?_
            exact hJ _
          · refine G.iload dX7_coughs_116 rfl ?_
            refine G.goto 126 dX7_coughs_118 (by decide) ?_
            exact hJ _
      · refine G.ite ?_
        refine G.icmp_ne 106 dX7_coughs_99 (by decide) (fun _ => ?_) (fun _ => ?_)
        · refine G.iconst 0 dX7_coughs_106 (by decide) ?_
          exact hJ _
        · refine G.iconst 1 dX7_coughs_102 (by decide) ?_
          refine G.goto 107 dX7_coughs_103 (by decide) ?_
          exact hJ _
set_option maxHeartbeats 4000000 in
set_option maxRecDepth 100000 in
theorem g_X7_coughs_c71 (l : Launch) (D : va_G) (ks : Nat × Nat) (cI cL cC cM cS : ClassId) (a : Nat → Nat) (t_tape : Nat → Int32) (t_typed t_place t_isFault : Int32) (t_readLamps t_read t_undone : Nat → Int32) (t_undos : Int32) (t_bays t_bests t_kept : Nat → Int32) (t_keptUndos t_isKept : Int32) (t_lanes t_sizes : Nat → Int32) (t_items t_moved : Nat → Int64) : ∀ (n : Nat), ∀ (t_now t_mores t_aside : Nat → Int32) (x1 : Int32) (x2 : Int32) (x3 : Int32) (x4 : Int32) (x5 : Int32) (x6 : Int32) (x7 : Int32) (x8 : Int32), GJ l D ks (tyz cI cL cC cM cS) RX7 cX7_coughs 12 ((some .int)) { frames := 6, cells := 0, slots := 0, locals := 132 } (fun r : Int32 × (Nat → Int32) × (Nat → Int32) × (Nat → Int32) => (some (.int r.1), (w_X7 cI cL cC cM cS a r.2.1 r.2.2.1 t_tape t_typed t_place t_isFault t_readLamps t_read t_undone t_undos r.2.2.2 t_bays t_bests t_kept t_keptUndos t_isKept t_lanes t_sizes t_items t_moved))) (w_X7 cI cL cC cM cS a t_now t_mores t_tape t_typed t_place t_isFault t_readLamps t_read t_undone t_undos t_aside t_bays t_bests t_kept t_keptUndos t_isKept t_lanes t_sizes t_items t_moved) 71 [some (.ref (a 0)), some (.int x1), some (.int x2), some (.int x3), some (.int x4), some (.int x5), some (.int x6), some (.int x7), some (.int x8), none, none, none] [] (f_X7_coughs_c71 n t_now t_mores t_aside x1 x2 x3 x4 x5 x6 x7 x8) := by
  intro n
  induction n with
  | zero =>
    intro t_now t_mores t_aside x1 x2 x3 x4 x5 x6 x7 x8
    exact G.no
  | succ n ih =>
    intro t_now t_mores t_aside x1 x2 x3 x4 x5 x6 x7 x8
    rw [f_X7_coughs_c71]
    refine G.iload dX7_coughs_71 rfl ?_
    refine G.iconst 1 dX7_coughs_73 (by decide) ?_
    refine G.iload_n dX7_coughs_74 rfl ?_
    refine G.ishl dX7_coughs_75 ?_
    refine G.icmp_ge 186 dX7_coughs_76 (by decide) (fun h76 => ?_) (fun h76 => ?_)
    · refine G.iload dX7_coughs_186 rfl ?_
      refine G.istore (lv' := [some (.ref (a 0)), some (.int x1), some (.int x2), some (.int x3), some (.int x4), some (.int x5), some (.int x6), some (.int x7), some (.int x6), none, none, none]) dX7_coughs_188 (by decide) (Nat.le_of_ble_eq_true rfl) rfl rfl ?_
      refine G.iload dX7_coughs_190 rfl ?_
      refine G.istore (lv' := [some (.ref (a 0)), some (.int x1), some (.int x2), some (.int x3), some (.int x4), some (.int x5), some (.int x6), some (.int x7), some (.int x6), some (.int x7), none, none]) dX7_coughs_192 (by decide) (Nat.le_of_ble_eq_true rfl) rfl rfl ?_
      refine G.mask (lv' := [none, none, none, none, none, some (.int x5), some (.int x6), some (.int x7), some (.int x6), some (.int x7), none, none]) [false, false, false, false, false, true, true, true, true, true, false, false] rfl ?_
      exact g_X7_coughs_c194 l D ks cI cL cC cM cS a t_tape t_typed t_place t_isFault t_readLamps t_read t_undone t_undos t_bays t_bests t_kept t_keptUndos t_isKept t_lanes t_sizes t_items t_moved fu t_now t_mores t_aside x5 x6 x7 x6 x7
    · refine G.iconst 1 dX7_coughs_79 (by decide) ?_
      refine G.istore (lv' := [some (.ref (a 0)), some (.int x1), some (.int x2), some (.int x3), some (.int x4), some (.int x5), some (.int x6), some (.int x7), some (.int x8), some (.int 1), none, none]) dX7_coughs_80 (by decide) (Nat.le_of_ble_eq_true rfl) rfl rfl ?_
      refine G.iconst 0 dX7_coughs_82 (by decide) ?_
      refine G.istore (lv' := [some (.ref (a 0)), some (.int x1), some (.int x2), some (.int x3), some (.int x4), some (.int x5), some (.int x6), some (.int x7), some (.int x8), some (.int 1), some (.int 0), none]) dX7_coughs_83 (by decide) (Nat.le_of_ble_eq_true rfl) rfl rfl ?_
      exact g_X7_coughs_c85 l D ks cI cL cC cM cS a t_tape t_typed t_place t_isFault t_readLamps t_read t_undone t_undos t_bays t_bests t_kept t_keptUndos t_isKept t_lanes t_sizes t_items t_moved (f_X7_coughs_c71 n) ih fu t_now t_mores t_aside x1 x2 x3 x4 x5 x6 x7 x8 1 0
set_option maxHeartbeats 4000000 in
set_option maxRecDepth 100000 in
theorem c_X7_coughs (l : Launch) (D : va_G) (ks : Nat × Nat) (cI cL cC cM cS : ClassId) (a : Nat → Nat) (t_now t_mores t_tape : Nat → Int32) (t_typed t_place t_isFault : Int32) (t_readLamps t_read t_undone : Nat → Int32) (t_undos : Int32) (t_aside t_bays t_bests t_kept : Nat → Int32) (t_keptUndos t_isKept : Int32) (t_lanes t_sizes : Nat → Int32) (t_items t_moved : Nat → Int64) (x1 : Int32) (x2 : Int32) (x3 : Int32) (x4 : Int32) (x5 : Int32) : MT l D ks (tyz cI cL cC cM cS) yX7_coughs cX7_coughs 12 ((some .int)) { frames := 6, cells := 0, slots := 0, locals := 132 } [.ref (a 0), .int x1, .int x2, .int x3, .int x4, .int x5] (w_X7 cI cL cC cM cS a t_now t_mores t_tape t_typed t_place t_isFault t_readLamps t_read t_undone t_undos t_aside t_bays t_bests t_kept t_keptUndos t_isKept t_lanes t_sizes t_items t_moved) (fun r : Int32 × (Nat → Int32) × (Nat → Int32) × (Nat → Int32) => (some (.int r.1), (w_X7 cI cL cC cM cS a r.2.1 r.2.2.1 t_tape t_typed t_place t_isFault t_readLamps t_read t_undone t_undos r.2.2.2 t_bays t_bests t_kept t_keptUndos t_isKept t_lanes t_sizes t_items t_moved))) (f_X7_coughs t_now t_mores t_aside x1 x2 x3 x4 x5) := by
  refine MT.of 6 [some (.ref (a 0)), some (.int x1), some (.int x2), some (.int x3), some (.int x4), some (.int x5), none, none, none, none, none, none] (by decide) (Nat.le_of_ble_eq_true rfl) rfl ?_
  unfold f_X7_coughs
  refine G.aload_n dX7_coughs_0 rfl ?_
  refine G.iload_n dX7_coughs_1 rfl ?_
  refine G.callV (st := []) (w' := fun r2 => (w_X7 cI cL cC cM cS a t_now t_mores t_tape t_typed t_place t_isFault t_readLamps t_read t_undone t_undos t_aside t_bays t_bests t_kept t_keptUndos t_isKept t_lanes t_sizes t_items t_moved)) mv_X7_isHolder lk_7_120 (c_X7_isHolder l D ks cI cL cC cM cS a t_now t_mores t_tape t_typed t_place t_isFault t_readLamps t_read t_undone t_undos t_aside t_bays t_bests t_kept t_keptUndos t_isKept t_lanes t_sizes t_items t_moved x1) [0, 1, 2, 3, 4, 5, 6, 7, 8, 9, 10, 11, 12, 13, 14] [] [0, 1, 2, 3, 4, 5, 6, 7, 8, 9, 10, 11, 12, 13, 14] rfl rfl rfl rfl (by decide +kernel) (fun _ => rfl) rfl (by decide) (Nat.le_of_ble_eq_true rfl) dX7_coughs_2 (fun r2 => [.int r2]) (fun _ => rfl) (fun r2 _ => ?_)
  refine G.if_eq 56 dX7_coughs_5 (by decide) (fun h5 => ?_) (fun h5 => ?_)
  · refine G.iconst (-1) dX7_coughs_56 (by decide) ?_
    exact G.iret rfl rfl dX7_coughs_57
  · refine G.iload_n dX7_coughs_8 rfl ?_
    refine G.i2l dX7_coughs_9 ?_
    refine G.lconst 0 dX7_coughs_10 (by decide) ?_
    refine G.ldc2 kl_7_106 dX7_coughs_11 ?_
    refine G.callS (st := []) (w' := fun r14 => (w_X7 cI cL cC cM cS a t_now t_mores t_tape t_typed t_place t_isFault t_readLamps t_read t_undone t_undos t_aside t_bays t_bests t_kept t_keptUndos t_isKept t_lanes t_sizes t_items t_moved)) ms_X7_in lk_7_53 (c_X7_in l D ks cI cL cC cM cS (x2.toInt64) 0 99) [] [0, 1, 2, 3, 4, 5, 6, 7, 8, 9, 10, 11, 12, 13, 14] [0, 1, 2, 3, 4, 5, 6, 7, 8, 9, 10, 11, 12, 13, 14] rfl rfl rfl rfl (by decide +kernel) (fun _ => rfl) (by decide) (Nat.le_of_ble_eq_true rfl) dX7_coughs_14 (fun r14 => [.int r14]) (fun _ => rfl) (fun r14 _ => ?_)
    refine G.if_eq 56 dX7_coughs_17 (by decide) (fun h17 => ?_) (fun h17 => ?_)
    · refine G.iconst (-1) dX7_coughs_56 (by decide) ?_
      exact G.iret rfl rfl dX7_coughs_57
    · refine G.iload_n dX7_coughs_20 rfl ?_
      refine G.i2l dX7_coughs_21 ?_
      refine G.lconst 0 dX7_coughs_22 (by decide) ?_
      refine G.ldc2 kl_7_222 dX7_coughs_23 ?_
      refine G.callS (st := []) (w' := fun r26 => (w_X7 cI cL cC cM cS a t_now t_mores t_tape t_typed t_place t_isFault t_readLamps t_read t_undone t_undos t_aside t_bays t_bests t_kept t_keptUndos t_isKept t_lanes t_sizes t_items t_moved)) ms_X7_in lk_7_53 (c_X7_in l D ks cI cL cC cM cS (x3.toInt64) 0 6) [] [0, 1, 2, 3, 4, 5, 6, 7, 8, 9, 10, 11, 12, 13, 14] [0, 1, 2, 3, 4, 5, 6, 7, 8, 9, 10, 11, 12, 13, 14] rfl rfl rfl rfl (by decide +kernel) (fun _ => rfl) (by decide) (Nat.le_of_ble_eq_true rfl) dX7_coughs_26 (fun r26 => [.int r26]) (fun _ => rfl) (fun r26 _ => ?_)
      refine G.if_eq 56 dX7_coughs_29 (by decide) (fun h29 => ?_) (fun h29 => ?_)
      · refine G.iconst (-1) dX7_coughs_56 (by decide) ?_
        exact G.iret rfl rfl dX7_coughs_57
      · refine G.iload dX7_coughs_32 rfl ?_
        refine G.i2l dX7_coughs_34 ?_
        refine G.lconst 0 dX7_coughs_35 (by decide) ?_
        refine G.ldc2 kl_7_224 dX7_coughs_36 ?_
        refine G.callS (st := []) (w' := fun r39 => (w_X7 cI cL cC cM cS a t_now t_mores t_tape t_typed t_place t_isFault t_readLamps t_read t_undone t_undos t_aside t_bays t_bests t_kept t_keptUndos t_isKept t_lanes t_sizes t_items t_moved)) ms_X7_in lk_7_53 (c_X7_in l D ks cI cL cC cM cS (x4.toInt64) 0 10) [] [0, 1, 2, 3, 4, 5, 6, 7, 8, 9, 10, 11, 12, 13, 14] [0, 1, 2, 3, 4, 5, 6, 7, 8, 9, 10, 11, 12, 13, 14] rfl rfl rfl rfl (by decide +kernel) (fun _ => rfl) (by decide) (Nat.le_of_ble_eq_true rfl) dX7_coughs_39 (fun r39 => [.int r39]) (fun _ => rfl) (fun r39 _ => ?_)
        refine G.if_eq 56 dX7_coughs_42 (by decide) (fun h42 => ?_) (fun h42 => ?_)
        · refine G.iconst (-1) dX7_coughs_56 (by decide) ?_
          exact G.iret rfl rfl dX7_coughs_57
        · refine G.iload dX7_coughs_45 rfl ?_
          refine G.i2l dX7_coughs_47 ?_
          refine G.lconst 0 dX7_coughs_48 (by decide) ?_
          refine G.lconst 1 dX7_coughs_49 (by decide) ?_
          refine G.callS (st := []) (w' := fun r50 => (w_X7 cI cL cC cM cS a t_now t_mores t_tape t_typed t_place t_isFault t_readLamps t_read t_undone t_undos t_aside t_bays t_bests t_kept t_keptUndos t_isKept t_lanes t_sizes t_items t_moved)) ms_X7_in lk_7_53 (c_X7_in l D ks cI cL cC cM cS (x5.toInt64) 0 1) [] [0, 1, 2, 3, 4, 5, 6, 7, 8, 9, 10, 11, 12, 13, 14] [0, 1, 2, 3, 4, 5, 6, 7, 8, 9, 10, 11, 12, 13, 14] rfl rfl rfl rfl (by decide +kernel) (fun _ => rfl) (by decide) (Nat.le_of_ble_eq_true rfl) dX7_coughs_50 (fun r50 => [.int r50]) (fun _ => rfl) (fun r50 _ => ?_)
          refine G.if_ne 58 dX7_coughs_53 (by decide) (fun h53 => ?_) (fun h53 => ?_)
          · refine G.iconst 0 dX7_coughs_58 (by decide) ?_
            refine G.istore (lv' := [some (.ref (a 0)), some (.int x1), some (.int x2), some (.int x3), some (.int x4), some (.int x5), some (.int 0), none, none, none, none, none]) dX7_coughs_59 (by decide) (Nat.le_of_ble_eq_true rfl) rfl rfl ?_
            refine G.iconst 0 dX7_coughs_61 (by decide) ?_
            refine G.istore (lv' := [some (.ref (a 0)), some (.int x1), some (.int x2), some (.int x3), some (.int x4), some (.int x5), some (.int 0), some (.int 0), none, none, none, none]) dX7_coughs_62 (by decide) (Nat.le_of_ble_eq_true rfl) rfl rfl ?_
            refine G.aload_n dX7_coughs_64 rfl ?_
            refine G.callV (st := []) (w' := fun r65 => (w_X7 cI cL cC cM cS a t_now t_mores t_tape t_typed t_place t_isFault t_readLamps t_read t_undone t_undos r65 t_bays t_bests t_kept t_keptUndos t_isKept t_lanes t_sizes t_items t_moved)) mv_X7_asides lk_7_187 (c_X7_asides l D ks cI cL cC cM cS a t_now t_mores t_tape t_typed t_place t_isFault t_readLamps t_read t_undone t_undos t_aside t_bays t_bests t_kept t_keptUndos t_isKept t_lanes t_sizes t_items t_moved) [0, 1, 2, 3, 4, 5, 6, 7, 8, 9, 10, 11, 12, 13, 14] [] [0, 1, 2, 3, 4, 5, 6, 7, 8, 9, 10, 11, 12, 13, 14] rfl rfl rfl rfl (by decide +kernel) (fun _ => rfl) rfl (by decide) (Nat.le_of_ble_eq_true rfl) dX7_coughs_65 (fun r65 => []) (fun _ => rfl) (fun r65 _ => ?_)
            refine G.iconst 0 dX7_coughs_68 (by decide) ?_
            refine G.istore (lv' := [some (.ref (a 0)), some (.int x1), some (.int x2), some (.int x3), some (.int x4), some (.int x5), some (.int 0), some (.int 0), some (.int 0), none, none, none]) dX7_coughs_69 (by decide) (Nat.le_of_ble_eq_true rfl) rfl rfl ?_
            exact g_X7_coughs_c71 l D ks cI cL cC cM cS a t_tape t_typed t_place t_isFault t_readLamps t_read t_undone t_undos t_bays t_bests t_kept t_keptUndos t_isKept t_lanes t_sizes t_items t_moved fu t_now t_mores r65 x1 x2 x3 x4 x5 0 0 0
          · refine G.iconst (-1) dX7_coughs_56 (by decide) ?_
            exact G.iret rfl rfl dX7_coughs_57
set_option maxHeartbeats 4000000 in
set_option maxRecDepth 100000 in
theorem c_X7_far (l : Launch) (D : va_G) (ks : Nat × Nat) (cI cL cC cM cS : ClassId) (a : Nat → Nat) (t_now t_mores t_tape : Nat → Int32) (t_typed t_place t_isFault : Int32) (t_readLamps t_read t_undone : Nat → Int32) (t_undos : Int32) (t_aside t_bays t_bests t_kept : Nat → Int32) (t_keptUndos t_isKept : Int32) (t_lanes t_sizes : Nat → Int32) (t_items t_moved : Nat → Int64) (x1 : Int32) : MT l D ks (tyz cI cL cC cM cS) yX7_far cX7_far 2 ((some .int)) { frames := 2, cells := 0, slots := 0, locals := 43 } [.ref (a 0), .int x1] (w_X7 cI cL cC cM cS a t_now t_mores t_tape t_typed t_place t_isFault t_readLamps t_read t_undone t_undos t_aside t_bays t_bests t_kept t_keptUndos t_isKept t_lanes t_sizes t_items t_moved) (fun r : Int32 => (some (.int r), (w_X7 cI cL cC cM cS a t_now t_mores t_tape t_typed t_place t_isFault t_readLamps t_read t_undone t_undos t_aside t_bays t_bests t_kept t_keptUndos t_isKept t_lanes t_sizes t_items t_moved))) (f_X7_far t_now x1) := by
  refine MT.of 0 [some (.ref (a 0)), some (.int x1)] (by decide) (Nat.le_of_ble_eq_true rfl) rfl ?_
  unfold f_X7_far
  refine G.aload_n dX7_far_0 rfl ?_
  refine G.iload_n dX7_far_1 rfl ?_
  refine G.callV (st := []) (w' := fun r2 => (w_X7 cI cL cC cM cS a t_now t_mores t_tape t_typed t_place t_isFault t_readLamps t_read t_undone t_undos t_aside t_bays t_bests t_kept t_keptUndos t_isKept t_lanes t_sizes t_items t_moved)) mv_X7_bayOf lk_7_67 (c_X7_bayOf l D ks cI cL cC cM cS a t_now t_mores t_tape t_typed t_place t_isFault t_readLamps t_read t_undone t_undos t_aside t_bays t_bests t_kept t_keptUndos t_isKept t_lanes t_sizes t_items t_moved x1) [0, 1, 2, 3, 4, 5, 6, 7, 8, 9, 10, 11, 12, 13, 14] [] [0, 1, 2, 3, 4, 5, 6, 7, 8, 9, 10, 11, 12, 13, 14] rfl rfl rfl rfl (by decide +kernel) (fun _ => rfl) rfl (by decide) (Nat.le_of_ble_eq_true rfl) dX7_far_2 (fun r2 => [.int r2]) (fun _ => rfl) (fun r2 _ => ?_)
  refine G.aload_n dX7_far_5 rfl ?_
  refine G.iload_n dX7_far_6 rfl ?_
  refine G.iconst 3 dX7_far_7 (by decide) ?_
  refine G.callV (st := [.int r2]) (w' := fun r8 => (w_X7 cI cL cC cM cS a t_now t_mores t_tape t_typed t_place t_isFault t_readLamps t_read t_undone t_undos t_aside t_bays t_bests t_kept t_keptUndos t_isKept t_lanes t_sizes t_items t_moved)) mv_X7_told lk_7_59 (c_X7_told l D ks cI cL cC cM cS a t_now t_mores t_tape t_typed t_place t_isFault t_readLamps t_read t_undone t_undos t_aside t_bays t_bests t_kept t_keptUndos t_isKept t_lanes t_sizes t_items t_moved x1 3) [0, 1, 2, 3, 4, 5, 6, 7, 8, 9, 10, 11, 12, 13, 14] [] [0, 1, 2, 3, 4, 5, 6, 7, 8, 9, 10, 11, 12, 13, 14] rfl rfl rfl rfl (by decide +kernel) (fun _ => rfl) rfl (by decide) (Nat.le_of_ble_eq_true rfl) dX7_far_8 (fun r8 => [.int r8, .int r2]) (fun _ => rfl) (fun r8 _ => ?_)
  refine G.callS (st := []) (w' := fun r11 => (w_X7 cI cL cC cM cS a t_now t_mores t_tape t_typed t_place t_isFault t_readLamps t_read t_undone t_undos t_aside t_bays t_bests t_kept t_keptUndos t_isKept t_lanes t_sizes t_items t_moved)) ms_X7_apart lk_7_70 (c_X7_apart l D ks cI cL cC cM cS r2 r8) [] [0, 1, 2, 3, 4, 5, 6, 7, 8, 9, 10, 11, 12, 13, 14] [0, 1, 2, 3, 4, 5, 6, 7, 8, 9, 10, 11, 12, 13, 14] rfl rfl rfl rfl (by decide +kernel) (fun _ => rfl) (by decide) (Nat.le_of_ble_eq_true rfl) dX7_far_11 (fun r11 => [.int r11]) (fun _ => rfl) (fun r11 _ => ?_)
  exact G.iret rfl rfl dX7_far_14
set_option maxHeartbeats 4000000 in
set_option maxRecDepth 100000 in
theorem g_X7_farAll_c4 (l : Launch) (D : va_G) (ks : Nat × Nat) (cI cL cC cM cS : ClassId) (a : Nat → Nat) (t_mores t_tape : Nat → Int32) (t_typed t_place t_isFault : Int32) (t_readLamps t_read t_undone : Nat → Int32) (t_undos : Int32) (t_aside t_bays t_bests t_kept : Nat → Int32) (t_keptUndos t_isKept : Int32) (t_lanes t_sizes : Nat → Int32) (t_items t_moved : Nat → Int64) : ∀ (n : Nat), ∀ (t_now : Nat → Int32) (x1 : Int32) (x2 : Int32), GJ l D ks (tyz cI cL cC cM cS) RX7 cX7_farAll 3 ((some .int)) { frames := 3, cells := 0, slots := 0, locals := 64 } (fun r : Int32 => (some (.int r), (w_X7 cI cL cC cM cS a t_now t_mores t_tape t_typed t_place t_isFault t_readLamps t_read t_undone t_undos t_aside t_bays t_bests t_kept t_keptUndos t_isKept t_lanes t_sizes t_items t_moved))) (w_X7 cI cL cC cM cS a t_now t_mores t_tape t_typed t_place t_isFault t_readLamps t_read t_undone t_undos t_aside t_bays t_bests t_kept t_keptUndos t_isKept t_lanes t_sizes t_items t_moved) 4 [some (.ref (a 0)), some (.int x1), some (.int x2)] [] (f_X7_farAll_c4 n t_now x1 x2) := by
  intro n
  induction n with
  | zero =>
    intro t_now x1 x2
    exact G.no
  | succ n ih =>
    intro t_now x1 x2
    rw [f_X7_farAll_c4]
    refine G.iload_n dX7_farAll_4 rfl ?_
    refine G.aload_n dX7_farAll_5 rfl ?_
    refine G.get fl_7_7 0 rfl rfl dX7_farAll_6 ?_
    refine G.iconst 0 dX7_farAll_9 (by decide) ?_
    refine G.iaload 1 0 rfl rfl 0 (by decide) (by decide) dX7_farAll_10 ?_
    refine G.topi (fun v10 => ?_)
    refine G.icmp_ge 28 dX7_farAll_11 (by decide) (fun h11 => ?_) (fun h11 => ?_)
    · refine G.iload_n dX7_farAll_28 rfl ?_
      exact G.iret rfl rfl dX7_farAll_29
    · refine G.iload_n dX7_farAll_14 rfl ?_
      refine G.aload_n dX7_farAll_15 rfl ?_
      refine G.iload_n dX7_farAll_16 rfl ?_
      refine G.callV (st := [.int x1]) (w' := fun r17 => (w_X7 cI cL cC cM cS a t_now t_mores t_tape t_typed t_place t_isFault t_readLamps t_read t_undone t_undos t_aside t_bays t_bests t_kept t_keptUndos t_isKept t_lanes t_sizes t_items t_moved)) mv_X7_far lk_7_73 (c_X7_far l D ks cI cL cC cM cS a t_now t_mores t_tape t_typed t_place t_isFault t_readLamps t_read t_undone t_undos t_aside t_bays t_bests t_kept t_keptUndos t_isKept t_lanes t_sizes t_items t_moved x2) [0, 1, 2, 3, 4, 5, 6, 7, 8, 9, 10, 11, 12, 13, 14] [] [0, 1, 2, 3, 4, 5, 6, 7, 8, 9, 10, 11, 12, 13, 14] rfl rfl rfl rfl (by decide +kernel) (fun _ => rfl) rfl (by decide) (Nat.le_of_ble_eq_true rfl) dX7_farAll_17 (fun r17 => [.int r17, .int x1]) (fun _ => rfl) (fun r17 _ => ?_)
      refine G.iadd dX7_farAll_20 ?_
      refine G.istore_n (lv' := [some (.ref (a 0)), some (.int (x1 + r17)), some (.int x2)]) dX7_farAll_21 (by decide) (Nat.le_of_ble_eq_true rfl) rfl rfl ?_
      refine G.iinc 1 (lv' := [some (.ref (a 0)), some (.int (x1 + r17)), some (.int (x2 + 1))]) dX7_farAll_22 rfl (by decide) (by decide) (Nat.le_of_ble_eq_true rfl) rfl rfl ?_
      refine G.goto 4 dX7_farAll_25 (by decide) ?_
      exact ih t_now (x1 + r17) (x2 + 1)
set_option maxHeartbeats 4000000 in
set_option maxRecDepth 100000 in
theorem c_X7_farAll (l : Launch) (D : va_G) (ks : Nat × Nat) (cI cL cC cM cS : ClassId) (a : Nat → Nat) (t_now t_mores t_tape : Nat → Int32) (t_typed t_place t_isFault : Int32) (t_readLamps t_read t_undone : Nat → Int32) (t_undos : Int32) (t_aside t_bays t_bests t_kept : Nat → Int32) (t_keptUndos t_isKept : Int32) (t_lanes t_sizes : Nat → Int32) (t_items t_moved : Nat → Int64) : MT l D ks (tyz cI cL cC cM cS) yX7_farAll cX7_farAll 3 ((some .int)) { frames := 3, cells := 0, slots := 0, locals := 64 } [.ref (a 0)] (w_X7 cI cL cC cM cS a t_now t_mores t_tape t_typed t_place t_isFault t_readLamps t_read t_undone t_undos t_aside t_bays t_bests t_kept t_keptUndos t_isKept t_lanes t_sizes t_items t_moved) (fun r : Int32 => (some (.int r), (w_X7 cI cL cC cM cS a t_now t_mores t_tape t_typed t_place t_isFault t_readLamps t_read t_undone t_undos t_aside t_bays t_bests t_kept t_keptUndos t_isKept t_lanes t_sizes t_items t_moved))) (f_X7_farAll t_now) := by
  refine MT.of 2 [some (.ref (a 0)), none, none] (by decide) (Nat.le_of_ble_eq_true rfl) rfl ?_
  unfold f_X7_farAll
  refine G.iconst 0 dX7_farAll_0 (by decide) ?_
  refine G.istore_n (lv' := [some (.ref (a 0)), some (.int 0), none]) dX7_farAll_1 (by decide) (Nat.le_of_ble_eq_true rfl) rfl rfl ?_
  refine G.iconst 0 dX7_farAll_2 (by decide) ?_
  refine G.istore_n (lv' := [some (.ref (a 0)), some (.int 0), some (.int 0)]) dX7_farAll_3 (by decide) (Nat.le_of_ble_eq_true rfl) rfl rfl ?_
  exact g_X7_farAll_c4 l D ks cI cL cC cM cS a t_mores t_tape t_typed t_place t_isFault t_readLamps t_read t_undone t_undos t_aside t_bays t_bests t_kept t_keptUndos t_isKept t_lanes t_sizes t_items t_moved fu t_now 0 0
set_option maxHeartbeats 4000000 in
set_option maxRecDepth 100000 in
theorem g_X7_usedAll_c4 (l : Launch) (D : va_G) (ks : Nat × Nat) (cI cL cC cM cS : ClassId) (a : Nat → Nat) (t_mores t_tape : Nat → Int32) (t_typed t_place t_isFault : Int32) (t_readLamps t_read t_undone : Nat → Int32) (t_undos : Int32) (t_aside t_bays t_bests t_kept : Nat → Int32) (t_keptUndos t_isKept : Int32) (t_lanes t_sizes : Nat → Int32) (t_items t_moved : Nat → Int64) : ∀ (n : Nat), ∀ (t_now : Nat → Int32) (x1 : Int32) (x2 : Int32), GJ l D ks (tyz cI cL cC cM cS) RX7 cX7_usedAll 3 ((some .int)) { frames := 2, cells := 0, slots := 0, locals := 43 } (fun r : Int32 => (some (.int r), (w_X7 cI cL cC cM cS a t_now t_mores t_tape t_typed t_place t_isFault t_readLamps t_read t_undone t_undos t_aside t_bays t_bests t_kept t_keptUndos t_isKept t_lanes t_sizes t_items t_moved))) (w_X7 cI cL cC cM cS a t_now t_mores t_tape t_typed t_place t_isFault t_readLamps t_read t_undone t_undos t_aside t_bays t_bests t_kept t_keptUndos t_isKept t_lanes t_sizes t_items t_moved) 4 [some (.ref (a 0)), some (.int x1), some (.int x2)] [] (f_X7_usedAll_c4 n t_now x1 x2) := by
  intro n
  induction n with
  | zero =>
    intro t_now x1 x2
    exact G.no
  | succ n ih =>
    intro t_now x1 x2
    rw [f_X7_usedAll_c4]
    refine G.iload_n dX7_usedAll_4 rfl ?_
    refine G.aload_n dX7_usedAll_5 rfl ?_
    refine G.get fl_7_7 0 rfl rfl dX7_usedAll_6 ?_
    refine G.iconst 0 dX7_usedAll_9 (by decide) ?_
    refine G.iaload 1 0 rfl rfl 0 (by decide) (by decide) dX7_usedAll_10 ?_
    refine G.topi (fun v10 => ?_)
    refine G.icmp_ge 28 dX7_usedAll_11 (by decide) (fun h11 => ?_) (fun h11 => ?_)
    · refine G.iload_n dX7_usedAll_28 rfl ?_
      exact G.iret rfl rfl dX7_usedAll_29
    · refine G.iload_n dX7_usedAll_14 rfl ?_
      refine G.aload_n dX7_usedAll_15 rfl ?_
      refine G.iload_n dX7_usedAll_16 rfl ?_
      refine G.callV (st := [.int x1]) (w' := fun r17 => (w_X7 cI cL cC cM cS a t_now t_mores t_tape t_typed t_place t_isFault t_readLamps t_read t_undone t_undos t_aside t_bays t_bests t_kept t_keptUndos t_isKept t_lanes t_sizes t_items t_moved)) mv_X7_used lk_7_63 (c_X7_used l D ks cI cL cC cM cS a t_now t_mores t_tape t_typed t_place t_isFault t_readLamps t_read t_undone t_undos t_aside t_bays t_bests t_kept t_keptUndos t_isKept t_lanes t_sizes t_items t_moved x2) [0, 1, 2, 3, 4, 5, 6, 7, 8, 9, 10, 11, 12, 13, 14] [] [0, 1, 2, 3, 4, 5, 6, 7, 8, 9, 10, 11, 12, 13, 14] rfl rfl rfl rfl (by decide +kernel) (fun _ => rfl) rfl (by decide) (Nat.le_of_ble_eq_true rfl) dX7_usedAll_17 (fun r17 => [.int r17, .int x1]) (fun _ => rfl) (fun r17 _ => ?_)
      refine G.iadd dX7_usedAll_20 ?_
      refine G.istore_n (lv' := [some (.ref (a 0)), some (.int (x1 + r17)), some (.int x2)]) dX7_usedAll_21 (by decide) (Nat.le_of_ble_eq_true rfl) rfl rfl ?_
      refine G.iinc 1 (lv' := [some (.ref (a 0)), some (.int (x1 + r17)), some (.int (x2 + 1))]) dX7_usedAll_22 rfl (by decide) (by decide) (Nat.le_of_ble_eq_true rfl) rfl rfl ?_
      refine G.goto 4 dX7_usedAll_25 (by decide) ?_
      exact ih t_now (x1 + r17) (x2 + 1)
set_option maxHeartbeats 4000000 in
set_option maxRecDepth 100000 in
theorem c_X7_usedAll (l : Launch) (D : va_G) (ks : Nat × Nat) (cI cL cC cM cS : ClassId) (a : Nat → Nat) (t_now t_mores t_tape : Nat → Int32) (t_typed t_place t_isFault : Int32) (t_readLamps t_read t_undone : Nat → Int32) (t_undos : Int32) (t_aside t_bays t_bests t_kept : Nat → Int32) (t_keptUndos t_isKept : Int32) (t_lanes t_sizes : Nat → Int32) (t_items t_moved : Nat → Int64) : MT l D ks (tyz cI cL cC cM cS) yX7_usedAll cX7_usedAll 3 ((some .int)) { frames := 2, cells := 0, slots := 0, locals := 43 } [.ref (a 0)] (w_X7 cI cL cC cM cS a t_now t_mores t_tape t_typed t_place t_isFault t_readLamps t_read t_undone t_undos t_aside t_bays t_bests t_kept t_keptUndos t_isKept t_lanes t_sizes t_items t_moved) (fun r : Int32 => (some (.int r), (w_X7 cI cL cC cM cS a t_now t_mores t_tape t_typed t_place t_isFault t_readLamps t_read t_undone t_undos t_aside t_bays t_bests t_kept t_keptUndos t_isKept t_lanes t_sizes t_items t_moved))) (f_X7_usedAll t_now) := by
  refine MT.of 2 [some (.ref (a 0)), none, none] (by decide) (Nat.le_of_ble_eq_true rfl) rfl ?_
  unfold f_X7_usedAll
  refine G.iconst 0 dX7_usedAll_0 (by decide) ?_
  refine G.istore_n (lv' := [some (.ref (a 0)), some (.int 0), none]) dX7_usedAll_1 (by decide) (Nat.le_of_ble_eq_true rfl) rfl rfl ?_
  refine G.iconst 0 dX7_usedAll_2 (by decide) ?_
  refine G.istore_n (lv' := [some (.ref (a 0)), some (.int 0), some (.int 0)]) dX7_usedAll_3 (by decide) (Nat.le_of_ble_eq_true rfl) rfl rfl ?_
  exact g_X7_usedAll_c4 l D ks cI cL cC cM cS a t_mores t_tape t_typed t_place t_isFault t_readLamps t_read t_undone t_undos t_aside t_bays t_bests t_kept t_keptUndos t_isKept t_lanes t_sizes t_items t_moved fu t_now 0 0
set_option maxHeartbeats 4000000 in
set_option maxRecDepth 100000 in
theorem c_X7_count (l : Launch) (D : va_G) (ks : Nat × Nat) (cI cL cC cM cS : ClassId) (a : Nat → Nat) (t_now t_mores t_tape : Nat → Int32) (t_typed t_place t_isFault : Int32) (t_readLamps t_read t_undone : Nat → Int32) (t_undos : Int32) (t_aside t_bays t_bests t_kept : Nat → Int32) (t_keptUndos t_isKept : Int32) (t_lanes t_sizes : Nat → Int32) (t_items t_moved : Nat → Int64) (x1 : Int32) : MT l D ks (tyz cI cL cC cM cS) yX7_count cX7_count 2 ((some .int)) { frames := 4, cells := 0, slots := 0, locals := 86 } [.ref (a 0), .int x1] (w_X7 cI cL cC cM cS a t_now t_mores t_tape t_typed t_place t_isFault t_readLamps t_read t_undone t_undos t_aside t_bays t_bests t_kept t_keptUndos t_isKept t_lanes t_sizes t_items t_moved) (fun r : Int32 => (some (.int r), (w_X7 cI cL cC cM cS a t_now t_mores t_tape t_typed t_place t_isFault t_readLamps t_read t_undone t_undos t_aside t_bays t_bests t_kept t_keptUndos t_isKept t_lanes t_sizes t_items t_moved))) (f_X7_count t_now t_undos x1) := by
  refine MT.of 0 [some (.ref (a 0)), some (.int x1)] (by decide) (Nat.le_of_ble_eq_true rfl) rfl ?_
  unfold f_X7_count
  refine G.iload_n dX7_count_0 rfl ?_
  by_cases h1_0 : x1 = 0
  · rw [if_pos h1_0]
    refine G.tin (off := 43) 0 44 h1_0 dX7_count_1 (by decide) (by decide) (by decide) (by decide) ?_
    refine G.aload_n dX7_count_44 rfl ?_
    refine G.get fl_7_7 0 rfl rfl dX7_count_45 ?_
    refine G.iload_n dX7_count_48 rfl ?_
    refine G.chk (fun h49 => ?_)
    refine G.iaload 1 0 rfl rfl x1.toNatClampNeg rfl h49 dX7_count_49 ?_
    refine G.topi (fun v49 => ?_)
    exact G.iret rfl rfl dX7_count_50
  rw [if_neg h1_0]
  by_cases h1_1 : x1 = 1
  · rw [if_pos h1_1]
    refine G.tin (off := 43) 1 44 h1_1 dX7_count_1 (by decide) (by decide) (by decide) (by decide) ?_
    refine G.aload_n dX7_count_44 rfl ?_
    refine G.get fl_7_7 0 rfl rfl dX7_count_45 ?_
    refine G.iload_n dX7_count_48 rfl ?_
    refine G.chk (fun h49 => ?_)
    refine G.iaload 1 0 rfl rfl x1.toNatClampNeg rfl h49 dX7_count_49 ?_
    refine G.topi (fun v49 => ?_)
    exact G.iret rfl rfl dX7_count_50
  rw [if_neg h1_1]
  by_cases h1_2 : x1 = 2
  · rw [if_pos h1_2]
    refine G.tin (off := 43) 2 44 h1_2 dX7_count_1 (by decide) (by decide) (by decide) (by decide) ?_
    refine G.aload_n dX7_count_44 rfl ?_
    refine G.get fl_7_7 0 rfl rfl dX7_count_45 ?_
    refine G.iload_n dX7_count_48 rfl ?_
    refine G.chk (fun h49 => ?_)
    refine G.iaload 1 0 rfl rfl x1.toNatClampNeg rfl h49 dX7_count_49 ?_
    refine G.topi (fun v49 => ?_)
    exact G.iret rfl rfl dX7_count_50
  rw [if_neg h1_2]
  by_cases h1_3 : x1 = 3
  · rw [if_pos h1_3]
    refine G.tin (off := 50) 3 51 h1_3 dX7_count_1 (by decide) (by decide) (by decide) (by decide) ?_
    refine G.aload_n dX7_count_51 rfl ?_
    refine G.callV (st := []) (w' := fun r52 => (w_X7 cI cL cC cM cS a t_now t_mores t_tape t_typed t_place t_isFault t_readLamps t_read t_undone t_undos t_aside t_bays t_bests t_kept t_keptUndos t_isKept t_lanes t_sizes t_items t_moved)) mv_X7_ups lk_7_83 (c_X7_ups l D ks cI cL cC cM cS a t_now t_mores t_tape t_typed t_place t_isFault t_readLamps t_read t_undone t_undos t_aside t_bays t_bests t_kept t_keptUndos t_isKept t_lanes t_sizes t_items t_moved) [0, 1, 2, 3, 4, 5, 6, 7, 8, 9, 10, 11, 12, 13, 14] [] [0, 1, 2, 3, 4, 5, 6, 7, 8, 9, 10, 11, 12, 13, 14] rfl rfl rfl rfl (by decide +kernel) (fun _ => rfl) rfl (by decide) (Nat.le_of_ble_eq_true rfl) dX7_count_52 (fun r52 => [.int r52]) (fun _ => rfl) (fun r52 _ => ?_)
    exact G.iret rfl rfl dX7_count_55
  rw [if_neg h1_3]
  by_cases h1_4 : x1 = 4
  · rw [if_pos h1_4]
    refine G.tin (off := 55) 4 56 h1_4 dX7_count_1 (by decide) (by decide) (by decide) (by decide) ?_
    refine G.aload_n dX7_count_56 rfl ?_
    refine G.callV (st := []) (w' := fun r57 => (w_X7 cI cL cC cM cS a t_now t_mores t_tape t_typed t_place t_isFault t_readLamps t_read t_undone t_undos t_aside t_bays t_bests t_kept t_keptUndos t_isKept t_lanes t_sizes t_items t_moved)) mv_X7_usedAll lk_7_125 (c_X7_usedAll l D ks cI cL cC cM cS a t_now t_mores t_tape t_typed t_place t_isFault t_readLamps t_read t_undone t_undos t_aside t_bays t_bests t_kept t_keptUndos t_isKept t_lanes t_sizes t_items t_moved) [0, 1, 2, 3, 4, 5, 6, 7, 8, 9, 10, 11, 12, 13, 14] [] [0, 1, 2, 3, 4, 5, 6, 7, 8, 9, 10, 11, 12, 13, 14] rfl rfl rfl rfl (by decide +kernel) (fun _ => rfl) rfl (by decide) (Nat.le_of_ble_eq_true rfl) dX7_count_57 (fun r57 => [.int r57]) (fun _ => rfl) (fun r57 _ => ?_)
    exact G.iret rfl rfl dX7_count_60
  rw [if_neg h1_4]
  by_cases h1_5 : x1 = 5
  · rw [if_pos h1_5]
    refine G.tin (off := 60) 5 61 h1_5 dX7_count_1 (by decide) (by decide) (by decide) (by decide) ?_
    refine G.aload_n dX7_count_61 rfl ?_
    refine G.callV (st := []) (w' := fun r62 => (w_X7 cI cL cC cM cS a t_now t_mores t_tape t_typed t_place t_isFault t_readLamps t_read t_undone t_undos t_aside t_bays t_bests t_kept t_keptUndos t_isKept t_lanes t_sizes t_items t_moved)) mv_X7_farAll lk_7_128 (c_X7_farAll l D ks cI cL cC cM cS a t_now t_mores t_tape t_typed t_place t_isFault t_readLamps t_read t_undone t_undos t_aside t_bays t_bests t_kept t_keptUndos t_isKept t_lanes t_sizes t_items t_moved) [0, 1, 2, 3, 4, 5, 6, 7, 8, 9, 10, 11, 12, 13, 14] [] [0, 1, 2, 3, 4, 5, 6, 7, 8, 9, 10, 11, 12, 13, 14] rfl rfl rfl rfl (by decide +kernel) (fun _ => rfl) rfl (by decide) (Nat.le_of_ble_eq_true rfl) dX7_count_62 (fun r62 => [.int r62]) (fun _ => rfl) (fun r62 _ => ?_)
    exact G.iret rfl rfl dX7_count_65
  rw [if_neg h1_5]
  by_cases h1_6 : x1 = 6
  · rw [if_pos h1_6]
    refine G.tin (off := 65) 6 66 h1_6 dX7_count_1 (by decide) (by decide) (by decide) (by decide) ?_
    refine G.aload_n dX7_count_66 rfl ?_
    refine G.get fl_7_100 0 rfl rfl dX7_count_67 ?_
    exact G.iret rfl rfl dX7_count_70
  rw [if_neg h1_6]
  refine G.tout 71 (g_o7 h1_0 h1_1 h1_2 h1_3 h1_4 h1_5 h1_6) dX7_count_1 (by decide) ?_
  refine G.iconst (-1) dX7_count_71 (by decide) ?_
  exact G.iret rfl rfl dX7_count_72
set_option maxHeartbeats 4000000 in
set_option maxRecDepth 100000 in
theorem c_X7_must (l : Launch) (D : va_G) (ks : Nat × Nat) (cI cL cC cM cS : ClassId) (a : Nat → Nat) (t_now t_mores t_tape : Nat → Int32) (t_typed t_place t_isFault : Int32) (t_readLamps t_read t_undone : Nat → Int32) (t_undos : Int32) (t_aside t_bays t_bests t_kept : Nat → Int32) (t_keptUndos t_isKept : Int32) (t_lanes t_sizes : Nat → Int32) (t_items t_moved : Nat → Int64) (x1 : Int32) : MT l D ks (tyz cI cL cC cM cS) yX7_must cX7_must 2 none { frames := 0, cells := 0, slots := 0, locals := 0 } [.ref (a 0), .int x1] (w_X7 cI cL cC cM cS a t_now t_mores t_tape t_typed t_place t_isFault t_readLamps t_read t_undone t_undos t_aside t_bays t_bests t_kept t_keptUndos t_isKept t_lanes t_sizes t_items t_moved) (fun r : Int32 × Int32 => (none, (w_X7 cI cL cC cM cS a t_now t_mores t_tape t_typed r.1 r.2 t_readLamps t_read t_undone t_undos t_aside t_bays t_bests t_kept t_keptUndos t_isKept t_lanes t_sizes t_items t_moved))) (f_X7_must t_place t_isFault x1) := by
  refine MT.of 0 [some (.ref (a 0)), some (.int x1)] (by decide) (Nat.le_of_ble_eq_true rfl) rfl ?_
  unfold f_X7_must
  refine G.aload_n dX7_must_0 rfl ?_
  refine G.aload_n dX7_must_1 rfl ?_
  refine G.get fl_7_141 0 rfl rfl dX7_must_2 ?_
  refine G.join (st := [.ref (a 0)]) Value.int 17 (fun v17 => ?_) (fun hJ => ?_)
  · refine G.chk (fun h17 => ?_)
    refine G.put (w' := (w_X7 cI cL cC cM cS a t_now t_mores t_tape t_typed t_place v17 t_readLamps t_read t_undone t_undos t_aside t_bays t_bests t_kept t_keptUndos t_isKept t_lanes t_sizes t_items t_moved)) fp_7_141 0 rfl (Nat.le_of_ble_eq_true rfl) (isb_n h17) (isb_f h17) rfl dX7_must_17 ?_
    refine G.aload_n dX7_must_20 rfl ?_
    refine G.dup dX7_must_21 rfl ?_
    refine G.get fl_7_138 0 rfl rfl dX7_must_22 ?_
    refine G.aload_n dX7_must_25 rfl ?_
    refine G.get fl_7_141 0 rfl rfl dX7_must_26 ?_
    refine G.join (st := [.int t_place, .ref (a 0)]) Value.int 37 (fun v37 => ?_) (fun hJ => ?_)
    · refine G.iadd dX7_must_37 ?_
      refine G.put (w' := (w_X7 cI cL cC cM cS a t_now t_mores t_tape t_typed (t_place + v37) v17 t_readLamps t_read t_undone t_undos t_aside t_bays t_bests t_kept t_keptUndos t_isKept t_lanes t_sizes t_items t_moved)) fp_7_138 0 rfl (Nat.le_of_ble_eq_true rfl) rfl rfl rfl dX7_must_38 ?_
      exact G.vret rfl rfl dX7_must_41
    · refine G.ite ?_
      refine G.if_eq 36 dX7_must_29 (by decide) (fun _ => ?_) (fun _ => ?_)
      · refine G.iconst 1 dX7_must_36 (by decide) ?_
        exact hJ _
      · refine G.iconst 0 dX7_must_32 (by decide) ?_
        refine G.goto 37 dX7_must_33 (by decide) ?_
        exact hJ _
  · refine G.ite ?_
    refine G.if_ne 12 dX7_must_5 (by decide) (fun _ => ?_) (fun _ => ?_)
    · refine G.iconst 1 dX7_must_12 (by decide) ?_
      refine G.goto 17 dX7_must_13 (by decide) ?_
      exact hJ _
    · refine G.iload_n dX7_must_8 rfl ?_
      refine G.ite ?_
      refine G.if_ne 16 dX7_must_9 (by decide) (fun _ => ?_) (fun _ => ?_)
      · refine G.iconst 0 dX7_must_16 (by decide) ?_
        exact hJ _
      · refine G.iconst 1 dX7_must_12 (by decide) ?_
        refine G.goto 17 dX7_must_13 (by decide) ?_
        exact hJ _
set_option maxHeartbeats 4000000 in
set_option maxRecDepth 100000 in
theorem g_X7_here_c38 (l : Launch) (D : va_G) (ks : Nat × Nat) (cI cL cC cM cS : ClassId) (a : Nat → Nat) (t_now t_mores : Nat → Int32) (t_isFault : Int32) (t_readLamps t_read t_undone : Nat → Int32) (t_undos : Int32) (t_aside t_bays t_bests t_kept : Nat → Int32) (t_keptUndos t_isKept : Int32) (t_lanes t_sizes : Nat → Int32) (t_items t_moved : Nat → Int64) (t_tape : Nat → Int32) (t_typed t_place : Int32) : GJ l D ks (tyz cI cL cC cM cS) RX7 cX7_here 1 ((some .int)) { frames := 0, cells := 0, slots := 0, locals := 0 } (fun r : Int32 × Int32 => (some (.int r.1), (w_X7 cI cL cC cM cS a t_now t_mores t_tape t_typed r.2 t_isFault t_readLamps t_read t_undone t_undos t_aside t_bays t_bests t_kept t_keptUndos t_isKept t_lanes t_sizes t_items t_moved))) (w_X7 cI cL cC cM cS a t_now t_mores t_tape t_typed t_place t_isFault t_readLamps t_read t_undone t_undos t_aside t_bays t_bests t_kept t_keptUndos t_isKept t_lanes t_sizes t_items t_moved) 38 [some (.ref (a 0))] [] (f_X7_here_c38 t_tape t_typed t_place) := by
  unfold f_X7_here_c38
  refine G.aload_n dX7_here_38 rfl ?_
  refine G.get fl_7_138 0 rfl rfl dX7_here_39 ?_
  refine G.aload_n dX7_here_42 rfl ?_
  refine G.get fl_7_135 0 rfl rfl dX7_here_43 ?_
  refine G.icmp_ge 61 dX7_here_46 (by decide) (fun h46 => ?_) (fun h46 => ?_)
  · refine G.iconst 0 dX7_here_61 (by decide) ?_
    exact G.iret rfl rfl dX7_here_62
  · refine G.aload_n dX7_here_49 rfl ?_
    refine G.get fl_7_16 0 rfl rfl dX7_here_50 ?_
    refine G.aload_n dX7_here_53 rfl ?_
    refine G.get fl_7_138 0 rfl rfl dX7_here_54 ?_
    refine G.chk (fun h57 => ?_)
    refine G.iaload 3 0 rfl rfl t_place.toNatClampNeg rfl h57 dX7_here_57 ?_
    refine G.topi (fun v57 => ?_)
    refine G.goto 62 dX7_here_58 (by decide) ?_
    exact G.iret rfl rfl dX7_here_62
set_option maxHeartbeats 4000000 in
set_option maxRecDepth 100000 in
theorem g_X7_here_c0 (l : Launch) (D : va_G) (ks : Nat × Nat) (cI cL cC cM cS : ClassId) (a : Nat → Nat) (t_now t_mores : Nat → Int32) (t_isFault : Int32) (t_readLamps t_read t_undone : Nat → Int32) (t_undos : Int32) (t_aside t_bays t_bests t_kept : Nat → Int32) (t_keptUndos t_isKept : Int32) (t_lanes t_sizes : Nat → Int32) (t_items t_moved : Nat → Int64) : ∀ (n : Nat), ∀ (t_tape : Nat → Int32) (t_typed t_place : Int32), GJ l D ks (tyz cI cL cC cM cS) RX7 cX7_here 1 ((some .int)) { frames := 0, cells := 0, slots := 0, locals := 0 } (fun r : Int32 × Int32 => (some (.int r.1), (w_X7 cI cL cC cM cS a t_now t_mores t_tape t_typed r.2 t_isFault t_readLamps t_read t_undone t_undos t_aside t_bays t_bests t_kept t_keptUndos t_isKept t_lanes t_sizes t_items t_moved))) (w_X7 cI cL cC cM cS a t_now t_mores t_tape t_typed t_place t_isFault t_readLamps t_read t_undone t_undos t_aside t_bays t_bests t_kept t_keptUndos t_isKept t_lanes t_sizes t_items t_moved) 0 [some (.ref (a 0))] [] (f_X7_here_c0 n t_tape t_typed t_place) := by
  intro n
  induction n with
  | zero =>
    intro t_tape t_typed t_place
    exact G.no
  | succ n ih =>
    intro t_tape t_typed t_place
    rw [f_X7_here_c0]
    refine G.aload_n dX7_here_0 rfl ?_
    refine G.get fl_7_138 0 rfl rfl dX7_here_1 ?_
    refine G.aload_n dX7_here_4 rfl ?_
    refine G.get fl_7_135 0 rfl rfl dX7_here_5 ?_
    refine G.icmp_ge 38 dX7_here_8 (by decide) (fun h8 => ?_) (fun h8 => ?_)
    · exact g_X7_here_c38 l D ks cI cL cC cM cS a t_now t_mores t_isFault t_readLamps t_read t_undone t_undos t_aside t_bays t_bests t_kept t_keptUndos t_isKept t_lanes t_sizes t_items t_moved t_tape t_typed t_place
    · refine G.aload_n dX7_here_11 rfl ?_
      refine G.get fl_7_16 0 rfl rfl dX7_here_12 ?_
      refine G.aload_n dX7_here_15 rfl ?_
      refine G.get fl_7_138 0 rfl rfl dX7_here_16 ?_
      refine G.chk (fun h19 => ?_)
      refine G.iaload 3 0 rfl rfl t_place.toNatClampNeg rfl h19 dX7_here_19 ?_
      refine G.topi (fun v19 => ?_)
      refine G.bipush 32 dX7_here_20 (by decide) ?_
      refine G.icmp_ne 38 dX7_here_22 (by decide) (fun h22 => ?_) (fun h22 => ?_)
      · exact g_X7_here_c38 l D ks cI cL cC cM cS a t_now t_mores t_isFault t_readLamps t_read t_undone t_undos t_aside t_bays t_bests t_kept t_keptUndos t_isKept t_lanes t_sizes t_items t_moved t_tape t_typed t_place
      · refine G.aload_n dX7_here_25 rfl ?_
        refine G.dup dX7_here_26 rfl ?_
        refine G.get fl_7_138 0 rfl rfl dX7_here_27 ?_
        refine G.iconst 1 dX7_here_30 (by decide) ?_
        refine G.iadd dX7_here_31 ?_
        refine G.put (w' := (w_X7 cI cL cC cM cS a t_now t_mores t_tape t_typed (t_place + 1) t_isFault t_readLamps t_read t_undone t_undos t_aside t_bays t_bests t_kept t_keptUndos t_isKept t_lanes t_sizes t_items t_moved)) fp_7_138 0 rfl (Nat.le_of_ble_eq_true rfl) rfl rfl rfl dX7_here_32 ?_
        refine G.goto 0 dX7_here_35 (by decide) ?_
        exact ih t_tape t_typed (t_place + 1)
set_option maxHeartbeats 4000000 in
set_option maxRecDepth 100000 in
theorem c_X7_here (l : Launch) (D : va_G) (ks : Nat × Nat) (cI cL cC cM cS : ClassId) (a : Nat → Nat) (t_now t_mores t_tape : Nat → Int32) (t_typed t_place t_isFault : Int32) (t_readLamps t_read t_undone : Nat → Int32) (t_undos : Int32) (t_aside t_bays t_bests t_kept : Nat → Int32) (t_keptUndos t_isKept : Int32) (t_lanes t_sizes : Nat → Int32) (t_items t_moved : Nat → Int64) : MT l D ks (tyz cI cL cC cM cS) yX7_here cX7_here 1 ((some .int)) { frames := 0, cells := 0, slots := 0, locals := 0 } [.ref (a 0)] (w_X7 cI cL cC cM cS a t_now t_mores t_tape t_typed t_place t_isFault t_readLamps t_read t_undone t_undos t_aside t_bays t_bests t_kept t_keptUndos t_isKept t_lanes t_sizes t_items t_moved) (fun r : Int32 × Int32 => (some (.int r.1), (w_X7 cI cL cC cM cS a t_now t_mores t_tape t_typed r.2 t_isFault t_readLamps t_read t_undone t_undos t_aside t_bays t_bests t_kept t_keptUndos t_isKept t_lanes t_sizes t_items t_moved))) (f_X7_here t_tape t_typed t_place) := by
  refine MT.of 0 [some (.ref (a 0))] (by decide) (Nat.le_of_ble_eq_true rfl) rfl ?_
  unfold f_X7_here
  exact g_X7_here_c0 l D ks cI cL cC cM cS a t_now t_mores t_isFault t_readLamps t_read t_undone t_undos t_aside t_bays t_bests t_kept t_keptUndos t_isKept t_lanes t_sizes t_items t_moved fu t_tape t_typed t_place
set_option maxHeartbeats 4000000 in
set_option maxRecDepth 100000 in
theorem g_X7_digit_c18 (l : Launch) (D : va_G) (ks : Nat × Nat) (cI cL cC cM cS : ClassId) (a : Nat → Nat) (t_now t_mores t_readLamps t_read t_undone : Nat → Int32) (t_undos : Int32) (t_aside t_bays t_bests t_kept : Nat → Int32) (t_keptUndos t_isKept : Int32) (t_lanes t_sizes : Nat → Int32) (t_items t_moved : Nat → Int64) (t_tape : Nat → Int32) (t_typed t_place t_isFault : Int32) (x1 : Int32) (s0 : Int32) : GJ l D ks (tyz cI cL cC cM cS) RX7 cX7_digit 3 ((some .int)) { frames := 1, cells := 0, slots := 0, locals := 25 } (fun r : Int32 × Int32 × Int32 => (some (.int r.1), (w_X7 cI cL cC cM cS a t_now t_mores t_tape t_typed r.2.1 r.2.2 t_readLamps t_read t_undone t_undos t_aside t_bays t_bests t_kept t_keptUndos t_isKept t_lanes t_sizes t_items t_moved))) (w_X7 cI cL cC cM cS a t_now t_mores t_tape t_typed t_place t_isFault t_readLamps t_read t_undone t_undos t_aside t_bays t_bests t_kept t_keptUndos t_isKept t_lanes t_sizes t_items t_moved) 18 [some (.ref (a 0)), some (.int x1), none] [.int s0] (f_X7_digit_c18 t_tape t_typed t_place t_isFault x1 s0) := by
  unfold f_X7_digit_c18
  refine G.istore_n (lv' := [some (.ref (a 0)), some (.int x1), some (.int s0)]) dX7_digit_18 (by decide) (Nat.le_of_ble_eq_true rfl) rfl rfl ?_
  refine G.aload_n dX7_digit_19 rfl ?_
  refine G.iload_n dX7_digit_20 rfl ?_
  refine G.i2l dX7_digit_21 ?_
  refine G.lconst 0 dX7_digit_22 (by decide) ?_
  refine G.iload_n dX7_digit_23 rfl ?_
  refine G.i2l dX7_digit_24 ?_
  refine G.callS (st := [.ref (a 0)]) (w' := fun r25 => (w_X7 cI cL cC cM cS a t_now t_mores t_tape t_typed t_place t_isFault t_readLamps t_read t_undone t_undos t_aside t_bays t_bests t_kept t_keptUndos t_isKept t_lanes t_sizes t_items t_moved)) ms_X7_in lk_7_53 (c_X7_in l D ks cI cL cC cM cS (s0.toInt64) 0 (x1.toInt64)) [] [0, 1, 2, 3, 4, 5, 6, 7, 8, 9, 10, 11, 12, 13, 14] [0, 1, 2, 3, 4, 5, 6, 7, 8, 9, 10, 11, 12, 13, 14] rfl rfl rfl rfl (by decide +kernel) (fun _ => rfl) (by decide) (Nat.le_of_ble_eq_true rfl) dX7_digit_25 (fun r25 => [.int r25, .ref (a 0)]) (fun _ => rfl) (fun r25 _ => ?_)
  refine G.callV (st := []) (w' := fun r28 => (w_X7 cI cL cC cM cS a t_now t_mores t_tape t_typed r28.1 r28.2 t_readLamps t_read t_undone t_undos t_aside t_bays t_bests t_kept t_keptUndos t_isKept t_lanes t_sizes t_items t_moved)) mv_X7_must lk_7_148 (c_X7_must l D ks cI cL cC cM cS a t_now t_mores t_tape t_typed t_place t_isFault t_readLamps t_read t_undone t_undos t_aside t_bays t_bests t_kept t_keptUndos t_isKept t_lanes t_sizes t_items t_moved r25) [0, 1, 2, 3, 4, 5, 6, 7, 8, 9, 10, 11, 12, 13, 14] [] [0, 1, 2, 3, 4, 5, 6, 7, 8, 9, 10, 11, 12, 13, 14] rfl rfl rfl rfl (by decide +kernel) (fun _ => rfl) rfl (by decide) (Nat.le_of_ble_eq_true rfl) dX7_digit_28 (fun r28 => []) (fun _ => rfl) (fun r28 _ => ?_)
  refine G.iload_n dX7_digit_31 rfl ?_
  exact G.iret rfl rfl dX7_digit_32
set_option maxHeartbeats 4000000 in
set_option maxRecDepth 100000 in
theorem c_X7_digit (l : Launch) (D : va_G) (ks : Nat × Nat) (cI cL cC cM cS : ClassId) (a : Nat → Nat) (t_now t_mores t_tape : Nat → Int32) (t_typed t_place t_isFault : Int32) (t_readLamps t_read t_undone : Nat → Int32) (t_undos : Int32) (t_aside t_bays t_bests t_kept : Nat → Int32) (t_keptUndos t_isKept : Int32) (t_lanes t_sizes : Nat → Int32) (t_items t_moved : Nat → Int64) (x1 : Int32) : MT l D ks (tyz cI cL cC cM cS) yX7_digit cX7_digit 3 ((some .int)) { frames := 1, cells := 0, slots := 0, locals := 25 } [.ref (a 0), .int x1] (w_X7 cI cL cC cM cS a t_now t_mores t_tape t_typed t_place t_isFault t_readLamps t_read t_undone t_undos t_aside t_bays t_bests t_kept t_keptUndos t_isKept t_lanes t_sizes t_items t_moved) (fun r : Int32 × Int32 × Int32 => (some (.int r.1), (w_X7 cI cL cC cM cS a t_now t_mores t_tape t_typed r.2.1 r.2.2 t_readLamps t_read t_undone t_undos t_aside t_bays t_bests t_kept t_keptUndos t_isKept t_lanes t_sizes t_items t_moved))) (f_X7_digit t_tape t_typed t_place t_isFault x1) := by
  refine MT.of 1 [some (.ref (a 0)), some (.int x1), none] (by decide) (Nat.le_of_ble_eq_true rfl) rfl ?_
  unfold f_X7_digit
  refine G.aload_n dX7_digit_0 rfl ?_
  refine G.get fl_7_141 0 rfl rfl dX7_digit_1 ?_
  refine G.if_eq 11 dX7_digit_4 (by decide) (fun h4 => ?_) (fun h4 => ?_)
  · refine G.aload_n dX7_digit_11 rfl ?_
    refine G.callV (st := []) (w' := fun r12 => (w_X7 cI cL cC cM cS a t_now t_mores t_tape t_typed r12.2 t_isFault t_readLamps t_read t_undone t_undos t_aside t_bays t_bests t_kept t_keptUndos t_isKept t_lanes t_sizes t_items t_moved)) mv_X7_here lk_7_145 (c_X7_here l D ks cI cL cC cM cS a t_now t_mores t_tape t_typed t_place t_isFault t_readLamps t_read t_undone t_undos t_aside t_bays t_bests t_kept t_keptUndos t_isKept t_lanes t_sizes t_items t_moved) [0, 1, 2, 3, 4, 5, 6, 7, 8, 9, 10, 11, 12, 13, 14] [] [0, 1, 2, 3, 4, 5, 6, 7, 8, 9, 10, 11, 12, 13, 14] rfl rfl rfl rfl (by decide +kernel) (fun _ => rfl) rfl (by decide) (Nat.le_of_ble_eq_true rfl) dX7_digit_12 (fun r12 => [.int r12.1]) (fun _ => rfl) (fun r12 _ => ?_)
    refine G.bipush 48 dX7_digit_15 (by decide) ?_
    refine G.isub dX7_digit_17 ?_
    exact g_X7_digit_c18 l D ks cI cL cC cM cS a t_now t_mores t_readLamps t_read t_undone t_undos t_aside t_bays t_bests t_kept t_keptUndos t_isKept t_lanes t_sizes t_items t_moved t_tape t_typed r12.2 t_isFault x1 (r12.1 - 48)
  · refine G.iconst (-1) dX7_digit_7 (by decide) ?_
    refine G.goto 18 dX7_digit_8 (by decide) ?_
    exact g_X7_digit_c18 l D ks cI cL cC cM cS a t_now t_mores t_readLamps t_read t_undone t_undos t_aside t_bays t_bests t_kept t_keptUndos t_isKept t_lanes t_sizes t_items t_moved t_tape t_typed t_place t_isFault x1 (-1)
set_option maxHeartbeats 4000000 in
set_option maxRecDepth 100000 in
theorem g_X7_number_c53 (l : Launch) (D : va_G) (ks : Nat × Nat) (cI cL cC cM cS : ClassId) (a : Nat → Nat) (t_now t_mores t_readLamps t_read t_undone : Nat → Int32) (t_undos : Int32) (t_aside t_bays t_bests t_kept : Nat → Int32) (t_keptUndos t_isKept : Int32) (t_lanes t_sizes : Nat → Int32) (t_items t_moved : Nat → Int64) : ∀ (n : Nat), ∀ (t_tape : Nat → Int32) (t_typed t_place t_isFault : Int32) (x2 : Int32) (x3 : Int32), GJ l D ks (tyz cI cL cC cM cS) RX7 cX7_number 4 ((some .int)) { frames := 1, cells := 0, slots := 0, locals := 25 } (fun r : Int32 × Int32 × Int32 => (some (.int r.1), (w_X7 cI cL cC cM cS a t_now t_mores t_tape t_typed r.2.1 r.2.2 t_readLamps t_read t_undone t_undos t_aside t_bays t_bests t_kept t_keptUndos t_isKept t_lanes t_sizes t_items t_moved))) (w_X7 cI cL cC cM cS a t_now t_mores t_tape t_typed t_place t_isFault t_readLamps t_read t_undone t_undos t_aside t_bays t_bests t_kept t_keptUndos t_isKept t_lanes t_sizes t_items t_moved) 53 [some (.ref (a 0)), none, some (.int x2), some (.int x3)] [] (f_X7_number_c53 n t_tape t_typed t_place t_isFault x2 x3) := by
  intro n
  induction n with
  | zero =>
    intro t_tape t_typed t_place t_isFault x2 x3
    exact G.no
  | succ n ih =>
    intro t_tape t_typed t_place t_isFault x2 x3
    rw [f_X7_number_c53]
    refine G.aload_n dX7_number_53 rfl ?_
    refine G.get fl_7_141 0 rfl rfl dX7_number_54 ?_
    refine G.if_ne 134 dX7_number_57 (by decide) (fun h57 => ?_) (fun h57 => ?_)
    · refine G.iload_n dX7_number_134 rfl ?_
      exact G.iret rfl rfl dX7_number_135
    · refine G.aload_n dX7_number_60 rfl ?_
      refine G.get fl_7_138 0 rfl rfl dX7_number_61 ?_
      refine G.aload_n dX7_number_64 rfl ?_
      refine G.get fl_7_135 0 rfl rfl dX7_number_65 ?_
      refine G.icmp_ge 134 dX7_number_68 (by decide) (fun h68 => ?_) (fun h68 => ?_)
      · refine G.iload_n dX7_number_134 rfl ?_
        exact G.iret rfl rfl dX7_number_135
      · refine G.aload_n dX7_number_71 rfl ?_
        refine G.get fl_7_138 0 rfl rfl dX7_number_72 ?_
        refine G.iload_n dX7_number_75 rfl ?_
        refine G.isub dX7_number_76 ?_
        refine G.iconst 2 dX7_number_77 (by decide) ?_
        refine G.icmp_ge 134 dX7_number_78 (by decide) (fun h78 => ?_) (fun h78 => ?_)
        · refine G.iload_n dX7_number_134 rfl ?_
          exact G.iret rfl rfl dX7_number_135
        · refine G.aload_n dX7_number_81 rfl ?_
          refine G.get fl_7_16 0 rfl rfl dX7_number_82 ?_
          refine G.aload_n dX7_number_85 rfl ?_
          refine G.get fl_7_138 0 rfl rfl dX7_number_86 ?_
          refine G.chk (fun h89 => ?_)
          refine G.iaload 3 0 rfl rfl t_place.toNatClampNeg rfl h89 dX7_number_89 ?_
          refine G.topi (fun v89 => ?_)
          refine G.i2l dX7_number_90 ?_
          refine G.ldc2 kl_7_152 dX7_number_91 ?_
          refine G.ldc2 kl_7_154 dX7_number_94 ?_
          refine G.callS (st := []) (w' := fun r97 => (w_X7 cI cL cC cM cS a t_now t_mores t_tape t_typed t_place t_isFault t_readLamps t_read t_undone t_undos t_aside t_bays t_bests t_kept t_keptUndos t_isKept t_lanes t_sizes t_items t_moved)) ms_X7_in lk_7_53 (c_X7_in l D ks cI cL cC cM cS (v89.toInt64) 48 57) [] [0, 1, 2, 3, 4, 5, 6, 7, 8, 9, 10, 11, 12, 13, 14] [0, 1, 2, 3, 4, 5, 6, 7, 8, 9, 10, 11, 12, 13, 14] rfl rfl rfl rfl (by decide +kernel) (fun _ => rfl) (by decide) (Nat.le_of_ble_eq_true rfl) dX7_number_97 (fun r97 => [.int r97]) (fun _ => rfl) (fun r97 _ => ?_)
          refine G.if_eq 134 dX7_number_100 (by decide) (fun h100 => ?_) (fun h100 => ?_)
          · refine G.iload_n dX7_number_134 rfl ?_
            exact G.iret rfl rfl dX7_number_135
          · refine G.bipush 10 dX7_number_103 (by decide) ?_
            refine G.iload_n dX7_number_105 rfl ?_
            refine G.imul dX7_number_106 ?_
            refine G.aload_n dX7_number_107 rfl ?_
            refine G.get fl_7_16 0 rfl rfl dX7_number_108 ?_
            refine G.aload_n dX7_number_111 rfl ?_
            refine G.get fl_7_138 0 rfl rfl dX7_number_112 ?_
            refine G.iaload 3 0 rfl rfl t_place.toNatClampNeg rfl h89 dX7_number_115 ?_
            refine G.topi (fun v115 => ?_)
            refine G.iadd dX7_number_116 ?_
            refine G.bipush 48 dX7_number_117 (by decide) ?_
            refine G.isub dX7_number_119 ?_
            refine G.istore_n (lv' := [some (.ref (a 0)), none, some (.int x2), some (.int (((10 * x3) + v115) - 48))]) dX7_number_120 (by decide) (Nat.le_of_ble_eq_true rfl) rfl rfl ?_
            refine G.aload_n dX7_number_121 rfl ?_
            refine G.dup dX7_number_122 rfl ?_
            refine G.get fl_7_138 0 rfl rfl dX7_number_123 ?_
            refine G.iconst 1 dX7_number_126 (by decide) ?_
            refine G.iadd dX7_number_127 ?_
            refine G.put (w' := (w_X7 cI cL cC cM cS a t_now t_mores t_tape t_typed (t_place + 1) t_isFault t_readLamps t_read t_undone t_undos t_aside t_bays t_bests t_kept t_keptUndos t_isKept t_lanes t_sizes t_items t_moved)) fp_7_138 0 rfl (Nat.le_of_ble_eq_true rfl) rfl rfl rfl dX7_number_128 ?_
            refine G.goto 53 dX7_number_131 (by decide) ?_
            exact ih t_tape t_typed (t_place + 1) t_isFault x2 (((10 * x3) + v115) - 48)
set_option maxHeartbeats 4000000 in
set_option maxRecDepth 100000 in
theorem g_X7_number_c50 (l : Launch) (D : va_G) (ks : Nat × Nat) (cI cL cC cM cS : ClassId) (a : Nat → Nat) (t_now t_mores t_readLamps t_read t_undone : Nat → Int32) (t_undos : Int32) (t_aside t_bays t_bests t_kept : Nat → Int32) (t_keptUndos t_isKept : Int32) (t_lanes t_sizes : Nat → Int32) (t_items t_moved : Nat → Int64) (t_tape : Nat → Int32) (t_typed t_place t_isFault : Int32) (x2 : Int32) : GJ l D ks (tyz cI cL cC cM cS) RX7 cX7_number 4 ((some .int)) { frames := 1, cells := 0, slots := 0, locals := 25 } (fun r : Int32 × Int32 × Int32 => (some (.int r.1), (w_X7 cI cL cC cM cS a t_now t_mores t_tape t_typed r.2.1 r.2.2 t_readLamps t_read t_undone t_undos t_aside t_bays t_bests t_kept t_keptUndos t_isKept t_lanes t_sizes t_items t_moved))) (w_X7 cI cL cC cM cS a t_now t_mores t_tape t_typed t_place t_isFault t_readLamps t_read t_undone t_undos t_aside t_bays t_bests t_kept t_keptUndos t_isKept t_lanes t_sizes t_items t_moved) 50 [some (.ref (a 0)), none, some (.int x2), some (.int 0)] [.int 1, .ref (a 0)] (f_X7_number_c50 t_tape t_typed t_place t_isFault x2) := by
  unfold f_X7_number_c50
  refine G.put (w' := (w_X7 cI cL cC cM cS a t_now t_mores t_tape t_typed t_place 1 t_readLamps t_read t_undone t_undos t_aside t_bays t_bests t_kept t_keptUndos t_isKept t_lanes t_sizes t_items t_moved)) fp_7_141 0 rfl (Nat.le_of_ble_eq_true rfl) rfl rfl rfl dX7_number_50 ?_
  exact g_X7_number_c53 l D ks cI cL cC cM cS a t_now t_mores t_readLamps t_read t_undone t_undos t_aside t_bays t_bests t_kept t_keptUndos t_isKept t_lanes t_sizes t_items t_moved fu t_tape t_typed t_place 1 x2 0
set_option maxHeartbeats 4000000 in
set_option maxRecDepth 100000 in
theorem g_X7_number_c45 (l : Launch) (D : va_G) (ks : Nat × Nat) (cI cL cC cM cS : ClassId) (a : Nat → Nat) (t_now t_mores t_readLamps t_read t_undone : Nat → Int32) (t_undos : Int32) (t_aside t_bays t_bests t_kept : Nat → Int32) (t_keptUndos t_isKept : Int32) (t_lanes t_sizes : Nat → Int32) (t_items t_moved : Nat → Int64) (t_tape : Nat → Int32) (t_typed t_place t_isFault : Int32) (x2 : Int32) : GJ l D ks (tyz cI cL cC cM cS) RX7 cX7_number 4 ((some .int)) { frames := 1, cells := 0, slots := 0, locals := 25 } (fun r : Int32 × Int32 × Int32 => (some (.int r.1), (w_X7 cI cL cC cM cS a t_now t_mores t_tape t_typed r.2.1 r.2.2 t_readLamps t_read t_undone t_undos t_aside t_bays t_bests t_kept t_keptUndos t_isKept t_lanes t_sizes t_items t_moved))) (w_X7 cI cL cC cM cS a t_now t_mores t_tape t_typed t_place t_isFault t_readLamps t_read t_undone t_undos t_aside t_bays t_bests t_kept t_keptUndos t_isKept t_lanes t_sizes t_items t_moved) 45 [some (.ref (a 0)), none, some (.int x2), some (.int 0)] [.ref (a 0)] (f_X7_number_c45 t_tape t_typed t_place t_isFault x2) := by
  unfold f_X7_number_c45
  refine G.iconst 1 dX7_number_45 (by decide) ?_
  refine G.goto 50 dX7_number_46 (by decide) ?_
  exact g_X7_number_c50 l D ks cI cL cC cM cS a t_now t_mores t_readLamps t_read t_undone t_undos t_aside t_bays t_bests t_kept t_keptUndos t_isKept t_lanes t_sizes t_items t_moved t_tape t_typed t_place t_isFault x2
set_option maxHeartbeats 4000000 in
set_option maxRecDepth 100000 in
theorem g_X7_number_c15 (l : Launch) (D : va_G) (ks : Nat × Nat) (cI cL cC cM cS : ClassId) (a : Nat → Nat) (t_now t_mores t_readLamps t_read t_undone : Nat → Int32) (t_undos : Int32) (t_aside t_bays t_bests t_kept : Nat → Int32) (t_keptUndos t_isKept : Int32) (t_lanes t_sizes : Nat → Int32) (t_items t_moved : Nat → Int64) (t_tape : Nat → Int32) (t_typed t_place t_isFault : Int32) (s0 : Int32) : GJ l D ks (tyz cI cL cC cM cS) RX7 cX7_number 4 ((some .int)) { frames := 1, cells := 0, slots := 0, locals := 25 } (fun r : Int32 × Int32 × Int32 => (some (.int r.1), (w_X7 cI cL cC cM cS a t_now t_mores t_tape t_typed r.2.1 r.2.2 t_readLamps t_read t_undone t_undos t_aside t_bays t_bests t_kept t_keptUndos t_isKept t_lanes t_sizes t_items t_moved))) (w_X7 cI cL cC cM cS a t_now t_mores t_tape t_typed t_place t_isFault t_readLamps t_read t_undone t_undos t_aside t_bays t_bests t_kept t_keptUndos t_isKept t_lanes t_sizes t_items t_moved) 15 [some (.ref (a 0)), none, none, none] [.int s0] (f_X7_number_c15 t_tape t_typed t_place t_isFault s0) := by
  unfold f_X7_number_c15
  refine G.istore_n (lv' := [some (.ref (a 0)), some (.int s0), none, none]) dX7_number_15 (by decide) (Nat.le_of_ble_eq_true rfl) rfl rfl ?_
  refine G.aload_n dX7_number_16 rfl ?_
  refine G.get fl_7_138 0 rfl rfl dX7_number_17 ?_
  refine G.istore_n (lv' := [some (.ref (a 0)), some (.int s0), some (.int t_place), none]) dX7_number_20 (by decide) (Nat.le_of_ble_eq_true rfl) rfl rfl ?_
  refine G.iconst 0 dX7_number_21 (by decide) ?_
  refine G.istore_n (lv' := [some (.ref (a 0)), some (.int s0), some (.int t_place), some (.int 0)]) dX7_number_22 (by decide) (Nat.le_of_ble_eq_true rfl) rfl rfl ?_
  refine G.aload_n dX7_number_23 rfl ?_
  refine G.aload_n dX7_number_24 rfl ?_
  refine G.get fl_7_141 0 rfl rfl dX7_number_25 ?_
  refine G.if_ne 45 dX7_number_28 (by decide) (fun h28 => ?_) (fun h28 => ?_)
  · refine G.mask (lv' := [some (.ref (a 0)), none, some (.int t_place), some (.int 0)]) [true, false, true, true] rfl ?_
    exact g_X7_number_c45 l D ks cI cL cC cM cS a t_now t_mores t_readLamps t_read t_undone t_undos t_aside t_bays t_bests t_kept t_keptUndos t_isKept t_lanes t_sizes t_items t_moved t_tape t_typed t_place t_isFault t_place
  · refine G.iload_n dX7_number_31 rfl ?_
    refine G.i2l dX7_number_32 ?_
    refine G.ldc2 kl_7_152 dX7_number_33 ?_
    refine G.ldc2 kl_7_154 dX7_number_36 ?_
    refine G.callS (st := [.ref (a 0)]) (w' := fun r39 => (w_X7 cI cL cC cM cS a t_now t_mores t_tape t_typed t_place t_isFault t_readLamps t_read t_undone t_undos t_aside t_bays t_bests t_kept t_keptUndos t_isKept t_lanes t_sizes t_items t_moved)) ms_X7_in lk_7_53 (c_X7_in l D ks cI cL cC cM cS (s0.toInt64) 48 57) [] [0, 1, 2, 3, 4, 5, 6, 7, 8, 9, 10, 11, 12, 13, 14] [0, 1, 2, 3, 4, 5, 6, 7, 8, 9, 10, 11, 12, 13, 14] rfl rfl rfl rfl (by decide +kernel) (fun _ => rfl) (by decide) (Nat.le_of_ble_eq_true rfl) dX7_number_39 (fun r39 => [.int r39, .ref (a 0)]) (fun _ => rfl) (fun r39 _ => ?_)
    refine G.join (st := [.ref (a 0)]) Value.int 50 (fun v50 => ?_) (fun hJ => ?_)
    · refine G.chk (fun h50 => ?_)
      refine G.put (w' := (w_X7 cI cL cC cM cS a t_now t_mores t_tape t_typed t_place v50 t_readLamps t_read t_undone t_undos t_aside t_bays t_bests t_kept t_keptUndos t_isKept t_lanes t_sizes t_items t_moved)) fp_7_141 0 rfl (Nat.le_of_ble_eq_true rfl) (isb_n h50) (isb_f h50) rfl dX7_number_50 ?_
      refine G.mask (lv' := [some (.ref (a 0)), none, some (.int t_place), some (.int 0)]) [true, false, true, true] rfl ?_
      exact g_X7_number_c53 l D ks cI cL cC cM cS a t_now t_mores t_readLamps t_read t_undone t_undos t_aside t_bays t_bests t_kept t_keptUndos t_isKept t_lanes t_sizes t_items t_moved fu t_tape t_typed t_place v50 t_place 0
    · refine G.ite ?_
      refine G.if_ne 49 dX7_number_42 (by decide) (fun _ => ?_) (fun _ => ?_)
      · refine G.iconst 0 dX7_number_49 (by decide) ?_
        exact hJ _
      · refine G.iconst 1 dX7_number_45 (by decide) ?_
        refine G.goto 50 dX7_number_46 (by decide) ?_
        exact hJ _
set_option maxHeartbeats 4000000 in
set_option maxRecDepth 100000 in
theorem c_X7_number (l : Launch) (D : va_G) (ks : Nat × Nat) (cI cL cC cM cS : ClassId) (a : Nat → Nat) (t_now t_mores t_tape : Nat → Int32) (t_typed t_place t_isFault : Int32) (t_readLamps t_read t_undone : Nat → Int32) (t_undos : Int32) (t_aside t_bays t_bests t_kept : Nat → Int32) (t_keptUndos t_isKept : Int32) (t_lanes t_sizes : Nat → Int32) (t_items t_moved : Nat → Int64) : MT l D ks (tyz cI cL cC cM cS) yX7_number cX7_number 4 ((some .int)) { frames := 1, cells := 0, slots := 0, locals := 25 } [.ref (a 0)] (w_X7 cI cL cC cM cS a t_now t_mores t_tape t_typed t_place t_isFault t_readLamps t_read t_undone t_undos t_aside t_bays t_bests t_kept t_keptUndos t_isKept t_lanes t_sizes t_items t_moved) (fun r : Int32 × Int32 × Int32 => (some (.int r.1), (w_X7 cI cL cC cM cS a t_now t_mores t_tape t_typed r.2.1 r.2.2 t_readLamps t_read t_undone t_undos t_aside t_bays t_bests t_kept t_keptUndos t_isKept t_lanes t_sizes t_items t_moved))) (f_X7_number t_tape t_typed t_place t_isFault) := by
  refine MT.of 3 [some (.ref (a 0)), none, none, none] (by decide) (Nat.le_of_ble_eq_true rfl) rfl ?_
  unfold f_X7_number
  refine G.aload_n dX7_number_0 rfl ?_
  refine G.get fl_7_141 0 rfl rfl dX7_number_1 ?_
  refine G.if_eq 11 dX7_number_4 (by decide) (fun h4 => ?_) (fun h4 => ?_)
  · refine G.aload_n dX7_number_11 rfl ?_
    refine G.callV (st := []) (w' := fun r12 => (w_X7 cI cL cC cM cS a t_now t_mores t_tape t_typed r12.2 t_isFault t_readLamps t_read t_undone t_undos t_aside t_bays t_bests t_kept t_keptUndos t_isKept t_lanes t_sizes t_items t_moved)) mv_X7_here lk_7_145 (c_X7_here l D ks cI cL cC cM cS a t_now t_mores t_tape t_typed t_place t_isFault t_readLamps t_read t_undone t_undos t_aside t_bays t_bests t_kept t_keptUndos t_isKept t_lanes t_sizes t_items t_moved) [0, 1, 2, 3, 4, 5, 6, 7, 8, 9, 10, 11, 12, 13, 14] [] [0, 1, 2, 3, 4, 5, 6, 7, 8, 9, 10, 11, 12, 13, 14] rfl rfl rfl rfl (by decide +kernel) (fun _ => rfl) rfl (by decide) (Nat.le_of_ble_eq_true rfl) dX7_number_12 (fun r12 => [.int r12.1]) (fun _ => rfl) (fun r12 _ => ?_)
    exact g_X7_number_c15 l D ks cI cL cC cM cS a t_now t_mores t_readLamps t_read t_undone t_undos t_aside t_bays t_bests t_kept t_keptUndos t_isKept t_lanes t_sizes t_items t_moved t_tape t_typed r12.2 t_isFault r12.1
  · refine G.iconst 0 dX7_number_7 (by decide) ?_
    refine G.goto 15 dX7_number_8 (by decide) ?_
    exact g_X7_number_c15 l D ks cI cL cC cM cS a t_now t_mores t_readLamps t_read t_undone t_undos t_aside t_bays t_bests t_kept t_keptUndos t_isKept t_lanes t_sizes t_items t_moved t_tape t_typed t_place t_isFault 0
set_option maxHeartbeats 4000000 in
set_option maxRecDepth 100000 in
theorem g_X7_readHolders_c300 (l : Launch) (D : va_G) (ks : Nat × Nat) (cI cL cC cM cS : ClassId) (a : Nat → Nat) (t_now t_mores t_readLamps t_undone : Nat → Int32) (t_undos : Int32) (t_aside t_bays t_bests t_kept : Nat → Int32) (t_keptUndos t_isKept : Int32) (t_lanes t_sizes : Nat → Int32) (t_items t_moved : Nat → Int64) (k4 : (Nat → Int32) → Int32 → Int32 → Int32 → (Nat → Int32) → Int32 → Int32 → (Option (Int32 × Int32 × Int32 × (Nat → Int32)))) (hk4 : ∀ (t_tape : Nat → Int32) (t_typed t_place t_isFault : Int32) (t_read : Nat → Int32) (x1 : Int32) (x2 : Int32), GJ l D ks (tyz cI cL cC cM cS) RX7 cX7_readHolders 8 ((some .int)) { frames := 2, cells := 0, slots := 0, locals := 48 } (fun r : Int32 × Int32 × Int32 × (Nat → Int32) => (some (.int r.1), (w_X7 cI cL cC cM cS a t_now t_mores t_tape t_typed r.2.1 r.2.2.1 t_readLamps r.2.2.2 t_undone t_undos t_aside t_bays t_bests t_kept t_keptUndos t_isKept t_lanes t_sizes t_items t_moved))) (w_X7 cI cL cC cM cS a t_now t_mores t_tape t_typed t_place t_isFault t_readLamps t_read t_undone t_undos t_aside t_bays t_bests t_kept t_keptUndos t_isKept t_lanes t_sizes t_items t_moved) 4 [some (.ref (a 0)), some (.int x1), some (.int x2), none, none, none, none, none] [] (k4 t_tape t_typed t_place t_isFault t_read x1 x2)) (t_tape : Nat → Int32) (t_typed t_place t_isFault : Int32) (t_read : Nat → Int32) (x1 : Int32) (x2 : Int32) : GJ l D ks (tyz cI cL cC cM cS) RX7 cX7_readHolders 8 ((some .int)) { frames := 2, cells := 0, slots := 0, locals := 48 } (fun r : Int32 × Int32 × Int32 × (Nat → Int32) => (some (.int r.1), (w_X7 cI cL cC cM cS a t_now t_mores t_tape t_typed r.2.1 r.2.2.1 t_readLamps r.2.2.2 t_undone t_undos t_aside t_bays t_bests t_kept t_keptUndos t_isKept t_lanes t_sizes t_items t_moved))) (w_X7 cI cL cC cM cS a t_now t_mores t_tape t_typed t_place t_isFault t_readLamps t_read t_undone t_undos t_aside t_bays t_bests t_kept t_keptUndos t_isKept t_lanes t_sizes t_items t_moved) 300 [some (.ref (a 0)), some (.int x1), some (.int x2), none, none, none, none, none] [] (f_X7_readHolders_c300 k4 t_tape t_typed t_place t_isFault t_read x1 x2) := by
  unfold f_X7_readHolders_c300
  refine G.iinc 1 (lv' := [some (.ref (a 0)), some (.int (x1 + 1)), some (.int x2), none, none, none, none, none]) dX7_readHolders_300 rfl (by decide) (by decide) (Nat.le_of_ble_eq_true rfl) rfl rfl ?_
  refine G.goto 4 dX7_readHolders_303 (by decide) ?_
  exact hk4 t_tape t_typed t_place t_isFault t_read (x1 + 1) x2
set_option maxHeartbeats 4000000 in
set_option maxRecDepth 100000 in
theorem g_X7_readHolders_c240 (l : Launch) (D : va_G) (ks : Nat × Nat) (cI cL cC cM cS : ClassId) (a : Nat → Nat) (t_now t_mores t_readLamps t_undone : Nat → Int32) (t_undos : Int32) (t_aside t_bays t_bests t_kept : Nat → Int32) (t_keptUndos t_isKept : Int32) (t_lanes t_sizes : Nat → Int32) (t_items t_moved : Nat → Int64) (k4 : (Nat → Int32) → Int32 → Int32 → Int32 → (Nat → Int32) → Int32 → Int32 → (Option (Int32 × Int32 × Int32 × (Nat → Int32)))) (hk4 : ∀ (t_tape : Nat → Int32) (t_typed t_place t_isFault : Int32) (t_read : Nat → Int32) (x1 : Int32) (x2 : Int32), GJ l D ks (tyz cI cL cC cM cS) RX7 cX7_readHolders 8 ((some .int)) { frames := 2, cells := 0, slots := 0, locals := 48 } (fun r : Int32 × Int32 × Int32 × (Nat → Int32) => (some (.int r.1), (w_X7 cI cL cC cM cS a t_now t_mores t_tape t_typed r.2.1 r.2.2.1 t_readLamps r.2.2.2 t_undone t_undos t_aside t_bays t_bests t_kept t_keptUndos t_isKept t_lanes t_sizes t_items t_moved))) (w_X7 cI cL cC cM cS a t_now t_mores t_tape t_typed t_place t_isFault t_readLamps t_read t_undone t_undos t_aside t_bays t_bests t_kept t_keptUndos t_isKept t_lanes t_sizes t_items t_moved) 4 [some (.ref (a 0)), some (.int x1), some (.int x2), none, none, none, none, none] [] (k4 t_tape t_typed t_place t_isFault t_read x1 x2)) (t_tape : Nat → Int32) (t_typed t_place t_isFault : Int32) (t_read : Nat → Int32) (x1 : Int32) (x2 : Int32) (x4 : Int32) (x5 : Int32) (x6 : Int32) (x7 : Int32) : GJ l D ks (tyz cI cL cC cM cS) RX7 cX7_readHolders 8 ((some .int)) { frames := 2, cells := 0, slots := 0, locals := 48 } (fun r : Int32 × Int32 × Int32 × (Nat → Int32) => (some (.int r.1), (w_X7 cI cL cC cM cS a t_now t_mores t_tape t_typed r.2.1 r.2.2.1 t_readLamps r.2.2.2 t_undone t_undos t_aside t_bays t_bests t_kept t_keptUndos t_isKept t_lanes t_sizes t_items t_moved))) (w_X7 cI cL cC cM cS a t_now t_mores t_tape t_typed t_place t_isFault t_readLamps t_read t_undone t_undos t_aside t_bays t_bests t_kept t_keptUndos t_isKept t_lanes t_sizes t_items t_moved) 240 [some (.ref (a 0)), some (.int x1), some (.int x2), none, some (.int x4), some (.int x5), some (.int x6), some (.int x7)] [] (f_X7_readHolders_c240 k4 t_tape t_typed t_place t_isFault t_read x1 x2 x4 x5 x6 x7) := by
  unfold f_X7_readHolders_c240
  refine G.aload_n dX7_readHolders_240 rfl ?_
  refine G.get fl_7_141 0 rfl rfl dX7_readHolders_241 ?_
  refine G.if_ne 300 dX7_readHolders_244 (by decide) (fun h244 => ?_) (fun h244 => ?_)
  · refine G.mask (lv' := [some (.ref (a 0)), some (.int x1), some (.int x2), none, none, none, none, none]) [true, true, true, false, false, false, false, false] rfl ?_
    exact g_X7_readHolders_c300 l D ks cI cL cC cM cS a t_now t_mores t_readLamps t_undone t_undos t_aside t_bays t_bests t_kept t_keptUndos t_isKept t_lanes t_sizes t_items t_moved k4 hk4 t_tape t_typed t_place t_isFault t_read x1 x2
  · refine G.iload_n dX7_readHolders_247 rfl ?_
    refine G.iconst 1 dX7_readHolders_248 (by decide) ?_
    refine G.iload dX7_readHolders_249 rfl ?_
    refine G.ishl dX7_readHolders_251 ?_
    refine G.ior dX7_readHolders_252 ?_
    refine G.istore_n (lv' := [some (.ref (a 0)), some (.int x1), some (.int (x2 ||| (1 <<< (x6 &&& 31)))), none, some (.int x4), some (.int x5), some (.int x6), some (.int x7)]) dX7_readHolders_253 (by decide) (Nat.le_of_ble_eq_true rfl) rfl rfl ?_
    refine G.aload_n dX7_readHolders_254 rfl ?_
    refine G.get fl_7_22 0 rfl rfl dX7_readHolders_255 ?_
    refine G.iconst 4 dX7_readHolders_258 (by decide) ?_
    refine G.iload_n dX7_readHolders_259 rfl ?_
    refine G.imul dX7_readHolders_260 ?_
    refine G.iload dX7_readHolders_261 rfl ?_
    refine G.chk (fun h263 => ?_)
    refine G.iastore (w' := (w_X7 cI cL cC cM cS a t_now t_mores t_tape t_typed t_place t_isFault t_readLamps (upd t_read ((4 * x1).toNatClampNeg) x4) t_undone t_undos t_aside t_bays t_bests t_kept t_keptUndos t_isKept t_lanes t_sizes t_items t_moved)) 5 0 rfl rfl ((4 * x1).toNatClampNeg) rfl h263 rfl dX7_readHolders_263 ?_
    refine G.aload_n dX7_readHolders_264 rfl ?_
    refine G.get fl_7_22 0 rfl rfl dX7_readHolders_265 ?_
    refine G.iconst 4 dX7_readHolders_268 (by decide) ?_
    refine G.iload_n dX7_readHolders_269 rfl ?_
    refine G.imul dX7_readHolders_270 ?_
    refine G.iconst 1 dX7_readHolders_271 (by decide) ?_
    refine G.iadd dX7_readHolders_272 ?_
    refine G.iload dX7_readHolders_273 rfl ?_
    refine G.chk (fun h275 => ?_)
    refine G.iastore (w' := (w_X7 cI cL cC cM cS a t_now t_mores t_tape t_typed t_place t_isFault t_readLamps (upd (upd t_read ((4 * x1).toNatClampNeg) x4) (((4 * x1) + 1).toNatClampNeg) x5) t_undone t_undos t_aside t_bays t_bests t_kept t_keptUndos t_isKept t_lanes t_sizes t_items t_moved)) 5 0 rfl rfl (((4 * x1) + 1).toNatClampNeg) rfl h275 rfl dX7_readHolders_275 ?_
    refine G.aload_n dX7_readHolders_276 rfl ?_
    refine G.get fl_7_22 0 rfl rfl dX7_readHolders_277 ?_
    refine G.iconst 4 dX7_readHolders_280 (by decide) ?_
    refine G.iload_n dX7_readHolders_281 rfl ?_
    refine G.imul dX7_readHolders_282 ?_
    refine G.iconst 2 dX7_readHolders_283 (by decide) ?_
    refine G.iadd dX7_readHolders_284 ?_
    refine G.iload dX7_readHolders_285 rfl ?_
    refine G.chk (fun h287 => ?_)
    refine G.iastore (w' := (w_X7 cI cL cC cM cS a t_now t_mores t_tape t_typed t_place t_isFault t_readLamps (upd (upd (upd t_read ((4 * x1).toNatClampNeg) x4) (((4 * x1) + 1).toNatClampNeg) x5) (((4 * x1) + 2).toNatClampNeg) x6) t_undone t_undos t_aside t_bays t_bests t_kept t_keptUndos t_isKept t_lanes t_sizes t_items t_moved)) 5 0 rfl rfl (((4 * x1) + 2).toNatClampNeg) rfl h287 rfl dX7_readHolders_287 ?_
    refine G.aload_n dX7_readHolders_288 rfl ?_
    refine G.get fl_7_22 0 rfl rfl dX7_readHolders_289 ?_
    refine G.iconst 4 dX7_readHolders_292 (by decide) ?_
    refine G.iload_n dX7_readHolders_293 rfl ?_
    refine G.imul dX7_readHolders_294 ?_
    refine G.iconst 3 dX7_readHolders_295 (by decide) ?_
    refine G.iadd dX7_readHolders_296 ?_
    refine G.iload dX7_readHolders_297 rfl ?_
    refine G.chk (fun h299 => ?_)
    refine G.iastore (w' := (w_X7 cI cL cC cM cS a t_now t_mores t_tape t_typed t_place t_isFault t_readLamps (upd (upd (upd (upd t_read ((4 * x1).toNatClampNeg) x4) (((4 * x1) + 1).toNatClampNeg) x5) (((4 * x1) + 2).toNatClampNeg) x6) (((4 * x1) + 3).toNatClampNeg) x7) t_undone t_undos t_aside t_bays t_bests t_kept t_keptUndos t_isKept t_lanes t_sizes t_items t_moved)) 5 0 rfl rfl (((4 * x1) + 3).toNatClampNeg) rfl h299 rfl dX7_readHolders_299 ?_
    refine G.mask (lv' := [some (.ref (a 0)), some (.int x1), some (.int (x2 ||| (1 <<< (x6 &&& 31)))), none, none, none, none, none]) [true, true, true, false, false, false, false, false] rfl ?_
    exact g_X7_readHolders_c300 l D ks cI cL cC cM cS a t_now t_mores t_readLamps t_undone t_undos t_aside t_bays t_bests t_kept t_keptUndos t_isKept t_lanes t_sizes t_items t_moved k4 hk4 t_tape t_typed t_place t_isFault (upd (upd (upd (upd t_read ((4 * x1).toNatClampNeg) x4) (((4 * x1) + 1).toNatClampNeg) x5) (((4 * x1) + 2).toNatClampNeg) x6) (((4 * x1) + 3).toNatClampNeg) x7) x1 (x2 ||| (1 <<< (x6 &&& 31)))
set_option maxHeartbeats 4000000 in
set_option maxRecDepth 100000 in
theorem g_X7_readHolders_c175 (l : Launch) (D : va_G) (ks : Nat × Nat) (cI cL cC cM cS : ClassId) (a : Nat → Nat) (t_now t_mores t_readLamps t_undone : Nat → Int32) (t_undos : Int32) (t_aside t_bays t_bests t_kept : Nat → Int32) (t_keptUndos t_isKept : Int32) (t_lanes t_sizes : Nat → Int32) (t_items t_moved : Nat → Int64) (k4 : (Nat → Int32) → Int32 → Int32 → Int32 → (Nat → Int32) → Int32 → Int32 → (Option (Int32 × Int32 × Int32 × (Nat → Int32)))) (hk4 : ∀ (t_tape : Nat → Int32) (t_typed t_place t_isFault : Int32) (t_read : Nat → Int32) (x1 : Int32) (x2 : Int32), GJ l D ks (tyz cI cL cC cM cS) RX7 cX7_readHolders 8 ((some .int)) { frames := 2, cells := 0, slots := 0, locals := 48 } (fun r : Int32 × Int32 × Int32 × (Nat → Int32) => (some (.int r.1), (w_X7 cI cL cC cM cS a t_now t_mores t_tape t_typed r.2.1 r.2.2.1 t_readLamps r.2.2.2 t_undone t_undos t_aside t_bays t_bests t_kept t_keptUndos t_isKept t_lanes t_sizes t_items t_moved))) (w_X7 cI cL cC cM cS a t_now t_mores t_tape t_typed t_place t_isFault t_readLamps t_read t_undone t_undos t_aside t_bays t_bests t_kept t_keptUndos t_isKept t_lanes t_sizes t_items t_moved) 4 [some (.ref (a 0)), some (.int x1), some (.int x2), none, none, none, none, none] [] (k4 t_tape t_typed t_place t_isFault t_read x1 x2)) (t_tape : Nat → Int32) (t_typed t_place t_isFault : Int32) (t_read : Nat → Int32) (x1 : Int32) (x2 : Int32) (x4 : Int32) (x5 : Int32) (s0 : Int32) : GJ l D ks (tyz cI cL cC cM cS) RX7 cX7_readHolders 8 ((some .int)) { frames := 2, cells := 0, slots := 0, locals := 48 } (fun r : Int32 × Int32 × Int32 × (Nat → Int32) => (some (.int r.1), (w_X7 cI cL cC cM cS a t_now t_mores t_tape t_typed r.2.1 r.2.2.1 t_readLamps r.2.2.2 t_undone t_undos t_aside t_bays t_bests t_kept t_keptUndos t_isKept t_lanes t_sizes t_items t_moved))) (w_X7 cI cL cC cM cS a t_now t_mores t_tape t_typed t_place t_isFault t_readLamps t_read t_undone t_undos t_aside t_bays t_bests t_kept t_keptUndos t_isKept t_lanes t_sizes t_items t_moved) 175 [some (.ref (a 0)), some (.int x1), some (.int x2), none, some (.int x4), some (.int x5), none, none] [.int s0] (f_X7_readHolders_c175 k4 t_tape t_typed t_place t_isFault t_read x1 x2 x4 x5 s0) := by
  unfold f_X7_readHolders_c175
  refine G.istore (lv' := [some (.ref (a 0)), some (.int x1), some (.int x2), none, some (.int x4), some (.int x5), some (.int s0), none]) dX7_readHolders_175 (by decide) (Nat.le_of_ble_eq_true rfl) rfl rfl ?_
  refine G.aload_n dX7_readHolders_177 rfl ?_
  refine G.iload dX7_readHolders_178 rfl ?_
  refine G.callS (st := [.ref (a 0)]) (w' := fun r180 => (w_X7 cI cL cC cM cS a t_now t_mores t_tape t_typed t_place t_isFault t_readLamps t_read t_undone t_undos t_aside t_bays t_bests t_kept t_keptUndos t_isKept t_lanes t_sizes t_items t_moved)) ms_X7_isBay lk_7_108 (c_X7_isBay l D ks cI cL cC cM cS s0) [] [0, 1, 2, 3, 4, 5, 6, 7, 8, 9, 10, 11, 12, 13, 14] [0, 1, 2, 3, 4, 5, 6, 7, 8, 9, 10, 11, 12, 13, 14] rfl rfl rfl rfl (by decide +kernel) (fun _ => rfl) (by decide) (Nat.le_of_ble_eq_true rfl) dX7_readHolders_180 (fun r180 => [.int r180, .ref (a 0)]) (fun _ => rfl) (fun r180 _ => ?_)
  refine G.join (st := [.ref (a 0)]) Value.int 200 (fun v200 => ?_) (fun hJ => ?_)
  · refine G.callV (st := []) (w' := fun r200 => (w_X7 cI cL cC cM cS a t_now t_mores t_tape t_typed r200.1 r200.2 t_readLamps t_read t_undone t_undos t_aside t_bays t_bests t_kept t_keptUndos t_isKept t_lanes t_sizes t_items t_moved)) mv_X7_must lk_7_148 (c_X7_must l D ks cI cL cC cM cS a t_now t_mores t_tape t_typed t_place t_isFault t_readLamps t_read t_undone t_undos t_aside t_bays t_bests t_kept t_keptUndos t_isKept t_lanes t_sizes t_items t_moved v200) [0, 1, 2, 3, 4, 5, 6, 7, 8, 9, 10, 11, 12, 13, 14] [] [0, 1, 2, 3, 4, 5, 6, 7, 8, 9, 10, 11, 12, 13, 14] rfl rfl rfl rfl (by decide +kernel) (fun _ => rfl) rfl (by decide) (Nat.le_of_ble_eq_true rfl) dX7_readHolders_200 (fun r200 => []) (fun _ => rfl) (fun r200 _ => ?_)
    refine G.iload dX7_readHolders_203 rfl ?_
    refine G.istore (lv' := [some (.ref (a 0)), some (.int x1), some (.int x2), none, some (.int x4), some (.int x5), some (.int s0), some (.int s0)]) dX7_readHolders_205 (by decide) (Nat.le_of_ble_eq_true rfl) rfl rfl ?_
    refine G.aload_n dX7_readHolders_207 rfl ?_
    refine G.get fl_7_141 0 rfl rfl dX7_readHolders_208 ?_
    refine G.if_ne 240 dX7_readHolders_211 (by decide) (fun h211 => ?_) (fun h211 => ?_)
    · exact g_X7_readHolders_c240 l D ks cI cL cC cM cS a t_now t_mores t_readLamps t_undone t_undos t_aside t_bays t_bests t_kept t_keptUndos t_isKept t_lanes t_sizes t_items t_moved k4 hk4 t_tape t_typed r200.1 r200.2 t_read x1 x2 x4 x5 s0 s0
    · refine G.aload_n dX7_readHolders_214 rfl ?_
      refine G.callV (st := []) (w' := fun r215 => (w_X7 cI cL cC cM cS a t_now t_mores t_tape t_typed r215.2 r200.2 t_readLamps t_read t_undone t_undos t_aside t_bays t_bests t_kept t_keptUndos t_isKept t_lanes t_sizes t_items t_moved)) mv_X7_here lk_7_145 (c_X7_here l D ks cI cL cC cM cS a t_now t_mores t_tape t_typed r200.1 r200.2 t_readLamps t_read t_undone t_undos t_aside t_bays t_bests t_kept t_keptUndos t_isKept t_lanes t_sizes t_items t_moved) [0, 1, 2, 3, 4, 5, 6, 7, 8, 9, 10, 11, 12, 13, 14] [] [0, 1, 2, 3, 4, 5, 6, 7, 8, 9, 10, 11, 12, 13, 14] rfl rfl rfl rfl (by decide +kernel) (fun _ => rfl) rfl (by decide) (Nat.le_of_ble_eq_true rfl) dX7_readHolders_215 (fun r215 => [.int r215.1]) (fun _ => rfl) (fun r215 _ => ?_)
      refine G.bipush 62 dX7_readHolders_218 (by decide) ?_
      refine G.icmp_ne 240 dX7_readHolders_220 (by decide) (fun h220 => ?_) (fun h220 => ?_)
      · exact g_X7_readHolders_c240 l D ks cI cL cC cM cS a t_now t_mores t_readLamps t_undone t_undos t_aside t_bays t_bests t_kept t_keptUndos t_isKept t_lanes t_sizes t_items t_moved k4 hk4 t_tape t_typed r215.2 r200.2 t_read x1 x2 x4 x5 s0 s0
      · refine G.aload_n dX7_readHolders_223 rfl ?_
        refine G.dup dX7_readHolders_224 rfl ?_
        refine G.get fl_7_138 0 rfl rfl dX7_readHolders_225 ?_
        refine G.iconst 1 dX7_readHolders_228 (by decide) ?_
        refine G.iadd dX7_readHolders_229 ?_
        refine G.put (w' := (w_X7 cI cL cC cM cS a t_now t_mores t_tape t_typed (r215.2 + 1) r200.2 t_readLamps t_read t_undone t_undos t_aside t_bays t_bests t_kept t_keptUndos t_isKept t_lanes t_sizes t_items t_moved)) fp_7_138 0 rfl (Nat.le_of_ble_eq_true rfl) rfl rfl rfl dX7_readHolders_230 ?_
        refine G.aload_n dX7_readHolders_233 rfl ?_
        refine G.iconst 5 dX7_readHolders_234 (by decide) ?_
        refine G.callV (st := []) (w' := fun r235 => (w_X7 cI cL cC cM cS a t_now t_mores t_tape t_typed r235.2.1 r235.2.2 t_readLamps t_read t_undone t_undos t_aside t_bays t_bests t_kept t_keptUndos t_isKept t_lanes t_sizes t_items t_moved)) mv_X7_digit lk_7_159 (c_X7_digit l D ks cI cL cC cM cS a t_now t_mores t_tape t_typed (r215.2 + 1) r200.2 t_readLamps t_read t_undone t_undos t_aside t_bays t_bests t_kept t_keptUndos t_isKept t_lanes t_sizes t_items t_moved 5) [0, 1, 2, 3, 4, 5, 6, 7, 8, 9, 10, 11, 12, 13, 14] [] [0, 1, 2, 3, 4, 5, 6, 7, 8, 9, 10, 11, 12, 13, 14] rfl rfl rfl rfl (by decide +kernel) (fun _ => rfl) rfl (by decide) (Nat.le_of_ble_eq_true rfl) dX7_readHolders_235 (fun r235 => [.int r235.1]) (fun _ => rfl) (fun r235 _ => ?_)
        refine G.istore (lv' := [some (.ref (a 0)), some (.int x1), some (.int x2), none, some (.int x4), some (.int x5), some (.int s0), some (.int r235.1)]) dX7_readHolders_238 (by decide) (Nat.le_of_ble_eq_true rfl) rfl rfl ?_
        exact g_X7_readHolders_c240 l D ks cI cL cC cM cS a t_now t_mores t_readLamps t_undone t_undos t_aside t_bays t_bests t_kept t_keptUndos t_isKept t_lanes t_sizes t_items t_moved k4 hk4 t_tape t_typed r235.2.1 r235.2.2 t_read x1 x2 x4 x5 s0 r235.1
  · refine G.ite ?_
    refine G.if_eq 199 dX7_readHolders_183 (by decide) (fun _ => ?_) (fun _ => ?_)
    · refine G.iconst 0 dX7_readHolders_199 (by decide) ?_
      exact hJ _
    · refine G.iload_n dX7_readHolders_186 rfl ?_
      refine G.iload dX7_readHolders_187 rfl ?_
      refine G.ishr dX7_readHolders_189 ?_
      refine G.iconst 1 dX7_readHolders_190 (by decide) ?_
      refine G.iand dX7_readHolders_191 ?_
      refine G.ite ?_
      refine G.if_ne 199 dX7_readHolders_192 (by decide) (fun _ => ?_) (fun _ => ?_)
      · refine G.iconst 0 dX7_readHolders_199 (by decide) ?_
        exact hJ _
      · refine G.iconst 1 dX7_readHolders_195 (by decide) ?_
        refine G.goto 200 dX7_readHolders_196 (by decide) ?_
        exact hJ _
set_option maxHeartbeats 4000000 in
set_option maxRecDepth 100000 in
theorem g_X7_readHolders_c154 (l : Launch) (D : va_G) (ks : Nat × Nat) (cI cL cC cM cS : ClassId) (a : Nat → Nat) (t_now t_mores t_readLamps t_undone : Nat → Int32) (t_undos : Int32) (t_aside t_bays t_bests t_kept : Nat → Int32) (t_keptUndos t_isKept : Int32) (t_lanes t_sizes : Nat → Int32) (t_items t_moved : Nat → Int64) (k4 : (Nat → Int32) → Int32 → Int32 → Int32 → (Nat → Int32) → Int32 → Int32 → (Option (Int32 × Int32 × Int32 × (Nat → Int32)))) (hk4 : ∀ (t_tape : Nat → Int32) (t_typed t_place t_isFault : Int32) (t_read : Nat → Int32) (x1 : Int32) (x2 : Int32), GJ l D ks (tyz cI cL cC cM cS) RX7 cX7_readHolders 8 ((some .int)) { frames := 2, cells := 0, slots := 0, locals := 48 } (fun r : Int32 × Int32 × Int32 × (Nat → Int32) => (some (.int r.1), (w_X7 cI cL cC cM cS a t_now t_mores t_tape t_typed r.2.1 r.2.2.1 t_readLamps r.2.2.2 t_undone t_undos t_aside t_bays t_bests t_kept t_keptUndos t_isKept t_lanes t_sizes t_items t_moved))) (w_X7 cI cL cC cM cS a t_now t_mores t_tape t_typed t_place t_isFault t_readLamps t_read t_undone t_undos t_aside t_bays t_bests t_kept t_keptUndos t_isKept t_lanes t_sizes t_items t_moved) 4 [some (.ref (a 0)), some (.int x1), some (.int x2), none, none, none, none, none] [] (k4 t_tape t_typed t_place t_isFault t_read x1 x2)) (t_tape : Nat → Int32) (t_typed t_place t_isFault : Int32) (t_read : Nat → Int32) (x1 : Int32) (x2 : Int32) (x4 : Int32) (x5 : Int32) : GJ l D ks (tyz cI cL cC cM cS) RX7 cX7_readHolders 8 ((some .int)) { frames := 2, cells := 0, slots := 0, locals := 48 } (fun r : Int32 × Int32 × Int32 × (Nat → Int32) => (some (.int r.1), (w_X7 cI cL cC cM cS a t_now t_mores t_tape t_typed r.2.1 r.2.2.1 t_readLamps r.2.2.2 t_undone t_undos t_aside t_bays t_bests t_kept t_keptUndos t_isKept t_lanes t_sizes t_items t_moved))) (w_X7 cI cL cC cM cS a t_now t_mores t_tape t_typed t_place t_isFault t_readLamps t_read t_undone t_undos t_aside t_bays t_bests t_kept t_keptUndos t_isKept t_lanes t_sizes t_items t_moved) 154 [some (.ref (a 0)), some (.int x1), some (.int x2), none, some (.int x4), some (.int x5), none, none] [.int 0, .ref (a 0)] (f_X7_readHolders_c154 k4 t_tape t_typed t_place t_isFault t_read x1 x2 x4 x5) := by
  unfold f_X7_readHolders_c154
  refine G.callV (st := []) (w' := fun r154 => (w_X7 cI cL cC cM cS a t_now t_mores t_tape t_typed r154.1 r154.2 t_readLamps t_read t_undone t_undos t_aside t_bays t_bests t_kept t_keptUndos t_isKept t_lanes t_sizes t_items t_moved)) mv_X7_must lk_7_148 (c_X7_must l D ks cI cL cC cM cS a t_now t_mores t_tape t_typed t_place t_isFault t_readLamps t_read t_undone t_undos t_aside t_bays t_bests t_kept t_keptUndos t_isKept t_lanes t_sizes t_items t_moved 0) [0, 1, 2, 3, 4, 5, 6, 7, 8, 9, 10, 11, 12, 13, 14] [] [0, 1, 2, 3, 4, 5, 6, 7, 8, 9, 10, 11, 12, 13, 14] rfl rfl rfl rfl (by decide +kernel) (fun _ => rfl) rfl (by decide) (Nat.le_of_ble_eq_true rfl) dX7_readHolders_154 (fun r154 => []) (fun _ => rfl) (fun r154 _ => ?_)
  refine G.aload_n dX7_readHolders_157 rfl ?_
  refine G.get fl_7_141 0 rfl rfl dX7_readHolders_158 ?_
  refine G.if_eq 168 dX7_readHolders_161 (by decide) (fun h161 => ?_) (fun h161 => ?_)
  · refine G.aload_n dX7_readHolders_168 rfl ?_
    refine G.callV (st := []) (w' := fun r169 => (w_X7 cI cL cC cM cS a t_now t_mores t_tape t_typed r169.2 r154.2 t_readLamps t_read t_undone t_undos t_aside t_bays t_bests t_kept t_keptUndos t_isKept t_lanes t_sizes t_items t_moved)) mv_X7_here lk_7_145 (c_X7_here l D ks cI cL cC cM cS a t_now t_mores t_tape t_typed r154.1 r154.2 t_readLamps t_read t_undone t_undos t_aside t_bays t_bests t_kept t_keptUndos t_isKept t_lanes t_sizes t_items t_moved) [0, 1, 2, 3, 4, 5, 6, 7, 8, 9, 10, 11, 12, 13, 14] [] [0, 1, 2, 3, 4, 5, 6, 7, 8, 9, 10, 11, 12, 13, 14] rfl rfl rfl rfl (by decide +kernel) (fun _ => rfl) rfl (by decide) (Nat.le_of_ble_eq_true rfl) dX7_readHolders_169 (fun r169 => [.int r169.1]) (fun _ => rfl) (fun r169 _ => ?_)
    refine G.bipush 48 dX7_readHolders_172 (by decide) ?_
    refine G.isub dX7_readHolders_174 ?_
    exact g_X7_readHolders_c175 l D ks cI cL cC cM cS a t_now t_mores t_readLamps t_undone t_undos t_aside t_bays t_bests t_kept t_keptUndos t_isKept t_lanes t_sizes t_items t_moved k4 hk4 t_tape t_typed r169.2 r154.2 t_read x1 x2 x4 x5 (r169.1 - 48)
  · refine G.iconst (-1) dX7_readHolders_164 (by decide) ?_
    refine G.goto 175 dX7_readHolders_165 (by decide) ?_
    exact g_X7_readHolders_c175 l D ks cI cL cC cM cS a t_now t_mores t_readLamps t_undone t_undos t_aside t_bays t_bests t_kept t_keptUndos t_isKept t_lanes t_sizes t_items t_moved k4 hk4 t_tape t_typed r154.1 r154.2 t_read x1 x2 x4 x5 (-1)
set_option maxHeartbeats 4000000 in
set_option maxRecDepth 100000 in
theorem g_X7_readHolders_c153 (l : Launch) (D : va_G) (ks : Nat × Nat) (cI cL cC cM cS : ClassId) (a : Nat → Nat) (t_now t_mores t_readLamps t_undone : Nat → Int32) (t_undos : Int32) (t_aside t_bays t_bests t_kept : Nat → Int32) (t_keptUndos t_isKept : Int32) (t_lanes t_sizes : Nat → Int32) (t_items t_moved : Nat → Int64) (k4 : (Nat → Int32) → Int32 → Int32 → Int32 → (Nat → Int32) → Int32 → Int32 → (Option (Int32 × Int32 × Int32 × (Nat → Int32)))) (hk4 : ∀ (t_tape : Nat → Int32) (t_typed t_place t_isFault : Int32) (t_read : Nat → Int32) (x1 : Int32) (x2 : Int32), GJ l D ks (tyz cI cL cC cM cS) RX7 cX7_readHolders 8 ((some .int)) { frames := 2, cells := 0, slots := 0, locals := 48 } (fun r : Int32 × Int32 × Int32 × (Nat → Int32) => (some (.int r.1), (w_X7 cI cL cC cM cS a t_now t_mores t_tape t_typed r.2.1 r.2.2.1 t_readLamps r.2.2.2 t_undone t_undos t_aside t_bays t_bests t_kept t_keptUndos t_isKept t_lanes t_sizes t_items t_moved))) (w_X7 cI cL cC cM cS a t_now t_mores t_tape t_typed t_place t_isFault t_readLamps t_read t_undone t_undos t_aside t_bays t_bests t_kept t_keptUndos t_isKept t_lanes t_sizes t_items t_moved) 4 [some (.ref (a 0)), some (.int x1), some (.int x2), none, none, none, none, none] [] (k4 t_tape t_typed t_place t_isFault t_read x1 x2)) (t_tape : Nat → Int32) (t_typed t_place t_isFault : Int32) (t_read : Nat → Int32) (x1 : Int32) (x2 : Int32) (x4 : Int32) (x5 : Int32) : GJ l D ks (tyz cI cL cC cM cS) RX7 cX7_readHolders 8 ((some .int)) { frames := 2, cells := 0, slots := 0, locals := 48 } (fun r : Int32 × Int32 × Int32 × (Nat → Int32) => (some (.int r.1), (w_X7 cI cL cC cM cS a t_now t_mores t_tape t_typed r.2.1 r.2.2.1 t_readLamps r.2.2.2 t_undone t_undos t_aside t_bays t_bests t_kept t_keptUndos t_isKept t_lanes t_sizes t_items t_moved))) (w_X7 cI cL cC cM cS a t_now t_mores t_tape t_typed t_place t_isFault t_readLamps t_read t_undone t_undos t_aside t_bays t_bests t_kept t_keptUndos t_isKept t_lanes t_sizes t_items t_moved) 153 [some (.ref (a 0)), some (.int x1), some (.int x2), none, some (.int x4), some (.int x5), none, none] [.ref (a 0)] (f_X7_readHolders_c153 k4 t_tape t_typed t_place t_isFault t_read x1 x2 x4 x5) := by
  unfold f_X7_readHolders_c153
  refine G.iconst 0 dX7_readHolders_153 (by decide) ?_
  exact g_X7_readHolders_c154 l D ks cI cL cC cM cS a t_now t_mores t_readLamps t_undone t_undos t_aside t_bays t_bests t_kept t_keptUndos t_isKept t_lanes t_sizes t_items t_moved k4 hk4 t_tape t_typed t_place t_isFault t_read x1 x2 x4 x5
set_option maxHeartbeats 4000000 in
set_option maxRecDepth 100000 in
theorem g_X7_readHolders_c58 (l : Launch) (D : va_G) (ks : Nat × Nat) (cI cL cC cM cS : ClassId) (a : Nat → Nat) (t_now t_mores t_readLamps t_undone : Nat → Int32) (t_undos : Int32) (t_aside t_bays t_bests t_kept : Nat → Int32) (t_keptUndos t_isKept : Int32) (t_lanes t_sizes : Nat → Int32) (t_items t_moved : Nat → Int64) (k4 : (Nat → Int32) → Int32 → Int32 → Int32 → (Nat → Int32) → Int32 → Int32 → (Option (Int32 × Int32 × Int32 × (Nat → Int32)))) (hk4 : ∀ (t_tape : Nat → Int32) (t_typed t_place t_isFault : Int32) (t_read : Nat → Int32) (x1 : Int32) (x2 : Int32), GJ l D ks (tyz cI cL cC cM cS) RX7 cX7_readHolders 8 ((some .int)) { frames := 2, cells := 0, slots := 0, locals := 48 } (fun r : Int32 × Int32 × Int32 × (Nat → Int32) => (some (.int r.1), (w_X7 cI cL cC cM cS a t_now t_mores t_tape t_typed r.2.1 r.2.2.1 t_readLamps r.2.2.2 t_undone t_undos t_aside t_bays t_bests t_kept t_keptUndos t_isKept t_lanes t_sizes t_items t_moved))) (w_X7 cI cL cC cM cS a t_now t_mores t_tape t_typed t_place t_isFault t_readLamps t_read t_undone t_undos t_aside t_bays t_bests t_kept t_keptUndos t_isKept t_lanes t_sizes t_items t_moved) 4 [some (.ref (a 0)), some (.int x1), some (.int x2), none, none, none, none, none] [] (k4 t_tape t_typed t_place t_isFault t_read x1 x2)) (t_tape : Nat → Int32) (t_typed t_place t_isFault : Int32) (t_read : Nat → Int32) (x1 : Int32) (x2 : Int32) (s0 : Int32) : GJ l D ks (tyz cI cL cC cM cS) RX7 cX7_readHolders 8 ((some .int)) { frames := 2, cells := 0, slots := 0, locals := 48 } (fun r : Int32 × Int32 × Int32 × (Nat → Int32) => (some (.int r.1), (w_X7 cI cL cC cM cS a t_now t_mores t_tape t_typed r.2.1 r.2.2.1 t_readLamps r.2.2.2 t_undone t_undos t_aside t_bays t_bests t_kept t_keptUndos t_isKept t_lanes t_sizes t_items t_moved))) (w_X7 cI cL cC cM cS a t_now t_mores t_tape t_typed t_place t_isFault t_readLamps t_read t_undone t_undos t_aside t_bays t_bests t_kept t_keptUndos t_isKept t_lanes t_sizes t_items t_moved) 58 [some (.ref (a 0)), some (.int x1), some (.int x2), none, none, none, none, none] [.int s0] (f_X7_readHolders_c58 k4 t_tape t_typed t_place t_isFault t_read x1 x2 s0) := by
  unfold f_X7_readHolders_c58
  refine G.istore_n (lv' := [some (.ref (a 0)), some (.int x1), some (.int x2), some (.int s0), none, none, none, none]) dX7_readHolders_58 (by decide) (Nat.le_of_ble_eq_true rfl) rfl rfl ?_
  refine G.iload_n dX7_readHolders_59 rfl ?_
  refine G.bipush 112 dX7_readHolders_60 (by decide) ?_
  refine G.join (st := []) Value.int 110 (fun v110 => ?_) (fun hJ => ?_)
  · refine G.istore (lv' := [some (.ref (a 0)), some (.int x1), some (.int x2), some (.int s0), some (.int v110), none, none, none]) dX7_readHolders_110 (by decide) (Nat.le_of_ble_eq_true rfl) rfl rfl ?_
    refine G.aload_n dX7_readHolders_112 rfl ?_
    refine G.iload dX7_readHolders_113 rfl ?_
    refine G.join (st := [.ref (a 0)]) Value.int 123 (fun v123 => ?_) (fun hJ => ?_)
    · refine G.callV (st := []) (w' := fun r123 => (w_X7 cI cL cC cM cS a t_now t_mores t_tape t_typed r123.1 r123.2 t_readLamps t_read t_undone t_undos t_aside t_bays t_bests t_kept t_keptUndos t_isKept t_lanes t_sizes t_items t_moved)) mv_X7_must lk_7_148 (c_X7_must l D ks cI cL cC cM cS a t_now t_mores t_tape t_typed t_place t_isFault t_readLamps t_read t_undone t_undos t_aside t_bays t_bests t_kept t_keptUndos t_isKept t_lanes t_sizes t_items t_moved v123) [0, 1, 2, 3, 4, 5, 6, 7, 8, 9, 10, 11, 12, 13, 14] [] [0, 1, 2, 3, 4, 5, 6, 7, 8, 9, 10, 11, 12, 13, 14] rfl rfl rfl rfl (by decide +kernel) (fun _ => rfl) rfl (by decide) (Nat.le_of_ble_eq_true rfl) dX7_readHolders_123 (fun r123 => []) (fun _ => rfl) (fun r123 _ => ?_)
      refine G.aload_n dX7_readHolders_126 rfl ?_
      refine G.callV (st := []) (w' := fun r127 => (w_X7 cI cL cC cM cS a t_now t_mores t_tape t_typed r127.2.1 r127.2.2 t_readLamps t_read t_undone t_undos t_aside t_bays t_bests t_kept t_keptUndos t_isKept t_lanes t_sizes t_items t_moved)) mv_X7_number lk_7_156 (c_X7_number l D ks cI cL cC cM cS a t_now t_mores t_tape t_typed r123.1 r123.2 t_readLamps t_read t_undone t_undos t_aside t_bays t_bests t_kept t_keptUndos t_isKept t_lanes t_sizes t_items t_moved) [0, 1, 2, 3, 4, 5, 6, 7, 8, 9, 10, 11, 12, 13, 14] [] [0, 1, 2, 3, 4, 5, 6, 7, 8, 9, 10, 11, 12, 13, 14] rfl rfl rfl rfl (by decide +kernel) (fun _ => rfl) rfl (by decide) (Nat.le_of_ble_eq_true rfl) dX7_readHolders_127 (fun r127 => [.int r127.1]) (fun _ => rfl) (fun r127 _ => ?_)
      refine G.istore (lv' := [some (.ref (a 0)), some (.int x1), some (.int x2), some (.int s0), some (.int v110), some (.int r127.1), none, none]) dX7_readHolders_130 (by decide) (Nat.le_of_ble_eq_true rfl) rfl rfl ?_
      refine G.aload_n dX7_readHolders_132 rfl ?_
      refine G.aload_n dX7_readHolders_133 rfl ?_
      refine G.get fl_7_141 0 rfl rfl dX7_readHolders_134 ?_
      refine G.if_ne 153 dX7_readHolders_137 (by decide) (fun h137 => ?_) (fun h137 => ?_)
      · refine G.mask (lv' := [some (.ref (a 0)), some (.int x1), some (.int x2), none, some (.int v110), some (.int r127.1), none, none]) [true, true, true, false, true, true, false, false] rfl ?_
        exact g_X7_readHolders_c153 l D ks cI cL cC cM cS a t_now t_mores t_readLamps t_undone t_undos t_aside t_bays t_bests t_kept t_keptUndos t_isKept t_lanes t_sizes t_items t_moved k4 hk4 t_tape t_typed r127.2.1 r127.2.2 t_read x1 x2 v110 r127.1
      · refine G.aload_n dX7_readHolders_140 rfl ?_
        refine G.callV (st := [.ref (a 0)]) (w' := fun r141 => (w_X7 cI cL cC cM cS a t_now t_mores t_tape t_typed r141.2 r127.2.2 t_readLamps t_read t_undone t_undos t_aside t_bays t_bests t_kept t_keptUndos t_isKept t_lanes t_sizes t_items t_moved)) mv_X7_here lk_7_145 (c_X7_here l D ks cI cL cC cM cS a t_now t_mores t_tape t_typed r127.2.1 r127.2.2 t_readLamps t_read t_undone t_undos t_aside t_bays t_bests t_kept t_keptUndos t_isKept t_lanes t_sizes t_items t_moved) [0, 1, 2, 3, 4, 5, 6, 7, 8, 9, 10, 11, 12, 13, 14] [] [0, 1, 2, 3, 4, 5, 6, 7, 8, 9, 10, 11, 12, 13, 14] rfl rfl rfl rfl (by decide +kernel) (fun _ => rfl) rfl (by decide) (Nat.le_of_ble_eq_true rfl) dX7_readHolders_141 (fun r141 => [.int r141.1, .ref (a 0)]) (fun _ => rfl) (fun r141 _ => ?_)
        refine G.bipush 64 dX7_readHolders_144 (by decide) ?_
        refine G.join (st := [.ref (a 0)]) Value.int 154 (fun v154 => ?_) (fun hJ => ?_)
        · refine G.callV (st := []) (w' := fun r154 => (w_X7 cI cL cC cM cS a t_now t_mores t_tape t_typed r154.1 r154.2 t_readLamps t_read t_undone t_undos t_aside t_bays t_bests t_kept t_keptUndos t_isKept t_lanes t_sizes t_items t_moved)) mv_X7_must lk_7_148 (c_X7_must l D ks cI cL cC cM cS a t_now t_mores t_tape t_typed r141.2 r127.2.2 t_readLamps t_read t_undone t_undos t_aside t_bays t_bests t_kept t_keptUndos t_isKept t_lanes t_sizes t_items t_moved v154) [0, 1, 2, 3, 4, 5, 6, 7, 8, 9, 10, 11, 12, 13, 14] [] [0, 1, 2, 3, 4, 5, 6, 7, 8, 9, 10, 11, 12, 13, 14] rfl rfl rfl rfl (by decide +kernel) (fun _ => rfl) rfl (by decide) (Nat.le_of_ble_eq_true rfl) dX7_readHolders_154 (fun r154 => []) (fun _ => rfl) (fun r154 _ => ?_)
          refine G.aload_n dX7_readHolders_157 rfl ?_
          refine G.get fl_7_141 0 rfl rfl dX7_readHolders_158 ?_
          refine G.if_eq 168 dX7_readHolders_161 (by decide) (fun h161 => ?_) (fun h161 => ?_)
          · refine G.aload_n dX7_readHolders_168 rfl ?_
            refine G.callV (st := []) (w' := fun r169 => (w_X7 cI cL cC cM cS a t_now t_mores t_tape t_typed r169.2 r154.2 t_readLamps t_read t_undone t_undos t_aside t_bays t_bests t_kept t_keptUndos t_isKept t_lanes t_sizes t_items t_moved)) mv_X7_here lk_7_145 (c_X7_here l D ks cI cL cC cM cS a t_now t_mores t_tape t_typed r154.1 r154.2 t_readLamps t_read t_undone t_undos t_aside t_bays t_bests t_kept t_keptUndos t_isKept t_lanes t_sizes t_items t_moved) [0, 1, 2, 3, 4, 5, 6, 7, 8, 9, 10, 11, 12, 13, 14] [] [0, 1, 2, 3, 4, 5, 6, 7, 8, 9, 10, 11, 12, 13, 14] rfl rfl rfl rfl (by decide +kernel) (fun _ => rfl) rfl (by decide) (Nat.le_of_ble_eq_true rfl) dX7_readHolders_169 (fun r169 => [.int r169.1]) (fun _ => rfl) (fun r169 _ => ?_)
            refine G.bipush 48 dX7_readHolders_172 (by decide) ?_
            refine G.isub dX7_readHolders_174 ?_
            refine G.mask (lv' := [some (.ref (a 0)), some (.int x1), some (.int x2), none, some (.int v110), some (.int r127.1), none, none]) [true, true, true, false, true, true, false, false] rfl ?_
            exact g_X7_readHolders_c175 l D ks cI cL cC cM cS a t_now t_mores t_readLamps t_undone t_undos t_aside t_bays t_bests t_kept t_keptUndos t_isKept t_lanes t_sizes t_items t_moved k4 hk4 t_tape t_typed r169.2 r154.2 t_read x1 x2 v110 r127.1 (r169.1 - 48)
          · refine G.iconst (-1) dX7_readHolders_164 (by decide) ?_
            refine G.goto 175 dX7_readHolders_165 (by decide) ?_
            refine G.mask (lv' := [some (.ref (a 0)), some (.int x1), some (.int x2), none, some (.int v110), some (.int r127.1), none, none]) [true, true, true, false, true, true, false, false] rfl ?_
            exact g_X7_readHolders_c175 l D ks cI cL cC cM cS a t_now t_mores t_readLamps t_undone t_undos t_aside t_bays t_bests t_kept t_keptUndos t_isKept t_lanes t_sizes t_items t_moved k4 hk4 t_tape t_typed r154.1 r154.2 t_read x1 x2 v110 r127.1 (-1)
        · refine G.ite ?_
          refine G.icmp_ne 153 dX7_readHolders_146 (by decide) (fun _ => ?_) (fun _ => ?_)
          · refine G.iconst 0 dX7_readHolders_153 (by decide) ?_
            exact hJ _
          · refine G.iconst 1 dX7_readHolders_149 (by decide) ?_
            refine G.goto 154 dX7_readHolders_150 (by decide) ?_
            exact hJ _
    · refine G.ite ?_
      refine G.if_lt 122 dX7_readHolders_115 (by decide) (fun _ => ?_) (fun _ => ?_)
      · refine G.iconst 0 dX7_readHolders_122 (by decide) ?_
        exact hJ _
      · refine G.iconst 1 dX7_readHolders_118 (by decide) ?_
        refine G.goto 123 dX7_readHolders_119 (by decide) ?_
        exact hJ _
  · refine G.ite ?_
    refine G.icmp_ne 69 dX7_readHolders_62 (by decide) (fun _ => ?_) (fun _ => ?_)
    · refine G.iload_n dX7_readHolders_69 rfl ?_
      refine G.bipush 115 dX7_readHolders_70 (by decide) ?_
      refine G.ite ?_
      refine G.icmp_ne 79 dX7_readHolders_72 (by decide) (fun _ => ?_) (fun _ => ?_)
      · refine G.iload_n dX7_readHolders_79 rfl ?_
        refine G.bipush 109 dX7_readHolders_80 (by decide) ?_
        refine G.ite ?_
        refine G.icmp_ne 89 dX7_readHolders_82 (by decide) (fun _ => ?_) (fun _ => ?_)
        · refine G.iload_n dX7_readHolders_89 rfl ?_
          refine G.bipush 108 dX7_readHolders_90 (by decide) ?_
          refine G.ite ?_
          refine G.icmp_ne 99 dX7_readHolders_92 (by decide) (fun _ => ?_) (fun _ => ?_)
          · refine G.iload_n dX7_readHolders_99 rfl ?_
            refine G.bipush 121 dX7_readHolders_100 (by decide) ?_
            refine G.ite ?_
            refine G.icmp_ne 109 dX7_readHolders_102 (by decide) (fun _ => ?_) (fun _ => ?_)
            · refine G.iconst (-1) dX7_readHolders_109 (by decide) ?_
              exact hJ _
            · refine G.iconst 4 dX7_readHolders_105 (by decide) ?_
              refine G.goto 110 dX7_readHolders_106 (by decide) ?_
              exact hJ _
          · refine G.iconst 3 dX7_readHolders_95 (by decide) ?_
            refine G.goto 110 dX7_readHolders_96 (by decide) ?_
            exact hJ _
        · refine G.iconst 2 dX7_readHolders_85 (by decide) ?_
          refine G.goto 110 dX7_readHolders_86 (by decide) ?_
          exact hJ _
      · refine G.iconst 1 dX7_readHolders_75 (by decide) ?_
        refine G.goto 110 dX7_readHolders_76 (by decide) ?_
        exact hJ _
    · refine G.iconst 0 dX7_readHolders_65 (by decide) ?_
      refine G.goto 110 dX7_readHolders_66 (by decide) ?_
      exact hJ _
set_option maxHeartbeats 4000000 in
set_option maxRecDepth 100000 in
theorem g_X7_readHolders_c43 (l : Launch) (D : va_G) (ks : Nat × Nat) (cI cL cC cM cS : ClassId) (a : Nat → Nat) (t_now t_mores t_readLamps t_undone : Nat → Int32) (t_undos : Int32) (t_aside t_bays t_bests t_kept : Nat → Int32) (t_keptUndos t_isKept : Int32) (t_lanes t_sizes : Nat → Int32) (t_items t_moved : Nat → Int64) (k4 : (Nat → Int32) → Int32 → Int32 → Int32 → (Nat → Int32) → Int32 → Int32 → (Option (Int32 × Int32 × Int32 × (Nat → Int32)))) (hk4 : ∀ (t_tape : Nat → Int32) (t_typed t_place t_isFault : Int32) (t_read : Nat → Int32) (x1 : Int32) (x2 : Int32), GJ l D ks (tyz cI cL cC cM cS) RX7 cX7_readHolders 8 ((some .int)) { frames := 2, cells := 0, slots := 0, locals := 48 } (fun r : Int32 × Int32 × Int32 × (Nat → Int32) => (some (.int r.1), (w_X7 cI cL cC cM cS a t_now t_mores t_tape t_typed r.2.1 r.2.2.1 t_readLamps r.2.2.2 t_undone t_undos t_aside t_bays t_bests t_kept t_keptUndos t_isKept t_lanes t_sizes t_items t_moved))) (w_X7 cI cL cC cM cS a t_now t_mores t_tape t_typed t_place t_isFault t_readLamps t_read t_undone t_undos t_aside t_bays t_bests t_kept t_keptUndos t_isKept t_lanes t_sizes t_items t_moved) 4 [some (.ref (a 0)), some (.int x1), some (.int x2), none, none, none, none, none] [] (k4 t_tape t_typed t_place t_isFault t_read x1 x2)) (t_tape : Nat → Int32) (t_typed t_place t_isFault : Int32) (t_read : Nat → Int32) (x1 : Int32) (x2 : Int32) : GJ l D ks (tyz cI cL cC cM cS) RX7 cX7_readHolders 8 ((some .int)) { frames := 2, cells := 0, slots := 0, locals := 48 } (fun r : Int32 × Int32 × Int32 × (Nat → Int32) => (some (.int r.1), (w_X7 cI cL cC cM cS a t_now t_mores t_tape t_typed r.2.1 r.2.2.1 t_readLamps r.2.2.2 t_undone t_undos t_aside t_bays t_bests t_kept t_keptUndos t_isKept t_lanes t_sizes t_items t_moved))) (w_X7 cI cL cC cM cS a t_now t_mores t_tape t_typed t_place t_isFault t_readLamps t_read t_undone t_undos t_aside t_bays t_bests t_kept t_keptUndos t_isKept t_lanes t_sizes t_items t_moved) 43 [some (.ref (a 0)), some (.int x1), some (.int x2), none, none, none, none, none] [] (f_X7_readHolders_c43 k4 t_tape t_typed t_place t_isFault t_read x1 x2) := by
  unfold f_X7_readHolders_c43
  refine G.aload_n dX7_readHolders_43 rfl ?_
  refine G.get fl_7_141 0 rfl rfl dX7_readHolders_44 ?_
  refine G.if_eq 54 dX7_readHolders_47 (by decide) (fun h47 => ?_) (fun h47 => ?_)
  · refine G.aload_n dX7_readHolders_54 rfl ?_
    refine G.callV (st := []) (w' := fun r55 => (w_X7 cI cL cC cM cS a t_now t_mores t_tape t_typed r55.2 t_isFault t_readLamps t_read t_undone t_undos t_aside t_bays t_bests t_kept t_keptUndos t_isKept t_lanes t_sizes t_items t_moved)) mv_X7_here lk_7_145 (c_X7_here l D ks cI cL cC cM cS a t_now t_mores t_tape t_typed t_place t_isFault t_readLamps t_read t_undone t_undos t_aside t_bays t_bests t_kept t_keptUndos t_isKept t_lanes t_sizes t_items t_moved) [0, 1, 2, 3, 4, 5, 6, 7, 8, 9, 10, 11, 12, 13, 14] [] [0, 1, 2, 3, 4, 5, 6, 7, 8, 9, 10, 11, 12, 13, 14] rfl rfl rfl rfl (by decide +kernel) (fun _ => rfl) rfl (by decide) (Nat.le_of_ble_eq_true rfl) dX7_readHolders_55 (fun r55 => [.int r55.1]) (fun _ => rfl) (fun r55 _ => ?_)
    exact g_X7_readHolders_c58 l D ks cI cL cC cM cS a t_now t_mores t_readLamps t_undone t_undos t_aside t_bays t_bests t_kept t_keptUndos t_isKept t_lanes t_sizes t_items t_moved k4 hk4 t_tape t_typed r55.2 t_isFault t_read x1 x2 r55.1
  · refine G.iconst 0 dX7_readHolders_50 (by decide) ?_
    refine G.goto 58 dX7_readHolders_51 (by decide) ?_
    exact g_X7_readHolders_c58 l D ks cI cL cC cM cS a t_now t_mores t_readLamps t_undone t_undos t_aside t_bays t_bests t_kept t_keptUndos t_isKept t_lanes t_sizes t_items t_moved k4 hk4 t_tape t_typed t_place t_isFault t_read x1 x2 0
set_option maxHeartbeats 4000000 in
set_option maxRecDepth 100000 in
theorem g_X7_readHolders_c24 (l : Launch) (D : va_G) (ks : Nat × Nat) (cI cL cC cM cS : ClassId) (a : Nat → Nat) (t_now t_mores t_readLamps t_undone : Nat → Int32) (t_undos : Int32) (t_aside t_bays t_bests t_kept : Nat → Int32) (t_keptUndos t_isKept : Int32) (t_lanes t_sizes : Nat → Int32) (t_items t_moved : Nat → Int64) (k4 : (Nat → Int32) → Int32 → Int32 → Int32 → (Nat → Int32) → Int32 → Int32 → (Option (Int32 × Int32 × Int32 × (Nat → Int32)))) (hk4 : ∀ (t_tape : Nat → Int32) (t_typed t_place t_isFault : Int32) (t_read : Nat → Int32) (x1 : Int32) (x2 : Int32), GJ l D ks (tyz cI cL cC cM cS) RX7 cX7_readHolders 8 ((some .int)) { frames := 2, cells := 0, slots := 0, locals := 48 } (fun r : Int32 × Int32 × Int32 × (Nat → Int32) => (some (.int r.1), (w_X7 cI cL cC cM cS a t_now t_mores t_tape t_typed r.2.1 r.2.2.1 t_readLamps r.2.2.2 t_undone t_undos t_aside t_bays t_bests t_kept t_keptUndos t_isKept t_lanes t_sizes t_items t_moved))) (w_X7 cI cL cC cM cS a t_now t_mores t_tape t_typed t_place t_isFault t_readLamps t_read t_undone t_undos t_aside t_bays t_bests t_kept t_keptUndos t_isKept t_lanes t_sizes t_items t_moved) 4 [some (.ref (a 0)), some (.int x1), some (.int x2), none, none, none, none, none] [] (k4 t_tape t_typed t_place t_isFault t_read x1 x2)) (t_tape : Nat → Int32) (t_typed t_place t_isFault : Int32) (t_read : Nat → Int32) (x1 : Int32) (x2 : Int32) : GJ l D ks (tyz cI cL cC cM cS) RX7 cX7_readHolders 8 ((some .int)) { frames := 2, cells := 0, slots := 0, locals := 48 } (fun r : Int32 × Int32 × Int32 × (Nat → Int32) => (some (.int r.1), (w_X7 cI cL cC cM cS a t_now t_mores t_tape t_typed r.2.1 r.2.2.1 t_readLamps r.2.2.2 t_undone t_undos t_aside t_bays t_bests t_kept t_keptUndos t_isKept t_lanes t_sizes t_items t_moved))) (w_X7 cI cL cC cM cS a t_now t_mores t_tape t_typed t_place t_isFault t_readLamps t_read t_undone t_undos t_aside t_bays t_bests t_kept t_keptUndos t_isKept t_lanes t_sizes t_items t_moved) 24 [some (.ref (a 0)), some (.int x1), some (.int x2), none, none, none, none, none] [] (f_X7_readHolders_c24 k4 t_tape t_typed t_place t_isFault t_read x1 x2) := by
  unfold f_X7_readHolders_c24
  refine G.iload_n dX7_readHolders_24 rfl ?_
  refine G.if_le 43 dX7_readHolders_25 (by decide) (fun h25 => ?_) (fun h25 => ?_)
  · exact g_X7_readHolders_c43 l D ks cI cL cC cM cS a t_now t_mores t_readLamps t_undone t_undos t_aside t_bays t_bests t_kept t_keptUndos t_isKept t_lanes t_sizes t_items t_moved k4 hk4 t_tape t_typed t_place t_isFault t_read x1 x2
  · refine G.aload_n dX7_readHolders_28 rfl ?_
    refine G.iload_n dX7_readHolders_29 rfl ?_
    refine G.bipush 6 dX7_readHolders_30 (by decide) ?_
    refine G.join (st := [.ref (a 0)]) Value.int 40 (fun v40 => ?_) (fun hJ => ?_)
    · refine G.callV (st := []) (w' := fun r40 => (w_X7 cI cL cC cM cS a t_now t_mores t_tape t_typed r40.1 r40.2 t_readLamps t_read t_undone t_undos t_aside t_bays t_bests t_kept t_keptUndos t_isKept t_lanes t_sizes t_items t_moved)) mv_X7_must lk_7_148 (c_X7_must l D ks cI cL cC cM cS a t_now t_mores t_tape t_typed t_place t_isFault t_readLamps t_read t_undone t_undos t_aside t_bays t_bests t_kept t_keptUndos t_isKept t_lanes t_sizes t_items t_moved v40) [0, 1, 2, 3, 4, 5, 6, 7, 8, 9, 10, 11, 12, 13, 14] [] [0, 1, 2, 3, 4, 5, 6, 7, 8, 9, 10, 11, 12, 13, 14] rfl rfl rfl rfl (by decide +kernel) (fun _ => rfl) rfl (by decide) (Nat.le_of_ble_eq_true rfl) dX7_readHolders_40 (fun r40 => []) (fun _ => rfl) (fun r40 _ => ?_)
      exact g_X7_readHolders_c43 l D ks cI cL cC cM cS a t_now t_mores t_readLamps t_undone t_undos t_aside t_bays t_bests t_kept t_keptUndos t_isKept t_lanes t_sizes t_items t_moved k4 hk4 t_tape t_typed r40.1 r40.2 t_read x1 x2
    · refine G.ite ?_
      refine G.icmp_ge 39 dX7_readHolders_32 (by decide) (fun _ => ?_) (fun _ => ?_)
      · refine G.iconst 0 dX7_readHolders_39 (by decide) ?_
        exact hJ _
      · refine G.iconst 1 dX7_readHolders_35 (by decide) ?_
        refine G.goto 40 dX7_readHolders_36 (by decide) ?_
        exact hJ _
set_option maxHeartbeats 4000000 in
set_option maxRecDepth 100000 in
theorem g_X7_readHolders_c4 (l : Launch) (D : va_G) (ks : Nat × Nat) (cI cL cC cM cS : ClassId) (a : Nat → Nat) (t_now t_mores t_readLamps t_undone : Nat → Int32) (t_undos : Int32) (t_aside t_bays t_bests t_kept : Nat → Int32) (t_keptUndos t_isKept : Int32) (t_lanes t_sizes : Nat → Int32) (t_items t_moved : Nat → Int64) : ∀ (n : Nat), ∀ (t_tape : Nat → Int32) (t_typed t_place t_isFault : Int32) (t_read : Nat → Int32) (x1 : Int32) (x2 : Int32), GJ l D ks (tyz cI cL cC cM cS) RX7 cX7_readHolders 8 ((some .int)) { frames := 2, cells := 0, slots := 0, locals := 48 } (fun r : Int32 × Int32 × Int32 × (Nat → Int32) => (some (.int r.1), (w_X7 cI cL cC cM cS a t_now t_mores t_tape t_typed r.2.1 r.2.2.1 t_readLamps r.2.2.2 t_undone t_undos t_aside t_bays t_bests t_kept t_keptUndos t_isKept t_lanes t_sizes t_items t_moved))) (w_X7 cI cL cC cM cS a t_now t_mores t_tape t_typed t_place t_isFault t_readLamps t_read t_undone t_undos t_aside t_bays t_bests t_kept t_keptUndos t_isKept t_lanes t_sizes t_items t_moved) 4 [some (.ref (a 0)), some (.int x1), some (.int x2), none, none, none, none, none] [] (f_X7_readHolders_c4 n t_tape t_typed t_place t_isFault t_read x1 x2) := by
  intro n
  induction n with
  | zero =>
    intro t_tape t_typed t_place t_isFault t_read x1 x2
    exact G.no
  | succ n ih =>
    intro t_tape t_typed t_place t_isFault t_read x1 x2
    rw [f_X7_readHolders_c4]
    refine G.aload_n dX7_readHolders_4 rfl ?_
    refine G.get fl_7_141 0 rfl rfl dX7_readHolders_5 ?_
    refine G.if_ne 306 dX7_readHolders_8 (by decide) (fun h8 => ?_) (fun h8 => ?_)
    · refine G.iload_n dX7_readHolders_306 rfl ?_
      exact G.iret rfl rfl dX7_readHolders_307
    · refine G.iload_n dX7_readHolders_11 rfl ?_
      refine G.if_eq 24 dX7_readHolders_12 (by decide) (fun h12 => ?_) (fun h12 => ?_)
      · exact g_X7_readHolders_c24 l D ks cI cL cC cM cS a t_now t_mores t_readLamps t_undone t_undos t_aside t_bays t_bests t_kept t_keptUndos t_isKept t_lanes t_sizes t_items t_moved (f_X7_readHolders_c4 n) ih t_tape t_typed t_place t_isFault t_read x1 x2
      · refine G.aload_n dX7_readHolders_15 rfl ?_
        refine G.callV (st := []) (w' := fun r16 => (w_X7 cI cL cC cM cS a t_now t_mores t_tape t_typed r16.2 t_isFault t_readLamps t_read t_undone t_undos t_aside t_bays t_bests t_kept t_keptUndos t_isKept t_lanes t_sizes t_items t_moved)) mv_X7_here lk_7_145 (c_X7_here l D ks cI cL cC cM cS a t_now t_mores t_tape t_typed t_place t_isFault t_readLamps t_read t_undone t_undos t_aside t_bays t_bests t_kept t_keptUndos t_isKept t_lanes t_sizes t_items t_moved) [0, 1, 2, 3, 4, 5, 6, 7, 8, 9, 10, 11, 12, 13, 14] [] [0, 1, 2, 3, 4, 5, 6, 7, 8, 9, 10, 11, 12, 13, 14] rfl rfl rfl rfl (by decide +kernel) (fun _ => rfl) rfl (by decide) (Nat.le_of_ble_eq_true rfl) dX7_readHolders_16 (fun r16 => [.int r16.1]) (fun _ => rfl) (fun r16 _ => ?_)
        refine G.bipush 44 dX7_readHolders_19 (by decide) ?_
        refine G.icmp_ne 306 dX7_readHolders_21 (by decide) (fun h21 => ?_) (fun h21 => ?_)
        · refine G.iload_n dX7_readHolders_306 rfl ?_
          exact G.iret rfl rfl dX7_readHolders_307
        · exact g_X7_readHolders_c24 l D ks cI cL cC cM cS a t_now t_mores t_readLamps t_undone t_undos t_aside t_bays t_bests t_kept t_keptUndos t_isKept t_lanes t_sizes t_items t_moved (f_X7_readHolders_c4 n) ih t_tape t_typed r16.2 t_isFault t_read x1 x2
set_option maxHeartbeats 4000000 in
set_option maxRecDepth 100000 in
theorem c_X7_readHolders (l : Launch) (D : va_G) (ks : Nat × Nat) (cI cL cC cM cS : ClassId) (a : Nat → Nat) (t_now t_mores t_tape : Nat → Int32) (t_typed t_place t_isFault : Int32) (t_readLamps t_read t_undone : Nat → Int32) (t_undos : Int32) (t_aside t_bays t_bests t_kept : Nat → Int32) (t_keptUndos t_isKept : Int32) (t_lanes t_sizes : Nat → Int32) (t_items t_moved : Nat → Int64) : MT l D ks (tyz cI cL cC cM cS) yX7_readHolders cX7_readHolders 8 ((some .int)) { frames := 2, cells := 0, slots := 0, locals := 48 } [.ref (a 0)] (w_X7 cI cL cC cM cS a t_now t_mores t_tape t_typed t_place t_isFault t_readLamps t_read t_undone t_undos t_aside t_bays t_bests t_kept t_keptUndos t_isKept t_lanes t_sizes t_items t_moved) (fun r : Int32 × Int32 × Int32 × (Nat → Int32) => (some (.int r.1), (w_X7 cI cL cC cM cS a t_now t_mores t_tape t_typed r.2.1 r.2.2.1 t_readLamps r.2.2.2 t_undone t_undos t_aside t_bays t_bests t_kept t_keptUndos t_isKept t_lanes t_sizes t_items t_moved))) (f_X7_readHolders t_tape t_typed t_place t_isFault t_read) := by
  refine MT.of 7 [some (.ref (a 0)), none, none, none, none, none, none, none] (by decide) (Nat.le_of_ble_eq_true rfl) rfl ?_
  unfold f_X7_readHolders
  refine G.iconst 0 dX7_readHolders_0 (by decide) ?_
  refine G.istore_n (lv' := [some (.ref (a 0)), some (.int 0), none, none, none, none, none, none]) dX7_readHolders_1 (by decide) (Nat.le_of_ble_eq_true rfl) rfl rfl ?_
  refine G.iconst 0 dX7_readHolders_2 (by decide) ?_
  refine G.istore_n (lv' := [some (.ref (a 0)), some (.int 0), some (.int 0), none, none, none, none, none]) dX7_readHolders_3 (by decide) (Nat.le_of_ble_eq_true rfl) rfl rfl ?_
  exact g_X7_readHolders_c4 l D ks cI cL cC cM cS a t_now t_mores t_readLamps t_undone t_undos t_aside t_bays t_bests t_kept t_keptUndos t_isKept t_lanes t_sizes t_items t_moved fu t_tape t_typed t_place t_isFault t_read 0 0
set_option maxHeartbeats 4000000 in
set_option maxRecDepth 100000 in
theorem c_X7_holderComes (l : Launch) (D : va_G) (ks : Nat × Nat) (cI cL cC cM cS : ClassId) (a : Nat → Nat) (t_now t_mores t_tape : Nat → Int32) (t_typed t_place t_isFault : Int32) (t_readLamps t_read t_undone : Nat → Int32) (t_undos : Int32) (t_aside t_bays t_bests t_kept : Nat → Int32) (t_keptUndos t_isKept : Int32) (t_lanes t_sizes : Nat → Int32) (t_items t_moved : Nat → Int64) (x1 : Int32) (x2 : Int32) (x3 : Int32) (x4 : Int32) : MT l D ks (tyz cI cL cC cM cS) yX7_holderComes cX7_holderComes 6 none { frames := 0, cells := 0, slots := 0, locals := 0 } [.ref (a 0), .int x1, .int x2, .int x3, .int x4] (w_X7 cI cL cC cM cS a t_now t_mores t_tape t_typed t_place t_isFault t_readLamps t_read t_undone t_undos t_aside t_bays t_bests t_kept t_keptUndos t_isKept t_lanes t_sizes t_items t_moved) (fun r : (Nat → Int32) × Int32 => (none, (w_X7 cI cL cC cM cS a r.1 t_mores t_tape t_typed t_place t_isFault t_readLamps t_read t_undone r.2 t_aside t_bays t_bests t_kept t_keptUndos t_isKept t_lanes t_sizes t_items t_moved))) (f_X7_holderComes t_now t_undos x1 x2 x3 x4) := by
  refine MT.of 1 [some (.ref (a 0)), some (.int x1), some (.int x2), some (.int x3), some (.int x4), none] (by decide) (Nat.le_of_ble_eq_true rfl) rfl ?_
  unfold f_X7_holderComes
  refine G.iconst 4 dX7_holderComes_0 (by decide) ?_
  refine G.iconst 4 dX7_holderComes_1 (by decide) ?_
  refine G.aload_n dX7_holderComes_2 rfl ?_
  refine G.get fl_7_7 0 rfl rfl dX7_holderComes_3 ?_
  refine G.iconst 0 dX7_holderComes_6 (by decide) ?_
  refine G.iaload 1 0 rfl rfl 0 (by decide) (by decide) dX7_holderComes_7 ?_
  refine G.topi (fun v7 => ?_)
  refine G.imul dX7_holderComes_8 ?_
  refine G.iadd dX7_holderComes_9 ?_
  refine G.istore (lv' := [some (.ref (a 0)), some (.int x1), some (.int x2), some (.int x3), some (.int x4), some (.int (4 + (4 * v7)))]) dX7_holderComes_10 (by decide) (Nat.le_of_ble_eq_true rfl) rfl rfl ?_
  refine G.aload_n dX7_holderComes_12 rfl ?_
  refine G.get fl_7_7 0 rfl rfl dX7_holderComes_13 ?_
  refine G.iload dX7_holderComes_16 rfl ?_
  refine G.iload_n dX7_holderComes_18 rfl ?_
  refine G.chk (fun h19 => ?_)
  refine G.iastore (w' := (w_X7 cI cL cC cM cS a (upd t_now ((4 + (4 * v7)).toNatClampNeg) x1) t_mores t_tape t_typed t_place t_isFault t_readLamps t_read t_undone t_undos t_aside t_bays t_bests t_kept t_keptUndos t_isKept t_lanes t_sizes t_items t_moved)) 1 0 rfl rfl ((4 + (4 * v7)).toNatClampNeg) rfl h19 rfl dX7_holderComes_19 ?_
  refine G.aload_n dX7_holderComes_20 rfl ?_
  refine G.get fl_7_7 0 rfl rfl dX7_holderComes_21 ?_
  refine G.iload dX7_holderComes_24 rfl ?_
  refine G.iconst 1 dX7_holderComes_26 (by decide) ?_
  refine G.iadd dX7_holderComes_27 ?_
  refine G.iload_n dX7_holderComes_28 rfl ?_
  refine G.chk (fun h29 => ?_)
  refine G.iastore (w' := (w_X7 cI cL cC cM cS a (upd (upd t_now ((4 + (4 * v7)).toNatClampNeg) x1) (((4 + (4 * v7)) + 1).toNatClampNeg) x2) t_mores t_tape t_typed t_place t_isFault t_readLamps t_read t_undone t_undos t_aside t_bays t_bests t_kept t_keptUndos t_isKept t_lanes t_sizes t_items t_moved)) 1 0 rfl rfl (((4 + (4 * v7)) + 1).toNatClampNeg) rfl h29 rfl dX7_holderComes_29 ?_
  refine G.aload_n dX7_holderComes_30 rfl ?_
  refine G.get fl_7_7 0 rfl rfl dX7_holderComes_31 ?_
  refine G.iload dX7_holderComes_34 rfl ?_
  refine G.iconst 2 dX7_holderComes_36 (by decide) ?_
  refine G.iadd dX7_holderComes_37 ?_
  refine G.iload_n dX7_holderComes_38 rfl ?_
  refine G.chk (fun h39 => ?_)
  refine G.iastore (w' := (w_X7 cI cL cC cM cS a (upd (upd (upd t_now ((4 + (4 * v7)).toNatClampNeg) x1) (((4 + (4 * v7)) + 1).toNatClampNeg) x2) (((4 + (4 * v7)) + 2).toNatClampNeg) x3) t_mores t_tape t_typed t_place t_isFault t_readLamps t_read t_undone t_undos t_aside t_bays t_bests t_kept t_keptUndos t_isKept t_lanes t_sizes t_items t_moved)) 1 0 rfl rfl (((4 + (4 * v7)) + 2).toNatClampNeg) rfl h39 rfl dX7_holderComes_39 ?_
  refine G.aload_n dX7_holderComes_40 rfl ?_
  refine G.get fl_7_7 0 rfl rfl dX7_holderComes_41 ?_
  refine G.iload dX7_holderComes_44 rfl ?_
  refine G.iconst 3 dX7_holderComes_46 (by decide) ?_
  refine G.iadd dX7_holderComes_47 ?_
  refine G.iload dX7_holderComes_48 rfl ?_
  refine G.chk (fun h50 => ?_)
  refine G.iastore (w' := (w_X7 cI cL cC cM cS a (upd (upd (upd (upd t_now ((4 + (4 * v7)).toNatClampNeg) x1) (((4 + (4 * v7)) + 1).toNatClampNeg) x2) (((4 + (4 * v7)) + 2).toNatClampNeg) x3) (((4 + (4 * v7)) + 3).toNatClampNeg) x4) t_mores t_tape t_typed t_place t_isFault t_readLamps t_read t_undone t_undos t_aside t_bays t_bests t_kept t_keptUndos t_isKept t_lanes t_sizes t_items t_moved)) 1 0 rfl rfl (((4 + (4 * v7)) + 3).toNatClampNeg) rfl h50 rfl dX7_holderComes_50 ?_
  refine G.aload_n dX7_holderComes_51 rfl ?_
  refine G.get fl_7_7 0 rfl rfl dX7_holderComes_52 ?_
  refine G.iconst 0 dX7_holderComes_55 (by decide) ?_
  refine G.dup2 dX7_holderComes_56 rfl rfl ?_
  refine G.iaload 1 0 rfl rfl 0 (by decide) (by decide) dX7_holderComes_57 ?_
  refine G.topi (fun v57 => ?_)
  refine G.iconst 1 dX7_holderComes_58 (by decide) ?_
  refine G.iadd dX7_holderComes_59 ?_
  refine G.iastore (w' := (w_X7 cI cL cC cM cS a (upd (upd (upd (upd (upd t_now ((4 + (4 * v7)).toNatClampNeg) x1) (((4 + (4 * v7)) + 1).toNatClampNeg) x2) (((4 + (4 * v7)) + 2).toNatClampNeg) x3) (((4 + (4 * v7)) + 3).toNatClampNeg) x4) 0 (v57 + 1)) t_mores t_tape t_typed t_place t_isFault t_readLamps t_read t_undone t_undos t_aside t_bays t_bests t_kept t_keptUndos t_isKept t_lanes t_sizes t_items t_moved)) 1 0 rfl rfl 0 (by decide) (by decide) rfl dX7_holderComes_60 ?_
  refine G.aload_n dX7_holderComes_61 rfl ?_
  refine G.iconst 0 dX7_holderComes_62 (by decide) ?_
  refine G.put (w' := (w_X7 cI cL cC cM cS a (upd (upd (upd (upd (upd t_now ((4 + (4 * v7)).toNatClampNeg) x1) (((4 + (4 * v7)) + 1).toNatClampNeg) x2) (((4 + (4 * v7)) + 2).toNatClampNeg) x3) (((4 + (4 * v7)) + 3).toNatClampNeg) x4) 0 (v57 + 1)) t_mores t_tape t_typed t_place t_isFault t_readLamps t_read t_undone 0 t_aside t_bays t_bests t_kept t_keptUndos t_isKept t_lanes t_sizes t_items t_moved)) fp_7_100 0 rfl (Nat.le_of_ble_eq_true rfl) rfl rfl rfl dX7_holderComes_63 ?_
  exact G.vret rfl rfl dX7_holderComes_66
set_option maxHeartbeats 4000000 in
set_option maxRecDepth 100000 in
theorem g_X7_crypt_c169 (l : Launch) (D : va_G) (ks : Nat × Nat) (cI cL cC cM cS : ClassId) (a : Nat → Nat) (t_mores t_undone t_aside t_bays t_bests t_kept : Nat → Int32) (t_keptUndos t_isKept : Int32) (t_lanes t_sizes : Nat → Int32) (t_items t_moved : Nat → Int64) : ∀ (n : Nat), ∀ (t_now t_tape : Nat → Int32) (t_typed t_place t_isFault : Int32) (t_readLamps t_read : Nat → Int32) (t_undos : Int32) (x1 : Int32) (x2 : Int32), GJ l D ks (tyz cI cL cC cM cS) RX7 cX7_crypt 3 ((some .int)) { frames := 3, cells := 0, slots := 0, locals := 75 } (fun r : Int32 × (Nat → Int32) × Int32 × Int32 × Int32 × (Nat → Int32) × (Nat → Int32) × Int32 => (some (.int r.1), (w_X7 cI cL cC cM cS a r.2.1 t_mores t_tape r.2.2.1 r.2.2.2.1 r.2.2.2.2.1 r.2.2.2.2.2.1 r.2.2.2.2.2.2.1 t_undone r.2.2.2.2.2.2.2 t_aside t_bays t_bests t_kept t_keptUndos t_isKept t_lanes t_sizes t_items t_moved))) (w_X7 cI cL cC cM cS a t_now t_mores t_tape t_typed t_place t_isFault t_readLamps t_read t_undone t_undos t_aside t_bays t_bests t_kept t_keptUndos t_isKept t_lanes t_sizes t_items t_moved) 169 [some (.ref (a 0)), some (.int x1), some (.int x2)] [] (f_X7_crypt_c169 n t_now t_tape t_typed t_place t_isFault t_readLamps t_read t_undos x1 x2) := by
  intro n
  induction n with
  | zero =>
    intro t_now t_tape t_typed t_place t_isFault t_readLamps t_read t_undos x1 x2
    exact G.no
  | succ n ih =>
    intro t_now t_tape t_typed t_place t_isFault t_readLamps t_read t_undos x1 x2
    rw [f_X7_crypt_c169]
    refine G.iload_n dX7_crypt_169 rfl ?_
    refine G.iload_n dX7_crypt_170 rfl ?_
    refine G.icmp_ge 222 dX7_crypt_171 (by decide) (fun h171 => ?_) (fun h171 => ?_)
    · refine G.iload_n dX7_crypt_222 rfl ?_
      exact G.iret rfl rfl dX7_crypt_223
    · refine G.aload_n dX7_crypt_174 rfl ?_
      refine G.aload_n dX7_crypt_175 rfl ?_
      refine G.get fl_7_22 0 rfl rfl dX7_crypt_176 ?_
      refine G.iconst 4 dX7_crypt_179 (by decide) ?_
      refine G.iload_n dX7_crypt_180 rfl ?_
      refine G.imul dX7_crypt_181 ?_
      refine G.chk (fun h182 => ?_)
      refine G.iaload 5 0 rfl rfl ((4 * x2).toNatClampNeg) rfl h182 dX7_crypt_182 ?_
      refine G.topi (fun v182 => ?_)
      refine G.aload_n dX7_crypt_183 rfl ?_
      refine G.get fl_7_22 0 rfl rfl dX7_crypt_184 ?_
      refine G.iconst 4 dX7_crypt_187 (by decide) ?_
      refine G.iload_n dX7_crypt_188 rfl ?_
      refine G.imul dX7_crypt_189 ?_
      refine G.iconst 1 dX7_crypt_190 (by decide) ?_
      refine G.iadd dX7_crypt_191 ?_
      refine G.chk (fun h192 => ?_)
      refine G.iaload 5 0 rfl rfl (((4 * x2) + 1).toNatClampNeg) rfl h192 dX7_crypt_192 ?_
      refine G.topi (fun v192 => ?_)
      refine G.aload_n dX7_crypt_193 rfl ?_
      refine G.get fl_7_22 0 rfl rfl dX7_crypt_194 ?_
      refine G.iconst 4 dX7_crypt_197 (by decide) ?_
      refine G.iload_n dX7_crypt_198 rfl ?_
      refine G.imul dX7_crypt_199 ?_
      refine G.iconst 2 dX7_crypt_200 (by decide) ?_
      refine G.iadd dX7_crypt_201 ?_
      refine G.chk (fun h202 => ?_)
      refine G.iaload 5 0 rfl rfl (((4 * x2) + 2).toNatClampNeg) rfl h202 dX7_crypt_202 ?_
      refine G.topi (fun v202 => ?_)
      refine G.aload_n dX7_crypt_203 rfl ?_
      refine G.get fl_7_22 0 rfl rfl dX7_crypt_204 ?_
      refine G.iconst 4 dX7_crypt_207 (by decide) ?_
      refine G.iload_n dX7_crypt_208 rfl ?_
      refine G.imul dX7_crypt_209 ?_
      refine G.iconst 3 dX7_crypt_210 (by decide) ?_
      refine G.iadd dX7_crypt_211 ?_
      refine G.chk (fun h212 => ?_)
      refine G.iaload 5 0 rfl rfl (((4 * x2) + 3).toNatClampNeg) rfl h212 dX7_crypt_212 ?_
      refine G.topi (fun v212 => ?_)
      refine G.callV (st := []) (w' := fun r213 => (w_X7 cI cL cC cM cS a r213.1 t_mores t_tape t_typed t_place t_isFault t_readLamps t_read t_undone r213.2 t_aside t_bays t_bests t_kept t_keptUndos t_isKept t_lanes t_sizes t_items t_moved)) mv_X7_holderComes lk_7_114 (c_X7_holderComes l D ks cI cL cC cM cS a t_now t_mores t_tape t_typed t_place t_isFault t_readLamps t_read t_undone t_undos t_aside t_bays t_bests t_kept t_keptUndos t_isKept t_lanes t_sizes t_items t_moved v182 v192 v202 v212) [0, 1, 2, 3, 4, 5, 6, 7, 8, 9, 10, 11, 12, 13, 14] [] [0, 1, 2, 3, 4, 5, 6, 7, 8, 9, 10, 11, 12, 13, 14] rfl rfl rfl rfl (by decide +kernel) (fun _ => rfl) rfl (by decide) (Nat.le_of_ble_eq_true rfl) dX7_crypt_213 (fun r213 => []) (fun _ => rfl) (fun r213 _ => ?_)
      refine G.iinc 1 (lv' := [some (.ref (a 0)), some (.int x1), some (.int (x2 + 1))]) dX7_crypt_216 rfl (by decide) (by decide) (Nat.le_of_ble_eq_true rfl) rfl rfl ?_
      refine G.goto 169 dX7_crypt_219 (by decide) ?_
      exact ih r213.1 t_tape t_typed t_place t_isFault t_readLamps t_read r213.2 x1 (x2 + 1)
set_option maxHeartbeats 4000000 in
set_option maxRecDepth 100000 in
theorem g_X7_crypt_c140 (l : Launch) (D : va_G) (ks : Nat × Nat) (cI cL cC cM cS : ClassId) (a : Nat → Nat) (t_mores t_undone t_aside t_bays t_bests t_kept : Nat → Int32) (t_keptUndos t_isKept : Int32) (t_lanes t_sizes : Nat → Int32) (t_items t_moved : Nat → Int64) : ∀ (n : Nat), ∀ (t_now t_tape : Nat → Int32) (t_typed t_place t_isFault : Int32) (t_readLamps t_read : Nat → Int32) (t_undos : Int32) (x1 : Int32) (x2 : Int32), GJ l D ks (tyz cI cL cC cM cS) RX7 cX7_crypt 3 ((some .int)) { frames := 3, cells := 0, slots := 0, locals := 75 } (fun r : Int32 × (Nat → Int32) × Int32 × Int32 × Int32 × (Nat → Int32) × (Nat → Int32) × Int32 => (some (.int r.1), (w_X7 cI cL cC cM cS a r.2.1 t_mores t_tape r.2.2.1 r.2.2.2.1 r.2.2.2.2.1 r.2.2.2.2.2.1 r.2.2.2.2.2.2.1 t_undone r.2.2.2.2.2.2.2 t_aside t_bays t_bests t_kept t_keptUndos t_isKept t_lanes t_sizes t_items t_moved))) (w_X7 cI cL cC cM cS a t_now t_mores t_tape t_typed t_place t_isFault t_readLamps t_read t_undone t_undos t_aside t_bays t_bests t_kept t_keptUndos t_isKept t_lanes t_sizes t_items t_moved) 140 [some (.ref (a 0)), some (.int x1), some (.int x2)] [] (f_X7_crypt_c140 n t_now t_tape t_typed t_place t_isFault t_readLamps t_read t_undos x1 x2) := by
  intro n
  induction n with
  | zero =>
    intro t_now t_tape t_typed t_place t_isFault t_readLamps t_read t_undos x1 x2
    exact G.no
  | succ n ih =>
    intro t_now t_tape t_typed t_place t_isFault t_readLamps t_read t_undos x1 x2
    rw [f_X7_crypt_c140]
    refine G.iload_n dX7_crypt_140 rfl ?_
    refine G.bipush 6 dX7_crypt_141 (by decide) ?_
    refine G.icmp_ge 167 dX7_crypt_143 (by decide) (fun h143 => ?_) (fun h143 => ?_)
    · refine G.iconst 0 dX7_crypt_167 (by decide) ?_
      refine G.istore_n (lv' := [some (.ref (a 0)), some (.int x1), some (.int 0)]) dX7_crypt_168 (by decide) (Nat.le_of_ble_eq_true rfl) rfl rfl ?_
      exact g_X7_crypt_c169 l D ks cI cL cC cM cS a t_mores t_undone t_aside t_bays t_bests t_kept t_keptUndos t_isKept t_lanes t_sizes t_items t_moved fu t_now t_tape t_typed t_place t_isFault t_readLamps t_read t_undos x1 0
    · refine G.aload_n dX7_crypt_146 rfl ?_
      refine G.get fl_7_7 0 rfl rfl dX7_crypt_147 ?_
      refine G.bipush 28 dX7_crypt_150 (by decide) ?_
      refine G.iload_n dX7_crypt_152 rfl ?_
      refine G.iadd dX7_crypt_153 ?_
      refine G.aload_n dX7_crypt_154 rfl ?_
      refine G.get fl_7_19 0 rfl rfl dX7_crypt_155 ?_
      refine G.iload_n dX7_crypt_158 rfl ?_
      refine G.chk (fun h159 => ?_)
      refine G.iaload 4 0 rfl rfl x2.toNatClampNeg rfl h159 dX7_crypt_159 ?_
      refine G.topi (fun v159 => ?_)
      refine G.chk (fun h160 => ?_)
      refine G.iastore (w' := (w_X7 cI cL cC cM cS a (upd t_now ((28 + x2).toNatClampNeg) v159) t_mores t_tape t_typed t_place t_isFault t_readLamps t_read t_undone t_undos t_aside t_bays t_bests t_kept t_keptUndos t_isKept t_lanes t_sizes t_items t_moved)) 1 0 rfl rfl ((28 + x2).toNatClampNeg) rfl h160 rfl dX7_crypt_160 ?_
      refine G.iinc 1 (lv' := [some (.ref (a 0)), some (.int x1), some (.int (x2 + 1))]) dX7_crypt_161 rfl (by decide) (by decide) (Nat.le_of_ble_eq_true rfl) rfl rfl ?_
      refine G.goto 140 dX7_crypt_164 (by decide) ?_
      exact ih (upd t_now ((28 + x2).toNatClampNeg) v159) t_tape t_typed t_place t_isFault t_readLamps t_read t_undos x1 (x2 + 1)
set_option maxHeartbeats 4000000 in
set_option maxRecDepth 100000 in
theorem g_X7_crypt_c89 (l : Launch) (D : va_G) (ks : Nat × Nat) (cI cL cC cM cS : ClassId) (a : Nat → Nat) (t_mores t_undone t_aside t_bays t_bests t_kept : Nat → Int32) (t_keptUndos t_isKept : Int32) (t_lanes t_sizes : Nat → Int32) (t_items t_moved : Nat → Int64) (t_now t_tape : Nat → Int32) (t_typed t_place t_isFault : Int32) (t_readLamps t_read : Nat → Int32) (t_undos : Int32) (x1 : Int32) : GJ l D ks (tyz cI cL cC cM cS) RX7 cX7_crypt 3 ((some .int)) { frames := 3, cells := 0, slots := 0, locals := 75 } (fun r : Int32 × (Nat → Int32) × Int32 × Int32 × Int32 × (Nat → Int32) × (Nat → Int32) × Int32 => (some (.int r.1), (w_X7 cI cL cC cM cS a r.2.1 t_mores t_tape r.2.2.1 r.2.2.2.1 r.2.2.2.2.1 r.2.2.2.2.2.1 r.2.2.2.2.2.2.1 t_undone r.2.2.2.2.2.2.2 t_aside t_bays t_bests t_kept t_keptUndos t_isKept t_lanes t_sizes t_items t_moved))) (w_X7 cI cL cC cM cS a t_now t_mores t_tape t_typed t_place t_isFault t_readLamps t_read t_undone t_undos t_aside t_bays t_bests t_kept t_keptUndos t_isKept t_lanes t_sizes t_items t_moved) 89 [some (.ref (a 0)), some (.int x1), none] [.int 1, .ref (a 0)] (f_X7_crypt_c89 t_now t_tape t_typed t_place t_isFault t_readLamps t_read t_undos x1) := by
  unfold f_X7_crypt_c89
  refine G.put (w' := (w_X7 cI cL cC cM cS a t_now t_mores t_tape t_typed t_place 1 t_readLamps t_read t_undone t_undos t_aside t_bays t_bests t_kept t_keptUndos t_isKept t_lanes t_sizes t_items t_moved)) fp_7_141 0 rfl (Nat.le_of_ble_eq_true rfl) rfl rfl rfl dX7_crypt_89 ?_
  refine G.aload_n dX7_crypt_92 rfl ?_
  refine G.iconst 0 dX7_crypt_93 (by decide) ?_
  refine G.put (w' := (w_X7 cI cL cC cM cS a t_now t_mores t_tape 0 t_place 1 t_readLamps t_read t_undone t_undos t_aside t_bays t_bests t_kept t_keptUndos t_isKept t_lanes t_sizes t_items t_moved)) fp_7_135 0 rfl (Nat.le_of_ble_eq_true rfl) rfl rfl rfl dX7_crypt_94 ?_
  refine G.aload_n dX7_crypt_97 rfl ?_
  refine G.get fl_7_141 0 rfl rfl dX7_crypt_98 ?_
  refine G.if_eq 112 dX7_crypt_101 (by decide) (fun h101 => ?_) (fun h101 => ?_)
  · refine G.aload_n dX7_crypt_112 rfl ?_
    refine G.get fl_7_7 0 rfl rfl dX7_crypt_113 ?_
    refine G.iconst 0 dX7_crypt_116 (by decide) ?_
    refine G.iconst 0 dX7_crypt_117 (by decide) ?_
    refine G.iastore (w' := (w_X7 cI cL cC cM cS a (upd t_now 0 0) t_mores t_tape 0 t_place 1 t_readLamps t_read t_undone t_undos t_aside t_bays t_bests t_kept t_keptUndos t_isKept t_lanes t_sizes t_items t_moved)) 1 0 rfl rfl 0 (by decide) (by decide) rfl dX7_crypt_118 ?_
    refine G.aload_n dX7_crypt_119 rfl ?_
    refine G.get fl_7_7 0 rfl rfl dX7_crypt_120 ?_
    refine G.iconst 1 dX7_crypt_123 (by decide) ?_
    refine G.iconst 0 dX7_crypt_124 (by decide) ?_
    refine G.iastore (w' := (w_X7 cI cL cC cM cS a (upd (upd t_now 0 0) 1 0) t_mores t_tape 0 t_place 1 t_readLamps t_read t_undone t_undos t_aside t_bays t_bests t_kept t_keptUndos t_isKept t_lanes t_sizes t_items t_moved)) 1 0 rfl rfl 1 (by decide) (by decide) rfl dX7_crypt_125 ?_
    refine G.aload_n dX7_crypt_126 rfl ?_
    refine G.get fl_7_7 0 rfl rfl dX7_crypt_127 ?_
    refine G.iconst 2 dX7_crypt_130 (by decide) ?_
    refine G.iconst 0 dX7_crypt_131 (by decide) ?_
    refine G.iastore (w' := (w_X7 cI cL cC cM cS a (upd (upd (upd t_now 0 0) 1 0) 2 0) t_mores t_tape 0 t_place 1 t_readLamps t_read t_undone t_undos t_aside t_bays t_bests t_kept t_keptUndos t_isKept t_lanes t_sizes t_items t_moved)) 1 0 rfl rfl 2 (by decide) (by decide) rfl dX7_crypt_132 ?_
    refine G.aload_n dX7_crypt_133 rfl ?_
    refine G.iconst 0 dX7_crypt_134 (by decide) ?_
    refine G.put (w' := (w_X7 cI cL cC cM cS a (upd (upd (upd t_now 0 0) 1 0) 2 0) t_mores t_tape 0 t_place 1 t_readLamps t_read t_undone 0 t_aside t_bays t_bests t_kept t_keptUndos t_isKept t_lanes t_sizes t_items t_moved)) fp_7_100 0 rfl (Nat.le_of_ble_eq_true rfl) rfl rfl rfl dX7_crypt_135 ?_
    refine G.iconst 0 dX7_crypt_138 (by decide) ?_
    refine G.istore_n (lv' := [some (.ref (a 0)), some (.int x1), some (.int 0)]) dX7_crypt_139 (by decide) (Nat.le_of_ble_eq_true rfl) rfl rfl ?_
    exact g_X7_crypt_c140 l D ks cI cL cC cM cS a t_mores t_undone t_aside t_bays t_bests t_kept t_keptUndos t_isKept t_lanes t_sizes t_items t_moved fu (upd (upd (upd t_now 0 0) 1 0) 2 0) t_tape 0 t_place 1 t_readLamps t_read 0 x1 0
  · refine G.bipush (-20) dX7_crypt_104 (by decide) ?_
    refine G.aload_n dX7_crypt_106 rfl ?_
    refine G.get fl_7_138 0 rfl rfl dX7_crypt_107 ?_
    refine G.isub dX7_crypt_110 ?_
    exact G.iret rfl rfl dX7_crypt_111
set_option maxHeartbeats 4000000 in
set_option maxRecDepth 100000 in
theorem g_X7_crypt_c84 (l : Launch) (D : va_G) (ks : Nat × Nat) (cI cL cC cM cS : ClassId) (a : Nat → Nat) (t_mores t_undone t_aside t_bays t_bests t_kept : Nat → Int32) (t_keptUndos t_isKept : Int32) (t_lanes t_sizes : Nat → Int32) (t_items t_moved : Nat → Int64) (t_now t_tape : Nat → Int32) (t_typed t_place t_isFault : Int32) (t_readLamps t_read : Nat → Int32) (t_undos : Int32) (x1 : Int32) : GJ l D ks (tyz cI cL cC cM cS) RX7 cX7_crypt 3 ((some .int)) { frames := 3, cells := 0, slots := 0, locals := 75 } (fun r : Int32 × (Nat → Int32) × Int32 × Int32 × Int32 × (Nat → Int32) × (Nat → Int32) × Int32 => (some (.int r.1), (w_X7 cI cL cC cM cS a r.2.1 t_mores t_tape r.2.2.1 r.2.2.2.1 r.2.2.2.2.1 r.2.2.2.2.2.1 r.2.2.2.2.2.2.1 t_undone r.2.2.2.2.2.2.2 t_aside t_bays t_bests t_kept t_keptUndos t_isKept t_lanes t_sizes t_items t_moved))) (w_X7 cI cL cC cM cS a t_now t_mores t_tape t_typed t_place t_isFault t_readLamps t_read t_undone t_undos t_aside t_bays t_bests t_kept t_keptUndos t_isKept t_lanes t_sizes t_items t_moved) 84 [some (.ref (a 0)), some (.int x1), none] [.ref (a 0)] (f_X7_crypt_c84 t_now t_tape t_typed t_place t_isFault t_readLamps t_read t_undos x1) := by
  unfold f_X7_crypt_c84
  refine G.iconst 1 dX7_crypt_84 (by decide) ?_
  refine G.goto 89 dX7_crypt_85 (by decide) ?_
  exact g_X7_crypt_c89 l D ks cI cL cC cM cS a t_mores t_undone t_aside t_bays t_bests t_kept t_keptUndos t_isKept t_lanes t_sizes t_items t_moved t_now t_tape t_typed t_place t_isFault t_readLamps t_read t_undos x1
set_option maxHeartbeats 4000000 in
set_option maxRecDepth 100000 in
theorem g_X7_crypt_c69 (l : Launch) (D : va_G) (ks : Nat × Nat) (cI cL cC cM cS : ClassId) (a : Nat → Nat) (t_mores t_undone t_aside t_bays t_bests t_kept : Nat → Int32) (t_keptUndos t_isKept : Int32) (t_lanes t_sizes : Nat → Int32) (t_items t_moved : Nat → Int64) (t_now t_tape : Nat → Int32) (t_typed t_place t_isFault : Int32) (t_readLamps t_read : Nat → Int32) (t_undos : Int32) (x1 : Int32) : GJ l D ks (tyz cI cL cC cM cS) RX7 cX7_crypt 3 ((some .int)) { frames := 3, cells := 0, slots := 0, locals := 75 } (fun r : Int32 × (Nat → Int32) × Int32 × Int32 × Int32 × (Nat → Int32) × (Nat → Int32) × Int32 => (some (.int r.1), (w_X7 cI cL cC cM cS a r.2.1 t_mores t_tape r.2.2.1 r.2.2.2.1 r.2.2.2.2.1 r.2.2.2.2.2.1 r.2.2.2.2.2.2.1 t_undone r.2.2.2.2.2.2.2 t_aside t_bays t_bests t_kept t_keptUndos t_isKept t_lanes t_sizes t_items t_moved))) (w_X7 cI cL cC cM cS a t_now t_mores t_tape t_typed t_place t_isFault t_readLamps t_read t_undone t_undos t_aside t_bays t_bests t_kept t_keptUndos t_isKept t_lanes t_sizes t_items t_moved) 69 [some (.ref (a 0)), some (.int x1), none] [] (f_X7_crypt_c69 t_now t_tape t_typed t_place t_isFault t_readLamps t_read t_undos x1) := by
  unfold f_X7_crypt_c69
  refine G.aload_n dX7_crypt_69 rfl ?_
  refine G.aload_n dX7_crypt_70 rfl ?_
  refine G.get fl_7_141 0 rfl rfl dX7_crypt_71 ?_
  refine G.if_ne 84 dX7_crypt_74 (by decide) (fun h74 => ?_) (fun h74 => ?_)
  · exact g_X7_crypt_c84 l D ks cI cL cC cM cS a t_mores t_undone t_aside t_bays t_bests t_kept t_keptUndos t_isKept t_lanes t_sizes t_items t_moved t_now t_tape t_typed t_place t_isFault t_readLamps t_read t_undos x1
  · refine G.aload_n dX7_crypt_77 rfl ?_
    refine G.callV (st := [.ref (a 0)]) (w' := fun r78 => (w_X7 cI cL cC cM cS a t_now t_mores t_tape t_typed r78.2 t_isFault t_readLamps t_read t_undone t_undos t_aside t_bays t_bests t_kept t_keptUndos t_isKept t_lanes t_sizes t_items t_moved)) mv_X7_here lk_7_145 (c_X7_here l D ks cI cL cC cM cS a t_now t_mores t_tape t_typed t_place t_isFault t_readLamps t_read t_undone t_undos t_aside t_bays t_bests t_kept t_keptUndos t_isKept t_lanes t_sizes t_items t_moved) [0, 1, 2, 3, 4, 5, 6, 7, 8, 9, 10, 11, 12, 13, 14] [] [0, 1, 2, 3, 4, 5, 6, 7, 8, 9, 10, 11, 12, 13, 14] rfl rfl rfl rfl (by decide +kernel) (fun _ => rfl) rfl (by decide) (Nat.le_of_ble_eq_true rfl) dX7_crypt_78 (fun r78 => [.int r78.1, .ref (a 0)]) (fun _ => rfl) (fun r78 _ => ?_)
    refine G.join (st := [.ref (a 0)]) Value.int 89 (fun v89 => ?_) (fun hJ => ?_)
    · refine G.chk (fun h89 => ?_)
      refine G.put (w' := (w_X7 cI cL cC cM cS a t_now t_mores t_tape t_typed r78.2 v89 t_readLamps t_read t_undone t_undos t_aside t_bays t_bests t_kept t_keptUndos t_isKept t_lanes t_sizes t_items t_moved)) fp_7_141 0 rfl (Nat.le_of_ble_eq_true rfl) (isb_n h89) (isb_f h89) rfl dX7_crypt_89 ?_
      refine G.aload_n dX7_crypt_92 rfl ?_
      refine G.iconst 0 dX7_crypt_93 (by decide) ?_
      refine G.put (w' := (w_X7 cI cL cC cM cS a t_now t_mores t_tape 0 r78.2 v89 t_readLamps t_read t_undone t_undos t_aside t_bays t_bests t_kept t_keptUndos t_isKept t_lanes t_sizes t_items t_moved)) fp_7_135 0 rfl (Nat.le_of_ble_eq_true rfl) rfl rfl rfl dX7_crypt_94 ?_
      refine G.aload_n dX7_crypt_97 rfl ?_
      refine G.get fl_7_141 0 rfl rfl dX7_crypt_98 ?_
      refine G.if_eq 112 dX7_crypt_101 (by decide) (fun h101 => ?_) (fun h101 => ?_)
      · refine G.aload_n dX7_crypt_112 rfl ?_
        refine G.get fl_7_7 0 rfl rfl dX7_crypt_113 ?_
        refine G.iconst 0 dX7_crypt_116 (by decide) ?_
        refine G.iconst 0 dX7_crypt_117 (by decide) ?_
        refine G.iastore (w' := (w_X7 cI cL cC cM cS a (upd t_now 0 0) t_mores t_tape 0 r78.2 v89 t_readLamps t_read t_undone t_undos t_aside t_bays t_bests t_kept t_keptUndos t_isKept t_lanes t_sizes t_items t_moved)) 1 0 rfl rfl 0 (by decide) (by decide) rfl dX7_crypt_118 ?_
        refine G.aload_n dX7_crypt_119 rfl ?_
        refine G.get fl_7_7 0 rfl rfl dX7_crypt_120 ?_
        refine G.iconst 1 dX7_crypt_123 (by decide) ?_
        refine G.iconst 0 dX7_crypt_124 (by decide) ?_
        refine G.iastore (w' := (w_X7 cI cL cC cM cS a (upd (upd t_now 0 0) 1 0) t_mores t_tape 0 r78.2 v89 t_readLamps t_read t_undone t_undos t_aside t_bays t_bests t_kept t_keptUndos t_isKept t_lanes t_sizes t_items t_moved)) 1 0 rfl rfl 1 (by decide) (by decide) rfl dX7_crypt_125 ?_
        refine G.aload_n dX7_crypt_126 rfl ?_
        refine G.get fl_7_7 0 rfl rfl dX7_crypt_127 ?_
        refine G.iconst 2 dX7_crypt_130 (by decide) ?_
        refine G.iconst 0 dX7_crypt_131 (by decide) ?_
        refine G.iastore (w' := (w_X7 cI cL cC cM cS a (upd (upd (upd t_now 0 0) 1 0) 2 0) t_mores t_tape 0 r78.2 v89 t_readLamps t_read t_undone t_undos t_aside t_bays t_bests t_kept t_keptUndos t_isKept t_lanes t_sizes t_items t_moved)) 1 0 rfl rfl 2 (by decide) (by decide) rfl dX7_crypt_132 ?_
        refine G.aload_n dX7_crypt_133 rfl ?_
        refine G.iconst 0 dX7_crypt_134 (by decide) ?_
        refine G.put (w' := (w_X7 cI cL cC cM cS a (upd (upd (upd t_now 0 0) 1 0) 2 0) t_mores t_tape 0 r78.2 v89 t_readLamps t_read t_undone 0 t_aside t_bays t_bests t_kept t_keptUndos t_isKept t_lanes t_sizes t_items t_moved)) fp_7_100 0 rfl (Nat.le_of_ble_eq_true rfl) rfl rfl rfl dX7_crypt_135 ?_
        refine G.iconst 0 dX7_crypt_138 (by decide) ?_
        refine G.istore_n (lv' := [some (.ref (a 0)), some (.int x1), some (.int 0)]) dX7_crypt_139 (by decide) (Nat.le_of_ble_eq_true rfl) rfl rfl ?_
        exact g_X7_crypt_c140 l D ks cI cL cC cM cS a t_mores t_undone t_aside t_bays t_bests t_kept t_keptUndos t_isKept t_lanes t_sizes t_items t_moved fu (upd (upd (upd t_now 0 0) 1 0) 2 0) t_tape 0 r78.2 v89 t_readLamps t_read 0 x1 0
      · refine G.bipush (-20) dX7_crypt_104 (by decide) ?_
        refine G.aload_n dX7_crypt_106 rfl ?_
        refine G.get fl_7_138 0 rfl rfl dX7_crypt_107 ?_
        refine G.isub dX7_crypt_110 ?_
        exact G.iret rfl rfl dX7_crypt_111
    · refine G.ite ?_
      refine G.if_eq 88 dX7_crypt_81 (by decide) (fun _ => ?_) (fun _ => ?_)
      · refine G.iconst 0 dX7_crypt_88 (by decide) ?_
        exact hJ _
      · refine G.iconst 1 dX7_crypt_84 (by decide) ?_
        refine G.goto 89 dX7_crypt_85 (by decide) ?_
        exact hJ _
set_option maxHeartbeats 4000000 in
set_option maxRecDepth 100000 in
theorem g_X7_crypt_c12 (l : Launch) (D : va_G) (ks : Nat × Nat) (cI cL cC cM cS : ClassId) (a : Nat → Nat) (t_mores t_undone t_aside t_bays t_bests t_kept : Nat → Int32) (t_keptUndos t_isKept : Int32) (t_lanes t_sizes : Nat → Int32) (t_items t_moved : Nat → Int64) : ∀ (n : Nat), ∀ (t_now t_tape : Nat → Int32) (t_typed t_place t_isFault : Int32) (t_readLamps t_read : Nat → Int32) (t_undos : Int32) (x1 : Int32), GJ l D ks (tyz cI cL cC cM cS) RX7 cX7_crypt 3 ((some .int)) { frames := 3, cells := 0, slots := 0, locals := 75 } (fun r : Int32 × (Nat → Int32) × Int32 × Int32 × Int32 × (Nat → Int32) × (Nat → Int32) × Int32 => (some (.int r.1), (w_X7 cI cL cC cM cS a r.2.1 t_mores t_tape r.2.2.1 r.2.2.2.1 r.2.2.2.2.1 r.2.2.2.2.2.1 r.2.2.2.2.2.2.1 t_undone r.2.2.2.2.2.2.2 t_aside t_bays t_bests t_kept t_keptUndos t_isKept t_lanes t_sizes t_items t_moved))) (w_X7 cI cL cC cM cS a t_now t_mores t_tape t_typed t_place t_isFault t_readLamps t_read t_undone t_undos t_aside t_bays t_bests t_kept t_keptUndos t_isKept t_lanes t_sizes t_items t_moved) 12 [some (.ref (a 0)), some (.int x1), none] [] (f_X7_crypt_c12 n t_now t_tape t_typed t_place t_isFault t_readLamps t_read t_undos x1) := by
  intro n
  induction n with
  | zero =>
    intro t_now t_tape t_typed t_place t_isFault t_readLamps t_read t_undos x1
    exact G.no
  | succ n ih =>
    intro t_now t_tape t_typed t_place t_isFault t_readLamps t_read t_undos x1
    rw [f_X7_crypt_c12]
    refine G.iload_n dX7_crypt_12 rfl ?_
    refine G.bipush 6 dX7_crypt_13 (by decide) ?_
    refine G.icmp_ge 36 dX7_crypt_15 (by decide) (fun h15 => ?_) (fun h15 => ?_)
    · refine G.iconst 0 dX7_crypt_36 (by decide) ?_
      refine G.istore_n (lv' := [some (.ref (a 0)), some (.int 0), none]) dX7_crypt_37 (by decide) (Nat.le_of_ble_eq_true rfl) rfl rfl ?_
      refine G.aload_n dX7_crypt_38 rfl ?_
      refine G.get fl_7_141 0 rfl rfl dX7_crypt_39 ?_
      refine G.if_ne 69 dX7_crypt_42 (by decide) (fun h42 => ?_) (fun h42 => ?_)
      · exact g_X7_crypt_c69 l D ks cI cL cC cM cS a t_mores t_undone t_aside t_bays t_bests t_kept t_keptUndos t_isKept t_lanes t_sizes t_items t_moved t_now t_tape t_typed t_place t_isFault t_readLamps t_read t_undos 0
      · refine G.aload_n dX7_crypt_45 rfl ?_
        refine G.callV (st := []) (w' := fun r46 => (w_X7 cI cL cC cM cS a t_now t_mores t_tape t_typed r46.2 t_isFault t_readLamps t_read t_undone t_undos t_aside t_bays t_bests t_kept t_keptUndos t_isKept t_lanes t_sizes t_items t_moved)) mv_X7_here lk_7_145 (c_X7_here l D ks cI cL cC cM cS a t_now t_mores t_tape t_typed t_place t_isFault t_readLamps t_read t_undone t_undos t_aside t_bays t_bests t_kept t_keptUndos t_isKept t_lanes t_sizes t_items t_moved) [0, 1, 2, 3, 4, 5, 6, 7, 8, 9, 10, 11, 12, 13, 14] [] [0, 1, 2, 3, 4, 5, 6, 7, 8, 9, 10, 11, 12, 13, 14] rfl rfl rfl rfl (by decide +kernel) (fun _ => rfl) rfl (by decide) (Nat.le_of_ble_eq_true rfl) dX7_crypt_46 (fun r46 => [.int r46.1]) (fun _ => rfl) (fun r46 _ => ?_)
        refine G.bipush 59 dX7_crypt_49 (by decide) ?_
        refine G.icmp_ne 69 dX7_crypt_51 (by decide) (fun h51 => ?_) (fun h51 => ?_)
        · exact g_X7_crypt_c69 l D ks cI cL cC cM cS a t_mores t_undone t_aside t_bays t_bests t_kept t_keptUndos t_isKept t_lanes t_sizes t_items t_moved t_now t_tape t_typed r46.2 t_isFault t_readLamps t_read t_undos 0
        · refine G.aload_n dX7_crypt_54 rfl ?_
          refine G.dup dX7_crypt_55 rfl ?_
          refine G.get fl_7_138 0 rfl rfl dX7_crypt_56 ?_
          refine G.iconst 1 dX7_crypt_59 (by decide) ?_
          refine G.iadd dX7_crypt_60 ?_
          refine G.put (w' := (w_X7 cI cL cC cM cS a t_now t_mores t_tape t_typed (r46.2 + 1) t_isFault t_readLamps t_read t_undone t_undos t_aside t_bays t_bests t_kept t_keptUndos t_isKept t_lanes t_sizes t_items t_moved)) fp_7_138 0 rfl (Nat.le_of_ble_eq_true rfl) rfl rfl rfl dX7_crypt_61 ?_
          refine G.aload_n dX7_crypt_64 rfl ?_
          refine G.callV (st := []) (w' := fun r65 => (w_X7 cI cL cC cM cS a t_now t_mores t_tape t_typed r65.2.1 r65.2.2.1 t_readLamps r65.2.2.2 t_undone t_undos t_aside t_bays t_bests t_kept t_keptUndos t_isKept t_lanes t_sizes t_items t_moved)) mv_X7_readHolders lk_7_162 (c_X7_readHolders l D ks cI cL cC cM cS a t_now t_mores t_tape t_typed (r46.2 + 1) t_isFault t_readLamps t_read t_undone t_undos t_aside t_bays t_bests t_kept t_keptUndos t_isKept t_lanes t_sizes t_items t_moved) [0, 1, 2, 3, 4, 5, 6, 7, 8, 9, 10, 11, 12, 13, 14] [] [0, 1, 2, 3, 4, 5, 6, 7, 8, 9, 10, 11, 12, 13, 14] rfl rfl rfl rfl (by decide +kernel) (fun _ => rfl) rfl (by decide) (Nat.le_of_ble_eq_true rfl) dX7_crypt_65 (fun r65 => [.int r65.1]) (fun _ => rfl) (fun r65 _ => ?_)
          refine G.istore_n (lv' := [some (.ref (a 0)), some (.int r65.1), none]) dX7_crypt_68 (by decide) (Nat.le_of_ble_eq_true rfl) rfl rfl ?_
          exact g_X7_crypt_c69 l D ks cI cL cC cM cS a t_mores t_undone t_aside t_bays t_bests t_kept t_keptUndos t_isKept t_lanes t_sizes t_items t_moved t_now t_tape t_typed r65.2.1 r65.2.2.1 t_readLamps r65.2.2.2 t_undos r65.1
    · refine G.aload_n dX7_crypt_18 rfl ?_
      refine G.get fl_7_19 0 rfl rfl dX7_crypt_19 ?_
      refine G.iload_n dX7_crypt_22 rfl ?_
      refine G.aload_n dX7_crypt_23 rfl ?_
      refine G.bipush 9 dX7_crypt_24 (by decide) ?_
      refine G.callV (st := [.int x1, .ref (a 4)]) (w' := fun r26 => (w_X7 cI cL cC cM cS a t_now t_mores t_tape t_typed r26.2.1 r26.2.2 t_readLamps t_read t_undone t_undos t_aside t_bays t_bests t_kept t_keptUndos t_isKept t_lanes t_sizes t_items t_moved)) mv_X7_digit lk_7_159 (c_X7_digit l D ks cI cL cC cM cS a t_now t_mores t_tape t_typed t_place t_isFault t_readLamps t_read t_undone t_undos t_aside t_bays t_bests t_kept t_keptUndos t_isKept t_lanes t_sizes t_items t_moved 9) [0, 1, 2, 3, 4, 5, 6, 7, 8, 9, 10, 11, 12, 13, 14] [] [0, 1, 2, 3, 4, 5, 6, 7, 8, 9, 10, 11, 12, 13, 14] rfl rfl rfl rfl (by decide +kernel) (fun _ => rfl) rfl (by decide) (Nat.le_of_ble_eq_true rfl) dX7_crypt_26 (fun r26 => [.int r26.1, .int x1, .ref (a 4)]) (fun _ => rfl) (fun r26 _ => ?_)
      refine G.chk (fun h29 => ?_)
      refine G.iastore (w' := (w_X7 cI cL cC cM cS a t_now t_mores t_tape t_typed r26.2.1 r26.2.2 (upd t_readLamps x1.toNatClampNeg r26.1) t_read t_undone t_undos t_aside t_bays t_bests t_kept t_keptUndos t_isKept t_lanes t_sizes t_items t_moved)) 4 0 rfl rfl x1.toNatClampNeg rfl h29 rfl dX7_crypt_29 ?_
      refine G.iinc 1 (lv' := [some (.ref (a 0)), some (.int (x1 + 1)), none]) dX7_crypt_30 rfl (by decide) (by decide) (Nat.le_of_ble_eq_true rfl) rfl rfl ?_
      refine G.goto 12 dX7_crypt_33 (by decide) ?_
      exact ih t_now t_tape t_typed r26.2.1 r26.2.2 (upd t_readLamps x1.toNatClampNeg r26.1) t_read t_undos (x1 + 1)
set_option maxHeartbeats 4000000 in
set_option maxRecDepth 100000 in
theorem c_X7_crypt (l : Launch) (D : va_G) (ks : Nat × Nat) (cI cL cC cM cS : ClassId) (a : Nat → Nat) (t_now t_mores t_tape : Nat → Int32) (t_typed t_place t_isFault : Int32) (t_readLamps t_read t_undone : Nat → Int32) (t_undos : Int32) (t_aside t_bays t_bests t_kept : Nat → Int32) (t_keptUndos t_isKept : Int32) (t_lanes t_sizes : Nat → Int32) (t_items t_moved : Nat → Int64) : MT l D ks (tyz cI cL cC cM cS) yX7_crypt cX7_crypt 3 ((some .int)) { frames := 3, cells := 0, slots := 0, locals := 75 } [.ref (a 0)] (w_X7 cI cL cC cM cS a t_now t_mores t_tape t_typed t_place t_isFault t_readLamps t_read t_undone t_undos t_aside t_bays t_bests t_kept t_keptUndos t_isKept t_lanes t_sizes t_items t_moved) (fun r : Int32 × (Nat → Int32) × Int32 × Int32 × Int32 × (Nat → Int32) × (Nat → Int32) × Int32 => (some (.int r.1), (w_X7 cI cL cC cM cS a r.2.1 t_mores t_tape r.2.2.1 r.2.2.2.1 r.2.2.2.2.1 r.2.2.2.2.2.1 r.2.2.2.2.2.2.1 t_undone r.2.2.2.2.2.2.2 t_aside t_bays t_bests t_kept t_keptUndos t_isKept t_lanes t_sizes t_items t_moved))) (f_X7_crypt t_now t_tape t_typed t_place t_isFault t_readLamps t_read t_undos) := by
  refine MT.of 2 [some (.ref (a 0)), none, none] (by decide) (Nat.le_of_ble_eq_true rfl) rfl ?_
  unfold f_X7_crypt
  refine G.aload_n dX7_crypt_0 rfl ?_
  refine G.iconst 0 dX7_crypt_1 (by decide) ?_
  refine G.put (w' := (w_X7 cI cL cC cM cS a t_now t_mores t_tape t_typed 0 t_isFault t_readLamps t_read t_undone t_undos t_aside t_bays t_bests t_kept t_keptUndos t_isKept t_lanes t_sizes t_items t_moved)) fp_7_138 0 rfl (Nat.le_of_ble_eq_true rfl) rfl rfl rfl dX7_crypt_2 ?_
  refine G.aload_n dX7_crypt_5 rfl ?_
  refine G.iconst 0 dX7_crypt_6 (by decide) ?_
  refine G.put (w' := (w_X7 cI cL cC cM cS a t_now t_mores t_tape t_typed 0 0 t_readLamps t_read t_undone t_undos t_aside t_bays t_bests t_kept t_keptUndos t_isKept t_lanes t_sizes t_items t_moved)) fp_7_141 0 rfl (Nat.le_of_ble_eq_true rfl) rfl rfl rfl dX7_crypt_7 ?_
  refine G.iconst 0 dX7_crypt_10 (by decide) ?_
  refine G.istore_n (lv' := [some (.ref (a 0)), some (.int 0), none]) dX7_crypt_11 (by decide) (Nat.le_of_ble_eq_true rfl) rfl rfl ?_
  exact g_X7_crypt_c12 l D ks cI cL cC cM cS a t_mores t_undone t_aside t_bays t_bests t_kept t_keptUndos t_isKept t_lanes t_sizes t_items t_moved fu t_now t_tape t_typed 0 0 t_readLamps t_read t_undos 0
set_option maxHeartbeats 4000000 in
set_option maxRecDepth 100000 in
theorem g_X7_dark_c32 (l : Launch) (D : va_G) (ks : Nat × Nat) (cI cL cC cM cS : ClassId) (a : Nat → Nat) (t_tape : Nat → Int32) (t_typed t_place t_isFault : Int32) (t_readLamps t_read t_undone : Nat → Int32) (t_undos : Int32) (t_bays t_bests t_kept : Nat → Int32) (t_keptUndos t_isKept : Int32) (t_lanes t_sizes : Nat → Int32) (t_items t_moved : Nat → Int64) : ∀ (n : Nat), ∀ (t_now t_mores t_aside : Nat → Int32) (x1 : Int32) (x2 : Int32) (x3 : Int32) (x4 : Int32), GJ l D ks (tyz cI cL cC cM cS) RX7 cX7_dark 5 ((some .int)) { frames := 7, cells := 0, slots := 0, locals := 154 } (fun r : Int32 × (Nat → Int32) × (Nat → Int32) × (Nat → Int32) => (some (.int r.1), (w_X7 cI cL cC cM cS a r.2.1 r.2.2.1 t_tape t_typed t_place t_isFault t_readLamps t_read t_undone t_undos r.2.2.2 t_bays t_bests t_kept t_keptUndos t_isKept t_lanes t_sizes t_items t_moved))) (w_X7 cI cL cC cM cS a t_now t_mores t_tape t_typed t_place t_isFault t_readLamps t_read t_undone t_undos t_aside t_bays t_bests t_kept t_keptUndos t_isKept t_lanes t_sizes t_items t_moved) 32 [some (.ref (a 0)), some (.int x1), some (.int x2), some (.int x3), some (.int x4)] [] (f_X7_dark_c32 n t_now t_mores t_aside x1 x2 x3 x4) := by
  intro n
  induction n with
  | zero =>
    intro t_now t_mores t_aside x1 x2 x3 x4
    exact G.no
  | succ n ih =>
    intro t_now t_mores t_aside x1 x2 x3 x4
    rw [f_X7_dark_c32]
    refine G.iload dX7_dark_32 rfl ?_
    refine G.bipush 10 dX7_dark_34 (by decide) ?_
    refine G.icmp_ge 84 dX7_dark_36 (by decide) (fun h36 => ?_) (fun h36 => ?_)
    · refine G.iload_n dX7_dark_84 rfl ?_
      exact G.iret rfl rfl dX7_dark_85
    · refine G.aload_n dX7_dark_39 rfl ?_
      refine G.get fl_7_7 0 rfl rfl dX7_dark_40 ?_
      refine G.bipush 28 dX7_dark_43 (by decide) ?_
      refine G.aload_n dX7_dark_45 rfl ?_
      refine G.iload_n dX7_dark_46 rfl ?_
      refine G.callV (st := [.int 28, .ref (a 1)]) (w' := fun r47 => (w_X7 cI cL cC cM cS a t_now t_mores t_tape t_typed t_place t_isFault t_readLamps t_read t_undone t_undos t_aside t_bays t_bests t_kept t_keptUndos t_isKept t_lanes t_sizes t_items t_moved)) mv_X7_bayOf lk_7_67 (c_X7_bayOf l D ks cI cL cC cM cS a t_now t_mores t_tape t_typed t_place t_isFault t_readLamps t_read t_undone t_undos t_aside t_bays t_bests t_kept t_keptUndos t_isKept t_lanes t_sizes t_items t_moved x1) [0, 1, 2, 3, 4, 5, 6, 7, 8, 9, 10, 11, 12, 13, 14] [] [0, 1, 2, 3, 4, 5, 6, 7, 8, 9, 10, 11, 12, 13, 14] rfl rfl rfl rfl (by decide +kernel) (fun _ => rfl) rfl (by decide) (Nat.le_of_ble_eq_true rfl) dX7_dark_47 (fun r47 => [.int r47, .int 28, .ref (a 1)]) (fun _ => rfl) (fun r47 _ => ?_)
      refine G.iadd dX7_dark_50 ?_
      refine G.iload dX7_dark_51 rfl ?_
      refine G.chk (fun h53 => ?_)
      refine G.iastore (w' := (w_X7 cI cL cC cM cS a (upd t_now ((28 + r47).toNatClampNeg) x4) t_mores t_tape t_typed t_place t_isFault t_readLamps t_read t_undone t_undos t_aside t_bays t_bests t_kept t_keptUndos t_isKept t_lanes t_sizes t_items t_moved)) 1 0 rfl rfl ((28 + r47).toNatClampNeg) rfl h53 rfl dX7_dark_53 ?_
      refine G.aload_n dX7_dark_54 rfl ?_
      refine G.iload_n dX7_dark_55 rfl ?_
      refine G.callV (st := []) (w' := fun r56 => (w_X7 cI cL cC cM cS a r56.1 r56.2 t_tape t_typed t_place t_isFault t_readLamps t_read t_undone t_undos t_aside t_bays t_bests t_kept t_keptUndos t_isKept t_lanes t_sizes t_items t_moved)) mv_X7_goesOn lk_7_190 (c_X7_goesOn l D ks cI cL cC cM cS a (upd t_now ((28 + r47).toNatClampNeg) x4) t_mores t_tape t_typed t_place t_isFault t_readLamps t_read t_undone t_undos t_aside t_bays t_bests t_kept t_keptUndos t_isKept t_lanes t_sizes t_items t_moved x2) [0, 1, 2, 3, 4, 5, 6, 7, 8, 9, 10, 11, 12, 13, 14] [] [0, 1, 2, 3, 4, 5, 6, 7, 8, 9, 10, 11, 12, 13, 14] rfl rfl rfl rfl (by decide +kernel) (fun _ => rfl) rfl (by decide) (Nat.le_of_ble_eq_true rfl) dX7_dark_56 (fun r56 => []) (fun _ => rfl) (fun r56 _ => ?_)
      refine G.aload_n dX7_dark_59 rfl ?_
      refine G.iload_n dX7_dark_60 rfl ?_
      refine G.callV (st := []) (w' := fun r61 => (w_X7 cI cL cC cM cS a r56.1 r56.2 t_tape t_typed t_place t_isFault t_readLamps t_read t_undone t_undos t_aside t_bays t_bests t_kept t_keptUndos t_isKept t_lanes t_sizes t_items t_moved)) mv_X7_isUp lk_7_76 (c_X7_isUp l D ks cI cL cC cM cS a r56.1 r56.2 t_tape t_typed t_place t_isFault t_readLamps t_read t_undone t_undos t_aside t_bays t_bests t_kept t_keptUndos t_isKept t_lanes t_sizes t_items t_moved x1) [0, 1, 2, 3, 4, 5, 6, 7, 8, 9, 10, 11, 12, 13, 14] [] [0, 1, 2, 3, 4, 5, 6, 7, 8, 9, 10, 11, 12, 13, 14] rfl rfl rfl rfl (by decide +kernel) (fun _ => rfl) rfl (by decide) (Nat.le_of_ble_eq_true rfl) dX7_dark_61 (fun r61 => [.int r61]) (fun _ => rfl) (fun r61 _ => ?_)
      refine G.join (st := []) Value.int 73 (fun v73 => ?_) (fun hJ => ?_)
      · refine G.istore_n (lv' := [some (.ref (a 0)), some (.int x1), some (.int x2), some (.int v73), some (.int x4)]) dX7_dark_73 (by decide) (Nat.le_of_ble_eq_true rfl) rfl rfl ?_
        refine G.aload_n dX7_dark_74 rfl ?_
        refine G.callV (st := []) (w' := fun r75 => (w_X7 cI cL cC cM cS a r75 r56.2 t_tape t_typed t_place t_isFault t_readLamps t_read t_undone t_undos t_aside t_bays t_bests t_kept t_keptUndos t_isKept t_lanes t_sizes t_items t_moved)) mv_X7_backs lk_7_193 (c_X7_backs l D ks cI cL cC cM cS a r56.1 r56.2 t_tape t_typed t_place t_isFault t_readLamps t_read t_undone t_undos t_aside t_bays t_bests t_kept t_keptUndos t_isKept t_lanes t_sizes t_items t_moved) [0, 1, 2, 3, 4, 5, 6, 7, 8, 9, 10, 11, 12, 13, 14] [] [0, 1, 2, 3, 4, 5, 6, 7, 8, 9, 10, 11, 12, 13, 14] rfl rfl rfl rfl (by decide +kernel) (fun _ => rfl) rfl (by decide) (Nat.le_of_ble_eq_true rfl) dX7_dark_75 (fun r75 => []) (fun _ => rfl) (fun r75 _ => ?_)
        refine G.iinc 1 (lv' := [some (.ref (a 0)), some (.int x1), some (.int x2), some (.int v73), some (.int (x4 + 1))]) dX7_dark_78 rfl (by decide) (by decide) (Nat.le_of_ble_eq_true rfl) rfl rfl ?_
        refine G.goto 32 dX7_dark_81 (by decide) ?_
        exact ih r75 r56.2 t_aside x1 x2 v73 (x4 + 1)
      · refine G.ite ?_
        refine G.if_eq 72 dX7_dark_64 (by decide) (fun _ => ?_) (fun _ => ?_)
        · refine G.iload_n dX7_dark_72 rfl ?_
          exact hJ _
        · refine G.iload dX7_dark_67 rfl ?_
          refine G.goto 73 dX7_dark_69 (by decide) ?_
          exact hJ _
set_option maxHeartbeats 4000000 in
set_option maxRecDepth 100000 in
theorem c_X7_dark (l : Launch) (D : va_G) (ks : Nat × Nat) (cI cL cC cM cS : ClassId) (a : Nat → Nat) (t_now t_mores t_tape : Nat → Int32) (t_typed t_place t_isFault : Int32) (t_readLamps t_read t_undone : Nat → Int32) (t_undos : Int32) (t_aside t_bays t_bests t_kept : Nat → Int32) (t_keptUndos t_isKept : Int32) (t_lanes t_sizes : Nat → Int32) (t_items t_moved : Nat → Int64) (x1 : Int32) (x2 : Int32) : MT l D ks (tyz cI cL cC cM cS) yX7_dark cX7_dark 5 ((some .int)) { frames := 7, cells := 0, slots := 0, locals := 154 } [.ref (a 0), .int x1, .int x2] (w_X7 cI cL cC cM cS a t_now t_mores t_tape t_typed t_place t_isFault t_readLamps t_read t_undone t_undos t_aside t_bays t_bests t_kept t_keptUndos t_isKept t_lanes t_sizes t_items t_moved) (fun r : Int32 × (Nat → Int32) × (Nat → Int32) × (Nat → Int32) => (some (.int r.1), (w_X7 cI cL cC cM cS a r.2.1 r.2.2.1 t_tape t_typed t_place t_isFault t_readLamps t_read t_undone t_undos r.2.2.2 t_bays t_bests t_kept t_keptUndos t_isKept t_lanes t_sizes t_items t_moved))) (f_X7_dark t_now t_mores t_aside x1 x2) := by
  refine MT.of 2 [some (.ref (a 0)), some (.int x1), some (.int x2), none, none] (by decide) (Nat.le_of_ble_eq_true rfl) rfl ?_
  unfold f_X7_dark
  refine G.aload_n dX7_dark_0 rfl ?_
  refine G.iload_n dX7_dark_1 rfl ?_
  refine G.callV (st := []) (w' := fun r2 => (w_X7 cI cL cC cM cS a t_now t_mores t_tape t_typed t_place t_isFault t_readLamps t_read t_undone t_undos t_aside t_bays t_bests t_kept t_keptUndos t_isKept t_lanes t_sizes t_items t_moved)) mv_X7_isHolder lk_7_120 (c_X7_isHolder l D ks cI cL cC cM cS a t_now t_mores t_tape t_typed t_place t_isFault t_readLamps t_read t_undone t_undos t_aside t_bays t_bests t_kept t_keptUndos t_isKept t_lanes t_sizes t_items t_moved x1) [0, 1, 2, 3, 4, 5, 6, 7, 8, 9, 10, 11, 12, 13, 14] [] [0, 1, 2, 3, 4, 5, 6, 7, 8, 9, 10, 11, 12, 13, 14] rfl rfl rfl rfl (by decide +kernel) (fun _ => rfl) rfl (by decide) (Nat.le_of_ble_eq_true rfl) dX7_dark_2 (fun r2 => [.int r2]) (fun _ => rfl) (fun r2 _ => ?_)
  refine G.if_eq 20 dX7_dark_5 (by decide) (fun h5 => ?_) (fun h5 => ?_)
  · refine G.iconst (-1) dX7_dark_20 (by decide) ?_
    exact G.iret rfl rfl dX7_dark_21
  · refine G.iload_n dX7_dark_8 rfl ?_
    refine G.i2l dX7_dark_9 ?_
    refine G.lconst 1 dX7_dark_10 (by decide) ?_
    refine G.ldc2 kl_7_165 dX7_dark_11 ?_
    refine G.callS (st := []) (w' := fun r14 => (w_X7 cI cL cC cM cS a t_now t_mores t_tape t_typed t_place t_isFault t_readLamps t_read t_undone t_undos t_aside t_bays t_bests t_kept t_keptUndos t_isKept t_lanes t_sizes t_items t_moved)) ms_X7_in lk_7_53 (c_X7_in l D ks cI cL cC cM cS (x2.toInt64) 1 40) [] [0, 1, 2, 3, 4, 5, 6, 7, 8, 9, 10, 11, 12, 13, 14] [0, 1, 2, 3, 4, 5, 6, 7, 8, 9, 10, 11, 12, 13, 14] rfl rfl rfl rfl (by decide +kernel) (fun _ => rfl) (by decide) (Nat.le_of_ble_eq_true rfl) dX7_dark_14 (fun r14 => [.int r14]) (fun _ => rfl) (fun r14 _ => ?_)
    refine G.if_ne 22 dX7_dark_17 (by decide) (fun h17 => ?_) (fun h17 => ?_)
    · refine G.bipush (-4) dX7_dark_22 (by decide) ?_
      refine G.istore_n (lv' := [some (.ref (a 0)), some (.int x1), some (.int x2), some (.int (-4)), none]) dX7_dark_24 (by decide) (Nat.le_of_ble_eq_true rfl) rfl rfl ?_
      refine G.aload_n dX7_dark_25 rfl ?_
      refine G.callV (st := []) (w' := fun r26 => (w_X7 cI cL cC cM cS a t_now t_mores t_tape t_typed t_place t_isFault t_readLamps t_read t_undone t_undos r26 t_bays t_bests t_kept t_keptUndos t_isKept t_lanes t_sizes t_items t_moved)) mv_X7_asides lk_7_187 (c_X7_asides l D ks cI cL cC cM cS a t_now t_mores t_tape t_typed t_place t_isFault t_readLamps t_read t_undone t_undos t_aside t_bays t_bests t_kept t_keptUndos t_isKept t_lanes t_sizes t_items t_moved) [0, 1, 2, 3, 4, 5, 6, 7, 8, 9, 10, 11, 12, 13, 14] [] [0, 1, 2, 3, 4, 5, 6, 7, 8, 9, 10, 11, 12, 13, 14] rfl rfl rfl rfl (by decide +kernel) (fun _ => rfl) rfl (by decide) (Nat.le_of_ble_eq_true rfl) dX7_dark_26 (fun r26 => []) (fun _ => rfl) (fun r26 _ => ?_)
      refine G.iconst 0 dX7_dark_29 (by decide) ?_
      refine G.istore (lv' := [some (.ref (a 0)), some (.int x1), some (.int x2), some (.int (-4)), some (.int 0)]) dX7_dark_30 (by decide) (Nat.le_of_ble_eq_true rfl) rfl rfl ?_
      exact g_X7_dark_c32 l D ks cI cL cC cM cS a t_tape t_typed t_place t_isFault t_readLamps t_read t_undone t_undos t_bays t_bests t_kept t_keptUndos t_isKept t_lanes t_sizes t_items t_moved fu t_now t_mores r26 x1 x2 (-4) 0
    · refine G.iconst (-1) dX7_dark_20 (by decide) ?_
      exact G.iret rfl rfl dX7_dark_21
set_option maxHeartbeats 4000000 in
set_option maxRecDepth 100000 in
theorem g_X7_days_c33 (l : Launch) (D : va_G) (ks : Nat × Nat) (cI cL cC cM cS : ClassId) (a : Nat → Nat) (t_tape : Nat → Int32) (t_typed t_place t_isFault : Int32) (t_readLamps t_read t_aside t_bays t_bests t_kept : Nat → Int32) (t_keptUndos t_isKept : Int32) (t_lanes t_sizes : Nat → Int32) (t_items t_moved : Nat → Int64) : ∀ (n : Nat), ∀ (t_now t_mores t_undone : Nat → Int32) (t_undos : Int32) (x1 : Int32) (x2 : Int32), GJ l D ks (tyz cI cL cC cM cS) RX7 cX7_days 3 ((some .int)) { frames := 6, cells := 0, slots := 0, locals := 132 } (fun r : Int32 × (Nat → Int32) × (Nat → Int32) × (Nat → Int32) × Int32 => (some (.int r.1), (w_X7 cI cL cC cM cS a r.2.1 r.2.2.1 t_tape t_typed t_place t_isFault t_readLamps t_read r.2.2.2.1 r.2.2.2.2 t_aside t_bays t_bests t_kept t_keptUndos t_isKept t_lanes t_sizes t_items t_moved))) (w_X7 cI cL cC cM cS a t_now t_mores t_tape t_typed t_place t_isFault t_readLamps t_read t_undone t_undos t_aside t_bays t_bests t_kept t_keptUndos t_isKept t_lanes t_sizes t_items t_moved) 33 [some (.ref (a 0)), some (.int x1), some (.int x2)] [] (f_X7_days_c33 n t_now t_mores t_undone t_undos x1 x2) := by
  intro n
  induction n with
  | zero =>
    intro t_now t_mores t_undone t_undos x1 x2
    exact G.no
  | succ n ih =>
    intro t_now t_mores t_undone t_undos x1 x2
    rw [f_X7_days_c33]
    refine G.iload_n dX7_days_33 rfl ?_
    refine G.iload_n dX7_days_34 rfl ?_
    refine G.icmp_ge 52 dX7_days_35 (by decide) (fun h35 => ?_) (fun h35 => ?_)
    · refine G.aload_n dX7_days_52 rfl ?_
      refine G.callV (st := []) (w' := fun r53 => (w_X7 cI cL cC cM cS a t_now t_mores t_tape t_typed t_place t_isFault t_readLamps t_read t_undone t_undos t_aside t_bays t_bests t_kept t_keptUndos t_isKept t_lanes t_sizes t_items t_moved)) mv_X7_ups lk_7_83 (c_X7_ups l D ks cI cL cC cM cS a t_now t_mores t_tape t_typed t_place t_isFault t_readLamps t_read t_undone t_undos t_aside t_bays t_bests t_kept t_keptUndos t_isKept t_lanes t_sizes t_items t_moved) [0, 1, 2, 3, 4, 5, 6, 7, 8, 9, 10, 11, 12, 13, 14] [] [0, 1, 2, 3, 4, 5, 6, 7, 8, 9, 10, 11, 12, 13, 14] rfl rfl rfl rfl (by decide +kernel) (fun _ => rfl) rfl (by decide) (Nat.le_of_ble_eq_true rfl) dX7_days_53 (fun r53 => [.int r53]) (fun _ => rfl) (fun r53 _ => ?_)
      exact G.iret rfl rfl dX7_days_56
    · refine G.aload_n dX7_days_38 rfl ?_
      refine G.callV (st := []) (w' := fun r39 => (w_X7 cI cL cC cM cS a t_now t_mores t_tape t_typed t_place t_isFault t_readLamps t_read r39.1 r39.2 t_aside t_bays t_bests t_kept t_keptUndos t_isKept t_lanes t_sizes t_items t_moved)) mv_X7_notes lk_7_167 (c_X7_notes l D ks cI cL cC cM cS a t_now t_mores t_tape t_typed t_place t_isFault t_readLamps t_read t_undone t_undos t_aside t_bays t_bests t_kept t_keptUndos t_isKept t_lanes t_sizes t_items t_moved) [0, 1, 2, 3, 4, 5, 6, 7, 8, 9, 10, 11, 12, 13, 14] [] [0, 1, 2, 3, 4, 5, 6, 7, 8, 9, 10, 11, 12, 13, 14] rfl rfl rfl rfl (by decide +kernel) (fun _ => rfl) rfl (by decide) (Nat.le_of_ble_eq_true rfl) dX7_days_39 (fun r39 => []) (fun _ => rfl) (fun r39 _ => ?_)
      refine G.aload_n dX7_days_42 rfl ?_
      refine G.callV (st := []) (w' := fun r43 => (w_X7 cI cL cC cM cS a r43.1 r43.2 t_tape t_typed t_place t_isFault t_readLamps t_read r39.1 r39.2 t_aside t_bays t_bests t_kept t_keptUndos t_isKept t_lanes t_sizes t_items t_moved)) mv_X7_goesBy lk_7_97 (c_X7_goesBy l D ks cI cL cC cM cS a t_now t_mores t_tape t_typed t_place t_isFault t_readLamps t_read r39.1 r39.2 t_aside t_bays t_bests t_kept t_keptUndos t_isKept t_lanes t_sizes t_items t_moved) [0, 1, 2, 3, 4, 5, 6, 7, 8, 9, 10, 11, 12, 13, 14] [] [0, 1, 2, 3, 4, 5, 6, 7, 8, 9, 10, 11, 12, 13, 14] rfl rfl rfl rfl (by decide +kernel) (fun _ => rfl) rfl (by decide) (Nat.le_of_ble_eq_true rfl) dX7_days_43 (fun r43 => []) (fun _ => rfl) (fun r43 _ => ?_)
      refine G.iinc 1 (lv' := [some (.ref (a 0)), some (.int x1), some (.int (x2 + 1))]) dX7_days_46 rfl (by decide) (by decide) (Nat.le_of_ble_eq_true rfl) rfl rfl ?_
      refine G.goto 33 dX7_days_49 (by decide) ?_
      exact ih r43.1 r43.2 r39.1 r39.2 x1 (x2 + 1)
set_option maxHeartbeats 4000000 in
set_option maxRecDepth 100000 in
theorem c_X7_days (l : Launch) (D : va_G) (ks : Nat × Nat) (cI cL cC cM cS : ClassId) (a : Nat → Nat) (t_now t_mores t_tape : Nat → Int32) (t_typed t_place t_isFault : Int32) (t_readLamps t_read t_undone : Nat → Int32) (t_undos : Int32) (t_aside t_bays t_bests t_kept : Nat → Int32) (t_keptUndos t_isKept : Int32) (t_lanes t_sizes : Nat → Int32) (t_items t_moved : Nat → Int64) (x1 : Int32) : MT l D ks (tyz cI cL cC cM cS) yX7_days cX7_days 3 ((some .int)) { frames := 6, cells := 0, slots := 0, locals := 132 } [.ref (a 0), .int x1] (w_X7 cI cL cC cM cS a t_now t_mores t_tape t_typed t_place t_isFault t_readLamps t_read t_undone t_undos t_aside t_bays t_bests t_kept t_keptUndos t_isKept t_lanes t_sizes t_items t_moved) (fun r : Int32 × (Nat → Int32) × (Nat → Int32) × (Nat → Int32) × Int32 => (some (.int r.1), (w_X7 cI cL cC cM cS a r.2.1 r.2.2.1 t_tape t_typed t_place t_isFault t_readLamps t_read r.2.2.2.1 r.2.2.2.2 t_aside t_bays t_bests t_kept t_keptUndos t_isKept t_lanes t_sizes t_items t_moved))) (f_X7_days t_now t_mores t_undone t_undos x1) := by
  refine MT.of 1 [some (.ref (a 0)), some (.int x1), none] (by decide) (Nat.le_of_ble_eq_true rfl) rfl ?_
  unfold f_X7_days
  refine G.iload_n dX7_days_0 rfl ?_
  refine G.i2l dX7_days_1 ?_
  refine G.lconst 1 dX7_days_2 (by decide) ?_
  refine G.ldc2 kl_7_165 dX7_days_3 ?_
  refine G.callS (st := []) (w' := fun r6 => (w_X7 cI cL cC cM cS a t_now t_mores t_tape t_typed t_place t_isFault t_readLamps t_read t_undone t_undos t_aside t_bays t_bests t_kept t_keptUndos t_isKept t_lanes t_sizes t_items t_moved)) ms_X7_in lk_7_53 (c_X7_in l D ks cI cL cC cM cS (x1.toInt64) 1 40) [] [0, 1, 2, 3, 4, 5, 6, 7, 8, 9, 10, 11, 12, 13, 14] [0, 1, 2, 3, 4, 5, 6, 7, 8, 9, 10, 11, 12, 13, 14] rfl rfl rfl rfl (by decide +kernel) (fun _ => rfl) (by decide) (Nat.le_of_ble_eq_true rfl) dX7_days_6 (fun r6 => [.int r6]) (fun _ => rfl) (fun r6 _ => ?_)
  refine G.if_ne 14 dX7_days_9 (by decide) (fun h9 => ?_) (fun h9 => ?_)
  · refine G.aload_n dX7_days_14 rfl ?_
    refine G.get fl_7_7 0 rfl rfl dX7_days_15 ?_
    refine G.iconst 1 dX7_days_18 (by decide) ?_
    refine G.iaload 1 0 rfl rfl 1 (by decide) (by decide) dX7_days_19 ?_
    refine G.topi (fun v19 => ?_)
    refine G.iload_n dX7_days_20 rfl ?_
    refine G.iadd dX7_days_21 ?_
    refine G.sipush 9999 dX7_days_22 (by decide) ?_
    refine G.icmp_le 31 dX7_days_25 (by decide) (fun h25 => ?_) (fun h25 => ?_)
    · refine G.iconst 0 dX7_days_31 (by decide) ?_
      refine G.istore_n (lv' := [some (.ref (a 0)), some (.int x1), some (.int 0)]) dX7_days_32 (by decide) (Nat.le_of_ble_eq_true rfl) rfl rfl ?_
      exact g_X7_days_c33 l D ks cI cL cC cM cS a t_tape t_typed t_place t_isFault t_readLamps t_read t_aside t_bays t_bests t_kept t_keptUndos t_isKept t_lanes t_sizes t_items t_moved fu t_now t_mores t_undone t_undos x1 0
    · refine G.bipush (-3) dX7_days_28 (by decide) ?_
      exact G.iret rfl rfl dX7_days_30
  · refine G.iconst (-1) dX7_days_12 (by decide) ?_
    exact G.iret rfl rfl dX7_days_13
set_option maxHeartbeats 4000000 in
set_option maxRecDepth 100000 in
theorem g_X7_sat_c4 (l : Launch) (D : va_G) (ks : Nat × Nat) (cI cL cC cM cS : ClassId) (a : Nat → Nat) (t_mores t_tape : Nat → Int32) (t_typed t_place t_isFault : Int32) (t_readLamps t_read t_undone : Nat → Int32) (t_undos : Int32) (t_aside t_bays t_bests t_kept : Nat → Int32) (t_keptUndos t_isKept : Int32) (t_lanes t_sizes : Nat → Int32) (t_items t_moved : Nat → Int64) : ∀ (n : Nat), ∀ (t_now : Nat → Int32) (x1 : Int32) (x2 : Int32), GJ l D ks (tyz cI cL cC cM cS) RX7 cX7_sat 3 ((some .int)) { frames := 2, cells := 0, slots := 0, locals := 43 } (fun r : Int32 => (some (.int r), (w_X7 cI cL cC cM cS a t_now t_mores t_tape t_typed t_place t_isFault t_readLamps t_read t_undone t_undos t_aside t_bays t_bests t_kept t_keptUndos t_isKept t_lanes t_sizes t_items t_moved))) (w_X7 cI cL cC cM cS a t_now t_mores t_tape t_typed t_place t_isFault t_readLamps t_read t_undone t_undos t_aside t_bays t_bests t_kept t_keptUndos t_isKept t_lanes t_sizes t_items t_moved) 4 [some (.ref (a 0)), some (.int x1), some (.int x2)] [] (f_X7_sat_c4 n t_now x1 x2) := by
  intro n
  induction n with
  | zero =>
    intro t_now x1 x2
    exact G.no
  | succ n ih =>
    intro t_now x1 x2
    rw [f_X7_sat_c4]
    refine G.iload_n dX7_sat_4 rfl ?_
    refine G.aload_n dX7_sat_5 rfl ?_
    refine G.get fl_7_7 0 rfl rfl dX7_sat_6 ?_
    refine G.iconst 0 dX7_sat_9 (by decide) ?_
    refine G.iaload 1 0 rfl rfl 0 (by decide) (by decide) dX7_sat_10 ?_
    refine G.topi (fun v10 => ?_)
    refine G.icmp_ge 30 dX7_sat_11 (by decide) (fun h11 => ?_) (fun h11 => ?_)
    · refine G.iload_n dX7_sat_30 rfl ?_
      exact G.iret rfl rfl dX7_sat_31
    · refine G.iload_n dX7_sat_14 rfl ?_
      refine G.iconst 1 dX7_sat_15 (by decide) ?_
      refine G.aload_n dX7_sat_16 rfl ?_
      refine G.iload_n dX7_sat_17 rfl ?_
      refine G.callV (st := [.int 1, .int x1]) (w' := fun r18 => (w_X7 cI cL cC cM cS a t_now t_mores t_tape t_typed t_place t_isFault t_readLamps t_read t_undone t_undos t_aside t_bays t_bests t_kept t_keptUndos t_isKept t_lanes t_sizes t_items t_moved)) mv_X7_bayOf lk_7_67 (c_X7_bayOf l D ks cI cL cC cM cS a t_now t_mores t_tape t_typed t_place t_isFault t_readLamps t_read t_undone t_undos t_aside t_bays t_bests t_kept t_keptUndos t_isKept t_lanes t_sizes t_items t_moved x2) [0, 1, 2, 3, 4, 5, 6, 7, 8, 9, 10, 11, 12, 13, 14] [] [0, 1, 2, 3, 4, 5, 6, 7, 8, 9, 10, 11, 12, 13, 14] rfl rfl rfl rfl (by decide +kernel) (fun _ => rfl) rfl (by decide) (Nat.le_of_ble_eq_true rfl) dX7_sat_18 (fun r18 => [.int r18, .int 1, .int x1]) (fun _ => rfl) (fun r18 _ => ?_)
      refine G.ishl dX7_sat_21 ?_
      refine G.ior dX7_sat_22 ?_
      refine G.istore_n (lv' := [some (.ref (a 0)), some (.int (x1 ||| (1 <<< (r18 &&& 31)))), some (.int x2)]) dX7_sat_23 (by decide) (Nat.le_of_ble_eq_true rfl) rfl rfl ?_
      refine G.iinc 1 (lv' := [some (.ref (a 0)), some (.int (x1 ||| (1 <<< (r18 &&& 31)))), some (.int (x2 + 1))]) dX7_sat_24 rfl (by decide) (by decide) (Nat.le_of_ble_eq_true rfl) rfl rfl ?_
      refine G.goto 4 dX7_sat_27 (by decide) ?_
      exact ih t_now (x1 ||| (1 <<< (r18 &&& 31))) (x2 + 1)
set_option maxHeartbeats 4000000 in
set_option maxRecDepth 100000 in
theorem c_X7_sat (l : Launch) (D : va_G) (ks : Nat × Nat) (cI cL cC cM cS : ClassId) (a : Nat → Nat) (t_now t_mores t_tape : Nat → Int32) (t_typed t_place t_isFault : Int32) (t_readLamps t_read t_undone : Nat → Int32) (t_undos : Int32) (t_aside t_bays t_bests t_kept : Nat → Int32) (t_keptUndos t_isKept : Int32) (t_lanes t_sizes : Nat → Int32) (t_items t_moved : Nat → Int64) : MT l D ks (tyz cI cL cC cM cS) yX7_sat cX7_sat 3 ((some .int)) { frames := 2, cells := 0, slots := 0, locals := 43 } [.ref (a 0)] (w_X7 cI cL cC cM cS a t_now t_mores t_tape t_typed t_place t_isFault t_readLamps t_read t_undone t_undos t_aside t_bays t_bests t_kept t_keptUndos t_isKept t_lanes t_sizes t_items t_moved) (fun r : Int32 => (some (.int r), (w_X7 cI cL cC cM cS a t_now t_mores t_tape t_typed t_place t_isFault t_readLamps t_read t_undone t_undos t_aside t_bays t_bests t_kept t_keptUndos t_isKept t_lanes t_sizes t_items t_moved))) (f_X7_sat t_now) := by
  refine MT.of 2 [some (.ref (a 0)), none, none] (by decide) (Nat.le_of_ble_eq_true rfl) rfl ?_
  unfold f_X7_sat
  refine G.iconst 0 dX7_sat_0 (by decide) ?_
  refine G.istore_n (lv' := [some (.ref (a 0)), some (.int 0), none]) dX7_sat_1 (by decide) (Nat.le_of_ble_eq_true rfl) rfl rfl ?_
  refine G.iconst 0 dX7_sat_2 (by decide) ?_
  refine G.istore_n (lv' := [some (.ref (a 0)), some (.int 0), some (.int 0)]) dX7_sat_3 (by decide) (Nat.le_of_ble_eq_true rfl) rfl rfl ?_
  exact g_X7_sat_c4 l D ks cI cL cC cM cS a t_mores t_tape t_typed t_place t_isFault t_readLamps t_read t_undone t_undos t_aside t_bays t_bests t_kept t_keptUndos t_isKept t_lanes t_sizes t_items t_moved fu t_now 0 0
set_option maxHeartbeats 4000000 in
set_option maxRecDepth 100000 in
theorem g_X7_deals_c207 (l : Launch) (D : va_G) (ks : Nat × Nat) (cI cL cC cM cS : ClassId) (a : Nat → Nat) (t_tape : Nat → Int32) (t_typed t_place t_isFault : Int32) (t_readLamps t_read t_undone : Nat → Int32) (t_undos : Int32) (t_kept : Nat → Int32) (t_keptUndos t_isKept : Int32) (t_lanes t_sizes : Nat → Int32) (t_items t_moved : Nat → Int64) (k22 : (Nat → Int32) → (Nat → Int32) → (Nat → Int32) → (Nat → Int32) → (Nat → Int32) → Int32 → Int32 → Int32 → Int32 → Int32 → Int32 → (Option (Int32 × (Nat → Int32) × (Nat → Int32) × (Nat → Int32) × (Nat → Int32) × (Nat → Int32)))) (hk22 : ∀ (t_now t_mores t_aside t_bays t_bests : Nat → Int32) (x1 : Int32) (x2 : Int32) (x3 : Int32) (x4 : Int32) (x5 : Int32) (x6 : Int32), GJ l D ks (tyz cI cL cC cM cS) RX7 cX7_deals 11 ((some .int)) { frames := 7, cells := 0, slots := 0, locals := 154 } (fun r : Int32 × (Nat → Int32) × (Nat → Int32) × (Nat → Int32) × (Nat → Int32) × (Nat → Int32) => (some (.int r.1), (w_X7 cI cL cC cM cS a r.2.1 r.2.2.1 t_tape t_typed t_place t_isFault t_readLamps t_read t_undone t_undos r.2.2.2.1 r.2.2.2.2.1 r.2.2.2.2.2 t_kept t_keptUndos t_isKept t_lanes t_sizes t_items t_moved))) (w_X7 cI cL cC cM cS a t_now t_mores t_tape t_typed t_place t_isFault t_readLamps t_read t_undone t_undos t_aside t_bays t_bests t_kept t_keptUndos t_isKept t_lanes t_sizes t_items t_moved) 22 [some (.ref (a 0)), some (.int x1), some (.int x2), some (.int x3), some (.int x4), some (.int x5), some (.int x6), none, none, none, none] [] (k22 t_now t_mores t_aside t_bays t_bests x1 x2 x3 x4 x5 x6)) (t_now t_mores t_aside t_bays t_bests : Nat → Int32) (x1 : Int32) (x2 : Int32) (x3 : Int32) (x4 : Int32) (x5 : Int32) (x6 : Int32) : GJ l D ks (tyz cI cL cC cM cS) RX7 cX7_deals 11 ((some .int)) { frames := 7, cells := 0, slots := 0, locals := 154 } (fun r : Int32 × (Nat → Int32) × (Nat → Int32) × (Nat → Int32) × (Nat → Int32) × (Nat → Int32) => (some (.int r.1), (w_X7 cI cL cC cM cS a r.2.1 r.2.2.1 t_tape t_typed t_place t_isFault t_readLamps t_read t_undone t_undos r.2.2.2.1 r.2.2.2.2.1 r.2.2.2.2.2 t_kept t_keptUndos t_isKept t_lanes t_sizes t_items t_moved))) (w_X7 cI cL cC cM cS a t_now t_mores t_tape t_typed t_place t_isFault t_readLamps t_read t_undone t_undos t_aside t_bays t_bests t_kept t_keptUndos t_isKept t_lanes t_sizes t_items t_moved) 207 [some (.ref (a 0)), some (.int x1), some (.int x2), some (.int x3), some (.int x4), some (.int x5), some (.int x6), none, none, none, none] [] (f_X7_deals_c207 k22 t_now t_mores t_aside t_bays t_bests x1 x2 x3 x4 x5 x6) := by
  unfold f_X7_deals_c207
  refine G.iinc 1 (lv' := [some (.ref (a 0)), some (.int x1), some (.int x2), some (.int x3), some (.int x4), some (.int x5), some (.int (x6 + 1)), none, none, none, none]) dX7_deals_207 rfl (by decide) (by decide) (Nat.le_of_ble_eq_true rfl) rfl rfl ?_
  refine G.goto 22 dX7_deals_210 (by decide) ?_
  exact hk22 t_now t_mores t_aside t_bays t_bests x1 x2 x3 x4 x5 (x6 + 1)
set_option maxHeartbeats 4000000 in
set_option maxRecDepth 100000 in
theorem g_X7_deals_c191 (l : Launch) (D : va_G) (ks : Nat × Nat) (cI cL cC cM cS : ClassId) (a : Nat → Nat) (t_tape : Nat → Int32) (t_typed t_place t_isFault : Int32) (t_readLamps t_read t_undone : Nat → Int32) (t_undos : Int32) (t_kept : Nat → Int32) (t_keptUndos t_isKept : Int32) (t_lanes t_sizes : Nat → Int32) (t_items t_moved : Nat → Int64) (k22 : (Nat → Int32) → (Nat → Int32) → (Nat → Int32) → (Nat → Int32) → (Nat → Int32) → Int32 → Int32 → Int32 → Int32 → Int32 → Int32 → (Option (Int32 × (Nat → Int32) × (Nat → Int32) × (Nat → Int32) × (Nat → Int32) × (Nat → Int32)))) (hk22 : ∀ (t_now t_mores t_aside t_bays t_bests : Nat → Int32) (x1 : Int32) (x2 : Int32) (x3 : Int32) (x4 : Int32) (x5 : Int32) (x6 : Int32), GJ l D ks (tyz cI cL cC cM cS) RX7 cX7_deals 11 ((some .int)) { frames := 7, cells := 0, slots := 0, locals := 154 } (fun r : Int32 × (Nat → Int32) × (Nat → Int32) × (Nat → Int32) × (Nat → Int32) × (Nat → Int32) => (some (.int r.1), (w_X7 cI cL cC cM cS a r.2.1 r.2.2.1 t_tape t_typed t_place t_isFault t_readLamps t_read t_undone t_undos r.2.2.2.1 r.2.2.2.2.1 r.2.2.2.2.2 t_kept t_keptUndos t_isKept t_lanes t_sizes t_items t_moved))) (w_X7 cI cL cC cM cS a t_now t_mores t_tape t_typed t_place t_isFault t_readLamps t_read t_undone t_undos t_aside t_bays t_bests t_kept t_keptUndos t_isKept t_lanes t_sizes t_items t_moved) 22 [some (.ref (a 0)), some (.int x1), some (.int x2), some (.int x3), some (.int x4), some (.int x5), some (.int x6), none, none, none, none] [] (k22 t_now t_mores t_aside t_bays t_bests x1 x2 x3 x4 x5 x6)) (t_now t_mores t_aside t_bays t_bests : Nat → Int32) (x1 : Int32) (x2 : Int32) (x3 : Int32) (x4 : Int32) (x5 : Int32) (x6 : Int32) (x9 : Int32) : GJ l D ks (tyz cI cL cC cM cS) RX7 cX7_deals 11 ((some .int)) { frames := 7, cells := 0, slots := 0, locals := 154 } (fun r : Int32 × (Nat → Int32) × (Nat → Int32) × (Nat → Int32) × (Nat → Int32) × (Nat → Int32) => (some (.int r.1), (w_X7 cI cL cC cM cS a r.2.1 r.2.2.1 t_tape t_typed t_place t_isFault t_readLamps t_read t_undone t_undos r.2.2.2.1 r.2.2.2.2.1 r.2.2.2.2.2 t_kept t_keptUndos t_isKept t_lanes t_sizes t_items t_moved))) (w_X7 cI cL cC cM cS a t_now t_mores t_tape t_typed t_place t_isFault t_readLamps t_read t_undone t_undos t_aside t_bays t_bests t_kept t_keptUndos t_isKept t_lanes t_sizes t_items t_moved) 191 [some (.ref (a 0)), some (.int x1), some (.int x2), some (.int x3), some (.int x4), some (.int x5), some (.int x6), none, none, some (.int x9), none] [] (f_X7_deals_c191 k22 t_now t_mores t_aside t_bays t_bests x1 x2 x3 x4 x5 x6 x9) := by
  unfold f_X7_deals_c191
  refine G.iload dX7_deals_191 rfl ?_
  refine G.iload dX7_deals_193 rfl ?_
  refine G.join (st := []) Value.int 205 (fun v205 => ?_) (fun hJ => ?_)
  · refine G.istore (lv' := [some (.ref (a 0)), some (.int x1), some (.int x2), some (.int x3), some (.int x4), some (.int v205), some (.int x6), none, none, some (.int x9), none]) dX7_deals_205 (by decide) (Nat.le_of_ble_eq_true rfl) rfl rfl ?_
    refine G.mask (lv' := [some (.ref (a 0)), some (.int x1), some (.int x2), some (.int x3), some (.int x4), some (.int v205), some (.int x6), none, none, none, none]) [true, true, true, true, true, true, true, false, false, false, false] rfl ?_
    exact g_X7_deals_c207 l D ks cI cL cC cM cS a t_tape t_typed t_place t_isFault t_readLamps t_read t_undone t_undos t_kept t_keptUndos t_isKept t_lanes t_sizes t_items t_moved k22 hk22 t_now t_mores t_aside t_bays t_bests x1 x2 x3 x4 v205 x6
  · refine G.ite ?_
    refine G.icmp_ge 203 dX7_deals_195 (by decide) (fun _ => ?_) (fun _ => ?_)
    · refine G.iload dX7_deals_203 rfl ?_
      exact hJ _
    · refine G.iload dX7_deals_198 rfl ?_
      refine G.goto 205 dX7_deals_200 (by decide) ?_
      exact hJ _
set_option maxHeartbeats 4000000 in
set_option maxRecDepth 100000 in
theorem g_X7_deals_c157 (l : Launch) (D : va_G) (ks : Nat × Nat) (cI cL cC cM cS : ClassId) (a : Nat → Nat) (t_tape : Nat → Int32) (t_typed t_place t_isFault : Int32) (t_readLamps t_read t_undone : Nat → Int32) (t_undos : Int32) (t_kept : Nat → Int32) (t_keptUndos t_isKept : Int32) (t_lanes t_sizes : Nat → Int32) (t_items t_moved : Nat → Int64) (k22 : (Nat → Int32) → (Nat → Int32) → (Nat → Int32) → (Nat → Int32) → (Nat → Int32) → Int32 → Int32 → Int32 → Int32 → Int32 → Int32 → (Option (Int32 × (Nat → Int32) × (Nat → Int32) × (Nat → Int32) × (Nat → Int32) × (Nat → Int32)))) (hk22 : ∀ (t_now t_mores t_aside t_bays t_bests : Nat → Int32) (x1 : Int32) (x2 : Int32) (x3 : Int32) (x4 : Int32) (x5 : Int32) (x6 : Int32), GJ l D ks (tyz cI cL cC cM cS) RX7 cX7_deals 11 ((some .int)) { frames := 7, cells := 0, slots := 0, locals := 154 } (fun r : Int32 × (Nat → Int32) × (Nat → Int32) × (Nat → Int32) × (Nat → Int32) × (Nat → Int32) => (some (.int r.1), (w_X7 cI cL cC cM cS a r.2.1 r.2.2.1 t_tape t_typed t_place t_isFault t_readLamps t_read t_undone t_undos r.2.2.2.1 r.2.2.2.2.1 r.2.2.2.2.2 t_kept t_keptUndos t_isKept t_lanes t_sizes t_items t_moved))) (w_X7 cI cL cC cM cS a t_now t_mores t_tape t_typed t_place t_isFault t_readLamps t_read t_undone t_undos t_aside t_bays t_bests t_kept t_keptUndos t_isKept t_lanes t_sizes t_items t_moved) 22 [some (.ref (a 0)), some (.int x1), some (.int x2), some (.int x3), some (.int x4), some (.int x5), some (.int x6), none, none, none, none] [] (k22 t_now t_mores t_aside t_bays t_bests x1 x2 x3 x4 x5 x6)) : ∀ (n : Nat), ∀ (t_now t_mores t_aside t_bays t_bests : Nat → Int32) (x1 : Int32) (x2 : Int32) (x3 : Int32) (x4 : Int32) (x5 : Int32) (x6 : Int32) (x9 : Int32) (x10 : Int32), GJ l D ks (tyz cI cL cC cM cS) RX7 cX7_deals 11 ((some .int)) { frames := 7, cells := 0, slots := 0, locals := 154 } (fun r : Int32 × (Nat → Int32) × (Nat → Int32) × (Nat → Int32) × (Nat → Int32) × (Nat → Int32) => (some (.int r.1), (w_X7 cI cL cC cM cS a r.2.1 r.2.2.1 t_tape t_typed t_place t_isFault t_readLamps t_read t_undone t_undos r.2.2.2.1 r.2.2.2.2.1 r.2.2.2.2.2 t_kept t_keptUndos t_isKept t_lanes t_sizes t_items t_moved))) (w_X7 cI cL cC cM cS a t_now t_mores t_tape t_typed t_place t_isFault t_readLamps t_read t_undone t_undos t_aside t_bays t_bests t_kept t_keptUndos t_isKept t_lanes t_sizes t_items t_moved) 157 [some (.ref (a 0)), some (.int x1), some (.int x2), some (.int x3), some (.int x4), some (.int x5), some (.int x6), none, none, some (.int x9), some (.int x10)] [] (f_X7_deals_c157 k22 n t_now t_mores t_aside t_bays t_bests x1 x2 x3 x4 x5 x6 x9 x10) := by
  intro n
  induction n with
  | zero =>
    intro t_now t_mores t_aside t_bays t_bests x1 x2 x3 x4 x5 x6 x9 x10
    exact G.no
  | succ n ih =>
    intro t_now t_mores t_aside t_bays t_bests x1 x2 x3 x4 x5 x6 x9 x10
    rw [f_X7_deals_c157]
    refine G.iload dX7_deals_157 rfl ?_
    refine G.bipush 6 dX7_deals_159 (by decide) ?_
    refine G.icmp_ge 191 dX7_deals_161 (by decide) (fun h161 => ?_) (fun h161 => ?_)
    · refine G.mask (lv' := [some (.ref (a 0)), some (.int x1), some (.int x2), some (.int x3), some (.int x4), some (.int x5), some (.int x6), none, none, some (.int x9), none]) [true, true, true, true, true, true, true, false, false, true, false] rfl ?_
      exact g_X7_deals_c191 l D ks cI cL cC cM cS a t_tape t_typed t_place t_isFault t_readLamps t_read t_undone t_undos t_kept t_keptUndos t_isKept t_lanes t_sizes t_items t_moved k22 hk22 t_now t_mores t_aside t_bays t_bests x1 x2 x3 x4 x5 x6 x9
    · refine G.iload dX7_deals_164 rfl ?_
      refine G.iload dX7_deals_166 rfl ?_
      refine G.icmp_ge 191 dX7_deals_168 (by decide) (fun h168 => ?_) (fun h168 => ?_)
      · refine G.mask (lv' := [some (.ref (a 0)), some (.int x1), some (.int x2), some (.int x3), some (.int x4), some (.int x5), some (.int x6), none, none, some (.int x9), none]) [true, true, true, true, true, true, true, false, false, true, false] rfl ?_
        exact g_X7_deals_c191 l D ks cI cL cC cM cS a t_tape t_typed t_place t_isFault t_readLamps t_read t_undone t_undos t_kept t_keptUndos t_isKept t_lanes t_sizes t_items t_moved k22 hk22 t_now t_mores t_aside t_bays t_bests x1 x2 x3 x4 x5 x6 x9
      · refine G.aload_n dX7_deals_171 rfl ?_
        refine G.get fl_7_34 0 rfl rfl dX7_deals_172 ?_
        refine G.iload dX7_deals_175 rfl ?_
        refine G.aload_n dX7_deals_177 rfl ?_
        refine G.get fl_7_31 0 rfl rfl dX7_deals_178 ?_
        refine G.iload dX7_deals_181 rfl ?_
        refine G.chk (fun h183 => ?_)
        refine G.iaload 8 0 rfl rfl x10.toNatClampNeg rfl h183 dX7_deals_183 ?_
        refine G.topi (fun v183 => ?_)
        refine G.iastore (w' := (w_X7 cI cL cC cM cS a t_now t_mores t_tape t_typed t_place t_isFault t_readLamps t_read t_undone t_undos t_aside t_bays (upd t_bests x10.toNatClampNeg v183) t_kept t_keptUndos t_isKept t_lanes t_sizes t_items t_moved)) 9 0 rfl rfl x10.toNatClampNeg rfl h183 rfl dX7_deals_184 ?_
        refine G.iinc 1 (lv' := [some (.ref (a 0)), some (.int x1), some (.int x2), some (.int x3), some (.int x4), some (.int x5), some (.int x6), none, none, some (.int x9), some (.int (x10 + 1))]) dX7_deals_185 rfl (by decide) (by decide) (Nat.le_of_ble_eq_true rfl) rfl rfl ?_
        refine G.goto 157 dX7_deals_188 (by decide) ?_
        exact ih t_now t_mores t_aside t_bays (upd t_bests x10.toNatClampNeg v183) x1 x2 x3 x4 x5 x6 x9 (x10 + 1)
set_option maxHeartbeats 4000000 in
set_option maxRecDepth 100000 in
theorem g_X7_deals_c148 (l : Launch) (D : va_G) (ks : Nat × Nat) (cI cL cC cM cS : ClassId) (a : Nat → Nat) (t_tape : Nat → Int32) (t_typed t_place t_isFault : Int32) (t_readLamps t_read t_undone : Nat → Int32) (t_undos : Int32) (t_kept : Nat → Int32) (t_keptUndos t_isKept : Int32) (t_lanes t_sizes : Nat → Int32) (t_items t_moved : Nat → Int64) (k22 : (Nat → Int32) → (Nat → Int32) → (Nat → Int32) → (Nat → Int32) → (Nat → Int32) → Int32 → Int32 → Int32 → Int32 → Int32 → Int32 → (Option (Int32 × (Nat → Int32) × (Nat → Int32) × (Nat → Int32) × (Nat → Int32) × (Nat → Int32)))) (hk22 : ∀ (t_now t_mores t_aside t_bays t_bests : Nat → Int32) (x1 : Int32) (x2 : Int32) (x3 : Int32) (x4 : Int32) (x5 : Int32) (x6 : Int32), GJ l D ks (tyz cI cL cC cM cS) RX7 cX7_deals 11 ((some .int)) { frames := 7, cells := 0, slots := 0, locals := 154 } (fun r : Int32 × (Nat → Int32) × (Nat → Int32) × (Nat → Int32) × (Nat → Int32) × (Nat → Int32) => (some (.int r.1), (w_X7 cI cL cC cM cS a r.2.1 r.2.2.1 t_tape t_typed t_place t_isFault t_readLamps t_read t_undone t_undos r.2.2.2.1 r.2.2.2.2.1 r.2.2.2.2.2 t_kept t_keptUndos t_isKept t_lanes t_sizes t_items t_moved))) (w_X7 cI cL cC cM cS a t_now t_mores t_tape t_typed t_place t_isFault t_readLamps t_read t_undone t_undos t_aside t_bays t_bests t_kept t_keptUndos t_isKept t_lanes t_sizes t_items t_moved) 22 [some (.ref (a 0)), some (.int x1), some (.int x2), some (.int x3), some (.int x4), some (.int x5), some (.int x6), none, none, none, none] [] (k22 t_now t_mores t_aside t_bays t_bests x1 x2 x3 x4 x5 x6)) (t_now t_mores t_aside t_bays t_bests : Nat → Int32) (x1 : Int32) (x2 : Int32) (x3 : Int32) (x4 : Int32) (x5 : Int32) (x6 : Int32) (s0 : Int32) : GJ l D ks (tyz cI cL cC cM cS) RX7 cX7_deals 11 ((some .int)) { frames := 7, cells := 0, slots := 0, locals := 154 } (fun r : Int32 × (Nat → Int32) × (Nat → Int32) × (Nat → Int32) × (Nat → Int32) × (Nat → Int32) => (some (.int r.1), (w_X7 cI cL cC cM cS a r.2.1 r.2.2.1 t_tape t_typed t_place t_isFault t_readLamps t_read t_undone t_undos r.2.2.2.1 r.2.2.2.2.1 r.2.2.2.2.2 t_kept t_keptUndos t_isKept t_lanes t_sizes t_items t_moved))) (w_X7 cI cL cC cM cS a t_now t_mores t_tape t_typed t_place t_isFault t_readLamps t_read t_undone t_undos t_aside t_bays t_bests t_kept t_keptUndos t_isKept t_lanes t_sizes t_items t_moved) 148 [some (.ref (a 0)), some (.int x1), some (.int x2), some (.int x3), some (.int x4), some (.int x5), some (.int x6), none, none, none, none] [.int s0] (f_X7_deals_c148 k22 t_now t_mores t_aside t_bays t_bests x1 x2 x3 x4 x5 x6 s0) := by
  unfold f_X7_deals_c148
  refine G.istore (lv' := [some (.ref (a 0)), some (.int x1), some (.int x2), some (.int x3), some (.int x4), some (.int x5), some (.int x6), none, none, some (.int s0), none]) dX7_deals_148 (by decide) (Nat.le_of_ble_eq_true rfl) rfl rfl ?_
  refine G.aload_n dX7_deals_150 rfl ?_
  refine G.callV (st := []) (w' := fun r151 => (w_X7 cI cL cC cM cS a r151 t_mores t_tape t_typed t_place t_isFault t_readLamps t_read t_undone t_undos t_aside t_bays t_bests t_kept t_keptUndos t_isKept t_lanes t_sizes t_items t_moved)) mv_X7_backs lk_7_193 (c_X7_backs l D ks cI cL cC cM cS a t_now t_mores t_tape t_typed t_place t_isFault t_readLamps t_read t_undone t_undos t_aside t_bays t_bests t_kept t_keptUndos t_isKept t_lanes t_sizes t_items t_moved) [0, 1, 2, 3, 4, 5, 6, 7, 8, 9, 10, 11, 12, 13, 14] [] [0, 1, 2, 3, 4, 5, 6, 7, 8, 9, 10, 11, 12, 13, 14] rfl rfl rfl rfl (by decide +kernel) (fun _ => rfl) rfl (by decide) (Nat.le_of_ble_eq_true rfl) dX7_deals_151 (fun r151 => []) (fun _ => rfl) (fun r151 _ => ?_)
  refine G.iconst 0 dX7_deals_154 (by decide) ?_
  refine G.istore (lv' := [some (.ref (a 0)), some (.int x1), some (.int x2), some (.int x3), some (.int x4), some (.int x5), some (.int x6), none, none, some (.int s0), some (.int 0)]) dX7_deals_155 (by decide) (Nat.le_of_ble_eq_true rfl) rfl rfl ?_
  exact g_X7_deals_c157 l D ks cI cL cC cM cS a t_tape t_typed t_place t_isFault t_readLamps t_read t_undone t_undos t_kept t_keptUndos t_isKept t_lanes t_sizes t_items t_moved k22 hk22 fu r151 t_mores t_aside t_bays t_bests x1 x2 x3 x4 x5 x6 s0 0
set_option maxHeartbeats 4000000 in
set_option maxRecDepth 100000 in
theorem g_X7_deals_c88 (l : Launch) (D : va_G) (ks : Nat × Nat) (cI cL cC cM cS : ClassId) (a : Nat → Nat) (t_tape : Nat → Int32) (t_typed t_place t_isFault : Int32) (t_readLamps t_read t_undone : Nat → Int32) (t_undos : Int32) (t_kept : Nat → Int32) (t_keptUndos t_isKept : Int32) (t_lanes t_sizes : Nat → Int32) (t_items t_moved : Nat → Int64) (k22 : (Nat → Int32) → (Nat → Int32) → (Nat → Int32) → (Nat → Int32) → (Nat → Int32) → Int32 → Int32 → Int32 → Int32 → Int32 → Int32 → (Option (Int32 × (Nat → Int32) × (Nat → Int32) × (Nat → Int32) × (Nat → Int32) × (Nat → Int32)))) (hk22 : ∀ (t_now t_mores t_aside t_bays t_bests : Nat → Int32) (x1 : Int32) (x2 : Int32) (x3 : Int32) (x4 : Int32) (x5 : Int32) (x6 : Int32), GJ l D ks (tyz cI cL cC cM cS) RX7 cX7_deals 11 ((some .int)) { frames := 7, cells := 0, slots := 0, locals := 154 } (fun r : Int32 × (Nat → Int32) × (Nat → Int32) × (Nat → Int32) × (Nat → Int32) × (Nat → Int32) => (some (.int r.1), (w_X7 cI cL cC cM cS a r.2.1 r.2.2.1 t_tape t_typed t_place t_isFault t_readLamps t_read t_undone t_undos r.2.2.2.1 r.2.2.2.2.1 r.2.2.2.2.2 t_kept t_keptUndos t_isKept t_lanes t_sizes t_items t_moved))) (w_X7 cI cL cC cM cS a t_now t_mores t_tape t_typed t_place t_isFault t_readLamps t_read t_undone t_undos t_aside t_bays t_bests t_kept t_keptUndos t_isKept t_lanes t_sizes t_items t_moved) 22 [some (.ref (a 0)), some (.int x1), some (.int x2), some (.int x3), some (.int x4), some (.int x5), some (.int x6), none, none, none, none] [] (k22 t_now t_mores t_aside t_bays t_bests x1 x2 x3 x4 x5 x6)) : ∀ (n : Nat), ∀ (t_now t_mores t_aside t_bays t_bests : Nat → Int32) (x1 : Int32) (x2 : Int32) (x3 : Int32) (x4 : Int32) (x5 : Int32) (x6 : Int32) (x9 : Int32), GJ l D ks (tyz cI cL cC cM cS) RX7 cX7_deals 11 ((some .int)) { frames := 7, cells := 0, slots := 0, locals := 154 } (fun r : Int32 × (Nat → Int32) × (Nat → Int32) × (Nat → Int32) × (Nat → Int32) × (Nat → Int32) => (some (.int r.1), (w_X7 cI cL cC cM cS a r.2.1 r.2.2.1 t_tape t_typed t_place t_isFault t_readLamps t_read t_undone t_undos r.2.2.2.1 r.2.2.2.2.1 r.2.2.2.2.2 t_kept t_keptUndos t_isKept t_lanes t_sizes t_items t_moved))) (w_X7 cI cL cC cM cS a t_now t_mores t_tape t_typed t_place t_isFault t_readLamps t_read t_undone t_undos t_aside t_bays t_bests t_kept t_keptUndos t_isKept t_lanes t_sizes t_items t_moved) 88 [some (.ref (a 0)), some (.int x1), some (.int x2), some (.int x3), some (.int x4), some (.int x5), some (.int x6), none, none, some (.int x9), none] [] (f_X7_deals_c88 k22 n t_now t_mores t_aside t_bays t_bests x1 x2 x3 x4 x5 x6 x9) := by
  intro n
  induction n with
  | zero =>
    intro t_now t_mores t_aside t_bays t_bests x1 x2 x3 x4 x5 x6 x9
    exact G.no
  | succ n ih =>
    intro t_now t_mores t_aside t_bays t_bests x1 x2 x3 x4 x5 x6 x9
    rw [f_X7_deals_c88]
    refine G.iload dX7_deals_88 rfl ?_
    refine G.aload_n dX7_deals_90 rfl ?_
    refine G.get fl_7_7 0 rfl rfl dX7_deals_91 ?_
    refine G.iconst 0 dX7_deals_94 (by decide) ?_
    refine G.iaload 1 0 rfl rfl 0 (by decide) (by decide) dX7_deals_95 ?_
    refine G.topi (fun v95 => ?_)
    refine G.icmp_ge 118 dX7_deals_96 (by decide) (fun h96 => ?_) (fun h96 => ?_)
    · refine G.aload_n dX7_deals_118 rfl ?_
      refine G.iload_n dX7_deals_119 rfl ?_
      refine G.callV (st := []) (w' := fun r120 => (w_X7 cI cL cC cM cS a r120.1 r120.2 t_tape t_typed t_place t_isFault t_readLamps t_read t_undone t_undos t_aside t_bays t_bests t_kept t_keptUndos t_isKept t_lanes t_sizes t_items t_moved)) mv_X7_goesOn lk_7_190 (c_X7_goesOn l D ks cI cL cC cM cS a t_now t_mores t_tape t_typed t_place t_isFault t_readLamps t_read t_undone t_undos t_aside t_bays t_bests t_kept t_keptUndos t_isKept t_lanes t_sizes t_items t_moved x2) [0, 1, 2, 3, 4, 5, 6, 7, 8, 9, 10, 11, 12, 13, 14] [] [0, 1, 2, 3, 4, 5, 6, 7, 8, 9, 10, 11, 12, 13, 14] rfl rfl rfl rfl (by decide +kernel) (fun _ => rfl) rfl (by decide) (Nat.le_of_ble_eq_true rfl) dX7_deals_120 (fun r120 => []) (fun _ => rfl) (fun r120 _ => ?_)
      refine G.iload_n dX7_deals_123 rfl ?_
      refine G.if_ge 143 dX7_deals_124 (by decide) (fun h124 => ?_) (fun h124 => ?_)
      · refine G.aload_n dX7_deals_143 rfl ?_
        refine G.iload_n dX7_deals_144 rfl ?_
        refine G.callV (st := []) (w' := fun r145 => (w_X7 cI cL cC cM cS a r120.1 r120.2 t_tape t_typed t_place t_isFault t_readLamps t_read t_undone t_undos t_aside t_bays t_bests t_kept t_keptUndos t_isKept t_lanes t_sizes t_items t_moved)) mv_X7_used lk_7_63 (c_X7_used l D ks cI cL cC cM cS a r120.1 r120.2 t_tape t_typed t_place t_isFault t_readLamps t_read t_undone t_undos t_aside t_bays t_bests t_kept t_keptUndos t_isKept t_lanes t_sizes t_items t_moved x1) [0, 1, 2, 3, 4, 5, 6, 7, 8, 9, 10, 11, 12, 13, 14] [] [0, 1, 2, 3, 4, 5, 6, 7, 8, 9, 10, 11, 12, 13, 14] rfl rfl rfl rfl (by decide +kernel) (fun _ => rfl) rfl (by decide) (Nat.le_of_ble_eq_true rfl) dX7_deals_145 (fun r145 => [.int r145]) (fun _ => rfl) (fun r145 _ => ?_)
        refine G.mask (lv' := [some (.ref (a 0)), some (.int x1), some (.int x2), some (.int x3), some (.int x4), some (.int x5), some (.int x6), none, none, none, none]) [true, true, true, true, true, true, true, false, false, false, false] rfl ?_
        exact g_X7_deals_c148 l D ks cI cL cC cM cS a t_tape t_typed t_place t_isFault t_readLamps t_read t_undone t_undos t_kept t_keptUndos t_isKept t_lanes t_sizes t_items t_moved k22 hk22 r120.1 r120.2 t_aside t_bays t_bests x1 x2 x3 x4 x5 x6 r145
      · refine G.aload_n dX7_deals_127 rfl ?_
        refine G.get fl_7_28 0 rfl rfl dX7_deals_128 ?_
        refine G.iconst 2 dX7_deals_131 (by decide) ?_
        refine G.iaload 7 0 rfl rfl 2 (by decide) (by decide) dX7_deals_132 ?_
        refine G.topi (fun v132 => ?_)
        refine G.aload_n dX7_deals_133 rfl ?_
        refine G.get fl_7_7 0 rfl rfl dX7_deals_134 ?_
        refine G.iconst 2 dX7_deals_137 (by decide) ?_
        refine G.iaload 1 0 rfl rfl 2 (by decide) (by decide) dX7_deals_138 ?_
        refine G.topi (fun v138 => ?_)
        refine G.isub dX7_deals_139 ?_
        refine G.goto 148 dX7_deals_140 (by decide) ?_
        refine G.mask (lv' := [some (.ref (a 0)), some (.int x1), some (.int x2), some (.int x3), some (.int x4), some (.int x5), some (.int x6), none, none, none, none]) [true, true, true, true, true, true, true, false, false, false, false] rfl ?_
        exact g_X7_deals_c148 l D ks cI cL cC cM cS a t_tape t_typed t_place t_isFault t_readLamps t_read t_undone t_undos t_kept t_keptUndos t_isKept t_lanes t_sizes t_items t_moved k22 hk22 r120.1 r120.2 t_aside t_bays t_bests x1 x2 x3 x4 x5 x6 (v132 - v138)
    · refine G.aload_n dX7_deals_99 rfl ?_
      refine G.iload dX7_deals_100 rfl ?_
      refine G.aload_n dX7_deals_102 rfl ?_
      refine G.get fl_7_31 0 rfl rfl dX7_deals_103 ?_
      refine G.iload dX7_deals_106 rfl ?_
      refine G.chk (fun h108 => ?_)
      refine G.iaload 8 0 rfl rfl x9.toNatClampNeg rfl h108 dX7_deals_108 ?_
      refine G.topi (fun v108 => ?_)
      refine G.callV (st := []) (w' := fun r109 => (w_X7 cI cL cC cM cS a r109 t_mores t_tape t_typed t_place t_isFault t_readLamps t_read t_undone t_undos t_aside t_bays t_bests t_kept t_keptUndos t_isKept t_lanes t_sizes t_items t_moved)) mv_X7_sits lk_7_170 (c_X7_sits l D ks cI cL cC cM cS a t_now t_mores t_tape t_typed t_place t_isFault t_readLamps t_read t_undone t_undos t_aside t_bays t_bests t_kept t_keptUndos t_isKept t_lanes t_sizes t_items t_moved x9 v108) [0, 1, 2, 3, 4, 5, 6, 7, 8, 9, 10, 11, 12, 13, 14] [] [0, 1, 2, 3, 4, 5, 6, 7, 8, 9, 10, 11, 12, 13, 14] rfl rfl rfl rfl (by decide +kernel) (fun _ => rfl) rfl (by decide) (Nat.le_of_ble_eq_true rfl) dX7_deals_109 (fun r109 => []) (fun _ => rfl) (fun r109 _ => ?_)
      refine G.iinc 1 (lv' := [some (.ref (a 0)), some (.int x1), some (.int x2), some (.int x3), some (.int x4), some (.int x5), some (.int x6), none, none, some (.int (x9 + 1)), none]) dX7_deals_112 rfl (by decide) (by decide) (Nat.le_of_ble_eq_true rfl) rfl rfl ?_
      refine G.goto 88 dX7_deals_115 (by decide) ?_
      exact ih r109 t_mores t_aside t_bays t_bests x1 x2 x3 x4 x5 x6 (x9 + 1)
set_option maxHeartbeats 4000000 in
set_option maxRecDepth 100000 in
theorem g_X7_deals_c43 (l : Launch) (D : va_G) (ks : Nat × Nat) (cI cL cC cM cS : ClassId) (a : Nat → Nat) (t_tape : Nat → Int32) (t_typed t_place t_isFault : Int32) (t_readLamps t_read t_undone : Nat → Int32) (t_undos : Int32) (t_kept : Nat → Int32) (t_keptUndos t_isKept : Int32) (t_lanes t_sizes : Nat → Int32) (t_items t_moved : Nat → Int64) (k22 : (Nat → Int32) → (Nat → Int32) → (Nat → Int32) → (Nat → Int32) → (Nat → Int32) → Int32 → Int32 → Int32 → Int32 → Int32 → Int32 → (Option (Int32 × (Nat → Int32) × (Nat → Int32) × (Nat → Int32) × (Nat → Int32) × (Nat → Int32)))) (hk22 : ∀ (t_now t_mores t_aside t_bays t_bests : Nat → Int32) (x1 : Int32) (x2 : Int32) (x3 : Int32) (x4 : Int32) (x5 : Int32) (x6 : Int32), GJ l D ks (tyz cI cL cC cM cS) RX7 cX7_deals 11 ((some .int)) { frames := 7, cells := 0, slots := 0, locals := 154 } (fun r : Int32 × (Nat → Int32) × (Nat → Int32) × (Nat → Int32) × (Nat → Int32) × (Nat → Int32) => (some (.int r.1), (w_X7 cI cL cC cM cS a r.2.1 r.2.2.1 t_tape t_typed t_place t_isFault t_readLamps t_read t_undone t_undos r.2.2.2.1 r.2.2.2.2.1 r.2.2.2.2.2 t_kept t_keptUndos t_isKept t_lanes t_sizes t_items t_moved))) (w_X7 cI cL cC cM cS a t_now t_mores t_tape t_typed t_place t_isFault t_readLamps t_read t_undone t_undos t_aside t_bays t_bests t_kept t_keptUndos t_isKept t_lanes t_sizes t_items t_moved) 22 [some (.ref (a 0)), some (.int x1), some (.int x2), some (.int x3), some (.int x4), some (.int x5), some (.int x6), none, none, none, none] [] (k22 t_now t_mores t_aside t_bays t_bests x1 x2 x3 x4 x5 x6)) : ∀ (n : Nat), ∀ (t_now t_mores t_aside t_bays t_bests : Nat → Int32) (x1 : Int32) (x2 : Int32) (x3 : Int32) (x4 : Int32) (x5 : Int32) (x6 : Int32) (x7 : Int32) (x8 : Int32) (x9 : Int32), GJ l D ks (tyz cI cL cC cM cS) RX7 cX7_deals 11 ((some .int)) { frames := 7, cells := 0, slots := 0, locals := 154 } (fun r : Int32 × (Nat → Int32) × (Nat → Int32) × (Nat → Int32) × (Nat → Int32) × (Nat → Int32) => (some (.int r.1), (w_X7 cI cL cC cM cS a r.2.1 r.2.2.1 t_tape t_typed t_place t_isFault t_readLamps t_read t_undone t_undos r.2.2.2.1 r.2.2.2.2.1 r.2.2.2.2.2 t_kept t_keptUndos t_isKept t_lanes t_sizes t_items t_moved))) (w_X7 cI cL cC cM cS a t_now t_mores t_tape t_typed t_place t_isFault t_readLamps t_read t_undone t_undos t_aside t_bays t_bests t_kept t_keptUndos t_isKept t_lanes t_sizes t_items t_moved) 43 [some (.ref (a 0)), some (.int x1), some (.int x2), some (.int x3), some (.int x4), some (.int x5), some (.int x6), some (.int x7), some (.int x8), some (.int x9), none] [] (f_X7_deals_c43 k22 n t_now t_mores t_aside t_bays t_bests x1 x2 x3 x4 x5 x6 x7 x8 x9) := by
  intro n
  induction n with
  | zero =>
    intro t_now t_mores t_aside t_bays t_bests x1 x2 x3 x4 x5 x6 x7 x8 x9
    exact G.no
  | succ n ih =>
    intro t_now t_mores t_aside t_bays t_bests x1 x2 x3 x4 x5 x6 x7 x8 x9
    rw [f_X7_deals_c43]
    refine G.iload dX7_deals_43 rfl ?_
    refine G.aload_n dX7_deals_45 rfl ?_
    refine G.get fl_7_7 0 rfl rfl dX7_deals_46 ?_
    refine G.iconst 0 dX7_deals_49 (by decide) ?_
    refine G.iaload 1 0 rfl rfl 0 (by decide) (by decide) dX7_deals_50 ?_
    refine G.topi (fun v50 => ?_)
    refine G.icmp_ge 74 dX7_deals_51 (by decide) (fun h51 => ?_) (fun h51 => ?_)
    · refine G.iload dX7_deals_74 rfl ?_
      refine G.if_eq 207 dX7_deals_76 (by decide) (fun h76 => ?_) (fun h76 => ?_)
      · refine G.mask (lv' := [some (.ref (a 0)), some (.int x1), some (.int x2), some (.int x3), some (.int x4), some (.int x5), some (.int x6), none, none, none, none]) [true, true, true, true, true, true, true, false, false, false, false] rfl ?_
        exact g_X7_deals_c207 l D ks cI cL cC cM cS a t_tape t_typed t_place t_isFault t_readLamps t_read t_undone t_undos t_kept t_keptUndos t_isKept t_lanes t_sizes t_items t_moved k22 hk22 t_now t_mores t_aside t_bays t_bests x1 x2 x3 x4 x5 x6
      · refine G.iload dX7_deals_79 rfl ?_
        refine G.iload_n dX7_deals_81 rfl ?_
        refine G.icmp_ne 207 dX7_deals_82 (by decide) (fun h82 => ?_) (fun h82 => ?_)
        · refine G.mask (lv' := [some (.ref (a 0)), some (.int x1), some (.int x2), some (.int x3), some (.int x4), some (.int x5), some (.int x6), none, none, none, none]) [true, true, true, true, true, true, true, false, false, false, false] rfl ?_
          exact g_X7_deals_c207 l D ks cI cL cC cM cS a t_tape t_typed t_place t_isFault t_readLamps t_read t_undone t_undos t_kept t_keptUndos t_isKept t_lanes t_sizes t_items t_moved k22 hk22 t_now t_mores t_aside t_bays t_bests x1 x2 x3 x4 x5 x6
        · refine G.iconst 0 dX7_deals_85 (by decide) ?_
          refine G.istore (lv' := [some (.ref (a 0)), some (.int x1), some (.int x2), some (.int x3), some (.int x4), some (.int x5), some (.int x6), some (.int x7), some (.int x8), some (.int 0), none]) dX7_deals_86 (by decide) (Nat.le_of_ble_eq_true rfl) rfl rfl ?_
          refine G.mask (lv' := [some (.ref (a 0)), some (.int x1), some (.int x2), some (.int x3), some (.int x4), some (.int x5), some (.int x6), none, none, some (.int 0), none]) [true, true, true, true, true, true, true, false, false, true, false] rfl ?_
          exact g_X7_deals_c88 l D ks cI cL cC cM cS a t_tape t_typed t_place t_isFault t_readLamps t_read t_undone t_undos t_kept t_keptUndos t_isKept t_lanes t_sizes t_items t_moved k22 hk22 fu t_now t_mores t_aside t_bays t_bests x1 x2 x3 x4 x5 x6 0
    · refine G.iload dX7_deals_54 rfl ?_
      refine G.iconst 1 dX7_deals_56 (by decide) ?_
      refine G.aload_n dX7_deals_57 rfl ?_
      refine G.get fl_7_31 0 rfl rfl dX7_deals_58 ?_
      refine G.iload dX7_deals_61 rfl ?_
      refine G.chk (fun h63 => ?_)
      refine G.iaload 8 0 rfl rfl x9.toNatClampNeg rfl h63 dX7_deals_63 ?_
      refine G.topi (fun v63 => ?_)
      refine G.ishl dX7_deals_64 ?_
      refine G.ior dX7_deals_65 ?_
      refine G.istore (lv' := [some (.ref (a 0)), some (.int x1), some (.int x2), some (.int x3), some (.int x4), some (.int x5), some (.int x6), some (.int x7), some (.int (x8 ||| (1 <<< (v63 &&& 31)))), some (.int x9), none]) dX7_deals_66 (by decide) (Nat.le_of_ble_eq_true rfl) rfl rfl ?_
      refine G.iinc 1 (lv' := [some (.ref (a 0)), some (.int x1), some (.int x2), some (.int x3), some (.int x4), some (.int x5), some (.int x6), some (.int x7), some (.int (x8 ||| (1 <<< (v63 &&& 31)))), some (.int (x9 + 1)), none]) dX7_deals_68 rfl (by decide) (by decide) (Nat.le_of_ble_eq_true rfl) rfl rfl ?_
      refine G.goto 43 dX7_deals_71 (by decide) ?_
      exact ih t_now t_mores t_aside t_bays t_bests x1 x2 x3 x4 x5 x6 x7 (x8 ||| (1 <<< (v63 &&& 31))) (x9 + 1)
set_option maxHeartbeats 4000000 in
set_option maxRecDepth 100000 in
theorem g_X7_deals_c22 (l : Launch) (D : va_G) (ks : Nat × Nat) (cI cL cC cM cS : ClassId) (a : Nat → Nat) (t_tape : Nat → Int32) (t_typed t_place t_isFault : Int32) (t_readLamps t_read t_undone : Nat → Int32) (t_undos : Int32) (t_kept : Nat → Int32) (t_keptUndos t_isKept : Int32) (t_lanes t_sizes : Nat → Int32) (t_items t_moved : Nat → Int64) : ∀ (n : Nat), ∀ (t_now t_mores t_aside t_bays t_bests : Nat → Int32) (x1 : Int32) (x2 : Int32) (x3 : Int32) (x4 : Int32) (x5 : Int32) (x6 : Int32), GJ l D ks (tyz cI cL cC cM cS) RX7 cX7_deals 11 ((some .int)) { frames := 7, cells := 0, slots := 0, locals := 154 } (fun r : Int32 × (Nat → Int32) × (Nat → Int32) × (Nat → Int32) × (Nat → Int32) × (Nat → Int32) => (some (.int r.1), (w_X7 cI cL cC cM cS a r.2.1 r.2.2.1 t_tape t_typed t_place t_isFault t_readLamps t_read t_undone t_undos r.2.2.2.1 r.2.2.2.2.1 r.2.2.2.2.2 t_kept t_keptUndos t_isKept t_lanes t_sizes t_items t_moved))) (w_X7 cI cL cC cM cS a t_now t_mores t_tape t_typed t_place t_isFault t_readLamps t_read t_undone t_undos t_aside t_bays t_bests t_kept t_keptUndos t_isKept t_lanes t_sizes t_items t_moved) 22 [some (.ref (a 0)), some (.int x1), some (.int x2), some (.int x3), some (.int x4), some (.int x5), some (.int x6), none, none, none, none] [] (f_X7_deals_c22 n t_now t_mores t_aside t_bays t_bests x1 x2 x3 x4 x5 x6) := by
  intro n
  induction n with
  | zero =>
    intro t_now t_mores t_aside t_bays t_bests x1 x2 x3 x4 x5 x6
    exact G.no
  | succ n ih =>
    intro t_now t_mores t_aside t_bays t_bests x1 x2 x3 x4 x5 x6
    rw [f_X7_deals_c22]
    refine G.iload dX7_deals_22 rfl ?_
    refine G.iload dX7_deals_24 rfl ?_
    refine G.icmp_ge 213 dX7_deals_26 (by decide) (fun h26 => ?_) (fun h26 => ?_)
    · refine G.iload dX7_deals_213 rfl ?_
      exact G.iret rfl rfl dX7_deals_215
    · refine G.aload_n dX7_deals_29 rfl ?_
      refine G.iload dX7_deals_30 rfl ?_
      refine G.callV (st := []) (w' := fun r32 => (w_X7 cI cL cC cM cS a t_now t_mores t_tape t_typed t_place t_isFault t_readLamps t_read t_undone t_undos t_aside r32.2 t_bests t_kept t_keptUndos t_isKept t_lanes t_sizes t_items t_moved)) mv_X7_isDealt lk_7_202 (c_X7_isDealt l D ks cI cL cC cM cS a t_now t_mores t_tape t_typed t_place t_isFault t_readLamps t_read t_undone t_undos t_aside t_bays t_bests t_kept t_keptUndos t_isKept t_lanes t_sizes t_items t_moved x6) [0, 1, 2, 3, 4, 5, 6, 7, 8, 9, 10, 11, 12, 13, 14] [] [0, 1, 2, 3, 4, 5, 6, 7, 8, 9, 10, 11, 12, 13, 14] rfl rfl rfl rfl (by decide +kernel) (fun _ => rfl) rfl (by decide) (Nat.le_of_ble_eq_true rfl) dX7_deals_32 (fun r32 => [.int r32.1]) (fun _ => rfl) (fun r32 _ => ?_)
      refine G.istore (lv' := [some (.ref (a 0)), some (.int x1), some (.int x2), some (.int x3), some (.int x4), some (.int x5), some (.int x6), some (.int r32.1), none, none, none]) dX7_deals_35 (by decide) (Nat.le_of_ble_eq_true rfl) rfl rfl ?_
      refine G.iconst 0 dX7_deals_37 (by decide) ?_
      refine G.istore (lv' := [some (.ref (a 0)), some (.int x1), some (.int x2), some (.int x3), some (.int x4), some (.int x5), some (.int x6), some (.int r32.1), some (.int 0), none, none]) dX7_deals_38 (by decide) (Nat.le_of_ble_eq_true rfl) rfl rfl ?_
      refine G.iconst 0 dX7_deals_40 (by decide) ?_
      refine G.istore (lv' := [some (.ref (a 0)), some (.int x1), some (.int x2), some (.int x3), some (.int x4), some (.int x5), some (.int x6), some (.int r32.1), some (.int 0), some (.int 0), none]) dX7_deals_41 (by decide) (Nat.le_of_ble_eq_true rfl) rfl rfl ?_
      exact g_X7_deals_c43 l D ks cI cL cC cM cS a t_tape t_typed t_place t_isFault t_readLamps t_read t_undone t_undos t_kept t_keptUndos t_isKept t_lanes t_sizes t_items t_moved (f_X7_deals_c22 n) ih fu t_now t_mores t_aside r32.2 t_bests x1 x2 x3 x4 x5 x6 r32.1 0 0
set_option maxHeartbeats 4000000 in
set_option maxRecDepth 100000 in
theorem c_X7_deals (l : Launch) (D : va_G) (ks : Nat × Nat) (cI cL cC cM cS : ClassId) (a : Nat → Nat) (t_now t_mores t_tape : Nat → Int32) (t_typed t_place t_isFault : Int32) (t_readLamps t_read t_undone : Nat → Int32) (t_undos : Int32) (t_aside t_bays t_bests t_kept : Nat → Int32) (t_keptUndos t_isKept : Int32) (t_lanes t_sizes : Nat → Int32) (t_items t_moved : Nat → Int64) (x1 : Int32) (x2 : Int32) : MT l D ks (tyz cI cL cC cM cS) yX7_deals cX7_deals 11 ((some .int)) { frames := 7, cells := 0, slots := 0, locals := 154 } [.ref (a 0), .int x1, .int x2] (w_X7 cI cL cC cM cS a t_now t_mores t_tape t_typed t_place t_isFault t_readLamps t_read t_undone t_undos t_aside t_bays t_bests t_kept t_keptUndos t_isKept t_lanes t_sizes t_items t_moved) (fun r : Int32 × (Nat → Int32) × (Nat → Int32) × (Nat → Int32) × (Nat → Int32) × (Nat → Int32) => (some (.int r.1), (w_X7 cI cL cC cM cS a r.2.1 r.2.2.1 t_tape t_typed t_place t_isFault t_readLamps t_read t_undone t_undos r.2.2.2.1 r.2.2.2.2.1 r.2.2.2.2.2 t_kept t_keptUndos t_isKept t_lanes t_sizes t_items t_moved))) (f_X7_deals t_now t_mores t_aside t_bays t_bests x1 x2) := by
  refine MT.of 8 [some (.ref (a 0)), some (.int x1), some (.int x2), none, none, none, none, none, none, none, none] (by decide) (Nat.le_of_ble_eq_true rfl) rfl ?_
  unfold f_X7_deals
  refine G.aload_n dX7_deals_0 rfl ?_
  refine G.callV (st := []) (w' := fun r1 => (w_X7 cI cL cC cM cS a t_now t_mores t_tape t_typed t_place t_isFault t_readLamps t_read t_undone t_undos t_aside t_bays t_bests t_kept t_keptUndos t_isKept t_lanes t_sizes t_items t_moved)) mv_X7_sat lk_7_215 (c_X7_sat l D ks cI cL cC cM cS a t_now t_mores t_tape t_typed t_place t_isFault t_readLamps t_read t_undone t_undos t_aside t_bays t_bests t_kept t_keptUndos t_isKept t_lanes t_sizes t_items t_moved) [0, 1, 2, 3, 4, 5, 6, 7, 8, 9, 10, 11, 12, 13, 14] [] [0, 1, 2, 3, 4, 5, 6, 7, 8, 9, 10, 11, 12, 13, 14] rfl rfl rfl rfl (by decide +kernel) (fun _ => rfl) rfl (by decide) (Nat.le_of_ble_eq_true rfl) dX7_deals_1 (fun r1 => [.int r1]) (fun _ => rfl) (fun r1 _ => ?_)
  refine G.istore_n (lv' := [some (.ref (a 0)), some (.int x1), some (.int x2), some (.int r1), none, none, none, none, none, none, none]) dX7_deals_4 (by decide) (Nat.le_of_ble_eq_true rfl) rfl rfl ?_
  refine G.aload_n dX7_deals_5 rfl ?_
  refine G.callV (st := []) (w' := fun r6 => (w_X7 cI cL cC cM cS a t_now t_mores t_tape t_typed t_place t_isFault t_readLamps t_read t_undone t_undos t_aside t_bays t_bests t_kept t_keptUndos t_isKept t_lanes t_sizes t_items t_moved)) mv_X7_numbers lk_7_199 (c_X7_numbers l D ks cI cL cC cM cS a t_now t_mores t_tape t_typed t_place t_isFault t_readLamps t_read t_undone t_undos t_aside t_bays t_bests t_kept t_keptUndos t_isKept t_lanes t_sizes t_items t_moved) [0, 1, 2, 3, 4, 5, 6, 7, 8, 9, 10, 11, 12, 13, 14] [] [0, 1, 2, 3, 4, 5, 6, 7, 8, 9, 10, 11, 12, 13, 14] rfl rfl rfl rfl (by decide +kernel) (fun _ => rfl) rfl (by decide) (Nat.le_of_ble_eq_true rfl) dX7_deals_6 (fun r6 => [.int r6]) (fun _ => rfl) (fun r6 _ => ?_)
  refine G.istore (lv' := [some (.ref (a 0)), some (.int x1), some (.int x2), some (.int r1), some (.int r6), none, none, none, none, none, none]) dX7_deals_9 (by decide) (Nat.le_of_ble_eq_true rfl) rfl rfl ?_
  refine G.ldc kc_7_218 dX7_deals_11 ?_
  refine G.istore (lv' := [some (.ref (a 0)), some (.int x1), some (.int x2), some (.int r1), some (.int r6), some (.int 999999), none, none, none, none, none]) dX7_deals_13 (by decide) (Nat.le_of_ble_eq_true rfl) rfl rfl ?_
  refine G.aload_n dX7_deals_15 rfl ?_
  refine G.callV (st := []) (w' := fun r16 => (w_X7 cI cL cC cM cS a t_now t_mores t_tape t_typed t_place t_isFault t_readLamps t_read t_undone t_undos r16 t_bays t_bests t_kept t_keptUndos t_isKept t_lanes t_sizes t_items t_moved)) mv_X7_asides lk_7_187 (c_X7_asides l D ks cI cL cC cM cS a t_now t_mores t_tape t_typed t_place t_isFault t_readLamps t_read t_undone t_undos t_aside t_bays t_bests t_kept t_keptUndos t_isKept t_lanes t_sizes t_items t_moved) [0, 1, 2, 3, 4, 5, 6, 7, 8, 9, 10, 11, 12, 13, 14] [] [0, 1, 2, 3, 4, 5, 6, 7, 8, 9, 10, 11, 12, 13, 14] rfl rfl rfl rfl (by decide +kernel) (fun _ => rfl) rfl (by decide) (Nat.le_of_ble_eq_true rfl) dX7_deals_16 (fun r16 => []) (fun _ => rfl) (fun r16 _ => ?_)
  refine G.iconst 0 dX7_deals_19 (by decide) ?_
  refine G.istore (lv' := [some (.ref (a 0)), some (.int x1), some (.int x2), some (.int r1), some (.int r6), some (.int 999999), some (.int 0), none, none, none, none]) dX7_deals_20 (by decide) (Nat.le_of_ble_eq_true rfl) rfl rfl ?_
  exact g_X7_deals_c22 l D ks cI cL cC cM cS a t_tape t_typed t_place t_isFault t_readLamps t_read t_undone t_undos t_kept t_keptUndos t_isKept t_lanes t_sizes t_items t_moved fu t_now t_mores r16 t_bays t_bests x1 x2 r1 r6 999999 0
set_option maxHeartbeats 4000000 in
set_option maxRecDepth 100000 in
theorem g_X7_drift_c112 (l : Launch) (D : va_G) (ks : Nat × Nat) (cI cL cC cM cS : ClassId) (a : Nat → Nat) (t_tape : Nat → Int32) (t_typed t_place t_isFault : Int32) (t_readLamps t_read t_aside t_bays t_bests t_kept : Nat → Int32) (t_keptUndos t_isKept : Int32) (t_lanes t_sizes : Nat → Int32) (t_items t_moved : Nat → Int64) (k33 : (Nat → Int32) → (Nat → Int32) → (Nat → Int32) → Int32 → Int32 → Int32 → (Option (Int32 × (Nat → Int32) × (Nat → Int32) × (Nat → Int32) × Int32))) (hk33 : ∀ (t_now t_mores t_undone : Nat → Int32) (t_undos : Int32) (x1 : Int32) (x2 : Int32), GJ l D ks (tyz cI cL cC cM cS) RX7 cX7_drift 3 ((some .int)) { frames := 6, cells := 0, slots := 0, locals := 132 } (fun r : Int32 × (Nat → Int32) × (Nat → Int32) × (Nat → Int32) × Int32 => (some (.int r.1), (w_X7 cI cL cC cM cS a r.2.1 r.2.2.1 t_tape t_typed t_place t_isFault t_readLamps t_read r.2.2.2.1 r.2.2.2.2 t_aside t_bays t_bests t_kept t_keptUndos t_isKept t_lanes t_sizes t_items t_moved))) (w_X7 cI cL cC cM cS a t_now t_mores t_tape t_typed t_place t_isFault t_readLamps t_read t_undone t_undos t_aside t_bays t_bests t_kept t_keptUndos t_isKept t_lanes t_sizes t_items t_moved) 33 [some (.ref (a 0)), some (.int x1), some (.int x2)] [] (k33 t_now t_mores t_undone t_undos x1 x2)) (t_now t_mores t_undone : Nat → Int32) (t_undos : Int32) (x1 : Int32) (x2 : Int32) : GJ l D ks (tyz cI cL cC cM cS) RX7 cX7_drift 3 ((some .int)) { frames := 6, cells := 0, slots := 0, locals := 132 } (fun r : Int32 × (Nat → Int32) × (Nat → Int32) × (Nat → Int32) × Int32 => (some (.int r.1), (w_X7 cI cL cC cM cS a r.2.1 r.2.2.1 t_tape t_typed t_place t_isFault t_readLamps t_read r.2.2.2.1 r.2.2.2.2 t_aside t_bays t_bests t_kept t_keptUndos t_isKept t_lanes t_sizes t_items t_moved))) (w_X7 cI cL cC cM cS a t_now t_mores t_tape t_typed t_place t_isFault t_readLamps t_read t_undone t_undos t_aside t_bays t_bests t_kept t_keptUndos t_isKept t_lanes t_sizes t_items t_moved) 112 [some (.ref (a 0)), some (.int x1), some (.int x2)] [] (f_X7_drift_c112 k33 t_now t_mores t_undone t_undos x1 x2) := by
  unfold f_X7_drift_c112
  refine G.aload_n dX7_drift_112 rfl ?_
  refine G.callV (st := []) (w' := fun r113 => (w_X7 cI cL cC cM cS a r113.1 r113.2 t_tape t_typed t_place t_isFault t_readLamps t_read t_undone t_undos t_aside t_bays t_bests t_kept t_keptUndos t_isKept t_lanes t_sizes t_items t_moved)) mv_X7_goesBy lk_7_97 (c_X7_goesBy l D ks cI cL cC cM cS a t_now t_mores t_tape t_typed t_place t_isFault t_readLamps t_read t_undone t_undos t_aside t_bays t_bests t_kept t_keptUndos t_isKept t_lanes t_sizes t_items t_moved) [0, 1, 2, 3, 4, 5, 6, 7, 8, 9, 10, 11, 12, 13, 14] [] [0, 1, 2, 3, 4, 5, 6, 7, 8, 9, 10, 11, 12, 13, 14] rfl rfl rfl rfl (by decide +kernel) (fun _ => rfl) rfl (by decide) (Nat.le_of_ble_eq_true rfl) dX7_drift_113 (fun r113 => []) (fun _ => rfl) (fun r113 _ => ?_)
  refine G.iinc 1 (lv' := [some (.ref (a 0)), some (.int x1), some (.int (x2 + 1))]) dX7_drift_116 rfl (by decide) (by decide) (Nat.le_of_ble_eq_true rfl) rfl rfl ?_
  refine G.goto 33 dX7_drift_119 (by decide) ?_
  exact hk33 r113.1 r113.2 t_undone t_undos x1 (x2 + 1)
set_option maxHeartbeats 4000000 in
set_option maxRecDepth 100000 in
theorem g_X7_drift_c33 (l : Launch) (D : va_G) (ks : Nat × Nat) (cI cL cC cM cS : ClassId) (a : Nat → Nat) (t_tape : Nat → Int32) (t_typed t_place t_isFault : Int32) (t_readLamps t_read t_aside t_bays t_bests t_kept : Nat → Int32) (t_keptUndos t_isKept : Int32) (t_lanes t_sizes : Nat → Int32) (t_items t_moved : Nat → Int64) : ∀ (n : Nat), ∀ (t_now t_mores t_undone : Nat → Int32) (t_undos : Int32) (x1 : Int32) (x2 : Int32), GJ l D ks (tyz cI cL cC cM cS) RX7 cX7_drift 3 ((some .int)) { frames := 6, cells := 0, slots := 0, locals := 132 } (fun r : Int32 × (Nat → Int32) × (Nat → Int32) × (Nat → Int32) × Int32 => (some (.int r.1), (w_X7 cI cL cC cM cS a r.2.1 r.2.2.1 t_tape t_typed t_place t_isFault t_readLamps t_read r.2.2.2.1 r.2.2.2.2 t_aside t_bays t_bests t_kept t_keptUndos t_isKept t_lanes t_sizes t_items t_moved))) (w_X7 cI cL cC cM cS a t_now t_mores t_tape t_typed t_place t_isFault t_readLamps t_read t_undone t_undos t_aside t_bays t_bests t_kept t_keptUndos t_isKept t_lanes t_sizes t_items t_moved) 33 [some (.ref (a 0)), some (.int x1), some (.int x2)] [] (f_X7_drift_c33 n t_now t_mores t_undone t_undos x1 x2) := by
  intro n
  induction n with
  | zero =>
    intro t_now t_mores t_undone t_undos x1 x2
    exact G.no
  | succ n ih =>
    intro t_now t_mores t_undone t_undos x1 x2
    rw [f_X7_drift_c33]
    refine G.iload_n dX7_drift_33 rfl ?_
    refine G.iload_n dX7_drift_34 rfl ?_
    refine G.icmp_ge 122 dX7_drift_35 (by decide) (fun h35 => ?_) (fun h35 => ?_)
    · refine G.aload_n dX7_drift_122 rfl ?_
      refine G.callV (st := []) (w' := fun r123 => (w_X7 cI cL cC cM cS a t_now t_mores t_tape t_typed t_place t_isFault t_readLamps t_read t_undone t_undos t_aside t_bays t_bests t_kept t_keptUndos t_isKept t_lanes t_sizes t_items t_moved)) mv_X7_ups lk_7_83 (c_X7_ups l D ks cI cL cC cM cS a t_now t_mores t_tape t_typed t_place t_isFault t_readLamps t_read t_undone t_undos t_aside t_bays t_bests t_kept t_keptUndos t_isKept t_lanes t_sizes t_items t_moved) [0, 1, 2, 3, 4, 5, 6, 7, 8, 9, 10, 11, 12, 13, 14] [] [0, 1, 2, 3, 4, 5, 6, 7, 8, 9, 10, 11, 12, 13, 14] rfl rfl rfl rfl (by decide +kernel) (fun _ => rfl) rfl (by decide) (Nat.le_of_ble_eq_true rfl) dX7_drift_123 (fun r123 => [.int r123]) (fun _ => rfl) (fun r123 _ => ?_)
      exact G.iret rfl rfl dX7_drift_126
    · refine G.aload_n dX7_drift_38 rfl ?_
      refine G.callV (st := []) (w' := fun r39 => (w_X7 cI cL cC cM cS a t_now t_mores t_tape t_typed t_place t_isFault t_readLamps t_read r39.1 r39.2 t_aside t_bays t_bests t_kept t_keptUndos t_isKept t_lanes t_sizes t_items t_moved)) mv_X7_notes lk_7_167 (c_X7_notes l D ks cI cL cC cM cS a t_now t_mores t_tape t_typed t_place t_isFault t_readLamps t_read t_undone t_undos t_aside t_bays t_bests t_kept t_keptUndos t_isKept t_lanes t_sizes t_items t_moved) [0, 1, 2, 3, 4, 5, 6, 7, 8, 9, 10, 11, 12, 13, 14] [] [0, 1, 2, 3, 4, 5, 6, 7, 8, 9, 10, 11, 12, 13, 14] rfl rfl rfl rfl (by decide +kernel) (fun _ => rfl) rfl (by decide) (Nat.le_of_ble_eq_true rfl) dX7_drift_39 (fun r39 => []) (fun _ => rfl) (fun r39 _ => ?_)
      refine G.aload_n dX7_drift_42 rfl ?_
      refine G.get fl_7_7 0 rfl rfl dX7_drift_43 ?_
      refine G.iconst 3 dX7_drift_46 (by decide) ?_
      refine G.aload_n dX7_drift_47 rfl ?_
      refine G.get fl_7_7 0 rfl rfl dX7_drift_48 ?_
      refine G.iconst 3 dX7_drift_51 (by decide) ?_
      refine G.iaload 1 0 rfl rfl 3 (by decide) (by decide) dX7_drift_52 ?_
      refine G.topi (fun v52 => ?_)
      refine G.i2l dX7_drift_53 ?_
      refine G.ldc2 kl_7_180 dX7_drift_54 ?_
      refine G.lmul dX7_drift_57 ?_
      refine G.ldc2 kl_7_182 dX7_drift_58 ?_
      refine G.ladd dX7_drift_61 ?_
      refine G.ldc2 kl_7_184 dX7_drift_62 ?_
      refine G.land dX7_drift_65 ?_
      refine G.l2i dX7_drift_66 ?_
      refine G.iastore (w' := (w_X7 cI cL cC cM cS a (upd t_now 3 (((((v52.toInt64) * 1103515245) + 12345) &&& 2147483647).toInt32)) t_mores t_tape t_typed t_place t_isFault t_readLamps t_read r39.1 r39.2 t_aside t_bays t_bests t_kept t_keptUndos t_isKept t_lanes t_sizes t_items t_moved)) 1 0 rfl rfl 3 (by decide) (by decide) rfl dX7_drift_67 ?_
      refine G.aload_n dX7_drift_68 rfl ?_
      refine G.get fl_7_7 0 rfl rfl dX7_drift_69 ?_
      refine G.iconst 0 dX7_drift_72 (by decide) ?_
      refine G.iaload 1 0 rfl rfl 0 (by decide) (by decide) dX7_drift_73 ?_
      refine G.topi (fun v73 => ?_)
      refine G.if_le 112 dX7_drift_74 (by decide) (fun h74 => ?_) (fun h74 => ?_)
      · exact g_X7_drift_c112 l D ks cI cL cC cM cS a t_tape t_typed t_place t_isFault t_readLamps t_read t_aside t_bays t_bests t_kept t_keptUndos t_isKept t_lanes t_sizes t_items t_moved (f_X7_drift_c33 n) ih (upd t_now 3 (((((v52.toInt64) * 1103515245) + 12345) &&& 2147483647).toInt32)) t_mores r39.1 r39.2 x1 x2
      · refine G.aload_n dX7_drift_77 rfl ?_
        refine G.get fl_7_7 0 rfl rfl dX7_drift_78 ?_
        refine G.iconst 3 dX7_drift_81 (by decide) ?_
        refine G.iaload 1 0 rfl rfl 3 (by decide) (by decide) dX7_drift_82 ?_
        refine G.topi (fun v82 => ?_)
        refine G.ldc kc_7_186 dX7_drift_83 ?_
        refine G.idiv dX7_drift_85 (by decide) ?_
        refine G.iconst 3 dX7_drift_86 (by decide) ?_
        refine G.irem dX7_drift_87 (by decide) ?_
        refine G.if_ne 112 dX7_drift_88 (by decide) (fun h88 => ?_) (fun h88 => ?_)
        · exact g_X7_drift_c112 l D ks cI cL cC cM cS a t_tape t_typed t_place t_isFault t_readLamps t_read t_aside t_bays t_bests t_kept t_keptUndos t_isKept t_lanes t_sizes t_items t_moved (f_X7_drift_c33 n) ih (upd t_now 3 (((((v52.toInt64) * 1103515245) + 12345) &&& 2147483647).toInt32)) t_mores r39.1 r39.2 x1 x2
        · refine G.aload_n dX7_drift_91 rfl ?_
          refine G.aload_n dX7_drift_92 rfl ?_
          refine G.get fl_7_7 0 rfl rfl dX7_drift_93 ?_
          refine G.iconst 3 dX7_drift_96 (by decide) ?_
          refine G.iaload 1 0 rfl rfl 3 (by decide) (by decide) dX7_drift_97 ?_
          refine G.topi (fun v97 => ?_)
          refine G.sipush 128 dX7_drift_98 (by decide) ?_
          refine G.idiv dX7_drift_101 (by decide) ?_
          refine G.aload_n dX7_drift_102 rfl ?_
          refine G.get fl_7_7 0 rfl rfl dX7_drift_103 ?_
          refine G.iconst 0 dX7_drift_106 (by decide) ?_
          refine G.iaload 1 0 rfl rfl 0 (by decide) (by decide) dX7_drift_107 ?_
          refine G.topi (fun v107 => ?_)
          refine G.nz (fun h108 => ?_)
          refine G.irem dX7_drift_108 h108 ?_
          refine G.callV (st := []) (w' := fun r109 => (w_X7 cI cL cC cM cS a r109 t_mores t_tape t_typed t_place t_isFault t_readLamps t_read r39.1 r39.2 t_aside t_bays t_bests t_kept t_keptUndos t_isKept t_lanes t_sizes t_items t_moved)) mv_X7_talks lk_7_176 (c_X7_talks l D ks cI cL cC cM cS a (upd t_now 3 (((((v52.toInt64) * 1103515245) + 12345) &&& 2147483647).toInt32)) t_mores t_tape t_typed t_place t_isFault t_readLamps t_read r39.1 r39.2 t_aside t_bays t_bests t_kept t_keptUndos t_isKept t_lanes t_sizes t_items t_moved ((v97 / 128) - (v97 / 128) / v107 * v107)) [0, 1, 2, 3, 4, 5, 6, 7, 8, 9, 10, 11, 12, 13, 14] [] [0, 1, 2, 3, 4, 5, 6, 7, 8, 9, 10, 11, 12, 13, 14] rfl rfl rfl rfl (by decide +kernel) (fun _ => rfl) rfl (by decide) (Nat.le_of_ble_eq_true rfl) dX7_drift_109 (fun r109 => []) (fun _ => rfl) (fun r109 _ => ?_)
          exact g_X7_drift_c112 l D ks cI cL cC cM cS a t_tape t_typed t_place t_isFault t_readLamps t_read t_aside t_bays t_bests t_kept t_keptUndos t_isKept t_lanes t_sizes t_items t_moved (f_X7_drift_c33 n) ih r109 t_mores r39.1 r39.2 x1 x2
set_option maxHeartbeats 4000000 in
set_option maxRecDepth 100000 in
theorem c_X7_drift (l : Launch) (D : va_G) (ks : Nat × Nat) (cI cL cC cM cS : ClassId) (a : Nat → Nat) (t_now t_mores t_tape : Nat → Int32) (t_typed t_place t_isFault : Int32) (t_readLamps t_read t_undone : Nat → Int32) (t_undos : Int32) (t_aside t_bays t_bests t_kept : Nat → Int32) (t_keptUndos t_isKept : Int32) (t_lanes t_sizes : Nat → Int32) (t_items t_moved : Nat → Int64) (x1 : Int32) : MT l D ks (tyz cI cL cC cM cS) yX7_drift cX7_drift 3 ((some .int)) { frames := 6, cells := 0, slots := 0, locals := 132 } [.ref (a 0), .int x1] (w_X7 cI cL cC cM cS a t_now t_mores t_tape t_typed t_place t_isFault t_readLamps t_read t_undone t_undos t_aside t_bays t_bests t_kept t_keptUndos t_isKept t_lanes t_sizes t_items t_moved) (fun r : Int32 × (Nat → Int32) × (Nat → Int32) × (Nat → Int32) × Int32 => (some (.int r.1), (w_X7 cI cL cC cM cS a r.2.1 r.2.2.1 t_tape t_typed t_place t_isFault t_readLamps t_read r.2.2.2.1 r.2.2.2.2 t_aside t_bays t_bests t_kept t_keptUndos t_isKept t_lanes t_sizes t_items t_moved))) (f_X7_drift t_now t_mores t_undone t_undos x1) := by
  refine MT.of 1 [some (.ref (a 0)), some (.int x1), none] (by decide) (Nat.le_of_ble_eq_true rfl) rfl ?_
  unfold f_X7_drift
  refine G.iload_n dX7_drift_0 rfl ?_
  refine G.i2l dX7_drift_1 ?_
  refine G.lconst 1 dX7_drift_2 (by decide) ?_
  refine G.ldc2 kl_7_165 dX7_drift_3 ?_
  refine G.callS (st := []) (w' := fun r6 => (w_X7 cI cL cC cM cS a t_now t_mores t_tape t_typed t_place t_isFault t_readLamps t_read t_undone t_undos t_aside t_bays t_bests t_kept t_keptUndos t_isKept t_lanes t_sizes t_items t_moved)) ms_X7_in lk_7_53 (c_X7_in l D ks cI cL cC cM cS (x1.toInt64) 1 40) [] [0, 1, 2, 3, 4, 5, 6, 7, 8, 9, 10, 11, 12, 13, 14] [0, 1, 2, 3, 4, 5, 6, 7, 8, 9, 10, 11, 12, 13, 14] rfl rfl rfl rfl (by decide +kernel) (fun _ => rfl) (by decide) (Nat.le_of_ble_eq_true rfl) dX7_drift_6 (fun r6 => [.int r6]) (fun _ => rfl) (fun r6 _ => ?_)
  refine G.if_ne 14 dX7_drift_9 (by decide) (fun h9 => ?_) (fun h9 => ?_)
  · refine G.aload_n dX7_drift_14 rfl ?_
    refine G.get fl_7_7 0 rfl rfl dX7_drift_15 ?_
    refine G.iconst 1 dX7_drift_18 (by decide) ?_
    refine G.iaload 1 0 rfl rfl 1 (by decide) (by decide) dX7_drift_19 ?_
    refine G.topi (fun v19 => ?_)
    refine G.iload_n dX7_drift_20 rfl ?_
    refine G.iadd dX7_drift_21 ?_
    refine G.sipush 9999 dX7_drift_22 (by decide) ?_
    refine G.icmp_le 31 dX7_drift_25 (by decide) (fun h25 => ?_) (fun h25 => ?_)
    · refine G.iconst 0 dX7_drift_31 (by decide) ?_
      refine G.istore_n (lv' := [some (.ref (a 0)), some (.int x1), some (.int 0)]) dX7_drift_32 (by decide) (Nat.le_of_ble_eq_true rfl) rfl rfl ?_
      exact g_X7_drift_c33 l D ks cI cL cC cM cS a t_tape t_typed t_place t_isFault t_readLamps t_read t_aside t_bays t_bests t_kept t_keptUndos t_isKept t_lanes t_sizes t_items t_moved fu t_now t_mores t_undone t_undos x1 0
    · refine G.bipush (-3) dX7_drift_28 (by decide) ?_
      exact G.iret rfl rfl dX7_drift_30
  · refine G.iconst (-1) dX7_drift_12 (by decide) ?_
    exact G.iret rfl rfl dX7_drift_13
set_option maxHeartbeats 4000000 in
set_option maxRecDepth 100000 in
theorem c_X7_drop (l : Launch) (D : va_G) (ks : Nat × Nat) (cI cL cC cM cS : ClassId) (a : Nat → Nat) (t_now t_mores t_tape : Nat → Int32) (t_typed t_place t_isFault : Int32) (t_readLamps t_read t_undone : Nat → Int32) (t_undos : Int32) (t_aside t_bays t_bests t_kept : Nat → Int32) (t_keptUndos t_isKept : Int32) (t_lanes t_sizes : Nat → Int32) (t_items t_moved : Nat → Int64) (x1 : Int32) : MT l D ks (tyz cI cL cC cM cS) yX7_drop cX7_drop 2 ((some .int)) { frames := 2, cells := 0, slots := 0, locals := 45 } [.ref (a 0), .int x1] (w_X7 cI cL cC cM cS a t_now t_mores t_tape t_typed t_place t_isFault t_readLamps t_read t_undone t_undos t_aside t_bays t_bests t_kept t_keptUndos t_isKept t_lanes t_sizes t_items t_moved) (fun r : Int32 × (Nat → Int32) => (some (.int r.1), (w_X7 cI cL cC cM cS a t_now t_mores t_tape t_typed t_place t_isFault t_readLamps t_read t_undone t_undos t_aside t_bays t_bests t_kept t_keptUndos t_isKept r.2 t_sizes t_items t_moved))) (f_X7_drop t_lanes t_sizes x1) := by
  refine MT.of 0 [some (.ref (a 0)), some (.int x1)] (by decide) (Nat.le_of_ble_eq_true rfl) rfl ?_
  unfold f_X7_drop
  refine G.iload_n dX7_drop_0 rfl ?_
  refine G.callS (st := []) (w' := fun r1 => (w_X7 cI cL cC cM cS a t_now t_mores t_tape t_typed t_place t_isFault t_readLamps t_read t_undone t_undos t_aside t_bays t_bests t_kept t_keptUndos t_isKept t_lanes t_sizes t_items t_moved)) ms_X7_isSheet lk_7_234 (c_X7_isSheet l D ks cI cL cC cM cS x1) [] [0, 1, 2, 3, 4, 5, 6, 7, 8, 9, 10, 11, 12, 13, 14] [0, 1, 2, 3, 4, 5, 6, 7, 8, 9, 10, 11, 12, 13, 14] rfl rfl rfl rfl (by decide +kernel) (fun _ => rfl) (by decide) (Nat.le_of_ble_eq_true rfl) dX7_drop_1 (fun r1 => [.int r1]) (fun _ => rfl) (fun r1 _ => ?_)
  refine G.if_ne 9 dX7_drop_4 (by decide) (fun h4 => ?_) (fun h4 => ?_)
  · refine G.aload_n dX7_drop_9 rfl ?_
    refine G.get fl_7_40 0 rfl rfl dX7_drop_10 ?_
    refine G.iload_n dX7_drop_13 rfl ?_
    refine G.chk (fun h14 => ?_)
    refine G.iaload 11 0 rfl rfl x1.toNatClampNeg rfl h14 dX7_drop_14 ?_
    refine G.topi (fun v14 => ?_)
    refine G.if_ge 21 dX7_drop_15 (by decide) (fun h15 => ?_) (fun h15 => ?_)
    · refine G.aload_n dX7_drop_21 rfl ?_
      refine G.get fl_7_40 0 rfl rfl dX7_drop_22 ?_
      refine G.iload_n dX7_drop_25 rfl ?_
      refine G.iconst (-1) dX7_drop_26 (by decide) ?_
      refine G.iastore (w' := (w_X7 cI cL cC cM cS a t_now t_mores t_tape t_typed t_place t_isFault t_readLamps t_read t_undone t_undos t_aside t_bays t_bests t_kept t_keptUndos t_isKept (upd t_lanes x1.toNatClampNeg (-1)) t_sizes t_items t_moved)) 11 0 rfl rfl x1.toNatClampNeg rfl h14 rfl dX7_drop_27 ?_
      refine G.aload_n dX7_drop_28 rfl ?_
      refine G.get fl_7_43 0 rfl rfl dX7_drop_29 ?_
      refine G.iload_n dX7_drop_32 rfl ?_
      refine G.iaload 12 0 rfl rfl x1.toNatClampNeg rfl h14 dX7_drop_33 ?_
      refine G.topi (fun v33 => ?_)
      exact G.iret rfl rfl dX7_drop_34
    · refine G.bipush (-11) dX7_drop_18 (by decide) ?_
      exact G.iret rfl rfl dX7_drop_20
  · refine G.iconst (-1) dX7_drop_7 (by decide) ?_
    exact G.iret rfl rfl dX7_drop_8
set_option maxHeartbeats 4000000 in
set_option maxRecDepth 100000 in
theorem c_X7_earn (l : Launch) (D : va_G) (ks : Nat × Nat) (cI cL cC cM cS : ClassId) (a : Nat → Nat) (t_now t_mores t_tape : Nat → Int32) (t_typed t_place t_isFault : Int32) (t_readLamps t_read t_undone : Nat → Int32) (t_undos : Int32) (t_aside t_bays t_bests t_kept : Nat → Int32) (t_keptUndos t_isKept : Int32) (t_lanes t_sizes : Nat → Int32) (t_items t_moved : Nat → Int64) (x1 : Int32) (x2 : Int32) : MT l D ks (tyz cI cL cC cM cS) yX7_earn cX7_earn 4 ((some .int)) { frames := 8, cells := 0, slots := 0, locals := 184 } [.ref (a 0), .int x1, .int x2] (w_X7 cI cL cC cM cS a t_now t_mores t_tape t_typed t_place t_isFault t_readLamps t_read t_undone t_undos t_aside t_bays t_bests t_kept t_keptUndos t_isKept t_lanes t_sizes t_items t_moved) (fun r : Int32 × (Nat → Int32) × (Nat → Int32) × (Nat → Int32) × (Nat → Int32) × (Nat → Int32) => (some (.int r.1), (w_X7 cI cL cC cM cS a r.2.1 r.2.2.1 t_tape t_typed t_place t_isFault t_readLamps t_read t_undone t_undos r.2.2.2.1 r.2.2.2.2.1 r.2.2.2.2.2 t_kept t_keptUndos t_isKept t_lanes t_sizes t_items t_moved))) (f_X7_earn t_now t_mores t_aside t_bays t_bests x1 x2) := by
  refine MT.of 1 [some (.ref (a 0)), some (.int x1), some (.int x2), none] (by decide) (Nat.le_of_ble_eq_true rfl) rfl ?_
  unfold f_X7_earn
  refine G.iload_n dX7_earn_0 rfl ?_
  refine G.i2l dX7_earn_1 ?_
  refine G.lconst 1 dX7_earn_2 (by decide) ?_
  refine G.ldc2 kl_7_165 dX7_earn_3 ?_
  refine G.callS (st := []) (w' := fun r6 => (w_X7 cI cL cC cM cS a t_now t_mores t_tape t_typed t_place t_isFault t_readLamps t_read t_undone t_undos t_aside t_bays t_bests t_kept t_keptUndos t_isKept t_lanes t_sizes t_items t_moved)) ms_X7_in lk_7_53 (c_X7_in l D ks cI cL cC cM cS (x1.toInt64) 1 40) [] [0, 1, 2, 3, 4, 5, 6, 7, 8, 9, 10, 11, 12, 13, 14] [0, 1, 2, 3, 4, 5, 6, 7, 8, 9, 10, 11, 12, 13, 14] rfl rfl rfl rfl (by decide +kernel) (fun _ => rfl) (by decide) (Nat.le_of_ble_eq_true rfl) dX7_earn_6 (fun r6 => [.int r6]) (fun _ => rfl) (fun r6 _ => ?_)
  refine G.if_eq 17 dX7_earn_9 (by decide) (fun h9 => ?_) (fun h9 => ?_)
  · refine G.iconst (-1) dX7_earn_17 (by decide) ?_
    exact G.iret rfl rfl dX7_earn_18
  · refine G.iload_n dX7_earn_12 rfl ?_
    refine G.iconst (-1) dX7_earn_13 (by decide) ?_
    refine G.icmp_ge 19 dX7_earn_14 (by decide) (fun h14 => ?_) (fun h14 => ?_)
    · refine G.aload_n dX7_earn_19 rfl ?_
      refine G.iconst (-1) dX7_earn_20 (by decide) ?_
      refine G.iload_n dX7_earn_21 rfl ?_
      refine G.callV (st := []) (w' := fun r22 => (w_X7 cI cL cC cM cS a r22.2.1 r22.2.2.1 t_tape t_typed t_place t_isFault t_readLamps t_read t_undone t_undos r22.2.2.2.1 r22.2.2.2.2.1 r22.2.2.2.2.2 t_kept t_keptUndos t_isKept t_lanes t_sizes t_items t_moved)) mv_X7_deals lk_7_219 (c_X7_deals l D ks cI cL cC cM cS a t_now t_mores t_tape t_typed t_place t_isFault t_readLamps t_read t_undone t_undos t_aside t_bays t_bests t_kept t_keptUndos t_isKept t_lanes t_sizes t_items t_moved (-1) x1) [0, 1, 2, 3, 4, 5, 6, 7, 8, 9, 10, 11, 12, 13, 14] [] [0, 1, 2, 3, 4, 5, 6, 7, 8, 9, 10, 11, 12, 13, 14] rfl rfl rfl rfl (by decide +kernel) (fun _ => rfl) rfl (by decide) (Nat.le_of_ble_eq_true rfl) dX7_earn_22 (fun r22 => [.int r22.1]) (fun _ => rfl) (fun r22 _ => ?_)
      refine G.istore_n (lv' := [some (.ref (a 0)), some (.int x1), some (.int x2), some (.int r22.1)]) dX7_earn_25 (by decide) (Nat.le_of_ble_eq_true rfl) rfl rfl ?_
      refine G.iload_n dX7_earn_26 rfl ?_
      refine G.if_ge 35 dX7_earn_27 (by decide) (fun h27 => ?_) (fun h27 => ?_)
      · refine G.iload_n dX7_earn_35 rfl ?_
        refine G.aload_n dX7_earn_36 rfl ?_
        refine G.get fl_7_7 0 rfl rfl dX7_earn_37 ?_
        refine G.iconst 0 dX7_earn_40 (by decide) ?_
        refine G.iaload 1 0 rfl rfl 0 (by decide) (by decide) dX7_earn_41 ?_
        refine G.topi (fun v41 => ?_)
        refine G.icmp_ge 54 dX7_earn_42 (by decide) (fun h42 => ?_) (fun h42 => ?_)
        · refine G.bipush (-4) dX7_earn_54 (by decide) ?_
          exact G.iret rfl rfl dX7_earn_56
        · refine G.aload_n dX7_earn_45 rfl ?_
          refine G.get fl_7_34 0 rfl rfl dX7_earn_46 ?_
          refine G.iload_n dX7_earn_49 rfl ?_
          refine G.chk (fun h50 => ?_)
          refine G.iaload 9 0 rfl rfl x2.toNatClampNeg rfl h50 dX7_earn_50 ?_
          refine G.topi (fun v50 => ?_)
          refine G.goto 56 dX7_earn_51 (by decide) ?_
          exact G.iret rfl rfl dX7_earn_56
      · refine G.iload_n dX7_earn_30 rfl ?_
        refine G.ineg dX7_earn_31 ?_
        refine G.goto 56 dX7_earn_32 (by decide) ?_
        exact G.iret rfl rfl dX7_earn_56
    · refine G.iconst (-1) dX7_earn_17 (by decide) ?_
      exact G.iret rfl rfl dX7_earn_18
set_option maxHeartbeats 4000000 in
set_option maxRecDepth 100000 in
theorem c_X7_isLane (l : Launch) (D : va_G) (ks : Nat × Nat) (cI cL cC cM cS : ClassId) (x0 : Int32) : MT l D ks (tyz cI cL cC cM cS) yX7_isLane cX7_isLane 1 ((some .boolean)) { frames := 1, cells := 0, slots := 0, locals := 25 } [.int x0] (w_0 cI cL cC cM cS  ) (fun r : Int32 => (some (.int r), (w_0 cI cL cC cM cS  ))) (f_X7_isLane x0) := by
  refine MT.of 0 [some (.int x0)] (by decide) (Nat.le_of_ble_eq_true rfl) rfl ?_
  unfold f_X7_isLane
  refine G.iload_n dX7_isLane_0 rfl ?_
  refine G.i2l dX7_isLane_1 ?_
  refine G.lconst 0 dX7_isLane_2 (by decide) ?_
  refine G.ldc2 kl_7_232 dX7_isLane_3 ?_
  refine G.callS (st := []) (w' := fun r6 => (w_0 cI cL cC cM cS  )) ms_X7_in lk_7_53 (c_X7_in l D ks cI cL cC cM cS (x0.toInt64) 0 3) [] [] [] rfl rfl rfl rfl (by decide +kernel) (fun _ => rfl) (by decide) (Nat.le_of_ble_eq_true rfl) dX7_isLane_6 (fun r6 => [.int r6]) (fun _ => rfl) (fun r6 _ => ?_)
  refine G.chk (fun h9 => ?_)
  exact G.zret rfl rfl (isb_n h9) dX7_isLane_9
set_option maxHeartbeats 4000000 in
set_option maxRecDepth 100000 in
theorem g_X7_film_c64 (l : Launch) (D : va_G) (ks : Nat × Nat) (cI cL cC cM cS : ClassId) (a : Nat → Nat) (t_tape : Nat → Int32) (t_typed t_place t_isFault : Int32) (t_readLamps t_read t_undone : Nat → Int32) (t_undos : Int32) (t_bays t_bests t_kept : Nat → Int32) (t_keptUndos t_isKept : Int32) (t_moved : Nat → Int64) : ∀ (n : Nat), ∀ (t_now t_mores t_aside t_lanes t_sizes : Nat → Int32) (t_items : Nat → Int64) (x1 : Int32) (x2 : Int32) (x3 : Int32) (x5 : Int32) (x7 : Int32), GJ l D ks (tyz cI cL cC cM cS) RX7 cX7_film 8 ((some .int)) { frames := 6, cells := 0, slots := 0, locals := 132 } (fun r : Int32 × (Nat → Int32) × (Nat → Int32) × (Nat → Int32) × (Nat → Int64) => (some (.int r.1), (w_X7 cI cL cC cM cS a r.2.1 r.2.2.1 t_tape t_typed t_place t_isFault t_readLamps t_read t_undone t_undos r.2.2.2.1 t_bays t_bests t_kept t_keptUndos t_isKept t_lanes t_sizes r.2.2.2.2 t_moved))) (w_X7 cI cL cC cM cS a t_now t_mores t_tape t_typed t_place t_isFault t_readLamps t_read t_undone t_undos t_aside t_bays t_bests t_kept t_keptUndos t_isKept t_lanes t_sizes t_items t_moved) 64 [some (.ref (a 0)), some (.int x1), some (.int x2), some (.int x3), none, some (.int x5), none, some (.int x7)] [] (f_X7_film_c64 n t_now t_mores t_aside t_lanes t_sizes t_items x1 x2 x3 x5 x7) := by
  intro n
  induction n with
  | zero =>
    intro t_now t_mores t_aside t_lanes t_sizes t_items x1 x2 x3 x5 x7
    exact G.no
  | succ n ih =>
    intro t_now t_mores t_aside t_lanes t_sizes t_items x1 x2 x3 x5 x7
    rw [f_X7_film_c64]
    refine G.iload dX7_film_64 rfl ?_
    refine G.iload_n dX7_film_66 rfl ?_
    refine G.icmp_ge 101 dX7_film_67 (by decide) (fun h67 => ?_) (fun h67 => ?_)
    · refine G.aload_n dX7_film_101 rfl ?_
      refine G.callV (st := []) (w' := fun r102 => (w_X7 cI cL cC cM cS a r102 t_mores t_tape t_typed t_place t_isFault t_readLamps t_read t_undone t_undos t_aside t_bays t_bests t_kept t_keptUndos t_isKept t_lanes t_sizes t_items t_moved)) mv_X7_backs lk_7_193 (c_X7_backs l D ks cI cL cC cM cS a t_now t_mores t_tape t_typed t_place t_isFault t_readLamps t_read t_undone t_undos t_aside t_bays t_bests t_kept t_keptUndos t_isKept t_lanes t_sizes t_items t_moved) [0, 1, 2, 3, 4, 5, 6, 7, 8, 9, 10, 11, 12, 13, 14] [] [0, 1, 2, 3, 4, 5, 6, 7, 8, 9, 10, 11, 12, 13, 14] rfl rfl rfl rfl (by decide +kernel) (fun _ => rfl) rfl (by decide) (Nat.le_of_ble_eq_true rfl) dX7_film_102 (fun r102 => []) (fun _ => rfl) (fun r102 _ => ?_)
      refine G.iload_n dX7_film_105 rfl ?_
      exact G.iret rfl rfl dX7_film_106
    · refine G.aload_n dX7_film_70 rfl ?_
      refine G.callV (st := []) (w' := fun r71 => (w_X7 cI cL cC cM cS a r71.1 r71.2 t_tape t_typed t_place t_isFault t_readLamps t_read t_undone t_undos t_aside t_bays t_bests t_kept t_keptUndos t_isKept t_lanes t_sizes t_items t_moved)) mv_X7_goesBy lk_7_97 (c_X7_goesBy l D ks cI cL cC cM cS a t_now t_mores t_tape t_typed t_place t_isFault t_readLamps t_read t_undone t_undos t_aside t_bays t_bests t_kept t_keptUndos t_isKept t_lanes t_sizes t_items t_moved) [0, 1, 2, 3, 4, 5, 6, 7, 8, 9, 10, 11, 12, 13, 14] [] [0, 1, 2, 3, 4, 5, 6, 7, 8, 9, 10, 11, 12, 13, 14] rfl rfl rfl rfl (by decide +kernel) (fun _ => rfl) rfl (by decide) (Nat.le_of_ble_eq_true rfl) dX7_film_71 (fun r71 => []) (fun _ => rfl) (fun r71 _ => ?_)
      refine G.aload_n dX7_film_74 rfl ?_
      refine G.get fl_7_46 0 rfl rfl dX7_film_75 ?_
      refine G.bipush 24 dX7_film_78 (by decide) ?_
      refine G.iload_n dX7_film_80 rfl ?_
      refine G.imul dX7_film_81 ?_
      refine G.iload dX7_film_82 rfl ?_
      refine G.iadd dX7_film_84 ?_
      refine G.iload dX7_film_85 rfl ?_
      refine G.iadd dX7_film_87 ?_
      refine G.aload_n dX7_film_88 rfl ?_
      refine G.iload_n dX7_film_89 rfl ?_
      refine G.callV (st := [.int (((24 * x3) + x5) + x7), .ref (a 13)]) (w' := fun r90 => (w_X7 cI cL cC cM cS a r71.1 r71.2 t_tape t_typed t_place t_isFault t_readLamps t_read t_undone t_undos t_aside t_bays t_bests t_kept t_keptUndos t_isKept t_lanes t_sizes t_items t_moved)) mv_X7_used lk_7_63 (c_X7_used l D ks cI cL cC cM cS a r71.1 r71.2 t_tape t_typed t_place t_isFault t_readLamps t_read t_undone t_undos t_aside t_bays t_bests t_kept t_keptUndos t_isKept t_lanes t_sizes t_items t_moved x1) [0, 1, 2, 3, 4, 5, 6, 7, 8, 9, 10, 11, 12, 13, 14] [] [0, 1, 2, 3, 4, 5, 6, 7, 8, 9, 10, 11, 12, 13, 14] rfl rfl rfl rfl (by decide +kernel) (fun _ => rfl) rfl (by decide) (Nat.le_of_ble_eq_true rfl) dX7_film_90 (fun r90 => [.int r90, .int (((24 * x3) + x5) + x7), .ref (a 13)]) (fun _ => rfl) (fun r90 _ => ?_)
      refine G.i2l dX7_film_93 ?_
      refine G.chk (fun h94 => ?_)
      refine G.lastore (w' := (w_X7 cI cL cC cM cS a r71.1 r71.2 t_tape t_typed t_place t_isFault t_readLamps t_read t_undone t_undos t_aside t_bays t_bests t_kept t_keptUndos t_isKept t_lanes t_sizes (vp_updL t_items ((((24 * x3) + x5) + x7).toNatClampNeg) (r90.toInt64)) t_moved)) 13 1 rfl rfl ((((24 * x3) + x5) + x7).toNatClampNeg) rfl h94 rfl dX7_film_94 ?_
      refine G.iinc 1 (lv' := [some (.ref (a 0)), some (.int x1), some (.int x2), some (.int x3), none, some (.int x5), none, some (.int (x7 + 1))]) dX7_film_95 rfl (by decide) (by decide) (Nat.le_of_ble_eq_true rfl) rfl rfl ?_
      refine G.goto 64 dX7_film_98 (by decide) ?_
      exact ih r71.1 r71.2 t_aside t_lanes t_sizes (vp_updL t_items ((((24 * x3) + x5) + x7).toNatClampNeg) (r90.toInt64)) x1 x2 x3 x5 (x7 + 1)
set_option maxHeartbeats 4000000 in
set_option maxRecDepth 100000 in
theorem c_X7_film (l : Launch) (D : va_G) (ks : Nat × Nat) (cI cL cC cM cS : ClassId) (a : Nat → Nat) (t_now t_mores t_tape : Nat → Int32) (t_typed t_place t_isFault : Int32) (t_readLamps t_read t_undone : Nat → Int32) (t_undos : Int32) (t_aside t_bays t_bests t_kept : Nat → Int32) (t_keptUndos t_isKept : Int32) (t_lanes t_sizes : Nat → Int32) (t_items t_moved : Nat → Int64) (x1 : Int32) (x2 : Int32) (x3 : Int32) (x4 : Int32) (x5 : Int32) : MT l D ks (tyz cI cL cC cM cS) yX7_film cX7_film 8 ((some .int)) { frames := 6, cells := 0, slots := 0, locals := 132 } [.ref (a 0), .int x1, .int x2, .int x3, .int x4, .int x5] (w_X7 cI cL cC cM cS a t_now t_mores t_tape t_typed t_place t_isFault t_readLamps t_read t_undone t_undos t_aside t_bays t_bests t_kept t_keptUndos t_isKept t_lanes t_sizes t_items t_moved) (fun r : Int32 × (Nat → Int32) × (Nat → Int32) × (Nat → Int32) × (Nat → Int64) => (some (.int r.1), (w_X7 cI cL cC cM cS a r.2.1 r.2.2.1 t_tape t_typed t_place t_isFault t_readLamps t_read t_undone t_undos r.2.2.2.1 t_bays t_bests t_kept t_keptUndos t_isKept t_lanes t_sizes r.2.2.2.2 t_moved))) (f_X7_film t_now t_mores t_aside t_lanes t_sizes t_items x1 x2 x3 x4 x5) := by
  refine MT.of 2 [some (.ref (a 0)), some (.int x1), some (.int x2), some (.int x3), some (.int x4), some (.int x5), none, none] (by decide) (Nat.le_of_ble_eq_true rfl) rfl ?_
  unfold f_X7_film
  refine G.aload_n dX7_film_0 rfl ?_
  refine G.iload_n dX7_film_1 rfl ?_
  refine G.callV (st := []) (w' := fun r2 => (w_X7 cI cL cC cM cS a t_now t_mores t_tape t_typed t_place t_isFault t_readLamps t_read t_undone t_undos t_aside t_bays t_bests t_kept t_keptUndos t_isKept t_lanes t_sizes t_items t_moved)) mv_X7_isHolder lk_7_120 (c_X7_isHolder l D ks cI cL cC cM cS a t_now t_mores t_tape t_typed t_place t_isFault t_readLamps t_read t_undone t_undos t_aside t_bays t_bests t_kept t_keptUndos t_isKept t_lanes t_sizes t_items t_moved x1) [0, 1, 2, 3, 4, 5, 6, 7, 8, 9, 10, 11, 12, 13, 14] [] [0, 1, 2, 3, 4, 5, 6, 7, 8, 9, 10, 11, 12, 13, 14] rfl rfl rfl rfl (by decide +kernel) (fun _ => rfl) rfl (by decide) (Nat.le_of_ble_eq_true rfl) dX7_film_2 (fun r2 => [.int r2]) (fun _ => rfl) (fun r2 _ => ?_)
  refine G.if_eq 35 dX7_film_5 (by decide) (fun h5 => ?_) (fun h5 => ?_)
  · refine G.iconst (-1) dX7_film_35 (by decide) ?_
    exact G.iret rfl rfl dX7_film_36
  · refine G.iload_n dX7_film_8 rfl ?_
    refine G.i2l dX7_film_9 ?_
    refine G.lconst 1 dX7_film_10 (by decide) ?_
    refine G.ldc2 kl_7_250 dX7_film_11 ?_
    refine G.callS (st := []) (w' := fun r14 => (w_X7 cI cL cC cM cS a t_now t_mores t_tape t_typed t_place t_isFault t_readLamps t_read t_undone t_undos t_aside t_bays t_bests t_kept t_keptUndos t_isKept t_lanes t_sizes t_items t_moved)) ms_X7_in lk_7_53 (c_X7_in l D ks cI cL cC cM cS (x2.toInt64) 1 24) [] [0, 1, 2, 3, 4, 5, 6, 7, 8, 9, 10, 11, 12, 13, 14] [0, 1, 2, 3, 4, 5, 6, 7, 8, 9, 10, 11, 12, 13, 14] rfl rfl rfl rfl (by decide +kernel) (fun _ => rfl) (by decide) (Nat.le_of_ble_eq_true rfl) dX7_film_14 (fun r14 => [.int r14]) (fun _ => rfl) (fun r14 _ => ?_)
    refine G.if_eq 35 dX7_film_17 (by decide) (fun h17 => ?_) (fun h17 => ?_)
    · refine G.iconst (-1) dX7_film_35 (by decide) ?_
      exact G.iret rfl rfl dX7_film_36
    · refine G.iload_n dX7_film_20 rfl ?_
      refine G.callS (st := []) (w' := fun r21 => (w_X7 cI cL cC cM cS a t_now t_mores t_tape t_typed t_place t_isFault t_readLamps t_read t_undone t_undos t_aside t_bays t_bests t_kept t_keptUndos t_isKept t_lanes t_sizes t_items t_moved)) ms_X7_isSheet lk_7_234 (c_X7_isSheet l D ks cI cL cC cM cS x3) [] [0, 1, 2, 3, 4, 5, 6, 7, 8, 9, 10, 11, 12, 13, 14] [0, 1, 2, 3, 4, 5, 6, 7, 8, 9, 10, 11, 12, 13, 14] rfl rfl rfl rfl (by decide +kernel) (fun _ => rfl) (by decide) (Nat.le_of_ble_eq_true rfl) dX7_film_21 (fun r21 => [.int r21]) (fun _ => rfl) (fun r21 _ => ?_)
      refine G.if_eq 35 dX7_film_24 (by decide) (fun h24 => ?_) (fun h24 => ?_)
      · refine G.iconst (-1) dX7_film_35 (by decide) ?_
        exact G.iret rfl rfl dX7_film_36
      · refine G.iload dX7_film_27 rfl ?_
        refine G.callS (st := []) (w' := fun r29 => (w_X7 cI cL cC cM cS a t_now t_mores t_tape t_typed t_place t_isFault t_readLamps t_read t_undone t_undos t_aside t_bays t_bests t_kept t_keptUndos t_isKept t_lanes t_sizes t_items t_moved)) ms_X7_isLane lk_7_237 (c_X7_isLane l D ks cI cL cC cM cS x4) [] [0, 1, 2, 3, 4, 5, 6, 7, 8, 9, 10, 11, 12, 13, 14] [0, 1, 2, 3, 4, 5, 6, 7, 8, 9, 10, 11, 12, 13, 14] rfl rfl rfl rfl (by decide +kernel) (fun _ => rfl) (by decide) (Nat.le_of_ble_eq_true rfl) dX7_film_29 (fun r29 => [.int r29]) (fun _ => rfl) (fun r29 _ => ?_)
        refine G.if_ne 37 dX7_film_32 (by decide) (fun h32 => ?_) (fun h32 => ?_)
        · refine G.aload_n dX7_film_37 rfl ?_
          refine G.iload_n dX7_film_38 rfl ?_
          refine G.iload dX7_film_39 rfl ?_
          refine G.iload dX7_film_41 rfl ?_
          refine G.iload_n dX7_film_43 rfl ?_
          refine G.callV (st := []) (w' := fun r44 => (w_X7 cI cL cC cM cS a t_now t_mores t_tape t_typed t_place t_isFault t_readLamps t_read t_undone t_undos t_aside t_bays t_bests t_kept t_keptUndos t_isKept t_lanes t_sizes t_items t_moved)) mv_X7_why lk_7_242 (c_X7_why l D ks cI cL cC cM cS a t_now t_mores t_tape t_typed t_place t_isFault t_readLamps t_read t_undone t_undos t_aside t_bays t_bests t_kept t_keptUndos t_isKept t_lanes t_sizes t_items t_moved x3 x4 x5 x2) [0, 1, 2, 3, 4, 5, 6, 7, 8, 9, 10, 11, 12, 13, 14] [] [0, 1, 2, 3, 4, 5, 6, 7, 8, 9, 10, 11, 12, 13, 14] rfl rfl rfl rfl (by decide +kernel) (fun _ => rfl) rfl (by decide) (Nat.le_of_ble_eq_true rfl) dX7_film_44 (fun r44 => [.int r44]) (fun _ => rfl) (fun r44 _ => ?_)
          refine G.istore (lv' := [some (.ref (a 0)), some (.int x1), some (.int x2), some (.int x3), some (.int x4), some (.int x5), some (.int r44), none]) dX7_film_47 (by decide) (Nat.le_of_ble_eq_true rfl) rfl rfl ?_
          refine G.iload dX7_film_49 rfl ?_
          refine G.if_ge 57 dX7_film_51 (by decide) (fun h51 => ?_) (fun h51 => ?_)
          · refine G.aload_n dX7_film_57 rfl ?_
            refine G.callV (st := []) (w' := fun r58 => (w_X7 cI cL cC cM cS a t_now t_mores t_tape t_typed t_place t_isFault t_readLamps t_read t_undone t_undos r58 t_bays t_bests t_kept t_keptUndos t_isKept t_lanes t_sizes t_items t_moved)) mv_X7_asides lk_7_187 (c_X7_asides l D ks cI cL cC cM cS a t_now t_mores t_tape t_typed t_place t_isFault t_readLamps t_read t_undone t_undos t_aside t_bays t_bests t_kept t_keptUndos t_isKept t_lanes t_sizes t_items t_moved) [0, 1, 2, 3, 4, 5, 6, 7, 8, 9, 10, 11, 12, 13, 14] [] [0, 1, 2, 3, 4, 5, 6, 7, 8, 9, 10, 11, 12, 13, 14] rfl rfl rfl rfl (by decide +kernel) (fun _ => rfl) rfl (by decide) (Nat.le_of_ble_eq_true rfl) dX7_film_58 (fun r58 => []) (fun _ => rfl) (fun r58 _ => ?_)
            refine G.iconst 0 dX7_film_61 (by decide) ?_
            refine G.istore (lv' := [some (.ref (a 0)), some (.int x1), some (.int x2), some (.int x3), some (.int x4), some (.int x5), some (.int r44), some (.int 0)]) dX7_film_62 (by decide) (Nat.le_of_ble_eq_true rfl) rfl rfl ?_
            refine G.mask (lv' := [some (.ref (a 0)), some (.int x1), some (.int x2), some (.int x3), none, some (.int x5), none, some (.int 0)]) [true, true, true, true, false, true, false, true] rfl ?_
            exact g_X7_film_c64 l D ks cI cL cC cM cS a t_tape t_typed t_place t_isFault t_readLamps t_read t_undone t_undos t_bays t_bests t_kept t_keptUndos t_isKept t_moved fu t_now t_mores r58 t_lanes t_sizes t_items x1 x2 x3 x5 0
          · refine G.iload dX7_film_54 rfl ?_
            exact G.iret rfl rfl dX7_film_56
        · refine G.iconst (-1) dX7_film_35 (by decide) ?_
          exact G.iret rfl rfl dX7_film_36
set_option maxHeartbeats 4000000 in
set_option maxRecDepth 100000 in
theorem c_X7_wouldSwap (l : Launch) (D : va_G) (ks : Nat × Nat) (cI cL cC cM cS : ClassId) (a : Nat → Nat) (t_now t_mores t_tape : Nat → Int32) (t_typed t_place t_isFault : Int32) (t_readLamps t_read t_undone : Nat → Int32) (t_undos : Int32) (t_aside t_bays t_bests t_kept : Nat → Int32) (t_keptUndos t_isKept : Int32) (t_lanes t_sizes : Nat → Int32) (t_items t_moved : Nat → Int64) (x1 : Int32) (x2 : Int32) : MT l D ks (tyz cI cL cC cM cS) yX7_wouldSwap cX7_wouldSwap 3 ((some .boolean)) { frames := 3, cells := 0, slots := 0, locals := 64 } [.ref (a 0), .int x1, .int x2] (w_X7 cI cL cC cM cS a t_now t_mores t_tape t_typed t_place t_isFault t_readLamps t_read t_undone t_undos t_aside t_bays t_bests t_kept t_keptUndos t_isKept t_lanes t_sizes t_items t_moved) (fun r : Int32 => (some (.int r), (w_X7 cI cL cC cM cS a t_now t_mores t_tape t_typed t_place t_isFault t_readLamps t_read t_undone t_undos t_aside t_bays t_bests t_kept t_keptUndos t_isKept t_lanes t_sizes t_items t_moved))) (f_X7_wouldSwap t_now x1 x2) := by
  refine MT.of 0 [some (.ref (a 0)), some (.int x1), some (.int x2)] (by decide) (Nat.le_of_ble_eq_true rfl) rfl ?_
  unfold f_X7_wouldSwap
  refine G.aload_n dX7_wouldSwap_0 rfl ?_
  refine G.iload_n dX7_wouldSwap_1 rfl ?_
  refine G.callV (st := []) (w' := fun r2 => (w_X7 cI cL cC cM cS a t_now t_mores t_tape t_typed t_place t_isFault t_readLamps t_read t_undone t_undos t_aside t_bays t_bests t_kept t_keptUndos t_isKept t_lanes t_sizes t_items t_moved)) mv_X7_bayOf lk_7_67 (c_X7_bayOf l D ks cI cL cC cM cS a t_now t_mores t_tape t_typed t_place t_isFault t_readLamps t_read t_undone t_undos t_aside t_bays t_bests t_kept t_keptUndos t_isKept t_lanes t_sizes t_items t_moved x2) [0, 1, 2, 3, 4, 5, 6, 7, 8, 9, 10, 11, 12, 13, 14] [] [0, 1, 2, 3, 4, 5, 6, 7, 8, 9, 10, 11, 12, 13, 14] rfl rfl rfl rfl (by decide +kernel) (fun _ => rfl) rfl (by decide) (Nat.le_of_ble_eq_true rfl) dX7_wouldSwap_2 (fun r2 => [.int r2]) (fun _ => rfl) (fun r2 _ => ?_)
  refine G.aload_n dX7_wouldSwap_5 rfl ?_
  refine G.iload_n dX7_wouldSwap_6 rfl ?_
  refine G.iconst 3 dX7_wouldSwap_7 (by decide) ?_
  refine G.callV (st := [.int r2]) (w' := fun r8 => (w_X7 cI cL cC cM cS a t_now t_mores t_tape t_typed t_place t_isFault t_readLamps t_read t_undone t_undos t_aside t_bays t_bests t_kept t_keptUndos t_isKept t_lanes t_sizes t_items t_moved)) mv_X7_told lk_7_59 (c_X7_told l D ks cI cL cC cM cS a t_now t_mores t_tape t_typed t_place t_isFault t_readLamps t_read t_undone t_undos t_aside t_bays t_bests t_kept t_keptUndos t_isKept t_lanes t_sizes t_items t_moved x1 3) [0, 1, 2, 3, 4, 5, 6, 7, 8, 9, 10, 11, 12, 13, 14] [] [0, 1, 2, 3, 4, 5, 6, 7, 8, 9, 10, 11, 12, 13, 14] rfl rfl rfl rfl (by decide +kernel) (fun _ => rfl) rfl (by decide) (Nat.le_of_ble_eq_true rfl) dX7_wouldSwap_8 (fun r8 => [.int r8, .int r2]) (fun _ => rfl) (fun r8 _ => ?_)
  refine G.callS (st := []) (w' := fun r11 => (w_X7 cI cL cC cM cS a t_now t_mores t_tape t_typed t_place t_isFault t_readLamps t_read t_undone t_undos t_aside t_bays t_bests t_kept t_keptUndos t_isKept t_lanes t_sizes t_items t_moved)) ms_X7_apart lk_7_70 (c_X7_apart l D ks cI cL cC cM cS r2 r8) [] [0, 1, 2, 3, 4, 5, 6, 7, 8, 9, 10, 11, 12, 13, 14] [0, 1, 2, 3, 4, 5, 6, 7, 8, 9, 10, 11, 12, 13, 14] rfl rfl rfl rfl (by decide +kernel) (fun _ => rfl) (by decide) (Nat.le_of_ble_eq_true rfl) dX7_wouldSwap_11 (fun r11 => [.int r11]) (fun _ => rfl) (fun r11 _ => ?_)
  refine G.aload_n dX7_wouldSwap_14 rfl ?_
  refine G.iload_n dX7_wouldSwap_15 rfl ?_
  refine G.callV (st := [.int r11]) (w' := fun r16 => (w_X7 cI cL cC cM cS a t_now t_mores t_tape t_typed t_place t_isFault t_readLamps t_read t_undone t_undos t_aside t_bays t_bests t_kept t_keptUndos t_isKept t_lanes t_sizes t_items t_moved)) mv_X7_far lk_7_73 (c_X7_far l D ks cI cL cC cM cS a t_now t_mores t_tape t_typed t_place t_isFault t_readLamps t_read t_undone t_undos t_aside t_bays t_bests t_kept t_keptUndos t_isKept t_lanes t_sizes t_items t_moved x1) [0, 1, 2, 3, 4, 5, 6, 7, 8, 9, 10, 11, 12, 13, 14] [] [0, 1, 2, 3, 4, 5, 6, 7, 8, 9, 10, 11, 12, 13, 14] rfl rfl rfl rfl (by decide +kernel) (fun _ => rfl) rfl (by decide) (Nat.le_of_ble_eq_true rfl) dX7_wouldSwap_16 (fun r16 => [.int r16, .int r11]) (fun _ => rfl) (fun r16 _ => ?_)
  refine G.icmp_ge 48 dX7_wouldSwap_19 (by decide) (fun h19 => ?_) (fun h19 => ?_)
  · refine G.iconst 0 dX7_wouldSwap_48 (by decide) ?_
    exact G.zret rfl rfl rfl dX7_wouldSwap_49
  · refine G.aload_n dX7_wouldSwap_22 rfl ?_
    refine G.iload_n dX7_wouldSwap_23 rfl ?_
    refine G.callV (st := []) (w' := fun r24 => (w_X7 cI cL cC cM cS a t_now t_mores t_tape t_typed t_place t_isFault t_readLamps t_read t_undone t_undos t_aside t_bays t_bests t_kept t_keptUndos t_isKept t_lanes t_sizes t_items t_moved)) mv_X7_bayOf lk_7_67 (c_X7_bayOf l D ks cI cL cC cM cS a t_now t_mores t_tape t_typed t_place t_isFault t_readLamps t_read t_undone t_undos t_aside t_bays t_bests t_kept t_keptUndos t_isKept t_lanes t_sizes t_items t_moved x1) [0, 1, 2, 3, 4, 5, 6, 7, 8, 9, 10, 11, 12, 13, 14] [] [0, 1, 2, 3, 4, 5, 6, 7, 8, 9, 10, 11, 12, 13, 14] rfl rfl rfl rfl (by decide +kernel) (fun _ => rfl) rfl (by decide) (Nat.le_of_ble_eq_true rfl) dX7_wouldSwap_24 (fun r24 => [.int r24]) (fun _ => rfl) (fun r24 _ => ?_)
    refine G.aload_n dX7_wouldSwap_27 rfl ?_
    refine G.iload_n dX7_wouldSwap_28 rfl ?_
    refine G.iconst 3 dX7_wouldSwap_29 (by decide) ?_
    refine G.callV (st := [.int r24]) (w' := fun r30 => (w_X7 cI cL cC cM cS a t_now t_mores t_tape t_typed t_place t_isFault t_readLamps t_read t_undone t_undos t_aside t_bays t_bests t_kept t_keptUndos t_isKept t_lanes t_sizes t_items t_moved)) mv_X7_told lk_7_59 (c_X7_told l D ks cI cL cC cM cS a t_now t_mores t_tape t_typed t_place t_isFault t_readLamps t_read t_undone t_undos t_aside t_bays t_bests t_kept t_keptUndos t_isKept t_lanes t_sizes t_items t_moved x2 3) [0, 1, 2, 3, 4, 5, 6, 7, 8, 9, 10, 11, 12, 13, 14] [] [0, 1, 2, 3, 4, 5, 6, 7, 8, 9, 10, 11, 12, 13, 14] rfl rfl rfl rfl (by decide +kernel) (fun _ => rfl) rfl (by decide) (Nat.le_of_ble_eq_true rfl) dX7_wouldSwap_30 (fun r30 => [.int r30, .int r24]) (fun _ => rfl) (fun r30 _ => ?_)
    refine G.callS (st := []) (w' := fun r33 => (w_X7 cI cL cC cM cS a t_now t_mores t_tape t_typed t_place t_isFault t_readLamps t_read t_undone t_undos t_aside t_bays t_bests t_kept t_keptUndos t_isKept t_lanes t_sizes t_items t_moved)) ms_X7_apart lk_7_70 (c_X7_apart l D ks cI cL cC cM cS r24 r30) [] [0, 1, 2, 3, 4, 5, 6, 7, 8, 9, 10, 11, 12, 13, 14] [0, 1, 2, 3, 4, 5, 6, 7, 8, 9, 10, 11, 12, 13, 14] rfl rfl rfl rfl (by decide +kernel) (fun _ => rfl) (by decide) (Nat.le_of_ble_eq_true rfl) dX7_wouldSwap_33 (fun r33 => [.int r33]) (fun _ => rfl) (fun r33 _ => ?_)
    refine G.aload_n dX7_wouldSwap_36 rfl ?_
    refine G.iload_n dX7_wouldSwap_37 rfl ?_
    refine G.callV (st := [.int r33]) (w' := fun r38 => (w_X7 cI cL cC cM cS a t_now t_mores t_tape t_typed t_place t_isFault t_readLamps t_read t_undone t_undos t_aside t_bays t_bests t_kept t_keptUndos t_isKept t_lanes t_sizes t_items t_moved)) mv_X7_far lk_7_73 (c_X7_far l D ks cI cL cC cM cS a t_now t_mores t_tape t_typed t_place t_isFault t_readLamps t_read t_undone t_undos t_aside t_bays t_bests t_kept t_keptUndos t_isKept t_lanes t_sizes t_items t_moved x2) [0, 1, 2, 3, 4, 5, 6, 7, 8, 9, 10, 11, 12, 13, 14] [] [0, 1, 2, 3, 4, 5, 6, 7, 8, 9, 10, 11, 12, 13, 14] rfl rfl rfl rfl (by decide +kernel) (fun _ => rfl) rfl (by decide) (Nat.le_of_ble_eq_true rfl) dX7_wouldSwap_38 (fun r38 => [.int r38, .int r33]) (fun _ => rfl) (fun r38 _ => ?_)
    refine G.join (st := []) Value.int 49 (fun v49 => ?_) (fun hJ => ?_)
    · refine G.chk (fun h49 => ?_)
      exact G.zret rfl rfl (isb_n h49) dX7_wouldSwap_49
    · refine G.ite ?_
      refine G.icmp_ge 48 dX7_wouldSwap_41 (by decide) (fun _ => ?_) (fun _ => ?_)
      · refine G.iconst 0 dX7_wouldSwap_48 (by decide) ?_
        exact hJ _
      · refine G.iconst 1 dX7_wouldSwap_44 (by decide) ?_
        refine G.goto 49 dX7_wouldSwap_45 (by decide) ?_
        exact hJ _
set_option maxHeartbeats 4000000 in
set_option maxRecDepth 100000 in
theorem g_X7_firstSwap_c25 (l : Launch) (D : va_G) (ks : Nat × Nat) (cI cL cC cM cS : ClassId) (a : Nat → Nat) (t_mores t_tape : Nat → Int32) (t_typed t_place t_isFault : Int32) (t_readLamps t_read t_undone : Nat → Int32) (t_undos : Int32) (t_aside t_bays t_bests t_kept : Nat → Int32) (t_keptUndos t_isKept : Int32) (t_lanes t_sizes : Nat → Int32) (t_items t_moved : Nat → Int64) (k12 : (Nat → Int32) → Int32 → Int32 → Option (Int32)) (hk12 : ∀ (t_now : Nat → Int32) (x1 : Int32) (x2 : Int32), GJ l D ks (tyz cI cL cC cM cS) RX7 cX7_firstSwap 4 ((some .int)) { frames := 4, cells := 0, slots := 0, locals := 86 } (fun r : Int32 => (some (.int r), (w_X7 cI cL cC cM cS a t_now t_mores t_tape t_typed t_place t_isFault t_readLamps t_read t_undone t_undos t_aside t_bays t_bests t_kept t_keptUndos t_isKept t_lanes t_sizes t_items t_moved))) (w_X7 cI cL cC cM cS a t_now t_mores t_tape t_typed t_place t_isFault t_readLamps t_read t_undone t_undos t_aside t_bays t_bests t_kept t_keptUndos t_isKept t_lanes t_sizes t_items t_moved) 12 [some (.ref (a 0)), some (.int x1), some (.int x2), none] [] (k12 t_now x1 x2)) : ∀ (n : Nat), ∀ (t_now : Nat → Int32) (x1 : Int32) (x2 : Int32) (x3 : Int32), GJ l D ks (tyz cI cL cC cM cS) RX7 cX7_firstSwap 4 ((some .int)) { frames := 4, cells := 0, slots := 0, locals := 86 } (fun r : Int32 => (some (.int r), (w_X7 cI cL cC cM cS a t_now t_mores t_tape t_typed t_place t_isFault t_readLamps t_read t_undone t_undos t_aside t_bays t_bests t_kept t_keptUndos t_isKept t_lanes t_sizes t_items t_moved))) (w_X7 cI cL cC cM cS a t_now t_mores t_tape t_typed t_place t_isFault t_readLamps t_read t_undone t_undos t_aside t_bays t_bests t_kept t_keptUndos t_isKept t_lanes t_sizes t_items t_moved) 25 [some (.ref (a 0)), some (.int x1), some (.int x2), some (.int x3)] [] (f_X7_firstSwap_c25 k12 n t_now x1 x2 x3) := by
  intro n
  induction n with
  | zero =>
    intro t_now x1 x2 x3
    exact G.no
  | succ n ih =>
    intro t_now x1 x2 x3
    rw [f_X7_firstSwap_c25]
    refine G.iload_n dX7_firstSwap_25 rfl ?_
    refine G.iload_n dX7_firstSwap_26 rfl ?_
    refine G.icmp_le 56 dX7_firstSwap_27 (by decide) (fun h27 => ?_) (fun h27 => ?_)
    · refine G.iinc (-1) (lv' := [some (.ref (a 0)), some (.int x1), some (.int (x2 + (-1))), some (.int x3)]) dX7_firstSwap_56 rfl (by decide) (by decide) (Nat.le_of_ble_eq_true rfl) rfl rfl ?_
      refine G.goto 12 dX7_firstSwap_59 (by decide) ?_
      refine G.mask (lv' := [some (.ref (a 0)), some (.int x1), some (.int (x2 + (-1))), none]) [true, true, true, false] rfl ?_
      exact hk12 t_now x1 (x2 + (-1))
    · refine G.aload_n dX7_firstSwap_30 rfl ?_
      refine G.iload_n dX7_firstSwap_31 rfl ?_
      refine G.iload_n dX7_firstSwap_32 rfl ?_
      refine G.callV (st := []) (w' := fun r33 => (w_X7 cI cL cC cM cS a t_now t_mores t_tape t_typed t_place t_isFault t_readLamps t_read t_undone t_undos t_aside t_bays t_bests t_kept t_keptUndos t_isKept t_lanes t_sizes t_items t_moved)) mv_X7_wouldSwap lk_7_205 (c_X7_wouldSwap l D ks cI cL cC cM cS a t_now t_mores t_tape t_typed t_place t_isFault t_readLamps t_read t_undone t_undos t_aside t_bays t_bests t_kept t_keptUndos t_isKept t_lanes t_sizes t_items t_moved x2 x3) [0, 1, 2, 3, 4, 5, 6, 7, 8, 9, 10, 11, 12, 13, 14] [] [0, 1, 2, 3, 4, 5, 6, 7, 8, 9, 10, 11, 12, 13, 14] rfl rfl rfl rfl (by decide +kernel) (fun _ => rfl) rfl (by decide) (Nat.le_of_ble_eq_true rfl) dX7_firstSwap_33 (fun r33 => [.int r33]) (fun _ => rfl) (fun r33 _ => ?_)
      refine G.join (st := []) Value.int 49 (fun v49 => ?_) (fun hJ => ?_)
      · refine G.istore_n (lv' := [some (.ref (a 0)), some (.int v49), some (.int x2), some (.int x3)]) dX7_firstSwap_49 (by decide) (Nat.le_of_ble_eq_true rfl) rfl rfl ?_
        refine G.iinc (-1) (lv' := [some (.ref (a 0)), some (.int v49), some (.int x2), some (.int (x3 + (-1)))]) dX7_firstSwap_50 rfl (by decide) (by decide) (Nat.le_of_ble_eq_true rfl) rfl rfl ?_
        refine G.goto 25 dX7_firstSwap_53 (by decide) ?_
        exact ih t_now v49 x2 (x3 + (-1))
      · refine G.ite ?_
        refine G.if_eq 48 dX7_firstSwap_36 (by decide) (fun _ => ?_) (fun _ => ?_)
        · refine G.iload_n dX7_firstSwap_48 rfl ?_
          exact hJ _
        · refine G.bipush 10 dX7_firstSwap_39 (by decide) ?_
          refine G.iload_n dX7_firstSwap_41 rfl ?_
          refine G.imul dX7_firstSwap_42 ?_
          refine G.iload_n dX7_firstSwap_43 rfl ?_
          refine G.iadd dX7_firstSwap_44 ?_
          refine G.goto 49 dX7_firstSwap_45 (by decide) ?_
          exact hJ _
set_option maxHeartbeats 4000000 in
set_option maxRecDepth 100000 in
theorem g_X7_firstSwap_c12 (l : Launch) (D : va_G) (ks : Nat × Nat) (cI cL cC cM cS : ClassId) (a : Nat → Nat) (t_mores t_tape : Nat → Int32) (t_typed t_place t_isFault : Int32) (t_readLamps t_read t_undone : Nat → Int32) (t_undos : Int32) (t_aside t_bays t_bests t_kept : Nat → Int32) (t_keptUndos t_isKept : Int32) (t_lanes t_sizes : Nat → Int32) (t_items t_moved : Nat → Int64) : ∀ (n : Nat), ∀ (t_now : Nat → Int32) (x1 : Int32) (x2 : Int32), GJ l D ks (tyz cI cL cC cM cS) RX7 cX7_firstSwap 4 ((some .int)) { frames := 4, cells := 0, slots := 0, locals := 86 } (fun r : Int32 => (some (.int r), (w_X7 cI cL cC cM cS a t_now t_mores t_tape t_typed t_place t_isFault t_readLamps t_read t_undone t_undos t_aside t_bays t_bests t_kept t_keptUndos t_isKept t_lanes t_sizes t_items t_moved))) (w_X7 cI cL cC cM cS a t_now t_mores t_tape t_typed t_place t_isFault t_readLamps t_read t_undone t_undos t_aside t_bays t_bests t_kept t_keptUndos t_isKept t_lanes t_sizes t_items t_moved) 12 [some (.ref (a 0)), some (.int x1), some (.int x2), none] [] (f_X7_firstSwap_c12 n t_now x1 x2) := by
  intro n
  induction n with
  | zero =>
    intro t_now x1 x2
    exact G.no
  | succ n ih =>
    intro t_now x1 x2
    rw [f_X7_firstSwap_c12]
    refine G.iload_n dX7_firstSwap_12 rfl ?_
    refine G.if_lt 62 dX7_firstSwap_13 (by decide) (fun h13 => ?_) (fun h13 => ?_)
    · refine G.iload_n dX7_firstSwap_62 rfl ?_
      exact G.iret rfl rfl dX7_firstSwap_63
    · refine G.aload_n dX7_firstSwap_16 rfl ?_
      refine G.get fl_7_7 0 rfl rfl dX7_firstSwap_17 ?_
      refine G.iconst 0 dX7_firstSwap_20 (by decide) ?_
      refine G.iaload 1 0 rfl rfl 0 (by decide) (by decide) dX7_firstSwap_21 ?_
      refine G.topi (fun v21 => ?_)
      refine G.iconst 1 dX7_firstSwap_22 (by decide) ?_
      refine G.isub dX7_firstSwap_23 ?_
      refine G.istore_n (lv' := [some (.ref (a 0)), some (.int x1), some (.int x2), some (.int (v21 - 1))]) dX7_firstSwap_24 (by decide) (Nat.le_of_ble_eq_true rfl) rfl rfl ?_
      exact g_X7_firstSwap_c25 l D ks cI cL cC cM cS a t_mores t_tape t_typed t_place t_isFault t_readLamps t_read t_undone t_undos t_aside t_bays t_bests t_kept t_keptUndos t_isKept t_lanes t_sizes t_items t_moved (f_X7_firstSwap_c12 n) ih fu t_now x1 x2 (v21 - 1)
set_option maxHeartbeats 4000000 in
set_option maxRecDepth 100000 in
theorem c_X7_firstSwap (l : Launch) (D : va_G) (ks : Nat × Nat) (cI cL cC cM cS : ClassId) (a : Nat → Nat) (t_now t_mores t_tape : Nat → Int32) (t_typed t_place t_isFault : Int32) (t_readLamps t_read t_undone : Nat → Int32) (t_undos : Int32) (t_aside t_bays t_bests t_kept : Nat → Int32) (t_keptUndos t_isKept : Int32) (t_lanes t_sizes : Nat → Int32) (t_items t_moved : Nat → Int64) : MT l D ks (tyz cI cL cC cM cS) yX7_firstSwap cX7_firstSwap 4 ((some .int)) { frames := 4, cells := 0, slots := 0, locals := 86 } [.ref (a 0)] (w_X7 cI cL cC cM cS a t_now t_mores t_tape t_typed t_place t_isFault t_readLamps t_read t_undone t_undos t_aside t_bays t_bests t_kept t_keptUndos t_isKept t_lanes t_sizes t_items t_moved) (fun r : Int32 => (some (.int r), (w_X7 cI cL cC cM cS a t_now t_mores t_tape t_typed t_place t_isFault t_readLamps t_read t_undone t_undos t_aside t_bays t_bests t_kept t_keptUndos t_isKept t_lanes t_sizes t_items t_moved))) (f_X7_firstSwap t_now) := by
  refine MT.of 3 [some (.ref (a 0)), none, none, none] (by decide) (Nat.le_of_ble_eq_true rfl) rfl ?_
  unfold f_X7_firstSwap
  refine G.bipush (-4) dX7_firstSwap_0 (by decide) ?_
  refine G.istore_n (lv' := [some (.ref (a 0)), some (.int (-4)), none, none]) dX7_firstSwap_2 (by decide) (Nat.le_of_ble_eq_true rfl) rfl rfl ?_
  refine G.aload_n dX7_firstSwap_3 rfl ?_
  refine G.get fl_7_7 0 rfl rfl dX7_firstSwap_4 ?_
  refine G.iconst 0 dX7_firstSwap_7 (by decide) ?_
  refine G.iaload 1 0 rfl rfl 0 (by decide) (by decide) dX7_firstSwap_8 ?_
  refine G.topi (fun v8 => ?_)
  refine G.iconst 1 dX7_firstSwap_9 (by decide) ?_
  refine G.isub dX7_firstSwap_10 ?_
  refine G.istore_n (lv' := [some (.ref (a 0)), some (.int (-4)), some (.int (v8 - 1)), none]) dX7_firstSwap_11 (by decide) (Nat.le_of_ble_eq_true rfl) rfl rfl ?_
  exact g_X7_firstSwap_c12 l D ks cI cL cC cM cS a t_mores t_tape t_typed t_place t_isFault t_readLamps t_read t_undone t_undos t_aside t_bays t_bests t_kept t_keptUndos t_isKept t_lanes t_sizes t_items t_moved fu t_now (-4) (v8 - 1)
set_option maxHeartbeats 4000000 in
set_option maxRecDepth 100000 in
theorem g_X7_holder_c50 (l : Launch) (D : va_G) (ks : Nat × Nat) (cI cL cC cM cS : ClassId) (a : Nat → Nat) (t_mores t_tape : Nat → Int32) (t_typed t_place t_isFault : Int32) (t_readLamps t_read t_undone t_aside t_bays t_bests t_kept : Nat → Int32) (t_keptUndos t_isKept : Int32) (t_lanes t_sizes : Nat → Int32) (t_items t_moved : Nat → Int64) : ∀ (n : Nat), ∀ (t_now : Nat → Int32) (t_undos : Int32) (x1 : Int32) (x2 : Int32) (x3 : Int32) (x4 : Int32), GJ l D ks (tyz cI cL cC cM cS) RX7 cX7_holder 5 ((some .int)) { frames := 3, cells := 0, slots := 0, locals := 66 } (fun r : Int32 × (Nat → Int32) × Int32 => (some (.int r.1), (w_X7 cI cL cC cM cS a r.2.1 t_mores t_tape t_typed t_place t_isFault t_readLamps t_read t_undone r.2.2 t_aside t_bays t_bests t_kept t_keptUndos t_isKept t_lanes t_sizes t_items t_moved))) (w_X7 cI cL cC cM cS a t_now t_mores t_tape t_typed t_place t_isFault t_readLamps t_read t_undone t_undos t_aside t_bays t_bests t_kept t_keptUndos t_isKept t_lanes t_sizes t_items t_moved) 50 [some (.ref (a 0)), some (.int x1), some (.int x2), some (.int x3), some (.int x4)] [] (f_X7_holder_c50 n t_now t_undos x1 x2 x3 x4) := by
  intro n
  induction n with
  | zero =>
    intro t_now t_undos x1 x2 x3 x4
    exact G.no
  | succ n ih =>
    intro t_now t_undos x1 x2 x3 x4
    rw [f_X7_holder_c50]
    refine G.aload_n dX7_holder_50 rfl ?_
    refine G.iload dX7_holder_51 rfl ?_
    refine G.callV (st := []) (w' := fun r53 => (w_X7 cI cL cC cM cS a t_now t_mores t_tape t_typed t_place t_isFault t_readLamps t_read t_undone t_undos t_aside t_bays t_bests t_kept t_keptUndos t_isKept t_lanes t_sizes t_items t_moved)) mv_X7_whoHas lk_7_111 (c_X7_whoHas l D ks cI cL cC cM cS a t_now t_mores t_tape t_typed t_place t_isFault t_readLamps t_read t_undone t_undos t_aside t_bays t_bests t_kept t_keptUndos t_isKept t_lanes t_sizes t_items t_moved x4) [0, 1, 2, 3, 4, 5, 6, 7, 8, 9, 10, 11, 12, 13, 14] [] [0, 1, 2, 3, 4, 5, 6, 7, 8, 9, 10, 11, 12, 13, 14] rfl rfl rfl rfl (by decide +kernel) (fun _ => rfl) rfl (by decide) (Nat.le_of_ble_eq_true rfl) dX7_holder_53 (fun r53 => [.int r53]) (fun _ => rfl) (fun r53 _ => ?_)
    refine G.bipush (-4) dX7_holder_56 (by decide) ?_
    refine G.icmp_eq 67 dX7_holder_58 (by decide) (fun h58 => ?_) (fun h58 => ?_)
    · refine G.aload_n dX7_holder_67 rfl ?_
      refine G.iload_n dX7_holder_68 rfl ?_
      refine G.iload_n dX7_holder_69 rfl ?_
      refine G.iload dX7_holder_70 rfl ?_
      refine G.iload_n dX7_holder_72 rfl ?_
      refine G.callV (st := []) (w' := fun r73 => (w_X7 cI cL cC cM cS a r73.1 t_mores t_tape t_typed t_place t_isFault t_readLamps t_read t_undone r73.2 t_aside t_bays t_bests t_kept t_keptUndos t_isKept t_lanes t_sizes t_items t_moved)) mv_X7_holderComes lk_7_114 (c_X7_holderComes l D ks cI cL cC cM cS a t_now t_mores t_tape t_typed t_place t_isFault t_readLamps t_read t_undone t_undos t_aside t_bays t_bests t_kept t_keptUndos t_isKept t_lanes t_sizes t_items t_moved x1 x2 x4 x3) [0, 1, 2, 3, 4, 5, 6, 7, 8, 9, 10, 11, 12, 13, 14] [] [0, 1, 2, 3, 4, 5, 6, 7, 8, 9, 10, 11, 12, 13, 14] rfl rfl rfl rfl (by decide +kernel) (fun _ => rfl) rfl (by decide) (Nat.le_of_ble_eq_true rfl) dX7_holder_73 (fun r73 => []) (fun _ => rfl) (fun r73 _ => ?_)
      refine G.aload_n dX7_holder_76 rfl ?_
      refine G.get fl_7_7 0 rfl rfl dX7_holder_77 ?_
      refine G.iconst 0 dX7_holder_80 (by decide) ?_
      refine G.iaload 1 0 rfl rfl 0 (by decide) (by decide) dX7_holder_81 ?_
      refine G.topi (fun v81 => ?_)
      refine G.iconst 1 dX7_holder_82 (by decide) ?_
      refine G.isub dX7_holder_83 ?_
      exact G.iret rfl rfl dX7_holder_84
    · refine G.iinc 1 (lv' := [some (.ref (a 0)), some (.int x1), some (.int x2), some (.int x3), some (.int (x4 + 1))]) dX7_holder_61 rfl (by decide) (by decide) (Nat.le_of_ble_eq_true rfl) rfl rfl ?_
      refine G.goto 50 dX7_holder_64 (by decide) ?_
      exact ih t_now t_undos x1 x2 x3 (x4 + 1)
set_option maxHeartbeats 4000000 in
set_option maxRecDepth 100000 in
theorem c_X7_holder (l : Launch) (D : va_G) (ks : Nat × Nat) (cI cL cC cM cS : ClassId) (a : Nat → Nat) (t_now t_mores t_tape : Nat → Int32) (t_typed t_place t_isFault : Int32) (t_readLamps t_read t_undone : Nat → Int32) (t_undos : Int32) (t_aside t_bays t_bests t_kept : Nat → Int32) (t_keptUndos t_isKept : Int32) (t_lanes t_sizes : Nat → Int32) (t_items t_moved : Nat → Int64) (x1 : Int32) (x2 : Int32) (x3 : Int32) : MT l D ks (tyz cI cL cC cM cS) yX7_holder cX7_holder 5 ((some .int)) { frames := 3, cells := 0, slots := 0, locals := 66 } [.ref (a 0), .int x1, .int x2, .int x3] (w_X7 cI cL cC cM cS a t_now t_mores t_tape t_typed t_place t_isFault t_readLamps t_read t_undone t_undos t_aside t_bays t_bests t_kept t_keptUndos t_isKept t_lanes t_sizes t_items t_moved) (fun r : Int32 × (Nat → Int32) × Int32 => (some (.int r.1), (w_X7 cI cL cC cM cS a r.2.1 t_mores t_tape t_typed t_place t_isFault t_readLamps t_read t_undone r.2.2 t_aside t_bays t_bests t_kept t_keptUndos t_isKept t_lanes t_sizes t_items t_moved))) (f_X7_holder t_now t_undos x1 x2 x3) := by
  refine MT.of 1 [some (.ref (a 0)), some (.int x1), some (.int x2), some (.int x3), none] (by decide) (Nat.le_of_ble_eq_true rfl) rfl ?_
  unfold f_X7_holder
  refine G.iload_n dX7_holder_0 rfl ?_
  refine G.i2l dX7_holder_1 ?_
  refine G.lconst 0 dX7_holder_2 (by decide) ?_
  refine G.ldc2 kl_7_104 dX7_holder_3 ?_
  refine G.callS (st := []) (w' := fun r6 => (w_X7 cI cL cC cM cS a t_now t_mores t_tape t_typed t_place t_isFault t_readLamps t_read t_undone t_undos t_aside t_bays t_bests t_kept t_keptUndos t_isKept t_lanes t_sizes t_items t_moved)) ms_X7_in lk_7_53 (c_X7_in l D ks cI cL cC cM cS (x1.toInt64) 0 4) [] [0, 1, 2, 3, 4, 5, 6, 7, 8, 9, 10, 11, 12, 13, 14] [0, 1, 2, 3, 4, 5, 6, 7, 8, 9, 10, 11, 12, 13, 14] rfl rfl rfl rfl (by decide +kernel) (fun _ => rfl) (by decide) (Nat.le_of_ble_eq_true rfl) dX7_holder_6 (fun r6 => [.int r6]) (fun _ => rfl) (fun r6 _ => ?_)
  refine G.if_eq 31 dX7_holder_9 (by decide) (fun h9 => ?_) (fun h9 => ?_)
  · refine G.iconst (-1) dX7_holder_31 (by decide) ?_
    exact G.iret rfl rfl dX7_holder_32
  · refine G.iload_n dX7_holder_12 rfl ?_
    refine G.i2l dX7_holder_13 ?_
    refine G.lconst 0 dX7_holder_14 (by decide) ?_
    refine G.ldc2 kl_7_106 dX7_holder_15 ?_
    refine G.callS (st := []) (w' := fun r18 => (w_X7 cI cL cC cM cS a t_now t_mores t_tape t_typed t_place t_isFault t_readLamps t_read t_undone t_undos t_aside t_bays t_bests t_kept t_keptUndos t_isKept t_lanes t_sizes t_items t_moved)) ms_X7_in lk_7_53 (c_X7_in l D ks cI cL cC cM cS (x2.toInt64) 0 99) [] [0, 1, 2, 3, 4, 5, 6, 7, 8, 9, 10, 11, 12, 13, 14] [0, 1, 2, 3, 4, 5, 6, 7, 8, 9, 10, 11, 12, 13, 14] rfl rfl rfl rfl (by decide +kernel) (fun _ => rfl) (by decide) (Nat.le_of_ble_eq_true rfl) dX7_holder_18 (fun r18 => [.int r18]) (fun _ => rfl) (fun r18 _ => ?_)
    refine G.if_eq 31 dX7_holder_21 (by decide) (fun h21 => ?_) (fun h21 => ?_)
    · refine G.iconst (-1) dX7_holder_31 (by decide) ?_
      exact G.iret rfl rfl dX7_holder_32
    · refine G.iload_n dX7_holder_24 rfl ?_
      refine G.callS (st := []) (w' := fun r25 => (w_X7 cI cL cC cM cS a t_now t_mores t_tape t_typed t_place t_isFault t_readLamps t_read t_undone t_undos t_aside t_bays t_bests t_kept t_keptUndos t_isKept t_lanes t_sizes t_items t_moved)) ms_X7_isBay lk_7_108 (c_X7_isBay l D ks cI cL cC cM cS x3) [] [0, 1, 2, 3, 4, 5, 6, 7, 8, 9, 10, 11, 12, 13, 14] [0, 1, 2, 3, 4, 5, 6, 7, 8, 9, 10, 11, 12, 13, 14] rfl rfl rfl rfl (by decide +kernel) (fun _ => rfl) (by decide) (Nat.le_of_ble_eq_true rfl) dX7_holder_25 (fun r25 => [.int r25]) (fun _ => rfl) (fun r25 _ => ?_)
      refine G.if_ne 33 dX7_holder_28 (by decide) (fun h28 => ?_) (fun h28 => ?_)
      · refine G.aload_n dX7_holder_33 rfl ?_
        refine G.get fl_7_7 0 rfl rfl dX7_holder_34 ?_
        refine G.iconst 0 dX7_holder_37 (by decide) ?_
        refine G.iaload 1 0 rfl rfl 0 (by decide) (by decide) dX7_holder_38 ?_
        refine G.topi (fun v38 => ?_)
        refine G.bipush 6 dX7_holder_39 (by decide) ?_
        refine G.icmp_ne 47 dX7_holder_41 (by decide) (fun h41 => ?_) (fun h41 => ?_)
        · refine G.iconst 0 dX7_holder_47 (by decide) ?_
          refine G.istore (lv' := [some (.ref (a 0)), some (.int x1), some (.int x2), some (.int x3), some (.int 0)]) dX7_holder_48 (by decide) (Nat.le_of_ble_eq_true rfl) rfl rfl ?_
          exact g_X7_holder_c50 l D ks cI cL cC cM cS a t_mores t_tape t_typed t_place t_isFault t_readLamps t_read t_undone t_aside t_bays t_bests t_kept t_keptUndos t_isKept t_lanes t_sizes t_items t_moved fu t_now t_undos x1 x2 x3 0
        · refine G.bipush (-3) dX7_holder_44 (by decide) ?_
          exact G.iret rfl rfl dX7_holder_46
      · refine G.iconst (-1) dX7_holder_31 (by decide) ?_
        exact G.iret rfl rfl dX7_holder_32
set_option maxHeartbeats 4000000 in
set_option maxRecDepth 100000 in
theorem g_X7_image_c28 (l : Launch) (D : va_G) (ks : Nat × Nat) (cI cL cC cM cS : ClassId) (a : Nat → Nat) (t_mores t_tape : Nat → Int32) (t_typed t_place t_isFault : Int32) (t_readLamps t_read t_aside t_bays t_bests t_lanes t_sizes : Nat → Int32) (t_items t_moved : Nat → Int64) : ∀ (n : Nat), ∀ (t_now t_undone : Nat → Int32) (t_undos : Int32) (t_kept : Nat → Int32) (t_keptUndos t_isKept : Int32) (x1 : Int32), GJ l D ks (tyz cI cL cC cM cS) RX7 cX7_image 2 ((some .int)) { frames := 0, cells := 0, slots := 0, locals := 0 } (fun r : Int32 × (Nat → Int32) × Int32 × Int32 => (some (.int r.1), (w_X7 cI cL cC cM cS a t_now t_mores t_tape t_typed t_place t_isFault t_readLamps t_read t_undone t_undos t_aside t_bays t_bests r.2.1 r.2.2.1 r.2.2.2 t_lanes t_sizes t_items t_moved))) (w_X7 cI cL cC cM cS a t_now t_mores t_tape t_typed t_place t_isFault t_readLamps t_read t_undone t_undos t_aside t_bays t_bests t_kept t_keptUndos t_isKept t_lanes t_sizes t_items t_moved) 28 [some (.ref (a 0)), some (.int x1)] [] (f_X7_image_c28 n t_now t_undone t_undos t_kept t_keptUndos t_isKept x1) := by
  intro n
  induction n with
  | zero =>
    intro t_now t_undone t_undos t_kept t_keptUndos t_isKept x1
    exact G.no
  | succ n ih =>
    intro t_now t_undone t_undos t_kept t_keptUndos t_isKept x1
    rw [f_X7_image_c28]
    refine G.iload_n dX7_image_28 rfl ?_
    refine G.bipush 120 dX7_image_29 (by decide) ?_
    refine G.icmp_ge 55 dX7_image_31 (by decide) (fun h31 => ?_) (fun h31 => ?_)
    · refine G.aload_n dX7_image_55 rfl ?_
      refine G.aload_n dX7_image_56 rfl ?_
      refine G.get fl_7_100 0 rfl rfl dX7_image_57 ?_
      refine G.put (w' := (w_X7 cI cL cC cM cS a t_now t_mores t_tape t_typed t_place t_isFault t_readLamps t_read t_undone t_undos t_aside t_bays t_bests t_kept t_undos t_isKept t_lanes t_sizes t_items t_moved)) fp_7_226 0 rfl (Nat.le_of_ble_eq_true rfl) rfl rfl rfl dX7_image_60 ?_
      refine G.aload_n dX7_image_63 rfl ?_
      refine G.iconst 1 dX7_image_64 (by decide) ?_
      refine G.put (w' := (w_X7 cI cL cC cM cS a t_now t_mores t_tape t_typed t_place t_isFault t_readLamps t_read t_undone t_undos t_aside t_bays t_bests t_kept t_undos 1 t_lanes t_sizes t_items t_moved)) fp_7_229 0 rfl (Nat.le_of_ble_eq_true rfl) rfl rfl rfl dX7_image_65 ?_
      refine G.iconst 1 dX7_image_68 (by decide) ?_
      exact G.iret rfl rfl dX7_image_69
    · refine G.aload_n dX7_image_34 rfl ?_
      refine G.get fl_7_37 0 rfl rfl dX7_image_35 ?_
      refine G.bipush 40 dX7_image_38 (by decide) ?_
      refine G.iload_n dX7_image_40 rfl ?_
      refine G.iadd dX7_image_41 ?_
      refine G.aload_n dX7_image_42 rfl ?_
      refine G.get fl_7_25 0 rfl rfl dX7_image_43 ?_
      refine G.iload_n dX7_image_46 rfl ?_
      refine G.chk (fun h47 => ?_)
      refine G.iaload 6 0 rfl rfl x1.toNatClampNeg rfl h47 dX7_image_47 ?_
      refine G.topi (fun v47 => ?_)
      refine G.chk (fun h48 => ?_)
      refine G.iastore (w' := (w_X7 cI cL cC cM cS a t_now t_mores t_tape t_typed t_place t_isFault t_readLamps t_read t_undone t_undos t_aside t_bays t_bests (upd t_kept ((40 + x1).toNatClampNeg) v47) t_keptUndos t_isKept t_lanes t_sizes t_items t_moved)) 10 0 rfl rfl ((40 + x1).toNatClampNeg) rfl h48 rfl dX7_image_48 ?_
      refine G.iinc 1 (lv' := [some (.ref (a 0)), some (.int (x1 + 1))]) dX7_image_49 rfl (by decide) (by decide) (Nat.le_of_ble_eq_true rfl) rfl rfl ?_
      refine G.goto 28 dX7_image_52 (by decide) ?_
      exact ih t_now t_undone t_undos (upd t_kept ((40 + x1).toNatClampNeg) v47) t_keptUndos t_isKept (x1 + 1)
set_option maxHeartbeats 4000000 in
set_option maxRecDepth 100000 in
theorem g_X7_image_c2 (l : Launch) (D : va_G) (ks : Nat × Nat) (cI cL cC cM cS : ClassId) (a : Nat → Nat) (t_mores t_tape : Nat → Int32) (t_typed t_place t_isFault : Int32) (t_readLamps t_read t_aside t_bays t_bests t_lanes t_sizes : Nat → Int32) (t_items t_moved : Nat → Int64) : ∀ (n : Nat), ∀ (t_now t_undone : Nat → Int32) (t_undos : Int32) (t_kept : Nat → Int32) (t_keptUndos t_isKept : Int32) (x1 : Int32), GJ l D ks (tyz cI cL cC cM cS) RX7 cX7_image 2 ((some .int)) { frames := 0, cells := 0, slots := 0, locals := 0 } (fun r : Int32 × (Nat → Int32) × Int32 × Int32 => (some (.int r.1), (w_X7 cI cL cC cM cS a t_now t_mores t_tape t_typed t_place t_isFault t_readLamps t_read t_undone t_undos t_aside t_bays t_bests r.2.1 r.2.2.1 r.2.2.2 t_lanes t_sizes t_items t_moved))) (w_X7 cI cL cC cM cS a t_now t_mores t_tape t_typed t_place t_isFault t_readLamps t_read t_undone t_undos t_aside t_bays t_bests t_kept t_keptUndos t_isKept t_lanes t_sizes t_items t_moved) 2 [some (.ref (a 0)), some (.int x1)] [] (f_X7_image_c2 n t_now t_undone t_undos t_kept t_keptUndos t_isKept x1) := by
  intro n
  induction n with
  | zero =>
    intro t_now t_undone t_undos t_kept t_keptUndos t_isKept x1
    exact G.no
  | succ n ih =>
    intro t_now t_undone t_undos t_kept t_keptUndos t_isKept x1
    rw [f_X7_image_c2]
    refine G.iload_n dX7_image_2 rfl ?_
    refine G.bipush 40 dX7_image_3 (by decide) ?_
    refine G.icmp_ge 26 dX7_image_5 (by decide) (fun h5 => ?_) (fun h5 => ?_)
    · refine G.iconst 0 dX7_image_26 (by decide) ?_
      refine G.istore_n (lv' := [some (.ref (a 0)), some (.int 0)]) dX7_image_27 (by decide) (Nat.le_of_ble_eq_true rfl) rfl rfl ?_
      exact g_X7_image_c28 l D ks cI cL cC cM cS a t_mores t_tape t_typed t_place t_isFault t_readLamps t_read t_aside t_bays t_bests t_lanes t_sizes t_items t_moved fu t_now t_undone t_undos t_kept t_keptUndos t_isKept 0
    · refine G.aload_n dX7_image_8 rfl ?_
      refine G.get fl_7_37 0 rfl rfl dX7_image_9 ?_
      refine G.iload_n dX7_image_12 rfl ?_
      refine G.aload_n dX7_image_13 rfl ?_
      refine G.get fl_7_7 0 rfl rfl dX7_image_14 ?_
      refine G.iload_n dX7_image_17 rfl ?_
      refine G.chk (fun h18 => ?_)
      refine G.iaload 1 0 rfl rfl x1.toNatClampNeg rfl h18 dX7_image_18 ?_
      refine G.topi (fun v18 => ?_)
      refine G.chk (fun h19 => ?_)
      refine G.iastore (w' := (w_X7 cI cL cC cM cS a t_now t_mores t_tape t_typed t_place t_isFault t_readLamps t_read t_undone t_undos t_aside t_bays t_bests (upd t_kept x1.toNatClampNeg v18) t_keptUndos t_isKept t_lanes t_sizes t_items t_moved)) 10 0 rfl rfl x1.toNatClampNeg rfl h19 rfl dX7_image_19 ?_
      refine G.iinc 1 (lv' := [some (.ref (a 0)), some (.int (x1 + 1))]) dX7_image_20 rfl (by decide) (by decide) (Nat.le_of_ble_eq_true rfl) rfl rfl ?_
      refine G.goto 2 dX7_image_23 (by decide) ?_
      exact ih t_now t_undone t_undos (upd t_kept x1.toNatClampNeg v18) t_keptUndos t_isKept (x1 + 1)
set_option maxHeartbeats 4000000 in
set_option maxRecDepth 100000 in
theorem c_X7_image (l : Launch) (D : va_G) (ks : Nat × Nat) (cI cL cC cM cS : ClassId) (a : Nat → Nat) (t_now t_mores t_tape : Nat → Int32) (t_typed t_place t_isFault : Int32) (t_readLamps t_read t_undone : Nat → Int32) (t_undos : Int32) (t_aside t_bays t_bests t_kept : Nat → Int32) (t_keptUndos t_isKept : Int32) (t_lanes t_sizes : Nat → Int32) (t_items t_moved : Nat → Int64) : MT l D ks (tyz cI cL cC cM cS) yX7_image cX7_image 2 ((some .int)) { frames := 0, cells := 0, slots := 0, locals := 0 } [.ref (a 0)] (w_X7 cI cL cC cM cS a t_now t_mores t_tape t_typed t_place t_isFault t_readLamps t_read t_undone t_undos t_aside t_bays t_bests t_kept t_keptUndos t_isKept t_lanes t_sizes t_items t_moved) (fun r : Int32 × (Nat → Int32) × Int32 × Int32 => (some (.int r.1), (w_X7 cI cL cC cM cS a t_now t_mores t_tape t_typed t_place t_isFault t_readLamps t_read t_undone t_undos t_aside t_bays t_bests r.2.1 r.2.2.1 r.2.2.2 t_lanes t_sizes t_items t_moved))) (f_X7_image t_now t_undone t_undos t_kept t_keptUndos t_isKept) := by
  refine MT.of 1 [some (.ref (a 0)), none] (by decide) (Nat.le_of_ble_eq_true rfl) rfl ?_
  unfold f_X7_image
  refine G.iconst 0 dX7_image_0 (by decide) ?_
  refine G.istore_n (lv' := [some (.ref (a 0)), some (.int 0)]) dX7_image_1 (by decide) (Nat.le_of_ble_eq_true rfl) rfl rfl ?_
  exact g_X7_image_c2 l D ks cI cL cC cM cS a t_mores t_tape t_typed t_place t_isFault t_readLamps t_read t_aside t_bays t_bests t_lanes t_sizes t_items t_moved fu t_now t_undone t_undos t_kept t_keptUndos t_isKept 0
set_option maxHeartbeats 4000000 in
set_option maxRecDepth 100000 in
theorem g_X7_isSo_c45 (l : Launch) (D : va_G) (ks : Nat × Nat) (cI cL cC cM cS : ClassId) (a : Nat → Nat) (t_tape : Nat → Int32) (t_typed t_place t_isFault : Int32) (t_readLamps t_read t_undone : Nat → Int32) (t_undos : Int32) (t_bays t_bests t_kept : Nat → Int32) (t_keptUndos t_isKept : Int32) (t_lanes t_sizes : Nat → Int32) (t_moved : Nat → Int64) (k6 : (Nat → Int32) → (Nat → Int32) → (Nat → Int32) → (Nat → Int64) → Int32 → Int32 → Int32 → Int32 → Int32 → (Option (Int32 × (Nat → Int32) × (Nat → Int32)))) (hk6 : ∀ (t_now t_mores t_aside : Nat → Int32) (t_items : Nat → Int64) (x1 : Int32) (x2 : Int32) (x3 : Int32) (x4 : Int32) (x5 : Int32), GJ l D ks (tyz cI cL cC cM cS) RX7 cX7_isSo 6 ((some .boolean)) { frames := 6, cells := 0, slots := 0, locals := 132 } (fun r : Int32 × (Nat → Int32) × (Nat → Int32) => (some (.int r.1), (w_X7 cI cL cC cM cS a r.2.1 r.2.2 t_tape t_typed t_place t_isFault t_readLamps t_read t_undone t_undos t_aside t_bays t_bests t_kept t_keptUndos t_isKept t_lanes t_sizes t_items t_moved))) (w_X7 cI cL cC cM cS a t_now t_mores t_tape t_typed t_place t_isFault t_readLamps t_read t_undone t_undos t_aside t_bays t_bests t_kept t_keptUndos t_isKept t_lanes t_sizes t_items t_moved) 6 [some (.ref (a 0)), some (.int x1), some (.int x2), some (.int x3), some (.int x4), some (.int x5)] [] (k6 t_now t_mores t_aside t_items x1 x2 x3 x4 x5)) (t_now t_mores t_aside : Nat → Int32) (t_items : Nat → Int64) (x1 : Int32) (x2 : Int32) (x3 : Int32) (x5 : Int32) : GJ l D ks (tyz cI cL cC cM cS) RX7 cX7_isSo 6 ((some .boolean)) { frames := 6, cells := 0, slots := 0, locals := 132 } (fun r : Int32 × (Nat → Int32) × (Nat → Int32) => (some (.int r.1), (w_X7 cI cL cC cM cS a r.2.1 r.2.2 t_tape t_typed t_place t_isFault t_readLamps t_read t_undone t_undos t_aside t_bays t_bests t_kept t_keptUndos t_isKept t_lanes t_sizes t_items t_moved))) (w_X7 cI cL cC cM cS a t_now t_mores t_tape t_typed t_place t_isFault t_readLamps t_read t_undone t_undos t_aside t_bays t_bests t_kept t_keptUndos t_isKept t_lanes t_sizes t_items t_moved) 45 [some (.ref (a 0)), some (.int x1), some (.int x2), some (.int x3), none, some (.int x5)] [.int 0] (f_X7_isSo_c45 k6 t_now t_mores t_aside t_items x1 x2 x3 x5) := by
  unfold f_X7_isSo_c45
  refine G.istore (lv' := [some (.ref (a 0)), some (.int x1), some (.int x2), some (.int x3), some (.int 0), some (.int x5)]) dX7_isSo_45 (by decide) (Nat.le_of_ble_eq_true rfl) rfl rfl ?_
  refine G.iinc 1 (lv' := [some (.ref (a 0)), some (.int x1), some (.int x2), some (.int x3), some (.int 0), some (.int (x5 + 1))]) dX7_isSo_47 rfl (by decide) (by decide) (Nat.le_of_ble_eq_true rfl) rfl rfl ?_
  refine G.goto 6 dX7_isSo_50 (by decide) ?_
  exact hk6 t_now t_mores t_aside t_items x1 x2 x3 0 (x5 + 1)
set_option maxHeartbeats 4000000 in
set_option maxRecDepth 100000 in
theorem g_X7_isSo_c44 (l : Launch) (D : va_G) (ks : Nat × Nat) (cI cL cC cM cS : ClassId) (a : Nat → Nat) (t_tape : Nat → Int32) (t_typed t_place t_isFault : Int32) (t_readLamps t_read t_undone : Nat → Int32) (t_undos : Int32) (t_bays t_bests t_kept : Nat → Int32) (t_keptUndos t_isKept : Int32) (t_lanes t_sizes : Nat → Int32) (t_moved : Nat → Int64) (k6 : (Nat → Int32) → (Nat → Int32) → (Nat → Int32) → (Nat → Int64) → Int32 → Int32 → Int32 → Int32 → Int32 → (Option (Int32 × (Nat → Int32) × (Nat → Int32)))) (hk6 : ∀ (t_now t_mores t_aside : Nat → Int32) (t_items : Nat → Int64) (x1 : Int32) (x2 : Int32) (x3 : Int32) (x4 : Int32) (x5 : Int32), GJ l D ks (tyz cI cL cC cM cS) RX7 cX7_isSo 6 ((some .boolean)) { frames := 6, cells := 0, slots := 0, locals := 132 } (fun r : Int32 × (Nat → Int32) × (Nat → Int32) => (some (.int r.1), (w_X7 cI cL cC cM cS a r.2.1 r.2.2 t_tape t_typed t_place t_isFault t_readLamps t_read t_undone t_undos t_aside t_bays t_bests t_kept t_keptUndos t_isKept t_lanes t_sizes t_items t_moved))) (w_X7 cI cL cC cM cS a t_now t_mores t_tape t_typed t_place t_isFault t_readLamps t_read t_undone t_undos t_aside t_bays t_bests t_kept t_keptUndos t_isKept t_lanes t_sizes t_items t_moved) 6 [some (.ref (a 0)), some (.int x1), some (.int x2), some (.int x3), some (.int x4), some (.int x5)] [] (k6 t_now t_mores t_aside t_items x1 x2 x3 x4 x5)) (t_now t_mores t_aside : Nat → Int32) (t_items : Nat → Int64) (x1 : Int32) (x2 : Int32) (x3 : Int32) (x5 : Int32) : GJ l D ks (tyz cI cL cC cM cS) RX7 cX7_isSo 6 ((some .boolean)) { frames := 6, cells := 0, slots := 0, locals := 132 } (fun r : Int32 × (Nat → Int32) × (Nat → Int32) => (some (.int r.1), (w_X7 cI cL cC cM cS a r.2.1 r.2.2 t_tape t_typed t_place t_isFault t_readLamps t_read t_undone t_undos t_aside t_bays t_bests t_kept t_keptUndos t_isKept t_lanes t_sizes t_items t_moved))) (w_X7 cI cL cC cM cS a t_now t_mores t_tape t_typed t_place t_isFault t_readLamps t_read t_undone t_undos t_aside t_bays t_bests t_kept t_keptUndos t_isKept t_lanes t_sizes t_items t_moved) 44 [some (.ref (a 0)), some (.int x1), some (.int x2), some (.int x3), none, some (.int x5)] [] (f_X7_isSo_c44 k6 t_now t_mores t_aside t_items x1 x2 x3 x5) := by
  unfold f_X7_isSo_c44
  refine G.iconst 0 dX7_isSo_44 (by decide) ?_
  exact g_X7_isSo_c45 l D ks cI cL cC cM cS a t_tape t_typed t_place t_isFault t_readLamps t_read t_undone t_undos t_bays t_bests t_kept t_keptUndos t_isKept t_lanes t_sizes t_moved k6 hk6 t_now t_mores t_aside t_items x1 x2 x3 x5
set_option maxHeartbeats 4000000 in
set_option maxRecDepth 100000 in
theorem g_X7_isSo_c6 (l : Launch) (D : va_G) (ks : Nat × Nat) (cI cL cC cM cS : ClassId) (a : Nat → Nat) (t_tape : Nat → Int32) (t_typed t_place t_isFault : Int32) (t_readLamps t_read t_undone : Nat → Int32) (t_undos : Int32) (t_bays t_bests t_kept : Nat → Int32) (t_keptUndos t_isKept : Int32) (t_lanes t_sizes : Nat → Int32) (t_moved : Nat → Int64) : ∀ (n : Nat), ∀ (t_now t_mores t_aside : Nat → Int32) (t_items : Nat → Int64) (x1 : Int32) (x2 : Int32) (x3 : Int32) (x4 : Int32) (x5 : Int32), GJ l D ks (tyz cI cL cC cM cS) RX7 cX7_isSo 6 ((some .boolean)) { frames := 6, cells := 0, slots := 0, locals := 132 } (fun r : Int32 × (Nat → Int32) × (Nat → Int32) => (some (.int r.1), (w_X7 cI cL cC cM cS a r.2.1 r.2.2 t_tape t_typed t_place t_isFault t_readLamps t_read t_undone t_undos t_aside t_bays t_bests t_kept t_keptUndos t_isKept t_lanes t_sizes t_items t_moved))) (w_X7 cI cL cC cM cS a t_now t_mores t_tape t_typed t_place t_isFault t_readLamps t_read t_undone t_undos t_aside t_bays t_bests t_kept t_keptUndos t_isKept t_lanes t_sizes t_items t_moved) 6 [some (.ref (a 0)), some (.int x1), some (.int x2), some (.int x3), some (.int x4), some (.int x5)] [] (f_X7_isSo_c6 n t_now t_mores t_aside t_items x1 x2 x3 x4 x5) := by
  intro n
  induction n with
  | zero =>
    intro t_now t_mores t_aside t_items x1 x2 x3 x4 x5
    exact G.no
  | succ n ih =>
    intro t_now t_mores t_aside t_items x1 x2 x3 x4 x5
    rw [f_X7_isSo_c6]
    refine G.iload dX7_isSo_6 rfl ?_
    refine G.iload_n dX7_isSo_8 rfl ?_
    refine G.icmp_ge 53 dX7_isSo_9 (by decide) (fun h9 => ?_) (fun h9 => ?_)
    · refine G.aload_n dX7_isSo_53 rfl ?_
      refine G.callV (st := []) (w' := fun r54 => (w_X7 cI cL cC cM cS a r54 t_mores t_tape t_typed t_place t_isFault t_readLamps t_read t_undone t_undos t_aside t_bays t_bests t_kept t_keptUndos t_isKept t_lanes t_sizes t_items t_moved)) mv_X7_backs lk_7_193 (c_X7_backs l D ks cI cL cC cM cS a t_now t_mores t_tape t_typed t_place t_isFault t_readLamps t_read t_undone t_undos t_aside t_bays t_bests t_kept t_keptUndos t_isKept t_lanes t_sizes t_items t_moved) [0, 1, 2, 3, 4, 5, 6, 7, 8, 9, 10, 11, 12, 13, 14] [] [0, 1, 2, 3, 4, 5, 6, 7, 8, 9, 10, 11, 12, 13, 14] rfl rfl rfl rfl (by decide +kernel) (fun _ => rfl) rfl (by decide) (Nat.le_of_ble_eq_true rfl) dX7_isSo_54 (fun r54 => []) (fun _ => rfl) (fun r54 _ => ?_)
      refine G.iload dX7_isSo_57 rfl ?_
      refine G.chk (fun h59 => ?_)
      exact G.zret rfl rfl (isb_n h59) dX7_isSo_59
    · refine G.aload_n dX7_isSo_12 rfl ?_
      refine G.callV (st := []) (w' := fun r13 => (w_X7 cI cL cC cM cS a r13.1 r13.2 t_tape t_typed t_place t_isFault t_readLamps t_read t_undone t_undos t_aside t_bays t_bests t_kept t_keptUndos t_isKept t_lanes t_sizes t_items t_moved)) mv_X7_goesBy lk_7_97 (c_X7_goesBy l D ks cI cL cC cM cS a t_now t_mores t_tape t_typed t_place t_isFault t_readLamps t_read t_undone t_undos t_aside t_bays t_bests t_kept t_keptUndos t_isKept t_lanes t_sizes t_items t_moved) [0, 1, 2, 3, 4, 5, 6, 7, 8, 9, 10, 11, 12, 13, 14] [] [0, 1, 2, 3, 4, 5, 6, 7, 8, 9, 10, 11, 12, 13, 14] rfl rfl rfl rfl (by decide +kernel) (fun _ => rfl) rfl (by decide) (Nat.le_of_ble_eq_true rfl) dX7_isSo_13 (fun r13 => []) (fun _ => rfl) (fun r13 _ => ?_)
      refine G.iload dX7_isSo_16 rfl ?_
      refine G.if_eq 44 dX7_isSo_18 (by decide) (fun h18 => ?_) (fun h18 => ?_)
      · refine G.mask (lv' := [some (.ref (a 0)), some (.int x1), some (.int x2), some (.int x3), none, some (.int x5)]) [true, true, true, true, false, true] rfl ?_
        exact g_X7_isSo_c44 l D ks cI cL cC cM cS a t_tape t_typed t_place t_isFault t_readLamps t_read t_undone t_undos t_bays t_bests t_kept t_keptUndos t_isKept t_lanes t_sizes t_moved (f_X7_isSo_c6 n) ih r13.1 r13.2 t_aside t_items x1 x2 x3 x5
      · refine G.aload_n dX7_isSo_21 rfl ?_
        refine G.iload_n dX7_isSo_22 rfl ?_
        refine G.callV (st := []) (w' := fun r23 => (w_X7 cI cL cC cM cS a r13.1 r13.2 t_tape t_typed t_place t_isFault t_readLamps t_read t_undone t_undos t_aside t_bays t_bests t_kept t_keptUndos t_isKept t_lanes t_sizes t_items t_moved)) mv_X7_used lk_7_63 (c_X7_used l D ks cI cL cC cM cS a r13.1 r13.2 t_tape t_typed t_place t_isFault t_readLamps t_read t_undone t_undos t_aside t_bays t_bests t_kept t_keptUndos t_isKept t_lanes t_sizes t_items t_moved x1) [0, 1, 2, 3, 4, 5, 6, 7, 8, 9, 10, 11, 12, 13, 14] [] [0, 1, 2, 3, 4, 5, 6, 7, 8, 9, 10, 11, 12, 13, 14] rfl rfl rfl rfl (by decide +kernel) (fun _ => rfl) rfl (by decide) (Nat.le_of_ble_eq_true rfl) dX7_isSo_23 (fun r23 => [.int r23]) (fun _ => rfl) (fun r23 _ => ?_)
        refine G.i2l dX7_isSo_26 ?_
        refine G.aload_n dX7_isSo_27 rfl ?_
        refine G.get fl_7_46 0 rfl rfl dX7_isSo_28 ?_
        refine G.iload_n dX7_isSo_31 rfl ?_
        refine G.iload dX7_isSo_32 rfl ?_
        refine G.iadd dX7_isSo_34 ?_
        refine G.chk (fun h35 => ?_)
        refine G.laload 13 1 rfl rfl ((x2 + x5).toNatClampNeg) rfl h35 dX7_isSo_35 ?_
        refine G.topl (fun v35 => ?_)
        refine G.lcmp dX7_isSo_36 ?_
        refine G.join (st := []) Value.int 45 (fun v45 => ?_) (fun hJ => ?_)
        · refine G.istore (lv' := [some (.ref (a 0)), some (.int x1), some (.int x2), some (.int x3), some (.int v45), some (.int x5)]) dX7_isSo_45 (by decide) (Nat.le_of_ble_eq_true rfl) rfl rfl ?_
          refine G.iinc 1 (lv' := [some (.ref (a 0)), some (.int x1), some (.int x2), some (.int x3), some (.int v45), some (.int (x5 + 1))]) dX7_isSo_47 rfl (by decide) (by decide) (Nat.le_of_ble_eq_true rfl) rfl rfl ?_
          refine G.goto 6 dX7_isSo_50 (by decide) ?_
          exact ih r13.1 r13.2 t_aside t_items x1 x2 x3 v45 (x5 + 1)
        · refine G.ite ?_
          refine G.if_ne 44 dX7_isSo_37 (by decide) (fun _ => ?_) (fun _ => ?_)
          · refine G.iconst 0 dX7_isSo_44 (by decide) ?_
            exact hJ _
          · refine G.iconst 1 dX7_isSo_40 (by decide) ?_
            refine G.goto 45 dX7_isSo_41 (by decide) ?_
            exact hJ _
set_option maxHeartbeats 4000000 in
set_option maxRecDepth 100000 in
theorem c_X7_isSo (l : Launch) (D : va_G) (ks : Nat × Nat) (cI cL cC cM cS : ClassId) (a : Nat → Nat) (t_now t_mores t_tape : Nat → Int32) (t_typed t_place t_isFault : Int32) (t_readLamps t_read t_undone : Nat → Int32) (t_undos : Int32) (t_aside t_bays t_bests t_kept : Nat → Int32) (t_keptUndos t_isKept : Int32) (t_lanes t_sizes : Nat → Int32) (t_items t_moved : Nat → Int64) (x1 : Int32) (x2 : Int32) (x3 : Int32) : MT l D ks (tyz cI cL cC cM cS) yX7_isSo cX7_isSo 6 ((some .boolean)) { frames := 6, cells := 0, slots := 0, locals := 132 } [.ref (a 0), .int x1, .int x2, .int x3] (w_X7 cI cL cC cM cS a t_now t_mores t_tape t_typed t_place t_isFault t_readLamps t_read t_undone t_undos t_aside t_bays t_bests t_kept t_keptUndos t_isKept t_lanes t_sizes t_items t_moved) (fun r : Int32 × (Nat → Int32) × (Nat → Int32) => (some (.int r.1), (w_X7 cI cL cC cM cS a r.2.1 r.2.2 t_tape t_typed t_place t_isFault t_readLamps t_read t_undone t_undos t_aside t_bays t_bests t_kept t_keptUndos t_isKept t_lanes t_sizes t_items t_moved))) (f_X7_isSo t_now t_mores t_aside t_items x1 x2 x3) := by
  refine MT.of 2 [some (.ref (a 0)), some (.int x1), some (.int x2), some (.int x3), none, none] (by decide) (Nat.le_of_ble_eq_true rfl) rfl ?_
  unfold f_X7_isSo
  refine G.iconst 1 dX7_isSo_0 (by decide) ?_
  refine G.istore (lv' := [some (.ref (a 0)), some (.int x1), some (.int x2), some (.int x3), some (.int 1), none]) dX7_isSo_1 (by decide) (Nat.le_of_ble_eq_true rfl) rfl rfl ?_
  refine G.iconst 0 dX7_isSo_3 (by decide) ?_
  refine G.istore (lv' := [some (.ref (a 0)), some (.int x1), some (.int x2), some (.int x3), some (.int 1), some (.int 0)]) dX7_isSo_4 (by decide) (Nat.le_of_ble_eq_true rfl) rfl rfl ?_
  exact g_X7_isSo_c6 l D ks cI cL cC cM cS a t_tape t_typed t_place t_isFault t_readLamps t_read t_undone t_undos t_bays t_bests t_kept t_keptUndos t_isKept t_lanes t_sizes t_moved fu t_now t_mores t_aside t_items x1 x2 x3 1 0
set_option maxHeartbeats 4000000 in
set_option maxRecDepth 100000 in
theorem c_X7_item (l : Launch) (D : va_G) (ks : Nat × Nat) (cI cL cC cM cS : ClassId) (a : Nat → Nat) (t_now t_mores t_tape : Nat → Int32) (t_typed t_place t_isFault : Int32) (t_readLamps t_read t_undone : Nat → Int32) (t_undos : Int32) (t_aside t_bays t_bests t_kept : Nat → Int32) (t_keptUndos t_isKept : Int32) (t_lanes t_sizes : Nat → Int32) (t_items t_moved : Nat → Int64) (x1 : Int32) (x2 : Int32) (x3 : Int32) (x4 : Int64) : MT l D ks (tyz cI cL cC cM cS) yX7_item cX7_item 7 ((some .int)) { frames := 2, cells := 0, slots := 0, locals := 45 } [.ref (a 0), .int x1, .int x2, .int x3, .long x4] (w_X7 cI cL cC cM cS a t_now t_mores t_tape t_typed t_place t_isFault t_readLamps t_read t_undone t_undos t_aside t_bays t_bests t_kept t_keptUndos t_isKept t_lanes t_sizes t_items t_moved) (fun r : Int32 × (Nat → Int64) => (some (.int r.1), (w_X7 cI cL cC cM cS a t_now t_mores t_tape t_typed t_place t_isFault t_readLamps t_read t_undone t_undos t_aside t_bays t_bests t_kept t_keptUndos t_isKept t_lanes t_sizes r.2 t_moved))) (f_X7_item t_lanes t_sizes t_items x1 x2 x3 x4) := by
  refine MT.of 1 [some (.ref (a 0)), some (.int x1), some (.int x2), some (.int x3), some (.long x4), none, none] (by decide) (Nat.le_of_ble_eq_true rfl) rfl ?_
  unfold f_X7_item
  refine G.iload_n dX7_item_0 rfl ?_
  refine G.callS (st := []) (w' := fun r1 => (w_X7 cI cL cC cM cS a t_now t_mores t_tape t_typed t_place t_isFault t_readLamps t_read t_undone t_undos t_aside t_bays t_bests t_kept t_keptUndos t_isKept t_lanes t_sizes t_items t_moved)) ms_X7_isSheet lk_7_234 (c_X7_isSheet l D ks cI cL cC cM cS x1) [] [0, 1, 2, 3, 4, 5, 6, 7, 8, 9, 10, 11, 12, 13, 14] [0, 1, 2, 3, 4, 5, 6, 7, 8, 9, 10, 11, 12, 13, 14] rfl rfl rfl rfl (by decide +kernel) (fun _ => rfl) (by decide) (Nat.le_of_ble_eq_true rfl) dX7_item_1 (fun r1 => [.int r1]) (fun _ => rfl) (fun r1 _ => ?_)
  refine G.if_eq 14 dX7_item_4 (by decide) (fun h4 => ?_) (fun h4 => ?_)
  · refine G.iconst (-1) dX7_item_14 (by decide) ?_
    exact G.iret rfl rfl dX7_item_15
  · refine G.iload_n dX7_item_7 rfl ?_
    refine G.callS (st := []) (w' := fun r8 => (w_X7 cI cL cC cM cS a t_now t_mores t_tape t_typed t_place t_isFault t_readLamps t_read t_undone t_undos t_aside t_bays t_bests t_kept t_keptUndos t_isKept t_lanes t_sizes t_items t_moved)) ms_X7_isLane lk_7_237 (c_X7_isLane l D ks cI cL cC cM cS x2) [] [0, 1, 2, 3, 4, 5, 6, 7, 8, 9, 10, 11, 12, 13, 14] [0, 1, 2, 3, 4, 5, 6, 7, 8, 9, 10, 11, 12, 13, 14] rfl rfl rfl rfl (by decide +kernel) (fun _ => rfl) (by decide) (Nat.le_of_ble_eq_true rfl) dX7_item_8 (fun r8 => [.int r8]) (fun _ => rfl) (fun r8 _ => ?_)
    refine G.if_ne 16 dX7_item_11 (by decide) (fun h11 => ?_) (fun h11 => ?_)
    · refine G.aload_n dX7_item_16 rfl ?_
      refine G.iload_n dX7_item_17 rfl ?_
      refine G.iload_n dX7_item_18 rfl ?_
      refine G.iload_n dX7_item_19 rfl ?_
      refine G.iconst 1 dX7_item_20 (by decide) ?_
      refine G.callV (st := []) (w' := fun r21 => (w_X7 cI cL cC cM cS a t_now t_mores t_tape t_typed t_place t_isFault t_readLamps t_read t_undone t_undos t_aside t_bays t_bests t_kept t_keptUndos t_isKept t_lanes t_sizes t_items t_moved)) mv_X7_why lk_7_242 (c_X7_why l D ks cI cL cC cM cS a t_now t_mores t_tape t_typed t_place t_isFault t_readLamps t_read t_undone t_undos t_aside t_bays t_bests t_kept t_keptUndos t_isKept t_lanes t_sizes t_items t_moved x1 x2 x3 1) [0, 1, 2, 3, 4, 5, 6, 7, 8, 9, 10, 11, 12, 13, 14] [] [0, 1, 2, 3, 4, 5, 6, 7, 8, 9, 10, 11, 12, 13, 14] rfl rfl rfl rfl (by decide +kernel) (fun _ => rfl) rfl (by decide) (Nat.le_of_ble_eq_true rfl) dX7_item_21 (fun r21 => [.int r21]) (fun _ => rfl) (fun r21 _ => ?_)
      refine G.istore (lv' := [some (.ref (a 0)), some (.int x1), some (.int x2), some (.int x3), some (.long x4), none, some (.int r21)]) dX7_item_24 (by decide) (Nat.le_of_ble_eq_true rfl) rfl rfl ?_
      refine G.iload dX7_item_26 rfl ?_
      refine G.if_ge 34 dX7_item_28 (by decide) (fun h28 => ?_) (fun h28 => ?_)
      · refine G.aload_n dX7_item_34 rfl ?_
        refine G.get fl_7_46 0 rfl rfl dX7_item_35 ?_
        refine G.bipush 24 dX7_item_38 (by decide) ?_
        refine G.iload_n dX7_item_40 rfl ?_
        refine G.imul dX7_item_41 ?_
        refine G.iload_n dX7_item_42 rfl ?_
        refine G.iadd dX7_item_43 ?_
        refine G.iload_n dX7_item_44 rfl ?_
        refine G.join (st := [.int ((24 * x1) + x3), .ref (a 13)]) Value.long 83 (fun v83 => ?_) (fun hJ => ?_)
        · refine G.chk (fun h83 => ?_)
          refine G.lastore (w' := (w_X7 cI cL cC cM cS a t_now t_mores t_tape t_typed t_place t_isFault t_readLamps t_read t_undone t_undos t_aside t_bays t_bests t_kept t_keptUndos t_isKept t_lanes t_sizes (vp_updL t_items (((24 * x1) + x3).toNatClampNeg) v83) t_moved)) 13 1 rfl rfl (((24 * x1) + x3).toNatClampNeg) rfl h83 rfl dX7_item_83 ?_
          refine G.iconst 1 dX7_item_84 (by decide) ?_
          exact G.iret rfl rfl dX7_item_85
        · refine G.ite ?_
          refine G.if_ne 56 dX7_item_45 (by decide) (fun _ => ?_) (fun _ => ?_)
          · refine G.iload_n dX7_item_56 rfl ?_
            refine G.iconst 1 dX7_item_57 (by decide) ?_
            refine G.ite ?_
            refine G.icmp_ne 69 dX7_item_58 (by decide) (fun _ => ?_) (fun _ => ?_)
            · refine G.iload_n dX7_item_69 rfl ?_
              refine G.iconst 2 dX7_item_70 (by decide) ?_
              refine G.ite ?_
              refine G.icmp_ne 81 dX7_item_71 (by decide) (fun _ => ?_) (fun _ => ?_)
              · refine G.lload dX7_item_81 rfl ?_
                exact hJ _
              · refine G.lload dX7_item_74 rfl ?_
                refine G.l2i dX7_item_76 ?_
                refine G.i2l dX7_item_77 ?_
                refine G.goto 83 dX7_item_78 (by decide) ?_
                exact hJ _
            · refine G.lload dX7_item_61 rfl ?_
              refine G.l2i dX7_item_63 ?_
              refine G.i2s dX7_item_64 ?_
              refine G.i2l dX7_item_65 ?_
              refine G.goto 83 dX7_item_66 (by decide) ?_
              exact hJ _
          · refine G.lload dX7_item_48 rfl ?_
            refine G.l2i dX7_item_50 ?_
            refine G.i2b dX7_item_51 ?_
            refine G.i2l dX7_item_52 ?_
            refine G.goto 83 dX7_item_53 (by decide) ?_
            exact hJ _
      · refine G.iload dX7_item_31 rfl ?_
        exact G.iret rfl rfl dX7_item_33
    · refine G.iconst (-1) dX7_item_14 (by decide) ?_
      exact G.iret rfl rfl dX7_item_15
set_option maxHeartbeats 4000000 in
set_option maxRecDepth 100000 in
theorem c_X7_latest (l : Launch) (D : va_G) (ks : Nat × Nat) (cI cL cC cM cS : ClassId) (a : Nat → Nat) (t_now t_mores t_tape : Nat → Int32) (t_typed t_place t_isFault : Int32) (t_readLamps t_read t_undone : Nat → Int32) (t_undos : Int32) (t_aside t_bays t_bests t_kept : Nat → Int32) (t_keptUndos t_isKept : Int32) (t_lanes t_sizes : Nat → Int32) (t_items t_moved : Nat → Int64) (x1 : Int32) (x2 : Int32) (x3 : Int32) : MT l D ks (tyz cI cL cC cM cS) yX7_latest cX7_latest 5 ((some .int)) { frames := 8, cells := 0, slots := 0, locals := 184 } [.ref (a 0), .int x1, .int x2, .int x3] (w_X7 cI cL cC cM cS a t_now t_mores t_tape t_typed t_place t_isFault t_readLamps t_read t_undone t_undos t_aside t_bays t_bests t_kept t_keptUndos t_isKept t_lanes t_sizes t_items t_moved) (fun r : Int32 × (Nat → Int32) × (Nat → Int32) × (Nat → Int32) × (Nat → Int32) × (Nat → Int32) => (some (.int r.1), (w_X7 cI cL cC cM cS a r.2.1 r.2.2.1 t_tape t_typed t_place t_isFault t_readLamps t_read t_undone t_undos r.2.2.2.1 r.2.2.2.2.1 r.2.2.2.2.2 t_kept t_keptUndos t_isKept t_lanes t_sizes t_items t_moved))) (f_X7_latest t_now t_mores t_aside t_bays t_bests x1 x2 x3) := by
  refine MT.of 1 [some (.ref (a 0)), some (.int x1), some (.int x2), some (.int x3), none] (by decide) (Nat.le_of_ble_eq_true rfl) rfl ?_
  unfold f_X7_latest
  refine G.aload_n dX7_latest_0 rfl ?_
  refine G.iload_n dX7_latest_1 rfl ?_
  refine G.callV (st := []) (w' := fun r2 => (w_X7 cI cL cC cM cS a t_now t_mores t_tape t_typed t_place t_isFault t_readLamps t_read t_undone t_undos t_aside t_bays t_bests t_kept t_keptUndos t_isKept t_lanes t_sizes t_items t_moved)) mv_X7_isHolder lk_7_120 (c_X7_isHolder l D ks cI cL cC cM cS a t_now t_mores t_tape t_typed t_place t_isFault t_readLamps t_read t_undone t_undos t_aside t_bays t_bests t_kept t_keptUndos t_isKept t_lanes t_sizes t_items t_moved x1) [0, 1, 2, 3, 4, 5, 6, 7, 8, 9, 10, 11, 12, 13, 14] [] [0, 1, 2, 3, 4, 5, 6, 7, 8, 9, 10, 11, 12, 13, 14] rfl rfl rfl rfl (by decide +kernel) (fun _ => rfl) rfl (by decide) (Nat.le_of_ble_eq_true rfl) dX7_latest_2 (fun r2 => [.int r2]) (fun _ => rfl) (fun r2 _ => ?_)
  refine G.if_eq 25 dX7_latest_5 (by decide) (fun h5 => ?_) (fun h5 => ?_)
  · refine G.iconst (-1) dX7_latest_25 (by decide) ?_
    exact G.iret rfl rfl dX7_latest_26
  · refine G.iload_n dX7_latest_8 rfl ?_
    refine G.i2l dX7_latest_9 ?_
    refine G.lconst 0 dX7_latest_10 (by decide) ?_
    refine G.ldc2 kl_7_165 dX7_latest_11 ?_
    refine G.callS (st := []) (w' := fun r14 => (w_X7 cI cL cC cM cS a t_now t_mores t_tape t_typed t_place t_isFault t_readLamps t_read t_undone t_undos t_aside t_bays t_bests t_kept t_keptUndos t_isKept t_lanes t_sizes t_items t_moved)) ms_X7_in lk_7_53 (c_X7_in l D ks cI cL cC cM cS (x2.toInt64) 0 40) [] [0, 1, 2, 3, 4, 5, 6, 7, 8, 9, 10, 11, 12, 13, 14] [0, 1, 2, 3, 4, 5, 6, 7, 8, 9, 10, 11, 12, 13, 14] rfl rfl rfl rfl (by decide +kernel) (fun _ => rfl) (by decide) (Nat.le_of_ble_eq_true rfl) dX7_latest_14 (fun r14 => [.int r14]) (fun _ => rfl) (fun r14 _ => ?_)
    refine G.if_eq 25 dX7_latest_17 (by decide) (fun h17 => ?_) (fun h17 => ?_)
    · refine G.iconst (-1) dX7_latest_25 (by decide) ?_
      exact G.iret rfl rfl dX7_latest_26
    · refine G.iload_n dX7_latest_20 rfl ?_
      refine G.iconst (-1) dX7_latest_21 (by decide) ?_
      refine G.icmp_ge 27 dX7_latest_22 (by decide) (fun h22 => ?_) (fun h22 => ?_)
      · refine G.aload_n dX7_latest_27 rfl ?_
        refine G.iload_n dX7_latest_28 rfl ?_
        refine G.iload_n dX7_latest_29 rfl ?_
        refine G.callV (st := []) (w' := fun r30 => (w_X7 cI cL cC cM cS a r30.2.1 r30.2.2.1 t_tape t_typed t_place t_isFault t_readLamps t_read t_undone t_undos r30.2.2.2.1 r30.2.2.2.2.1 r30.2.2.2.2.2 t_kept t_keptUndos t_isKept t_lanes t_sizes t_items t_moved)) mv_X7_deals lk_7_219 (c_X7_deals l D ks cI cL cC cM cS a t_now t_mores t_tape t_typed t_place t_isFault t_readLamps t_read t_undone t_undos t_aside t_bays t_bests t_kept t_keptUndos t_isKept t_lanes t_sizes t_items t_moved x1 x2) [0, 1, 2, 3, 4, 5, 6, 7, 8, 9, 10, 11, 12, 13, 14] [] [0, 1, 2, 3, 4, 5, 6, 7, 8, 9, 10, 11, 12, 13, 14] rfl rfl rfl rfl (by decide +kernel) (fun _ => rfl) rfl (by decide) (Nat.le_of_ble_eq_true rfl) dX7_latest_30 (fun r30 => [.int r30.1]) (fun _ => rfl) (fun r30 _ => ?_)
        refine G.istore (lv' := [some (.ref (a 0)), some (.int x1), some (.int x2), some (.int x3), some (.int r30.1)]) dX7_latest_33 (by decide) (Nat.le_of_ble_eq_true rfl) rfl rfl ?_
        refine G.iload_n dX7_latest_35 rfl ?_
        refine G.if_ge 44 dX7_latest_36 (by decide) (fun h36 => ?_) (fun h36 => ?_)
        · refine G.iload_n dX7_latest_44 rfl ?_
          refine G.aload_n dX7_latest_45 rfl ?_
          refine G.get fl_7_7 0 rfl rfl dX7_latest_46 ?_
          refine G.iconst 0 dX7_latest_49 (by decide) ?_
          refine G.iaload 1 0 rfl rfl 0 (by decide) (by decide) dX7_latest_50 ?_
          refine G.topi (fun v50 => ?_)
          refine G.icmp_ge 63 dX7_latest_51 (by decide) (fun h51 => ?_) (fun h51 => ?_)
          · refine G.bipush (-4) dX7_latest_63 (by decide) ?_
            exact G.iret rfl rfl dX7_latest_65
          · refine G.aload_n dX7_latest_54 rfl ?_
            refine G.get fl_7_34 0 rfl rfl dX7_latest_55 ?_
            refine G.iload_n dX7_latest_58 rfl ?_
            refine G.chk (fun h59 => ?_)
            refine G.iaload 9 0 rfl rfl x3.toNatClampNeg rfl h59 dX7_latest_59 ?_
            refine G.topi (fun v59 => ?_)
            refine G.goto 65 dX7_latest_60 (by decide) ?_
            exact G.iret rfl rfl dX7_latest_65
        · refine G.iload dX7_latest_39 rfl ?_
          refine G.goto 65 dX7_latest_41 (by decide) ?_
          exact G.iret rfl rfl dX7_latest_65
      · refine G.iconst (-1) dX7_latest_25 (by decide) ?_
        exact G.iret rfl rfl dX7_latest_26
set_option maxHeartbeats 4000000 in
set_option maxRecDepth 100000 in
theorem g_X7_looks_c94 (l : Launch) (D : va_G) (ks : Nat × Nat) (cI cL cC cM cS : ClassId) (a : Nat → Nat) (t_tape : Nat → Int32) (t_typed t_place t_isFault : Int32) (t_readLamps t_read t_undone : Nat → Int32) (t_undos : Int32) (t_bays t_bests t_kept : Nat → Int32) (t_keptUndos t_isKept : Int32) (t_moved : Nat → Int64) : ∀ (n : Nat), ∀ (t_now t_mores t_aside t_lanes t_sizes : Nat → Int32) (t_items : Nat → Int64) (x1 : Int32) (x2 : Int32) (x4 : Int32) (x5 : Int32) (x6 : Int32) (x8 : Int32) (x9 : Int32) (x10 : Int32) (x11 : Int32) (x12 : Int32), GJ l D ks (tyz cI cL cC cM cS) RX7 cX7_looks 14 ((some .int)) { frames := 7, cells := 0, slots := 0, locals := 157 } (fun r : Int32 × (Nat → Int32) × (Nat → Int32) × (Nat → Int32) => (some (.int r.1), (w_X7 cI cL cC cM cS a r.2.1 r.2.2.1 t_tape t_typed t_place t_isFault t_readLamps t_read t_undone t_undos r.2.2.2 t_bays t_bests t_kept t_keptUndos t_isKept t_lanes t_sizes t_items t_moved))) (w_X7 cI cL cC cM cS a t_now t_mores t_tape t_typed t_place t_isFault t_readLamps t_read t_undone t_undos t_aside t_bays t_bests t_kept t_keptUndos t_isKept t_lanes t_sizes t_items t_moved) 94 [some (.ref (a 0)), some (.int x1), some (.int x2), none, some (.int x4), some (.int x5), some (.int x6), none, some (.int x8), some (.int x9), some (.int x10), some (.int x11), some (.int x12), none] [] (f_X7_looks_c94 n t_now t_mores t_aside t_lanes t_sizes t_items x1 x2 x4 x5 x6 x8 x9 x10 x11 x12) := by
  intro n
  induction n with
  | zero =>
    intro t_now t_mores t_aside t_lanes t_sizes t_items x1 x2 x4 x5 x6 x8 x9 x10 x11 x12
    exact G.no
  | succ n ih =>
    intro t_now t_mores t_aside t_lanes t_sizes t_items x1 x2 x4 x5 x6 x8 x9 x10 x11 x12
    rw [f_X7_looks_c94]
    refine G.iload dX7_looks_94 rfl ?_
    refine G.iload dX7_looks_96 rfl ?_
    refine G.join (st := [.int x12]) Value.int 107 (fun v107 => ?_) (fun hJ => ?_)
    · refine G.icmp_ge 210 dX7_looks_107 (by decide) (fun h107 => ?_) (fun h107 => ?_)
      · refine G.iload dX7_looks_210 rfl ?_
        refine G.join (st := []) Value.int 233 (fun v233 => ?_) (fun hJ => ?_)
        · exact G.iret rfl rfl dX7_looks_233
        · refine G.ite ?_
          refine G.if_ne 220 dX7_looks_212 (by decide) (fun _ => ?_) (fun _ => ?_)
          · refine G.iload dX7_looks_220 rfl ?_
            refine G.iconst 1 dX7_looks_222 (by decide) ?_
            refine G.ite ?_
            refine G.icmp_ne 231 dX7_looks_223 (by decide) (fun _ => ?_) (fun _ => ?_)
            · refine G.iload dX7_looks_231 rfl ?_
              exact hJ _
            · refine G.iload dX7_looks_226 rfl ?_
              refine G.goto 233 dX7_looks_228 (by decide) ?_
              exact hJ _
          · refine G.iload dX7_looks_215 rfl ?_
            refine G.goto 233 dX7_looks_217 (by decide) ?_
            exact hJ _
      · refine G.aload_n dX7_looks_110 rfl ?_
        refine G.get fl_7_7 0 rfl rfl dX7_looks_111 ?_
        refine G.iload dX7_looks_114 rfl ?_
        refine G.join (st := [.ref (a 1)]) Value.int 128 (fun v128 => ?_) (fun hJ => ?_)
        · refine G.iload dX7_looks_128 rfl ?_
          refine G.chk (fun h130 => ?_)
          refine G.iastore (w' := (w_X7 cI cL cC cM cS a (upd t_now v128.toNatClampNeg x12) t_mores t_tape t_typed t_place t_isFault t_readLamps t_read t_undone t_undos t_aside t_bays t_bests t_kept t_keptUndos t_isKept t_lanes t_sizes t_items t_moved)) 1 0 rfl rfl v128.toNatClampNeg rfl h130 rfl dX7_looks_130 ?_
          refine G.aload_n dX7_looks_131 rfl ?_
          refine G.iload_n dX7_looks_132 rfl ?_
          refine G.bipush 24 dX7_looks_133 (by decide) ?_
          refine G.iload_n dX7_looks_135 rfl ?_
          refine G.imul dX7_looks_136 ?_
          refine G.iload dX7_looks_137 rfl ?_
          refine G.iadd dX7_looks_139 ?_
          refine G.iload dX7_looks_140 rfl ?_
          refine G.callV (st := []) (w' := fun r142 => (w_X7 cI cL cC cM cS a r142.2.1 r142.2.2 t_tape t_typed t_place t_isFault t_readLamps t_read t_undone t_undos t_aside t_bays t_bests t_kept t_keptUndos t_isKept t_lanes t_sizes t_items t_moved)) mv_X7_isSo lk_7_246 (c_X7_isSo l D ks cI cL cC cM cS a (upd t_now v128.toNatClampNeg x12) t_mores t_tape t_typed t_place t_isFault t_readLamps t_read t_undone t_undos t_aside t_bays t_bests t_kept t_keptUndos t_isKept t_lanes t_sizes t_items t_moved x1 ((24 * x2) + x4) x5) [0, 1, 2, 3, 4, 5, 6, 7, 8, 9, 10, 11, 12, 13, 14] [] [0, 1, 2, 3, 4, 5, 6, 7, 8, 9, 10, 11, 12, 13, 14] rfl rfl rfl rfl (by decide +kernel) (fun _ => rfl) rfl (by decide) (Nat.le_of_ble_eq_true rfl) dX7_looks_142 (fun r142 => [.int r142.1]) (fun _ => rfl) (fun r142 _ => ?_)
          refine G.istore (lv' := [some (.ref (a 0)), some (.int x1), some (.int x2), none, some (.int x4), some (.int x5), some (.int x6), none, some (.int x8), some (.int x9), some (.int x10), some (.int x11), some (.int x12), some (.int r142.1)]) dX7_looks_145 (by decide) (Nat.le_of_ble_eq_true rfl) rfl rfl ?_
          refine G.iload dX7_looks_147 rfl ?_
          refine G.iload dX7_looks_149 rfl ?_
          refine G.join (st := [.int x8]) Value.int 167 (fun v167 => ?_) (fun hJ => ?_)
          · refine G.ior dX7_looks_167 ?_
            refine G.istore (lv' := [some (.ref (a 0)), some (.int x1), some (.int x2), none, some (.int x4), some (.int x5), some (.int x6), none, some (.int (x8 ||| v167)), some (.int x9), some (.int x10), some (.int x11), some (.int x12), some (.int r142.1)]) dX7_looks_168 (by decide) (Nat.le_of_ble_eq_true rfl) rfl rfl ?_
            refine G.iload dX7_looks_170 rfl ?_
            refine G.join (st := []) Value.int 187 (fun v187 => ?_) (fun hJ => ?_)
            · refine G.istore (lv' := [some (.ref (a 0)), some (.int x1), some (.int x2), none, some (.int x4), some (.int x5), some (.int x6), none, some (.int (x8 ||| v167)), some (.int x9), some (.int v187), some (.int x11), some (.int x12), some (.int r142.1)]) dX7_looks_187 (by decide) (Nat.le_of_ble_eq_true rfl) rfl rfl ?_
              refine G.iload dX7_looks_189 rfl ?_
              refine G.iload dX7_looks_191 rfl ?_
              refine G.join (st := [.int x9]) Value.int 201 (fun v201 => ?_) (fun hJ => ?_)
              · refine G.iadd dX7_looks_201 ?_
                refine G.istore (lv' := [some (.ref (a 0)), some (.int x1), some (.int x2), none, some (.int x4), some (.int x5), some (.int x6), none, some (.int (x8 ||| v167)), some (.int (x9 + v201)), some (.int v187), some (.int x11), some (.int x12), some (.int r142.1)]) dX7_looks_202 (by decide) (Nat.le_of_ble_eq_true rfl) rfl rfl ?_
                refine G.iinc 1 (lv' := [some (.ref (a 0)), some (.int x1), some (.int x2), none, some (.int x4), some (.int x5), some (.int x6), none, some (.int (x8 ||| v167)), some (.int (x9 + v201)), some (.int v187), some (.int x11), some (.int (x12 + 1)), some (.int r142.1)]) dX7_looks_204 rfl (by decide) (by decide) (Nat.le_of_ble_eq_true rfl) rfl rfl ?_
                refine G.goto 94 dX7_looks_207 (by decide) ?_
                refine G.mask (lv' := [some (.ref (a 0)), some (.int x1), some (.int x2), none, some (.int x4), some (.int x5), some (.int x6), none, some (.int (x8 ||| v167)), some (.int (x9 + v201)), some (.int v187), some (.int x11), some (.int (x12 + 1)), none]) [true, true, true, false, true, true, true, false, true, true, true, true, true, false] rfl ?_
                exact ih r142.2.1 r142.2.2 t_aside t_lanes t_sizes t_items x1 x2 x4 x5 x6 (x8 ||| v167) (x9 + v201) v187 x11 (x12 + 1)
              · refine G.ite ?_
                refine G.if_eq 200 dX7_looks_193 (by decide) (fun _ => ?_) (fun _ => ?_)
                · refine G.iconst 0 dX7_looks_200 (by decide) ?_
                  exact hJ _
                · refine G.iconst 1 dX7_looks_196 (by decide) ?_
                  refine G.goto 201 dX7_looks_197 (by decide) ?_
                  exact hJ _
            · refine G.ite ?_
              refine G.if_eq 185 dX7_looks_172 (by decide) (fun _ => ?_) (fun _ => ?_)
              · refine G.iload dX7_looks_185 rfl ?_
                exact hJ _
              · refine G.iload dX7_looks_175 rfl ?_
                refine G.ite ?_
                refine G.if_ne 185 dX7_looks_177 (by decide) (fun _ => ?_) (fun _ => ?_)
                · refine G.iload dX7_looks_185 rfl ?_
                  exact hJ _
                · refine G.iload dX7_looks_180 rfl ?_
                  refine G.goto 187 dX7_looks_182 (by decide) ?_
                  exact hJ _
          · refine G.ite ?_
            refine G.if_eq 166 dX7_looks_151 (by decide) (fun _ => ?_) (fun _ => ?_)
            · refine G.iconst 0 dX7_looks_166 (by decide) ?_
              exact hJ _
            · refine G.iload dX7_looks_154 rfl ?_
              refine G.ite ?_
              refine G.if_ne 166 dX7_looks_156 (by decide) (fun _ => ?_) (fun _ => ?_)
              · refine G.iconst 0 dX7_looks_166 (by decide) ?_
                exact hJ _
              · refine G.iconst 1 dX7_looks_159 (by decide) ?_
                refine G.iload dX7_looks_160 rfl ?_
                refine G.ishl dX7_looks_162 ?_
                refine G.goto 167 dX7_looks_163 (by decide) ?_
                exact hJ _
        · refine G.ite ?_
          refine G.if_ne 124 dX7_looks_116 (by decide) (fun _ => ?_) (fun _ => ?_)
          · refine G.iload dX7_looks_124 rfl ?_
            refine G.iconst 1 dX7_looks_126 (by decide) ?_
            refine G.iadd dX7_looks_127 ?_
            exact hJ _
          · refine G.iload dX7_looks_119 rfl ?_
            refine G.goto 128 dX7_looks_121 (by decide) ?_
            exact hJ _
    · refine G.ite ?_
      refine G.if_ne 105 dX7_looks_98 (by decide) (fun _ => ?_) (fun _ => ?_)
      · refine G.bipush 100 dX7_looks_105 (by decide) ?_
        exact hJ _
      · refine G.iconst 5 dX7_looks_101 (by decide) ?_
        refine G.goto 107 dX7_looks_102 (by decide) ?_
        exact hJ _
set_option maxHeartbeats 4000000 in
set_option maxRecDepth 100000 in
theorem c_X7_looks (l : Launch) (D : va_G) (ks : Nat × Nat) (cI cL cC cM cS : ClassId) (a : Nat → Nat) (t_now t_mores t_tape : Nat → Int32) (t_typed t_place t_isFault : Int32) (t_readLamps t_read t_undone : Nat → Int32) (t_undos : Int32) (t_aside t_bays t_bests t_kept : Nat → Int32) (t_keptUndos t_isKept : Int32) (t_lanes t_sizes : Nat → Int32) (t_items t_moved : Nat → Int64) (x1 : Int32) (x2 : Int32) (x3 : Int32) (x4 : Int32) (x5 : Int32) (x6 : Int32) : MT l D ks (tyz cI cL cC cM cS) yX7_looks cX7_looks 14 ((some .int)) { frames := 7, cells := 0, slots := 0, locals := 157 } [.ref (a 0), .int x1, .int x2, .int x3, .int x4, .int x5, .int x6] (w_X7 cI cL cC cM cS a t_now t_mores t_tape t_typed t_place t_isFault t_readLamps t_read t_undone t_undos t_aside t_bays t_bests t_kept t_keptUndos t_isKept t_lanes t_sizes t_items t_moved) (fun r : Int32 × (Nat → Int32) × (Nat → Int32) × (Nat → Int32) => (some (.int r.1), (w_X7 cI cL cC cM cS a r.2.1 r.2.2.1 t_tape t_typed t_place t_isFault t_readLamps t_read t_undone t_undos r.2.2.2 t_bays t_bests t_kept t_keptUndos t_isKept t_lanes t_sizes t_items t_moved))) (f_X7_looks t_now t_mores t_aside t_lanes t_sizes t_items x1 x2 x3 x4 x5 x6) := by
  refine MT.of 7 [some (.ref (a 0)), some (.int x1), some (.int x2), some (.int x3), some (.int x4), some (.int x5), some (.int x6), none, none, none, none, none, none, none] (by decide) (Nat.le_of_ble_eq_true rfl) rfl ?_
  unfold f_X7_looks
  refine G.aload_n dX7_looks_0 rfl ?_
  refine G.iload_n dX7_looks_1 rfl ?_
  refine G.callV (st := []) (w' := fun r2 => (w_X7 cI cL cC cM cS a t_now t_mores t_tape t_typed t_place t_isFault t_readLamps t_read t_undone t_undos t_aside t_bays t_bests t_kept t_keptUndos t_isKept t_lanes t_sizes t_items t_moved)) mv_X7_isHolder lk_7_120 (c_X7_isHolder l D ks cI cL cC cM cS a t_now t_mores t_tape t_typed t_place t_isFault t_readLamps t_read t_undone t_undos t_aside t_bays t_bests t_kept t_keptUndos t_isKept t_lanes t_sizes t_items t_moved x1) [0, 1, 2, 3, 4, 5, 6, 7, 8, 9, 10, 11, 12, 13, 14] [] [0, 1, 2, 3, 4, 5, 6, 7, 8, 9, 10, 11, 12, 13, 14] rfl rfl rfl rfl (by decide +kernel) (fun _ => rfl) rfl (by decide) (Nat.le_of_ble_eq_true rfl) dX7_looks_2 (fun r2 => [.int r2]) (fun _ => rfl) (fun r2 _ => ?_)
  refine G.if_eq 48 dX7_looks_5 (by decide) (fun h5 => ?_) (fun h5 => ?_)
  · refine G.iconst (-1) dX7_looks_48 (by decide) ?_
    exact G.iret rfl rfl dX7_looks_49
  · refine G.iload_n dX7_looks_8 rfl ?_
    refine G.callS (st := []) (w' := fun r9 => (w_X7 cI cL cC cM cS a t_now t_mores t_tape t_typed t_place t_isFault t_readLamps t_read t_undone t_undos t_aside t_bays t_bests t_kept t_keptUndos t_isKept t_lanes t_sizes t_items t_moved)) ms_X7_isSheet lk_7_234 (c_X7_isSheet l D ks cI cL cC cM cS x2) [] [0, 1, 2, 3, 4, 5, 6, 7, 8, 9, 10, 11, 12, 13, 14] [0, 1, 2, 3, 4, 5, 6, 7, 8, 9, 10, 11, 12, 13, 14] rfl rfl rfl rfl (by decide +kernel) (fun _ => rfl) (by decide) (Nat.le_of_ble_eq_true rfl) dX7_looks_9 (fun r9 => [.int r9]) (fun _ => rfl) (fun r9 _ => ?_)
    refine G.if_eq 48 dX7_looks_12 (by decide) (fun h12 => ?_) (fun h12 => ?_)
    · refine G.iconst (-1) dX7_looks_48 (by decide) ?_
      exact G.iret rfl rfl dX7_looks_49
    · refine G.iload_n dX7_looks_15 rfl ?_
      refine G.callS (st := []) (w' := fun r16 => (w_X7 cI cL cC cM cS a t_now t_mores t_tape t_typed t_place t_isFault t_readLamps t_read t_undone t_undos t_aside t_bays t_bests t_kept t_keptUndos t_isKept t_lanes t_sizes t_items t_moved)) ms_X7_isLane lk_7_237 (c_X7_isLane l D ks cI cL cC cM cS x3) [] [0, 1, 2, 3, 4, 5, 6, 7, 8, 9, 10, 11, 12, 13, 14] [0, 1, 2, 3, 4, 5, 6, 7, 8, 9, 10, 11, 12, 13, 14] rfl rfl rfl rfl (by decide +kernel) (fun _ => rfl) (by decide) (Nat.le_of_ble_eq_true rfl) dX7_looks_16 (fun r16 => [.int r16]) (fun _ => rfl) (fun r16 _ => ?_)
      refine G.if_eq 48 dX7_looks_19 (by decide) (fun h19 => ?_) (fun h19 => ?_)
      · refine G.iconst (-1) dX7_looks_48 (by decide) ?_
        exact G.iret rfl rfl dX7_looks_49
      · refine G.iload dX7_looks_22 rfl ?_
        refine G.i2l dX7_looks_24 ?_
        refine G.lconst 1 dX7_looks_25 (by decide) ?_
        refine G.ldc2 kl_7_240 dX7_looks_26 ?_
        refine G.callS (st := []) (w' := fun r29 => (w_X7 cI cL cC cM cS a t_now t_mores t_tape t_typed t_place t_isFault t_readLamps t_read t_undone t_undos t_aside t_bays t_bests t_kept t_keptUndos t_isKept t_lanes t_sizes t_items t_moved)) ms_X7_in lk_7_53 (c_X7_in l D ks cI cL cC cM cS (x5.toInt64) 1 8) [] [0, 1, 2, 3, 4, 5, 6, 7, 8, 9, 10, 11, 12, 13, 14] [0, 1, 2, 3, 4, 5, 6, 7, 8, 9, 10, 11, 12, 13, 14] rfl rfl rfl rfl (by decide +kernel) (fun _ => rfl) (by decide) (Nat.le_of_ble_eq_true rfl) dX7_looks_29 (fun r29 => [.int r29]) (fun _ => rfl) (fun r29 _ => ?_)
        refine G.if_eq 48 dX7_looks_32 (by decide) (fun h32 => ?_) (fun h32 => ?_)
        · refine G.iconst (-1) dX7_looks_48 (by decide) ?_
          exact G.iret rfl rfl dX7_looks_49
        · refine G.iload dX7_looks_35 rfl ?_
          refine G.i2l dX7_looks_37 ?_
          refine G.lconst 0 dX7_looks_38 (by decide) ?_
          refine G.ldc2 kl_7_123 dX7_looks_39 ?_
          refine G.callS (st := []) (w' := fun r42 => (w_X7 cI cL cC cM cS a t_now t_mores t_tape t_typed t_place t_isFault t_readLamps t_read t_undone t_undos t_aside t_bays t_bests t_kept t_keptUndos t_isKept t_lanes t_sizes t_items t_moved)) ms_X7_in lk_7_53 (c_X7_in l D ks cI cL cC cM cS (x6.toInt64) 0 2) [] [0, 1, 2, 3, 4, 5, 6, 7, 8, 9, 10, 11, 12, 13, 14] [0, 1, 2, 3, 4, 5, 6, 7, 8, 9, 10, 11, 12, 13, 14] rfl rfl rfl rfl (by decide +kernel) (fun _ => rfl) (by decide) (Nat.le_of_ble_eq_true rfl) dX7_looks_42 (fun r42 => [.int r42]) (fun _ => rfl) (fun r42 _ => ?_)
          refine G.if_ne 50 dX7_looks_45 (by decide) (fun h45 => ?_) (fun h45 => ?_)
          · refine G.aload_n dX7_looks_50 rfl ?_
            refine G.iload_n dX7_looks_51 rfl ?_
            refine G.iload_n dX7_looks_52 rfl ?_
            refine G.iload dX7_looks_53 rfl ?_
            refine G.iload dX7_looks_55 rfl ?_
            refine G.callV (st := []) (w' := fun r57 => (w_X7 cI cL cC cM cS a t_now t_mores t_tape t_typed t_place t_isFault t_readLamps t_read t_undone t_undos t_aside t_bays t_bests t_kept t_keptUndos t_isKept t_lanes t_sizes t_items t_moved)) mv_X7_why lk_7_242 (c_X7_why l D ks cI cL cC cM cS a t_now t_mores t_tape t_typed t_place t_isFault t_readLamps t_read t_undone t_undos t_aside t_bays t_bests t_kept t_keptUndos t_isKept t_lanes t_sizes t_items t_moved x2 x3 x4 x5) [0, 1, 2, 3, 4, 5, 6, 7, 8, 9, 10, 11, 12, 13, 14] [] [0, 1, 2, 3, 4, 5, 6, 7, 8, 9, 10, 11, 12, 13, 14] rfl rfl rfl rfl (by decide +kernel) (fun _ => rfl) rfl (by decide) (Nat.le_of_ble_eq_true rfl) dX7_looks_57 (fun r57 => [.int r57]) (fun _ => rfl) (fun r57 _ => ?_)
            refine G.istore (lv' := [some (.ref (a 0)), some (.int x1), some (.int x2), some (.int x3), some (.int x4), some (.int x5), some (.int x6), some (.int r57), none, none, none, none, none, none]) dX7_looks_60 (by decide) (Nat.le_of_ble_eq_true rfl) rfl rfl ?_
            refine G.iload dX7_looks_62 rfl ?_
            refine G.if_ge 70 dX7_looks_64 (by decide) (fun h64 => ?_) (fun h64 => ?_)
            · refine G.iconst 0 dX7_looks_70 (by decide) ?_
              refine G.istore (lv' := [some (.ref (a 0)), some (.int x1), some (.int x2), some (.int x3), some (.int x4), some (.int x5), some (.int x6), some (.int r57), some (.int 0), none, none, none, none, none]) dX7_looks_71 (by decide) (Nat.le_of_ble_eq_true rfl) rfl rfl ?_
              refine G.iconst 0 dX7_looks_73 (by decide) ?_
              refine G.istore (lv' := [some (.ref (a 0)), some (.int x1), some (.int x2), some (.int x3), some (.int x4), some (.int x5), some (.int x6), some (.int r57), some (.int 0), some (.int 0), none, none, none, none]) dX7_looks_74 (by decide) (Nat.le_of_ble_eq_true rfl) rfl rfl ?_
              refine G.bipush (-4) dX7_looks_76 (by decide) ?_
              refine G.istore (lv' := [some (.ref (a 0)), some (.int x1), some (.int x2), some (.int x3), some (.int x4), some (.int x5), some (.int x6), some (.int r57), some (.int 0), some (.int 0), some (.int (-4)), none, none, none]) dX7_looks_78 (by decide) (Nat.le_of_ble_eq_true rfl) rfl rfl ?_
              refine G.iconst 4 dX7_looks_80 (by decide) ?_
              refine G.iconst 4 dX7_looks_81 (by decide) ?_
              refine G.iload_n dX7_looks_82 rfl ?_
              refine G.imul dX7_looks_83 ?_
              refine G.iadd dX7_looks_84 ?_
              refine G.istore (lv' := [some (.ref (a 0)), some (.int x1), some (.int x2), some (.int x3), some (.int x4), some (.int x5), some (.int x6), some (.int r57), some (.int 0), some (.int 0), some (.int (-4)), some (.int (4 + (4 * x1))), none, none]) dX7_looks_85 (by decide) (Nat.le_of_ble_eq_true rfl) rfl rfl ?_
              refine G.aload_n dX7_looks_87 rfl ?_
              refine G.callV (st := []) (w' := fun r88 => (w_X7 cI cL cC cM cS a t_now t_mores t_tape t_typed t_place t_isFault t_readLamps t_read t_undone t_undos r88 t_bays t_bests t_kept t_keptUndos t_isKept t_lanes t_sizes t_items t_moved)) mv_X7_asides lk_7_187 (c_X7_asides l D ks cI cL cC cM cS a t_now t_mores t_tape t_typed t_place t_isFault t_readLamps t_read t_undone t_undos t_aside t_bays t_bests t_kept t_keptUndos t_isKept t_lanes t_sizes t_items t_moved) [0, 1, 2, 3, 4, 5, 6, 7, 8, 9, 10, 11, 12, 13, 14] [] [0, 1, 2, 3, 4, 5, 6, 7, 8, 9, 10, 11, 12, 13, 14] rfl rfl rfl rfl (by decide +kernel) (fun _ => rfl) rfl (by decide) (Nat.le_of_ble_eq_true rfl) dX7_looks_88 (fun r88 => []) (fun _ => rfl) (fun r88 _ => ?_)
              refine G.iconst 0 dX7_looks_91 (by decide) ?_
              refine G.istore (lv' := [some (.ref (a 0)), some (.int x1), some (.int x2), some (.int x3), some (.int x4), some (.int x5), some (.int x6), some (.int r57), some (.int 0), some (.int 0), some (.int (-4)), some (.int (4 + (4 * x1))), some (.int 0), none]) dX7_looks_92 (by decide) (Nat.le_of_ble_eq_true rfl) rfl rfl ?_
              refine G.mask (lv' := [some (.ref (a 0)), some (.int x1), some (.int x2), none, some (.int x4), some (.int x5), some (.int x6), none, some (.int 0), some (.int 0), some (.int (-4)), some (.int (4 + (4 * x1))), some (.int 0), none]) [true, true, true, false, true, true, true, false, true, true, true, true, true, false] rfl ?_
              exact g_X7_looks_c94 l D ks cI cL cC cM cS a t_tape t_typed t_place t_isFault t_readLamps t_read t_undone t_undos t_bays t_bests t_kept t_keptUndos t_isKept t_moved fu t_now t_mores r88 t_lanes t_sizes t_items x1 x2 x4 x5 x6 0 0 (-4) (4 + (4 * x1)) 0
            · refine G.iload dX7_looks_67 rfl ?_
              exact G.iret rfl rfl dX7_looks_69
          · refine G.iconst (-1) dX7_looks_48 (by decide) ?_
            exact G.iret rfl rfl dX7_looks_49
set_option maxHeartbeats 4000000 in
set_option maxRecDepth 100000 in
theorem c_X7_move (l : Launch) (D : va_G) (ks : Nat × Nat) (cI cL cC cM cS : ClassId) (a : Nat → Nat) (t_now t_mores t_tape : Nat → Int32) (t_typed t_place t_isFault : Int32) (t_readLamps t_read t_undone : Nat → Int32) (t_undos : Int32) (t_aside t_bays t_bests t_kept : Nat → Int32) (t_keptUndos t_isKept : Int32) (t_lanes t_sizes : Nat → Int32) (t_items t_moved : Nat → Int64) (x1 : Int32) (x2 : Int32) : MT l D ks (tyz cI cL cC cM cS) yX7_move cX7_move 4 ((some .int)) { frames := 3, cells := 0, slots := 0, locals := 66 } [.ref (a 0), .int x1, .int x2] (w_X7 cI cL cC cM cS a t_now t_mores t_tape t_typed t_place t_isFault t_readLamps t_read t_undone t_undos t_aside t_bays t_bests t_kept t_keptUndos t_isKept t_lanes t_sizes t_items t_moved) (fun r : Int32 × (Nat → Int32) × (Nat → Int32) × Int32 => (some (.int r.1), (w_X7 cI cL cC cM cS a r.2.1 t_mores t_tape t_typed t_place t_isFault t_readLamps t_read r.2.2.1 r.2.2.2 t_aside t_bays t_bests t_kept t_keptUndos t_isKept t_lanes t_sizes t_items t_moved))) (f_X7_move t_now t_undone t_undos x1 x2) := by
  refine MT.of 1 [some (.ref (a 0)), some (.int x1), some (.int x2), none] (by decide) (Nat.le_of_ble_eq_true rfl) rfl ?_
  unfold f_X7_move
  refine G.aload_n dX7_move_0 rfl ?_
  refine G.iload_n dX7_move_1 rfl ?_
  refine G.callV (st := []) (w' := fun r2 => (w_X7 cI cL cC cM cS a t_now t_mores t_tape t_typed t_place t_isFault t_readLamps t_read t_undone t_undos t_aside t_bays t_bests t_kept t_keptUndos t_isKept t_lanes t_sizes t_items t_moved)) mv_X7_isHolder lk_7_120 (c_X7_isHolder l D ks cI cL cC cM cS a t_now t_mores t_tape t_typed t_place t_isFault t_readLamps t_read t_undone t_undos t_aside t_bays t_bests t_kept t_keptUndos t_isKept t_lanes t_sizes t_items t_moved x1) [0, 1, 2, 3, 4, 5, 6, 7, 8, 9, 10, 11, 12, 13, 14] [] [0, 1, 2, 3, 4, 5, 6, 7, 8, 9, 10, 11, 12, 13, 14] rfl rfl rfl rfl (by decide +kernel) (fun _ => rfl) rfl (by decide) (Nat.le_of_ble_eq_true rfl) dX7_move_2 (fun r2 => [.int r2]) (fun _ => rfl) (fun r2 _ => ?_)
  refine G.if_eq 15 dX7_move_5 (by decide) (fun h5 => ?_) (fun h5 => ?_)
  · refine G.iconst (-1) dX7_move_15 (by decide) ?_
    exact G.iret rfl rfl dX7_move_16
  · refine G.iload_n dX7_move_8 rfl ?_
    refine G.callS (st := []) (w' := fun r9 => (w_X7 cI cL cC cM cS a t_now t_mores t_tape t_typed t_place t_isFault t_readLamps t_read t_undone t_undos t_aside t_bays t_bests t_kept t_keptUndos t_isKept t_lanes t_sizes t_items t_moved)) ms_X7_isBay lk_7_108 (c_X7_isBay l D ks cI cL cC cM cS x2) [] [0, 1, 2, 3, 4, 5, 6, 7, 8, 9, 10, 11, 12, 13, 14] [0, 1, 2, 3, 4, 5, 6, 7, 8, 9, 10, 11, 12, 13, 14] rfl rfl rfl rfl (by decide +kernel) (fun _ => rfl) (by decide) (Nat.le_of_ble_eq_true rfl) dX7_move_9 (fun r9 => [.int r9]) (fun _ => rfl) (fun r9 _ => ?_)
    refine G.if_ne 17 dX7_move_12 (by decide) (fun h12 => ?_) (fun h12 => ?_)
    · refine G.aload_n dX7_move_17 rfl ?_
      refine G.iload_n dX7_move_18 rfl ?_
      refine G.callV (st := []) (w' := fun r19 => (w_X7 cI cL cC cM cS a t_now t_mores t_tape t_typed t_place t_isFault t_readLamps t_read t_undone t_undos t_aside t_bays t_bests t_kept t_keptUndos t_isKept t_lanes t_sizes t_items t_moved)) mv_X7_whoHas lk_7_111 (c_X7_whoHas l D ks cI cL cC cM cS a t_now t_mores t_tape t_typed t_place t_isFault t_readLamps t_read t_undone t_undos t_aside t_bays t_bests t_kept t_keptUndos t_isKept t_lanes t_sizes t_items t_moved x2) [0, 1, 2, 3, 4, 5, 6, 7, 8, 9, 10, 11, 12, 13, 14] [] [0, 1, 2, 3, 4, 5, 6, 7, 8, 9, 10, 11, 12, 13, 14] rfl rfl rfl rfl (by decide +kernel) (fun _ => rfl) rfl (by decide) (Nat.le_of_ble_eq_true rfl) dX7_move_19 (fun r19 => [.int r19]) (fun _ => rfl) (fun r19 _ => ?_)
      refine G.bipush (-4) dX7_move_22 (by decide) ?_
      refine G.icmp_eq 30 dX7_move_24 (by decide) (fun h24 => ?_) (fun h24 => ?_)
      · refine G.aload_n dX7_move_30 rfl ?_
        refine G.callV (st := []) (w' := fun r31 => (w_X7 cI cL cC cM cS a t_now t_mores t_tape t_typed t_place t_isFault t_readLamps t_read r31.1 r31.2 t_aside t_bays t_bests t_kept t_keptUndos t_isKept t_lanes t_sizes t_items t_moved)) mv_X7_notes lk_7_167 (c_X7_notes l D ks cI cL cC cM cS a t_now t_mores t_tape t_typed t_place t_isFault t_readLamps t_read t_undone t_undos t_aside t_bays t_bests t_kept t_keptUndos t_isKept t_lanes t_sizes t_items t_moved) [0, 1, 2, 3, 4, 5, 6, 7, 8, 9, 10, 11, 12, 13, 14] [] [0, 1, 2, 3, 4, 5, 6, 7, 8, 9, 10, 11, 12, 13, 14] rfl rfl rfl rfl (by decide +kernel) (fun _ => rfl) rfl (by decide) (Nat.le_of_ble_eq_true rfl) dX7_move_31 (fun r31 => []) (fun _ => rfl) (fun r31 _ => ?_)
        refine G.aload_n dX7_move_34 rfl ?_
        refine G.iload_n dX7_move_35 rfl ?_
        refine G.callV (st := []) (w' := fun r36 => (w_X7 cI cL cC cM cS a t_now t_mores t_tape t_typed t_place t_isFault t_readLamps t_read r31.1 r31.2 t_aside t_bays t_bests t_kept t_keptUndos t_isKept t_lanes t_sizes t_items t_moved)) mv_X7_bayOf lk_7_67 (c_X7_bayOf l D ks cI cL cC cM cS a t_now t_mores t_tape t_typed t_place t_isFault t_readLamps t_read r31.1 r31.2 t_aside t_bays t_bests t_kept t_keptUndos t_isKept t_lanes t_sizes t_items t_moved x1) [0, 1, 2, 3, 4, 5, 6, 7, 8, 9, 10, 11, 12, 13, 14] [] [0, 1, 2, 3, 4, 5, 6, 7, 8, 9, 10, 11, 12, 13, 14] rfl rfl rfl rfl (by decide +kernel) (fun _ => rfl) rfl (by decide) (Nat.le_of_ble_eq_true rfl) dX7_move_36 (fun r36 => [.int r36]) (fun _ => rfl) (fun r36 _ => ?_)
        refine G.istore_n (lv' := [some (.ref (a 0)), some (.int x1), some (.int x2), some (.int r36)]) dX7_move_39 (by decide) (Nat.le_of_ble_eq_true rfl) rfl rfl ?_
        refine G.aload_n dX7_move_40 rfl ?_
        refine G.iload_n dX7_move_41 rfl ?_
        refine G.iload_n dX7_move_42 rfl ?_
        refine G.callV (st := []) (w' := fun r43 => (w_X7 cI cL cC cM cS a r43 t_mores t_tape t_typed t_place t_isFault t_readLamps t_read r31.1 r31.2 t_aside t_bays t_bests t_kept t_keptUndos t_isKept t_lanes t_sizes t_items t_moved)) mv_X7_sits lk_7_170 (c_X7_sits l D ks cI cL cC cM cS a t_now t_mores t_tape t_typed t_place t_isFault t_readLamps t_read r31.1 r31.2 t_aside t_bays t_bests t_kept t_keptUndos t_isKept t_lanes t_sizes t_items t_moved x1 x2) [0, 1, 2, 3, 4, 5, 6, 7, 8, 9, 10, 11, 12, 13, 14] [] [0, 1, 2, 3, 4, 5, 6, 7, 8, 9, 10, 11, 12, 13, 14] rfl rfl rfl rfl (by decide +kernel) (fun _ => rfl) rfl (by decide) (Nat.le_of_ble_eq_true rfl) dX7_move_43 (fun r43 => []) (fun _ => rfl) (fun r43 _ => ?_)
        refine G.iload_n dX7_move_46 rfl ?_
        exact G.iret rfl rfl dX7_move_47
      · refine G.bipush (-2) dX7_move_27 (by decide) ?_
        exact G.iret rfl rfl dX7_move_29
    · refine G.iconst (-1) dX7_move_15 (by decide) ?_
      exact G.iret rfl rfl dX7_move_16
set_option maxHeartbeats 4000000 in
set_option maxRecDepth 100000 in
theorem c_X7_of (l : Launch) (D : va_G) (ks : Nat × Nat) (cI cL cC cM cS : ClassId) (a : Nat → Nat) (t_now t_mores t_tape : Nat → Int32) (t_typed t_place t_isFault : Int32) (t_readLamps t_read t_undone : Nat → Int32) (t_undos : Int32) (t_aside t_bays t_bests t_kept : Nat → Int32) (t_keptUndos t_isKept : Int32) (t_lanes t_sizes : Nat → Int32) (t_items t_moved : Nat → Int64) (x1 : Int32) (x2 : Int32) : MT l D ks (tyz cI cL cC cM cS) yX7_of cX7_of 3 ((some .int)) { frames := 5, cells := 0, slots := 0, locals := 111 } [.ref (a 0), .int x1, .int x2] (w_X7 cI cL cC cM cS a t_now t_mores t_tape t_typed t_place t_isFault t_readLamps t_read t_undone t_undos t_aside t_bays t_bests t_kept t_keptUndos t_isKept t_lanes t_sizes t_items t_moved) (fun r : Int32 => (some (.int r), (w_X7 cI cL cC cM cS a t_now t_mores t_tape t_typed t_place t_isFault t_readLamps t_read t_undone t_undos t_aside t_bays t_bests t_kept t_keptUndos t_isKept t_lanes t_sizes t_items t_moved))) (f_X7_of t_now x1 x2) := by
  refine MT.of 0 [some (.ref (a 0)), some (.int x1), some (.int x2)] (by decide) (Nat.le_of_ble_eq_true rfl) rfl ?_
  unfold f_X7_of
  refine G.aload_n dX7_of_0 rfl ?_
  refine G.iload_n dX7_of_1 rfl ?_
  refine G.callV (st := []) (w' := fun r2 => (w_X7 cI cL cC cM cS a t_now t_mores t_tape t_typed t_place t_isFault t_readLamps t_read t_undone t_undos t_aside t_bays t_bests t_kept t_keptUndos t_isKept t_lanes t_sizes t_items t_moved)) mv_X7_isHolder lk_7_120 (c_X7_isHolder l D ks cI cL cC cM cS a t_now t_mores t_tape t_typed t_place t_isFault t_readLamps t_read t_undone t_undos t_aside t_bays t_bests t_kept t_keptUndos t_isKept t_lanes t_sizes t_items t_moved x1) [0, 1, 2, 3, 4, 5, 6, 7, 8, 9, 10, 11, 12, 13, 14] [] [0, 1, 2, 3, 4, 5, 6, 7, 8, 9, 10, 11, 12, 13, 14] rfl rfl rfl rfl (by decide +kernel) (fun _ => rfl) rfl (by decide) (Nat.le_of_ble_eq_true rfl) dX7_of_2 (fun r2 => [.int r2]) (fun _ => rfl) (fun r2 _ => ?_)
  refine G.if_ne 10 dX7_of_5 (by decide) (fun h5 => ?_) (fun h5 => ?_)
  · refine G.iload_n dX7_of_10 rfl ?_
    by_cases h11_0 : x2 = 0
    · rw [if_pos h11_0]
      refine G.tin (off := 45) 0 56 h11_0 dX7_of_11 (by decide) (by decide) (by decide) (by decide) ?_
      refine G.aload_n dX7_of_56 rfl ?_
      refine G.iload_n dX7_of_57 rfl ?_
      refine G.iload_n dX7_of_58 rfl ?_
      refine G.callV (st := []) (w' := fun r59 => (w_X7 cI cL cC cM cS a t_now t_mores t_tape t_typed t_place t_isFault t_readLamps t_read t_undone t_undos t_aside t_bays t_bests t_kept t_keptUndos t_isKept t_lanes t_sizes t_items t_moved)) mv_X7_told lk_7_59 (c_X7_told l D ks cI cL cC cM cS a t_now t_mores t_tape t_typed t_place t_isFault t_readLamps t_read t_undone t_undos t_aside t_bays t_bests t_kept t_keptUndos t_isKept t_lanes t_sizes t_items t_moved x1 x2) [0, 1, 2, 3, 4, 5, 6, 7, 8, 9, 10, 11, 12, 13, 14] [] [0, 1, 2, 3, 4, 5, 6, 7, 8, 9, 10, 11, 12, 13, 14] rfl rfl rfl rfl (by decide +kernel) (fun _ => rfl) rfl (by decide) (Nat.le_of_ble_eq_true rfl) dX7_of_59 (fun r59 => [.int r59]) (fun _ => rfl) (fun r59 _ => ?_)
      exact G.iret rfl rfl dX7_of_62
    rw [if_neg h11_0]
    by_cases h11_1 : x2 = 1
    · rw [if_pos h11_1]
      refine G.tin (off := 45) 1 56 h11_1 dX7_of_11 (by decide) (by decide) (by decide) (by decide) ?_
      refine G.aload_n dX7_of_56 rfl ?_
      refine G.iload_n dX7_of_57 rfl ?_
      refine G.iload_n dX7_of_58 rfl ?_
      refine G.callV (st := []) (w' := fun r59 => (w_X7 cI cL cC cM cS a t_now t_mores t_tape t_typed t_place t_isFault t_readLamps t_read t_undone t_undos t_aside t_bays t_bests t_kept t_keptUndos t_isKept t_lanes t_sizes t_items t_moved)) mv_X7_told lk_7_59 (c_X7_told l D ks cI cL cC cM cS a t_now t_mores t_tape t_typed t_place t_isFault t_readLamps t_read t_undone t_undos t_aside t_bays t_bests t_kept t_keptUndos t_isKept t_lanes t_sizes t_items t_moved x1 x2) [0, 1, 2, 3, 4, 5, 6, 7, 8, 9, 10, 11, 12, 13, 14] [] [0, 1, 2, 3, 4, 5, 6, 7, 8, 9, 10, 11, 12, 13, 14] rfl rfl rfl rfl (by decide +kernel) (fun _ => rfl) rfl (by decide) (Nat.le_of_ble_eq_true rfl) dX7_of_59 (fun r59 => [.int r59]) (fun _ => rfl) (fun r59 _ => ?_)
      exact G.iret rfl rfl dX7_of_62
    rw [if_neg h11_1]
    by_cases h11_2 : x2 = 2
    · rw [if_pos h11_2]
      refine G.tin (off := 45) 2 56 h11_2 dX7_of_11 (by decide) (by decide) (by decide) (by decide) ?_
      refine G.aload_n dX7_of_56 rfl ?_
      refine G.iload_n dX7_of_57 rfl ?_
      refine G.iload_n dX7_of_58 rfl ?_
      refine G.callV (st := []) (w' := fun r59 => (w_X7 cI cL cC cM cS a t_now t_mores t_tape t_typed t_place t_isFault t_readLamps t_read t_undone t_undos t_aside t_bays t_bests t_kept t_keptUndos t_isKept t_lanes t_sizes t_items t_moved)) mv_X7_told lk_7_59 (c_X7_told l D ks cI cL cC cM cS a t_now t_mores t_tape t_typed t_place t_isFault t_readLamps t_read t_undone t_undos t_aside t_bays t_bests t_kept t_keptUndos t_isKept t_lanes t_sizes t_items t_moved x1 x2) [0, 1, 2, 3, 4, 5, 6, 7, 8, 9, 10, 11, 12, 13, 14] [] [0, 1, 2, 3, 4, 5, 6, 7, 8, 9, 10, 11, 12, 13, 14] rfl rfl rfl rfl (by decide +kernel) (fun _ => rfl) rfl (by decide) (Nat.le_of_ble_eq_true rfl) dX7_of_59 (fun r59 => [.int r59]) (fun _ => rfl) (fun r59 _ => ?_)
      exact G.iret rfl rfl dX7_of_62
    rw [if_neg h11_2]
    by_cases h11_3 : x2 = 3
    · rw [if_pos h11_3]
      refine G.tin (off := 45) 3 56 h11_3 dX7_of_11 (by decide) (by decide) (by decide) (by decide) ?_
      refine G.aload_n dX7_of_56 rfl ?_
      refine G.iload_n dX7_of_57 rfl ?_
      refine G.iload_n dX7_of_58 rfl ?_
      refine G.callV (st := []) (w' := fun r59 => (w_X7 cI cL cC cM cS a t_now t_mores t_tape t_typed t_place t_isFault t_readLamps t_read t_undone t_undos t_aside t_bays t_bests t_kept t_keptUndos t_isKept t_lanes t_sizes t_items t_moved)) mv_X7_told lk_7_59 (c_X7_told l D ks cI cL cC cM cS a t_now t_mores t_tape t_typed t_place t_isFault t_readLamps t_read t_undone t_undos t_aside t_bays t_bests t_kept t_keptUndos t_isKept t_lanes t_sizes t_items t_moved x1 x2) [0, 1, 2, 3, 4, 5, 6, 7, 8, 9, 10, 11, 12, 13, 14] [] [0, 1, 2, 3, 4, 5, 6, 7, 8, 9, 10, 11, 12, 13, 14] rfl rfl rfl rfl (by decide +kernel) (fun _ => rfl) rfl (by decide) (Nat.le_of_ble_eq_true rfl) dX7_of_59 (fun r59 => [.int r59]) (fun _ => rfl) (fun r59 _ => ?_)
      exact G.iret rfl rfl dX7_of_62
    rw [if_neg h11_3]
    by_cases h11_4 : x2 = 4
    · rw [if_pos h11_4]
      refine G.tin (off := 52) 4 63 h11_4 dX7_of_11 (by decide) (by decide) (by decide) (by decide) ?_
      refine G.aload_n dX7_of_63 rfl ?_
      refine G.iload_n dX7_of_64 rfl ?_
      refine G.callV (st := []) (w' := fun r65 => (w_X7 cI cL cC cM cS a t_now t_mores t_tape t_typed t_place t_isFault t_readLamps t_read t_undone t_undos t_aside t_bays t_bests t_kept t_keptUndos t_isKept t_lanes t_sizes t_items t_moved)) mv_X7_isUp lk_7_76 (c_X7_isUp l D ks cI cL cC cM cS a t_now t_mores t_tape t_typed t_place t_isFault t_readLamps t_read t_undone t_undos t_aside t_bays t_bests t_kept t_keptUndos t_isKept t_lanes t_sizes t_items t_moved x1) [0, 1, 2, 3, 4, 5, 6, 7, 8, 9, 10, 11, 12, 13, 14] [] [0, 1, 2, 3, 4, 5, 6, 7, 8, 9, 10, 11, 12, 13, 14] rfl rfl rfl rfl (by decide +kernel) (fun _ => rfl) rfl (by decide) (Nat.le_of_ble_eq_true rfl) dX7_of_65 (fun r65 => [.int r65]) (fun _ => rfl) (fun r65 _ => ?_)
      refine G.join (st := []) Value.int 76 (fun v76 => ?_) (fun hJ => ?_)
      · exact G.iret rfl rfl dX7_of_76
      · refine G.ite ?_
        refine G.if_eq 75 dX7_of_68 (by decide) (fun _ => ?_) (fun _ => ?_)
        · refine G.iconst 0 dX7_of_75 (by decide) ?_
          exact hJ _
        · refine G.iconst 1 dX7_of_71 (by decide) ?_
          refine G.goto 76 dX7_of_72 (by decide) ?_
          exact hJ _
    rw [if_neg h11_4]
    by_cases h11_5 : x2 = 5
    · rw [if_pos h11_5]
      refine G.tin (off := 66) 5 77 h11_5 dX7_of_11 (by decide) (by decide) (by decide) (by decide) ?_
      refine G.aload_n dX7_of_77 rfl ?_
      refine G.iload_n dX7_of_78 rfl ?_
      refine G.callV (st := []) (w' := fun r79 => (w_X7 cI cL cC cM cS a t_now t_mores t_tape t_typed t_place t_isFault t_readLamps t_read t_undone t_undos t_aside t_bays t_bests t_kept t_keptUndos t_isKept t_lanes t_sizes t_items t_moved)) mv_X7_more lk_7_90 (c_X7_more l D ks cI cL cC cM cS a t_now t_mores t_tape t_typed t_place t_isFault t_readLamps t_read t_undone t_undos t_aside t_bays t_bests t_kept t_keptUndos t_isKept t_lanes t_sizes t_items t_moved x1) [0, 1, 2, 3, 4, 5, 6, 7, 8, 9, 10, 11, 12, 13, 14] [] [0, 1, 2, 3, 4, 5, 6, 7, 8, 9, 10, 11, 12, 13, 14] rfl rfl rfl rfl (by decide +kernel) (fun _ => rfl) rfl (by decide) (Nat.le_of_ble_eq_true rfl) dX7_of_79 (fun r79 => [.int r79]) (fun _ => rfl) (fun r79 _ => ?_)
      exact G.iret rfl rfl dX7_of_82
    rw [if_neg h11_5]
    by_cases h11_6 : x2 = 6
    · rw [if_pos h11_6]
      refine G.tin (off := 72) 6 83 h11_6 dX7_of_11 (by decide) (by decide) (by decide) (by decide) ?_
      refine G.aload_n dX7_of_83 rfl ?_
      refine G.iload_n dX7_of_84 rfl ?_
      refine G.callV (st := []) (w' := fun r85 => (w_X7 cI cL cC cM cS a t_now t_mores t_tape t_typed t_place t_isFault t_readLamps t_read t_undone t_undos t_aside t_bays t_bests t_kept t_keptUndos t_isKept t_lanes t_sizes t_items t_moved)) mv_X7_besides lk_7_80 (c_X7_besides l D ks cI cL cC cM cS a t_now t_mores t_tape t_typed t_place t_isFault t_readLamps t_read t_undone t_undos t_aside t_bays t_bests t_kept t_keptUndos t_isKept t_lanes t_sizes t_items t_moved x1) [0, 1, 2, 3, 4, 5, 6, 7, 8, 9, 10, 11, 12, 13, 14] [] [0, 1, 2, 3, 4, 5, 6, 7, 8, 9, 10, 11, 12, 13, 14] rfl rfl rfl rfl (by decide +kernel) (fun _ => rfl) rfl (by decide) (Nat.le_of_ble_eq_true rfl) dX7_of_85 (fun r85 => [.int r85]) (fun _ => rfl) (fun r85 _ => ?_)
      exact G.iret rfl rfl dX7_of_88
    rw [if_neg h11_6]
    by_cases h11_7 : x2 = 7
    · rw [if_pos h11_7]
      refine G.tin (off := 78) 7 89 h11_7 dX7_of_11 (by decide) (by decide) (by decide) (by decide) ?_
      refine G.aload_n dX7_of_89 rfl ?_
      refine G.iload_n dX7_of_90 rfl ?_
      refine G.callV (st := []) (w' := fun r91 => (w_X7 cI cL cC cM cS a t_now t_mores t_tape t_typed t_place t_isFault t_readLamps t_read t_undone t_undos t_aside t_bays t_bests t_kept t_keptUndos t_isKept t_lanes t_sizes t_items t_moved)) mv_X7_far lk_7_73 (c_X7_far l D ks cI cL cC cM cS a t_now t_mores t_tape t_typed t_place t_isFault t_readLamps t_read t_undone t_undos t_aside t_bays t_bests t_kept t_keptUndos t_isKept t_lanes t_sizes t_items t_moved x1) [0, 1, 2, 3, 4, 5, 6, 7, 8, 9, 10, 11, 12, 13, 14] [] [0, 1, 2, 3, 4, 5, 6, 7, 8, 9, 10, 11, 12, 13, 14] rfl rfl rfl rfl (by decide +kernel) (fun _ => rfl) rfl (by decide) (Nat.le_of_ble_eq_true rfl) dX7_of_91 (fun r91 => [.int r91]) (fun _ => rfl) (fun r91 _ => ?_)
      exact G.iret rfl rfl dX7_of_94
    rw [if_neg h11_7]
    refine G.tout 95 (g_o8 h11_0 h11_1 h11_2 h11_3 h11_4 h11_5 h11_6 h11_7) dX7_of_11 (by decide) ?_
    refine G.iconst (-1) dX7_of_95 (by decide) ?_
    exact G.iret rfl rfl dX7_of_96
  · refine G.iconst (-1) dX7_of_8 (by decide) ?_
    exact G.iret rfl rfl dX7_of_9
set_option maxHeartbeats 4000000 in
set_option maxRecDepth 100000 in
theorem g_X7_restore_c38 (l : Launch) (D : va_G) (ks : Nat × Nat) (cI cL cC cM cS : ClassId) (a : Nat → Nat) (t_mores t_tape : Nat → Int32) (t_typed t_place t_isFault : Int32) (t_readLamps t_read t_aside t_bays t_bests t_lanes t_sizes : Nat → Int32) (t_items t_moved : Nat → Int64) : ∀ (n : Nat), ∀ (t_now t_undone : Nat → Int32) (t_undos : Int32) (t_kept : Nat → Int32) (t_keptUndos t_isKept : Int32) (x1 : Int32), GJ l D ks (tyz cI cL cC cM cS) RX7 cX7_restore 2 ((some .int)) { frames := 0, cells := 0, slots := 0, locals := 0 } (fun r : Int32 × (Nat → Int32) × (Nat → Int32) × Int32 => (some (.int r.1), (w_X7 cI cL cC cM cS a r.2.1 t_mores t_tape t_typed t_place t_isFault t_readLamps t_read r.2.2.1 r.2.2.2 t_aside t_bays t_bests t_kept t_keptUndos t_isKept t_lanes t_sizes t_items t_moved))) (w_X7 cI cL cC cM cS a t_now t_mores t_tape t_typed t_place t_isFault t_readLamps t_read t_undone t_undos t_aside t_bays t_bests t_kept t_keptUndos t_isKept t_lanes t_sizes t_items t_moved) 38 [some (.ref (a 0)), some (.int x1)] [] (f_X7_restore_c38 n t_now t_undone t_undos t_kept t_keptUndos t_isKept x1) := by
  intro n
  induction n with
  | zero =>
    intro t_now t_undone t_undos t_kept t_keptUndos t_isKept x1
    exact G.no
  | succ n ih =>
    intro t_now t_undone t_undos t_kept t_keptUndos t_isKept x1
    rw [f_X7_restore_c38]
    refine G.iload_n dX7_restore_38 rfl ?_
    refine G.bipush 120 dX7_restore_39 (by decide) ?_
    refine G.icmp_ge 65 dX7_restore_41 (by decide) (fun h41 => ?_) (fun h41 => ?_)
    · refine G.aload_n dX7_restore_65 rfl ?_
      refine G.aload_n dX7_restore_66 rfl ?_
      refine G.get fl_7_226 0 rfl rfl dX7_restore_67 ?_
      refine G.put (w' := (w_X7 cI cL cC cM cS a t_now t_mores t_tape t_typed t_place t_isFault t_readLamps t_read t_undone t_keptUndos t_aside t_bays t_bests t_kept t_keptUndos t_isKept t_lanes t_sizes t_items t_moved)) fp_7_100 0 rfl (Nat.le_of_ble_eq_true rfl) rfl rfl rfl dX7_restore_70 ?_
      refine G.iconst 1 dX7_restore_73 (by decide) ?_
      exact G.iret rfl rfl dX7_restore_74
    · refine G.aload_n dX7_restore_44 rfl ?_
      refine G.get fl_7_25 0 rfl rfl dX7_restore_45 ?_
      refine G.iload_n dX7_restore_48 rfl ?_
      refine G.aload_n dX7_restore_49 rfl ?_
      refine G.get fl_7_37 0 rfl rfl dX7_restore_50 ?_
      refine G.bipush 40 dX7_restore_53 (by decide) ?_
      refine G.iload_n dX7_restore_55 rfl ?_
      refine G.iadd dX7_restore_56 ?_
      refine G.chk (fun h57 => ?_)
      refine G.iaload 10 0 rfl rfl ((40 + x1).toNatClampNeg) rfl h57 dX7_restore_57 ?_
      refine G.topi (fun v57 => ?_)
      refine G.chk (fun h58 => ?_)
      refine G.iastore (w' := (w_X7 cI cL cC cM cS a t_now t_mores t_tape t_typed t_place t_isFault t_readLamps t_read (upd t_undone x1.toNatClampNeg v57) t_undos t_aside t_bays t_bests t_kept t_keptUndos t_isKept t_lanes t_sizes t_items t_moved)) 6 0 rfl rfl x1.toNatClampNeg rfl h58 rfl dX7_restore_58 ?_
      refine G.iinc 1 (lv' := [some (.ref (a 0)), some (.int (x1 + 1))]) dX7_restore_59 rfl (by decide) (by decide) (Nat.le_of_ble_eq_true rfl) rfl rfl ?_
      refine G.goto 38 dX7_restore_62 (by decide) ?_
      exact ih t_now (upd t_undone x1.toNatClampNeg v57) t_undos t_kept t_keptUndos t_isKept (x1 + 1)
set_option maxHeartbeats 4000000 in
set_option maxRecDepth 100000 in
theorem g_X7_restore_c12 (l : Launch) (D : va_G) (ks : Nat × Nat) (cI cL cC cM cS : ClassId) (a : Nat → Nat) (t_mores t_tape : Nat → Int32) (t_typed t_place t_isFault : Int32) (t_readLamps t_read t_aside t_bays t_bests t_lanes t_sizes : Nat → Int32) (t_items t_moved : Nat → Int64) : ∀ (n : Nat), ∀ (t_now t_undone : Nat → Int32) (t_undos : Int32) (t_kept : Nat → Int32) (t_keptUndos t_isKept : Int32) (x1 : Int32), GJ l D ks (tyz cI cL cC cM cS) RX7 cX7_restore 2 ((some .int)) { frames := 0, cells := 0, slots := 0, locals := 0 } (fun r : Int32 × (Nat → Int32) × (Nat → Int32) × Int32 => (some (.int r.1), (w_X7 cI cL cC cM cS a r.2.1 t_mores t_tape t_typed t_place t_isFault t_readLamps t_read r.2.2.1 r.2.2.2 t_aside t_bays t_bests t_kept t_keptUndos t_isKept t_lanes t_sizes t_items t_moved))) (w_X7 cI cL cC cM cS a t_now t_mores t_tape t_typed t_place t_isFault t_readLamps t_read t_undone t_undos t_aside t_bays t_bests t_kept t_keptUndos t_isKept t_lanes t_sizes t_items t_moved) 12 [some (.ref (a 0)), some (.int x1)] [] (f_X7_restore_c12 n t_now t_undone t_undos t_kept t_keptUndos t_isKept x1) := by
  intro n
  induction n with
  | zero =>
    intro t_now t_undone t_undos t_kept t_keptUndos t_isKept x1
    exact G.no
  | succ n ih =>
    intro t_now t_undone t_undos t_kept t_keptUndos t_isKept x1
    rw [f_X7_restore_c12]
    refine G.iload_n dX7_restore_12 rfl ?_
    refine G.bipush 40 dX7_restore_13 (by decide) ?_
    refine G.icmp_ge 36 dX7_restore_15 (by decide) (fun h15 => ?_) (fun h15 => ?_)
    · refine G.iconst 0 dX7_restore_36 (by decide) ?_
      refine G.istore_n (lv' := [some (.ref (a 0)), some (.int 0)]) dX7_restore_37 (by decide) (Nat.le_of_ble_eq_true rfl) rfl rfl ?_
      exact g_X7_restore_c38 l D ks cI cL cC cM cS a t_mores t_tape t_typed t_place t_isFault t_readLamps t_read t_aside t_bays t_bests t_lanes t_sizes t_items t_moved fu t_now t_undone t_undos t_kept t_keptUndos t_isKept 0
    · refine G.aload_n dX7_restore_18 rfl ?_
      refine G.get fl_7_7 0 rfl rfl dX7_restore_19 ?_
      refine G.iload_n dX7_restore_22 rfl ?_
      refine G.aload_n dX7_restore_23 rfl ?_
      refine G.get fl_7_37 0 rfl rfl dX7_restore_24 ?_
      refine G.iload_n dX7_restore_27 rfl ?_
      refine G.chk (fun h28 => ?_)
      refine G.iaload 10 0 rfl rfl x1.toNatClampNeg rfl h28 dX7_restore_28 ?_
      refine G.topi (fun v28 => ?_)
      refine G.chk (fun h29 => ?_)
      refine G.iastore (w' := (w_X7 cI cL cC cM cS a (upd t_now x1.toNatClampNeg v28) t_mores t_tape t_typed t_place t_isFault t_readLamps t_read t_undone t_undos t_aside t_bays t_bests t_kept t_keptUndos t_isKept t_lanes t_sizes t_items t_moved)) 1 0 rfl rfl x1.toNatClampNeg rfl h29 rfl dX7_restore_29 ?_
      refine G.iinc 1 (lv' := [some (.ref (a 0)), some (.int (x1 + 1))]) dX7_restore_30 rfl (by decide) (by decide) (Nat.le_of_ble_eq_true rfl) rfl rfl ?_
      refine G.goto 12 dX7_restore_33 (by decide) ?_
      exact ih (upd t_now x1.toNatClampNeg v28) t_undone t_undos t_kept t_keptUndos t_isKept (x1 + 1)
set_option maxHeartbeats 4000000 in
set_option maxRecDepth 100000 in
theorem c_X7_restore (l : Launch) (D : va_G) (ks : Nat × Nat) (cI cL cC cM cS : ClassId) (a : Nat → Nat) (t_now t_mores t_tape : Nat → Int32) (t_typed t_place t_isFault : Int32) (t_readLamps t_read t_undone : Nat → Int32) (t_undos : Int32) (t_aside t_bays t_bests t_kept : Nat → Int32) (t_keptUndos t_isKept : Int32) (t_lanes t_sizes : Nat → Int32) (t_items t_moved : Nat → Int64) : MT l D ks (tyz cI cL cC cM cS) yX7_restore cX7_restore 2 ((some .int)) { frames := 0, cells := 0, slots := 0, locals := 0 } [.ref (a 0)] (w_X7 cI cL cC cM cS a t_now t_mores t_tape t_typed t_place t_isFault t_readLamps t_read t_undone t_undos t_aside t_bays t_bests t_kept t_keptUndos t_isKept t_lanes t_sizes t_items t_moved) (fun r : Int32 × (Nat → Int32) × (Nat → Int32) × Int32 => (some (.int r.1), (w_X7 cI cL cC cM cS a r.2.1 t_mores t_tape t_typed t_place t_isFault t_readLamps t_read r.2.2.1 r.2.2.2 t_aside t_bays t_bests t_kept t_keptUndos t_isKept t_lanes t_sizes t_items t_moved))) (f_X7_restore t_now t_undone t_undos t_kept t_keptUndos t_isKept) := by
  refine MT.of 1 [some (.ref (a 0)), none] (by decide) (Nat.le_of_ble_eq_true rfl) rfl ?_
  unfold f_X7_restore
  refine G.aload_n dX7_restore_0 rfl ?_
  refine G.get fl_7_229 0 rfl rfl dX7_restore_1 ?_
  refine G.if_ne 10 dX7_restore_4 (by decide) (fun h4 => ?_) (fun h4 => ?_)
  · refine G.iconst 0 dX7_restore_10 (by decide) ?_
    refine G.istore_n (lv' := [some (.ref (a 0)), some (.int 0)]) dX7_restore_11 (by decide) (Nat.le_of_ble_eq_true rfl) rfl rfl ?_
    exact g_X7_restore_c12 l D ks cI cL cC cM cS a t_mores t_tape t_typed t_place t_isFault t_readLamps t_read t_aside t_bays t_bests t_lanes t_sizes t_items t_moved fu t_now t_undone t_undos t_kept t_keptUndos t_isKept 0
  · refine G.bipush (-4) dX7_restore_7 (by decide) ?_
    exact G.iret rfl rfl dX7_restore_9
set_option maxHeartbeats 4000000 in
set_option maxRecDepth 100000 in
theorem c_X7_rule (l : Launch) (D : va_G) (ks : Nat × Nat) (cI cL cC cM cS : ClassId) (a : Nat → Nat) (t_now t_mores t_tape : Nat → Int32) (t_typed t_place t_isFault : Int32) (t_readLamps t_read t_undone : Nat → Int32) (t_undos : Int32) (t_aside t_bays t_bests t_kept : Nat → Int32) (t_keptUndos t_isKept : Int32) (t_lanes t_sizes : Nat → Int32) (t_items t_moved : Nat → Int64) (x1 : Int32) (x2 : Int32) (x3 : Int32) : MT l D ks (tyz cI cL cC cM cS) yX7_rule cX7_rule 6 ((some .int)) { frames := 2, cells := 0, slots := 0, locals := 45 } [.ref (a 0), .int x1, .int x2, .int x3] (w_X7 cI cL cC cM cS a t_now t_mores t_tape t_typed t_place t_isFault t_readLamps t_read t_undone t_undos t_aside t_bays t_bests t_kept t_keptUndos t_isKept t_lanes t_sizes t_items t_moved) (fun r : Int32 × (Nat → Int32) => (some (.int r.1), (w_X7 cI cL cC cM cS a r.2 t_mores t_tape t_typed t_place t_isFault t_readLamps t_read t_undone t_undos t_aside t_bays t_bests t_kept t_keptUndos t_isKept t_lanes t_sizes t_items t_moved))) (f_X7_rule t_now x1 x2 x3) := by
  refine MT.of 2 [some (.ref (a 0)), some (.int x1), some (.int x2), some (.int x3), none, none] (by decide) (Nat.le_of_ble_eq_true rfl) rfl ?_
  unfold f_X7_rule
  refine G.iload_n dX7_rule_0 rfl ?_
  refine G.callS (st := []) (w' := fun r1 => (w_X7 cI cL cC cM cS a t_now t_mores t_tape t_typed t_place t_isFault t_readLamps t_read t_undone t_undos t_aside t_bays t_bests t_kept t_keptUndos t_isKept t_lanes t_sizes t_items t_moved)) ms_X7_isBay lk_7_108 (c_X7_isBay l D ks cI cL cC cM cS x1) [] [0, 1, 2, 3, 4, 5, 6, 7, 8, 9, 10, 11, 12, 13, 14] [0, 1, 2, 3, 4, 5, 6, 7, 8, 9, 10, 11, 12, 13, 14] rfl rfl rfl rfl (by decide +kernel) (fun _ => rfl) (by decide) (Nat.le_of_ble_eq_true rfl) dX7_rule_1 (fun r1 => [.int r1]) (fun _ => rfl) (fun r1 _ => ?_)
  refine G.if_eq 39 dX7_rule_4 (by decide) (fun h4 => ?_) (fun h4 => ?_)
  · refine G.iconst (-1) dX7_rule_39 (by decide) ?_
    exact G.iret rfl rfl dX7_rule_40
  · refine G.iload_n dX7_rule_7 rfl ?_
    refine G.i2l dX7_rule_8 ?_
    refine G.lconst 0 dX7_rule_9 (by decide) ?_
    refine G.lconst 1 dX7_rule_10 (by decide) ?_
    refine G.callS (st := []) (w' := fun r11 => (w_X7 cI cL cC cM cS a t_now t_mores t_tape t_typed t_place t_isFault t_readLamps t_read t_undone t_undos t_aside t_bays t_bests t_kept t_keptUndos t_isKept t_lanes t_sizes t_items t_moved)) ms_X7_in lk_7_53 (c_X7_in l D ks cI cL cC cM cS (x2.toInt64) 0 1) [] [0, 1, 2, 3, 4, 5, 6, 7, 8, 9, 10, 11, 12, 13, 14] [0, 1, 2, 3, 4, 5, 6, 7, 8, 9, 10, 11, 12, 13, 14] rfl rfl rfl rfl (by decide +kernel) (fun _ => rfl) (by decide) (Nat.le_of_ble_eq_true rfl) dX7_rule_11 (fun r11 => [.int r11]) (fun _ => rfl) (fun r11 _ => ?_)
    refine G.if_eq 39 dX7_rule_14 (by decide) (fun h14 => ?_) (fun h14 => ?_)
    · refine G.iconst (-1) dX7_rule_39 (by decide) ?_
      exact G.iret rfl rfl dX7_rule_40
    · refine G.iload_n dX7_rule_17 rfl ?_
      refine G.i2l dX7_rule_18 ?_
      refine G.lconst 0 dX7_rule_19 (by decide) ?_
      refine G.iload_n dX7_rule_20 rfl ?_
      refine G.join (st := [.long 0, .long (x3.toInt64)]) Value.long 33 (fun v33 => ?_) (fun hJ => ?_)
      · refine G.callS (st := []) (w' := fun r33 => (w_X7 cI cL cC cM cS a t_now t_mores t_tape t_typed t_place t_isFault t_readLamps t_read t_undone t_undos t_aside t_bays t_bests t_kept t_keptUndos t_isKept t_lanes t_sizes t_items t_moved)) ms_X7_in lk_7_53 (c_X7_in l D ks cI cL cC cM cS (x3.toInt64) 0 v33) [] [0, 1, 2, 3, 4, 5, 6, 7, 8, 9, 10, 11, 12, 13, 14] [0, 1, 2, 3, 4, 5, 6, 7, 8, 9, 10, 11, 12, 13, 14] rfl rfl rfl rfl (by decide +kernel) (fun _ => rfl) (by decide) (Nat.le_of_ble_eq_true rfl) dX7_rule_33 (fun r33 => [.int r33]) (fun _ => rfl) (fun r33 _ => ?_)
        refine G.if_ne 41 dX7_rule_36 (by decide) (fun h36 => ?_) (fun h36 => ?_)
        · refine G.iload_n dX7_rule_41 rfl ?_
          refine G.join (st := []) Value.int 52 (fun v52 => ?_) (fun hJ => ?_)
          · refine G.iload_n dX7_rule_52 rfl ?_
            refine G.iadd dX7_rule_53 ?_
            refine G.istore (lv' := [some (.ref (a 0)), some (.int x1), some (.int x2), some (.int x3), some (.int (v52 + x1)), none]) dX7_rule_54 (by decide) (Nat.le_of_ble_eq_true rfl) rfl rfl ?_
            refine G.aload_n dX7_rule_56 rfl ?_
            refine G.get fl_7_7 0 rfl rfl dX7_rule_57 ?_
            refine G.iload dX7_rule_60 rfl ?_
            refine G.chk (fun h62 => ?_)
            refine G.iaload 1 0 rfl rfl ((v52 + x1).toNatClampNeg) rfl h62 dX7_rule_62 ?_
            refine G.topi (fun v62 => ?_)
            refine G.istore (lv' := [some (.ref (a 0)), some (.int x1), some (.int x2), some (.int x3), some (.int (v52 + x1)), some (.int v62)]) dX7_rule_63 (by decide) (Nat.le_of_ble_eq_true rfl) rfl rfl ?_
            refine G.aload_n dX7_rule_65 rfl ?_
            refine G.get fl_7_7 0 rfl rfl dX7_rule_66 ?_
            refine G.iload dX7_rule_69 rfl ?_
            refine G.iload_n dX7_rule_71 rfl ?_
            refine G.iastore (w' := (w_X7 cI cL cC cM cS a (upd t_now ((v52 + x1).toNatClampNeg) x3) t_mores t_tape t_typed t_place t_isFault t_readLamps t_read t_undone t_undos t_aside t_bays t_bests t_kept t_keptUndos t_isKept t_lanes t_sizes t_items t_moved)) 1 0 rfl rfl ((v52 + x1).toNatClampNeg) rfl h62 rfl dX7_rule_72 ?_
            refine G.iload dX7_rule_73 rfl ?_
            exact G.iret rfl rfl dX7_rule_75
          · refine G.ite ?_
            refine G.if_ne 50 dX7_rule_42 (by decide) (fun _ => ?_) (fun _ => ?_)
            · refine G.bipush 34 dX7_rule_50 (by decide) ?_
              exact hJ _
            · refine G.bipush 28 dX7_rule_45 (by decide) ?_
              refine G.goto 52 dX7_rule_47 (by decide) ?_
              exact hJ _
        · refine G.iconst (-1) dX7_rule_39 (by decide) ?_
          exact G.iret rfl rfl dX7_rule_40
      · refine G.ite ?_
        refine G.if_ne 30 dX7_rule_21 (by decide) (fun _ => ?_) (fun _ => ?_)
        · refine G.ldc2 kl_7_106 dX7_rule_30 ?_
          exact hJ _
        · refine G.ldc2 kl_7_118 dX7_rule_24 ?_
          refine G.goto 33 dX7_rule_27 (by decide) ?_
          exact hJ _
set_option maxHeartbeats 4000000 in
set_option maxRecDepth 100000 in
theorem c_X7_seed (l : Launch) (D : va_G) (ks : Nat × Nat) (cI cL cC cM cS : ClassId) (a : Nat → Nat) (t_now t_mores t_tape : Nat → Int32) (t_typed t_place t_isFault : Int32) (t_readLamps t_read t_undone : Nat → Int32) (t_undos : Int32) (t_aside t_bays t_bests t_kept : Nat → Int32) (t_keptUndos t_isKept : Int32) (t_lanes t_sizes : Nat → Int32) (t_items t_moved : Nat → Int64) (x1 : Int32) : MT l D ks (tyz cI cL cC cM cS) yX7_seed cX7_seed 3 ((some .int)) { frames := 0, cells := 0, slots := 0, locals := 0 } [.ref (a 0), .int x1] (w_X7 cI cL cC cM cS a t_now t_mores t_tape t_typed t_place t_isFault t_readLamps t_read t_undone t_undos t_aside t_bays t_bests t_kept t_keptUndos t_isKept t_lanes t_sizes t_items t_moved) (fun r : Int32 × (Nat → Int32) => (some (.int r.1), (w_X7 cI cL cC cM cS a r.2 t_mores t_tape t_typed t_place t_isFault t_readLamps t_read t_undone t_undos t_aside t_bays t_bests t_kept t_keptUndos t_isKept t_lanes t_sizes t_items t_moved))) (f_X7_seed t_now x1) := by
  refine MT.of 1 [some (.ref (a 0)), some (.int x1), none] (by decide) (Nat.le_of_ble_eq_true rfl) rfl ?_
  unfold f_X7_seed
  refine G.iload_n dX7_seed_0 rfl ?_
  refine G.if_ge 6 dX7_seed_1 (by decide) (fun h1 => ?_) (fun h1 => ?_)
  · refine G.aload_n dX7_seed_6 rfl ?_
    refine G.get fl_7_7 0 rfl rfl dX7_seed_7 ?_
    refine G.iconst 3 dX7_seed_10 (by decide) ?_
    refine G.iaload 1 0 rfl rfl 3 (by decide) (by decide) dX7_seed_11 ?_
    refine G.topi (fun v11 => ?_)
    refine G.istore_n (lv' := [some (.ref (a 0)), some (.int x1), some (.int v11)]) dX7_seed_12 (by decide) (Nat.le_of_ble_eq_true rfl) rfl rfl ?_
    refine G.aload_n dX7_seed_13 rfl ?_
    refine G.get fl_7_7 0 rfl rfl dX7_seed_14 ?_
    refine G.iconst 3 dX7_seed_17 (by decide) ?_
    refine G.iload_n dX7_seed_18 rfl ?_
    refine G.iastore (w' := (w_X7 cI cL cC cM cS a (upd t_now 3 x1) t_mores t_tape t_typed t_place t_isFault t_readLamps t_read t_undone t_undos t_aside t_bays t_bests t_kept t_keptUndos t_isKept t_lanes t_sizes t_items t_moved)) 1 0 rfl rfl 3 (by decide) (by decide) rfl dX7_seed_19 ?_
    refine G.iload_n dX7_seed_20 rfl ?_
    exact G.iret rfl rfl dX7_seed_21
  · refine G.iconst (-1) dX7_seed_4 (by decide) ?_
    exact G.iret rfl rfl dX7_seed_5
set_option maxHeartbeats 4000000 in
set_option maxRecDepth 100000 in
theorem g_X7_sheet_c46 (l : Launch) (D : va_G) (ks : Nat × Nat) (cI cL cC cM cS : ClassId) (a : Nat → Nat) (t_now t_mores t_tape : Nat → Int32) (t_typed t_place t_isFault : Int32) (t_readLamps t_read t_undone : Nat → Int32) (t_undos : Int32) (t_aside t_bays t_bests t_kept : Nat → Int32) (t_keptUndos t_isKept : Int32) (t_moved : Nat → Int64) : ∀ (n : Nat), ∀ (t_lanes t_sizes : Nat → Int32) (t_items : Nat → Int64) (x1 : Int32) (x3 : Int32) (x4 : Int32), GJ l D ks (tyz cI cL cC cM cS) RX7 cX7_sheet 5 ((some .int)) { frames := 2, cells := 0, slots := 0, locals := 45 } (fun r : Int32 × (Nat → Int32) × (Nat → Int32) × (Nat → Int64) => (some (.int r.1), (w_X7 cI cL cC cM cS a t_now t_mores t_tape t_typed t_place t_isFault t_readLamps t_read t_undone t_undos t_aside t_bays t_bests t_kept t_keptUndos t_isKept r.2.1 r.2.2.1 r.2.2.2 t_moved))) (w_X7 cI cL cC cM cS a t_now t_mores t_tape t_typed t_place t_isFault t_readLamps t_read t_undone t_undos t_aside t_bays t_bests t_kept t_keptUndos t_isKept t_lanes t_sizes t_items t_moved) 46 [some (.ref (a 0)), some (.int x1), none, some (.int x3), some (.int x4)] [] (f_X7_sheet_c46 n t_lanes t_sizes t_items x1 x3 x4) := by
  intro n
  induction n with
  | zero =>
    intro t_lanes t_sizes t_items x1 x3 x4
    exact G.no
  | succ n ih =>
    intro t_lanes t_sizes t_items x1 x3 x4
    rw [f_X7_sheet_c46]
    refine G.iload dX7_sheet_46 rfl ?_
    refine G.bipush 24 dX7_sheet_48 (by decide) ?_
    refine G.icmp_ge 72 dX7_sheet_50 (by decide) (fun h50 => ?_) (fun h50 => ?_)
    · refine G.iload_n dX7_sheet_72 rfl ?_
      exact G.iret rfl rfl dX7_sheet_73
    · refine G.aload_n dX7_sheet_53 rfl ?_
      refine G.get fl_7_46 0 rfl rfl dX7_sheet_54 ?_
      refine G.bipush 24 dX7_sheet_57 (by decide) ?_
      refine G.iload_n dX7_sheet_59 rfl ?_
      refine G.imul dX7_sheet_60 ?_
      refine G.iload dX7_sheet_61 rfl ?_
      refine G.iadd dX7_sheet_63 ?_
      refine G.lconst 0 dX7_sheet_64 (by decide) ?_
      refine G.chk (fun h65 => ?_)
      refine G.lastore (w' := (w_X7 cI cL cC cM cS a t_now t_mores t_tape t_typed t_place t_isFault t_readLamps t_read t_undone t_undos t_aside t_bays t_bests t_kept t_keptUndos t_isKept t_lanes t_sizes (vp_updL t_items (((24 * x1) + x4).toNatClampNeg) 0) t_moved)) 13 1 rfl rfl (((24 * x1) + x4).toNatClampNeg) rfl h65 rfl dX7_sheet_65 ?_
      refine G.iinc 1 (lv' := [some (.ref (a 0)), some (.int x1), none, some (.int x3), some (.int (x4 + 1))]) dX7_sheet_66 rfl (by decide) (by decide) (Nat.le_of_ble_eq_true rfl) rfl rfl ?_
      refine G.goto 46 dX7_sheet_69 (by decide) ?_
      exact ih t_lanes t_sizes (vp_updL t_items (((24 * x1) + x4).toNatClampNeg) 0) x1 x3 (x4 + 1)
set_option maxHeartbeats 4000000 in
set_option maxRecDepth 100000 in
theorem c_X7_sheet (l : Launch) (D : va_G) (ks : Nat × Nat) (cI cL cC cM cS : ClassId) (a : Nat → Nat) (t_now t_mores t_tape : Nat → Int32) (t_typed t_place t_isFault : Int32) (t_readLamps t_read t_undone : Nat → Int32) (t_undos : Int32) (t_aside t_bays t_bests t_kept : Nat → Int32) (t_keptUndos t_isKept : Int32) (t_lanes t_sizes : Nat → Int32) (t_items t_moved : Nat → Int64) (x1 : Int32) (x2 : Int32) (x3 : Int32) : MT l D ks (tyz cI cL cC cM cS) yX7_sheet cX7_sheet 5 ((some .int)) { frames := 2, cells := 0, slots := 0, locals := 45 } [.ref (a 0), .int x1, .int x2, .int x3] (w_X7 cI cL cC cM cS a t_now t_mores t_tape t_typed t_place t_isFault t_readLamps t_read t_undone t_undos t_aside t_bays t_bests t_kept t_keptUndos t_isKept t_lanes t_sizes t_items t_moved) (fun r : Int32 × (Nat → Int32) × (Nat → Int32) × (Nat → Int64) => (some (.int r.1), (w_X7 cI cL cC cM cS a t_now t_mores t_tape t_typed t_place t_isFault t_readLamps t_read t_undone t_undos t_aside t_bays t_bests t_kept t_keptUndos t_isKept r.2.1 r.2.2.1 r.2.2.2 t_moved))) (f_X7_sheet t_lanes t_sizes t_items x1 x2 x3) := by
  refine MT.of 1 [some (.ref (a 0)), some (.int x1), some (.int x2), some (.int x3), none] (by decide) (Nat.le_of_ble_eq_true rfl) rfl ?_
  unfold f_X7_sheet
  refine G.iload_n dX7_sheet_0 rfl ?_
  refine G.callS (st := []) (w' := fun r1 => (w_X7 cI cL cC cM cS a t_now t_mores t_tape t_typed t_place t_isFault t_readLamps t_read t_undone t_undos t_aside t_bays t_bests t_kept t_keptUndos t_isKept t_lanes t_sizes t_items t_moved)) ms_X7_isSheet lk_7_234 (c_X7_isSheet l D ks cI cL cC cM cS x1) [] [0, 1, 2, 3, 4, 5, 6, 7, 8, 9, 10, 11, 12, 13, 14] [0, 1, 2, 3, 4, 5, 6, 7, 8, 9, 10, 11, 12, 13, 14] rfl rfl rfl rfl (by decide +kernel) (fun _ => rfl) (by decide) (Nat.le_of_ble_eq_true rfl) dX7_sheet_1 (fun r1 => [.int r1]) (fun _ => rfl) (fun r1 _ => ?_)
  refine G.if_eq 20 dX7_sheet_4 (by decide) (fun h4 => ?_) (fun h4 => ?_)
  · refine G.iconst (-1) dX7_sheet_20 (by decide) ?_
    exact G.iret rfl rfl dX7_sheet_21
  · refine G.iload_n dX7_sheet_7 rfl ?_
    refine G.callS (st := []) (w' := fun r8 => (w_X7 cI cL cC cM cS a t_now t_mores t_tape t_typed t_place t_isFault t_readLamps t_read t_undone t_undos t_aside t_bays t_bests t_kept t_keptUndos t_isKept t_lanes t_sizes t_items t_moved)) ms_X7_isLane lk_7_237 (c_X7_isLane l D ks cI cL cC cM cS x2) [] [0, 1, 2, 3, 4, 5, 6, 7, 8, 9, 10, 11, 12, 13, 14] [0, 1, 2, 3, 4, 5, 6, 7, 8, 9, 10, 11, 12, 13, 14] rfl rfl rfl rfl (by decide +kernel) (fun _ => rfl) (by decide) (Nat.le_of_ble_eq_true rfl) dX7_sheet_8 (fun r8 => [.int r8]) (fun _ => rfl) (fun r8 _ => ?_)
    refine G.if_eq 20 dX7_sheet_11 (by decide) (fun h11 => ?_) (fun h11 => ?_)
    · refine G.iconst (-1) dX7_sheet_20 (by decide) ?_
      exact G.iret rfl rfl dX7_sheet_21
    · refine G.iload_n dX7_sheet_14 rfl ?_
      refine G.bipush 24 dX7_sheet_15 (by decide) ?_
      refine G.icmp_le 22 dX7_sheet_17 (by decide) (fun h17 => ?_) (fun h17 => ?_)
      · refine G.iload_n dX7_sheet_22 rfl ?_
        refine G.if_ge 29 dX7_sheet_23 (by decide) (fun h23 => ?_) (fun h23 => ?_)
        · refine G.aload_n dX7_sheet_29 rfl ?_
          refine G.get fl_7_40 0 rfl rfl dX7_sheet_30 ?_
          refine G.iload_n dX7_sheet_33 rfl ?_
          refine G.iload_n dX7_sheet_34 rfl ?_
          refine G.chk (fun h35 => ?_)
          refine G.iastore (w' := (w_X7 cI cL cC cM cS a t_now t_mores t_tape t_typed t_place t_isFault t_readLamps t_read t_undone t_undos t_aside t_bays t_bests t_kept t_keptUndos t_isKept (upd t_lanes x1.toNatClampNeg x2) t_sizes t_items t_moved)) 11 0 rfl rfl x1.toNatClampNeg rfl h35 rfl dX7_sheet_35 ?_
          refine G.aload_n dX7_sheet_36 rfl ?_
          refine G.get fl_7_43 0 rfl rfl dX7_sheet_37 ?_
          refine G.iload_n dX7_sheet_40 rfl ?_
          refine G.iload_n dX7_sheet_41 rfl ?_
          refine G.iastore (w' := (w_X7 cI cL cC cM cS a t_now t_mores t_tape t_typed t_place t_isFault t_readLamps t_read t_undone t_undos t_aside t_bays t_bests t_kept t_keptUndos t_isKept (upd t_lanes x1.toNatClampNeg x2) (upd t_sizes x1.toNatClampNeg x3) t_items t_moved)) 12 0 rfl rfl x1.toNatClampNeg rfl h35 rfl dX7_sheet_42 ?_
          refine G.iconst 0 dX7_sheet_43 (by decide) ?_
          refine G.istore (lv' := [some (.ref (a 0)), some (.int x1), some (.int x2), some (.int x3), some (.int 0)]) dX7_sheet_44 (by decide) (Nat.le_of_ble_eq_true rfl) rfl rfl ?_
          refine G.mask (lv' := [some (.ref (a 0)), some (.int x1), none, some (.int x3), some (.int 0)]) [true, true, false, true, true] rfl ?_
          exact g_X7_sheet_c46 l D ks cI cL cC cM cS a t_now t_mores t_tape t_typed t_place t_isFault t_readLamps t_read t_undone t_undos t_aside t_bays t_bests t_kept t_keptUndos t_isKept t_moved fu (upd t_lanes x1.toNatClampNeg x2) (upd t_sizes x1.toNatClampNeg x3) t_items x1 x3 0
        · refine G.bipush (-14) dX7_sheet_26 (by decide) ?_
          exact G.iret rfl rfl dX7_sheet_28
      · refine G.iconst (-1) dX7_sheet_20 (by decide) ?_
        exact G.iret rfl rfl dX7_sheet_21
set_option maxHeartbeats 4000000 in
set_option maxRecDepth 100000 in
theorem g_X7_spare_c48 (l : Launch) (D : va_G) (ks : Nat × Nat) (cI cL cC cM cS : ClassId) (a : Nat → Nat) (t_tape : Nat → Int32) (t_typed t_place t_isFault : Int32) (t_readLamps t_read t_undone : Nat → Int32) (t_undos : Int32) (t_bays t_bests t_kept : Nat → Int32) (t_keptUndos t_isKept : Int32) (t_lanes t_sizes : Nat → Int32) (t_items t_moved : Nat → Int64) (k32 : (Nat → Int32) → (Nat → Int32) → (Nat → Int32) → Int32 → Int32 → Int32 → Int32 → (Option (Int32 × (Nat → Int32) × (Nat → Int32) × (Nat → Int32)))) (hk32 : ∀ (t_now t_mores t_aside : Nat → Int32) (x1 : Int32) (x2 : Int32) (x3 : Int32) (x4 : Int32), GJ l D ks (tyz cI cL cC cM cS) RX7 cX7_spare 6 ((some .int)) { frames := 7, cells := 0, slots := 0, locals := 154 } (fun r : Int32 × (Nat → Int32) × (Nat → Int32) × (Nat → Int32) => (some (.int r.1), (w_X7 cI cL cC cM cS a r.2.1 r.2.2.1 t_tape t_typed t_place t_isFault t_readLamps t_read t_undone t_undos r.2.2.2 t_bays t_bests t_kept t_keptUndos t_isKept t_lanes t_sizes t_items t_moved))) (w_X7 cI cL cC cM cS a t_now t_mores t_tape t_typed t_place t_isFault t_readLamps t_read t_undone t_undos t_aside t_bays t_bests t_kept t_keptUndos t_isKept t_lanes t_sizes t_items t_moved) 32 [some (.ref (a 0)), some (.int x1), some (.int x2), some (.int x3), some (.int x4), none] [] (k32 t_now t_mores t_aside x1 x2 x3 x4)) : ∀ (n : Nat), ∀ (t_now t_mores t_aside : Nat → Int32) (x1 : Int32) (x2 : Int32) (x4 : Int32) (x5 : Int32), GJ l D ks (tyz cI cL cC cM cS) RX7 cX7_spare 6 ((some .int)) { frames := 7, cells := 0, slots := 0, locals := 154 } (fun r : Int32 × (Nat → Int32) × (Nat → Int32) × (Nat → Int32) => (some (.int r.1), (w_X7 cI cL cC cM cS a r.2.1 r.2.2.1 t_tape t_typed t_place t_isFault t_readLamps t_read t_undone t_undos r.2.2.2 t_bays t_bests t_kept t_keptUndos t_isKept t_lanes t_sizes t_items t_moved))) (w_X7 cI cL cC cM cS a t_now t_mores t_tape t_typed t_place t_isFault t_readLamps t_read t_undone t_undos t_aside t_bays t_bests t_kept t_keptUndos t_isKept t_lanes t_sizes t_items t_moved) 48 [some (.ref (a 0)), some (.int x1), some (.int x2), none, some (.int x4), some (.int x5)] [] (f_X7_spare_c48 k32 n t_now t_mores t_aside x1 x2 x4 x5) := by
  intro n
  induction n with
  | zero =>
    intro t_now t_mores t_aside x1 x2 x4 x5
    exact G.no
  | succ n ih =>
    intro t_now t_mores t_aside x1 x2 x4 x5
    rw [f_X7_spare_c48]
    refine G.iload dX7_spare_48 rfl ?_
    refine G.iload dX7_spare_50 rfl ?_
    refine G.icmp_ge 66 dX7_spare_52 (by decide) (fun h52 => ?_) (fun h52 => ?_)
    · refine G.aload_n dX7_spare_66 rfl ?_
      refine G.iload_n dX7_spare_67 rfl ?_
      refine G.callV (st := []) (w' := fun r68 => (w_X7 cI cL cC cM cS a r68.1 r68.2 t_tape t_typed t_place t_isFault t_readLamps t_read t_undone t_undos t_aside t_bays t_bests t_kept t_keptUndos t_isKept t_lanes t_sizes t_items t_moved)) mv_X7_goesOn lk_7_190 (c_X7_goesOn l D ks cI cL cC cM cS a t_now t_mores t_tape t_typed t_place t_isFault t_readLamps t_read t_undone t_undos t_aside t_bays t_bests t_kept t_keptUndos t_isKept t_lanes t_sizes t_items t_moved x2) [0, 1, 2, 3, 4, 5, 6, 7, 8, 9, 10, 11, 12, 13, 14] [] [0, 1, 2, 3, 4, 5, 6, 7, 8, 9, 10, 11, 12, 13, 14] rfl rfl rfl rfl (by decide +kernel) (fun _ => rfl) rfl (by decide) (Nat.le_of_ble_eq_true rfl) dX7_spare_68 (fun r68 => []) (fun _ => rfl) (fun r68 _ => ?_)
      refine G.aload_n dX7_spare_71 rfl ?_
      refine G.iload_n dX7_spare_72 rfl ?_
      refine G.callV (st := []) (w' := fun r73 => (w_X7 cI cL cC cM cS a r68.1 r68.2 t_tape t_typed t_place t_isFault t_readLamps t_read t_undone t_undos t_aside t_bays t_bests t_kept t_keptUndos t_isKept t_lanes t_sizes t_items t_moved)) mv_X7_isUp lk_7_76 (c_X7_isUp l D ks cI cL cC cM cS a r68.1 r68.2 t_tape t_typed t_place t_isFault t_readLamps t_read t_undone t_undos t_aside t_bays t_bests t_kept t_keptUndos t_isKept t_lanes t_sizes t_items t_moved x1) [0, 1, 2, 3, 4, 5, 6, 7, 8, 9, 10, 11, 12, 13, 14] [] [0, 1, 2, 3, 4, 5, 6, 7, 8, 9, 10, 11, 12, 13, 14] rfl rfl rfl rfl (by decide +kernel) (fun _ => rfl) rfl (by decide) (Nat.le_of_ble_eq_true rfl) dX7_spare_73 (fun r73 => [.int r73]) (fun _ => rfl) (fun r73 _ => ?_)
      refine G.join (st := []) Value.int 86 (fun v86 => ?_) (fun hJ => ?_)
      · refine G.istore_n (lv' := [some (.ref (a 0)), some (.int x1), some (.int x2), some (.int v86), some (.int x4), some (.int x5)]) dX7_spare_86 (by decide) (Nat.le_of_ble_eq_true rfl) rfl rfl ?_
        refine G.aload_n dX7_spare_87 rfl ?_
        refine G.callV (st := []) (w' := fun r88 => (w_X7 cI cL cC cM cS a r88 r68.2 t_tape t_typed t_place t_isFault t_readLamps t_read t_undone t_undos t_aside t_bays t_bests t_kept t_keptUndos t_isKept t_lanes t_sizes t_items t_moved)) mv_X7_backs lk_7_193 (c_X7_backs l D ks cI cL cC cM cS a r68.1 r68.2 t_tape t_typed t_place t_isFault t_readLamps t_read t_undone t_undos t_aside t_bays t_bests t_kept t_keptUndos t_isKept t_lanes t_sizes t_items t_moved) [0, 1, 2, 3, 4, 5, 6, 7, 8, 9, 10, 11, 12, 13, 14] [] [0, 1, 2, 3, 4, 5, 6, 7, 8, 9, 10, 11, 12, 13, 14] rfl rfl rfl rfl (by decide +kernel) (fun _ => rfl) rfl (by decide) (Nat.le_of_ble_eq_true rfl) dX7_spare_88 (fun r88 => []) (fun _ => rfl) (fun r88 _ => ?_)
        refine G.iinc 1 (lv' := [some (.ref (a 0)), some (.int x1), some (.int x2), some (.int v86), some (.int (x4 + 1)), some (.int x5)]) dX7_spare_91 rfl (by decide) (by decide) (Nat.le_of_ble_eq_true rfl) rfl rfl ?_
        refine G.goto 32 dX7_spare_94 (by decide) ?_
        refine G.mask (lv' := [some (.ref (a 0)), some (.int x1), some (.int x2), some (.int v86), some (.int (x4 + 1)), none]) [true, true, true, true, true, false] rfl ?_
        exact hk32 r88 r68.2 t_aside x1 x2 v86 (x4 + 1)
      · refine G.ite ?_
        refine G.if_eq 84 dX7_spare_76 (by decide) (fun _ => ?_) (fun _ => ?_)
        · refine G.iload dX7_spare_84 rfl ?_
          exact hJ _
        · refine G.bipush (-4) dX7_spare_79 (by decide) ?_
          refine G.goto 86 dX7_spare_81 (by decide) ?_
          exact hJ _
    · refine G.aload_n dX7_spare_55 rfl ?_
      refine G.iload_n dX7_spare_56 rfl ?_
      refine G.callV (st := []) (w' := fun r57 => (w_X7 cI cL cC cM cS a r57 t_mores t_tape t_typed t_place t_isFault t_readLamps t_read t_undone t_undos t_aside t_bays t_bests t_kept t_keptUndos t_isKept t_lanes t_sizes t_items t_moved)) mv_X7_talks lk_7_176 (c_X7_talks l D ks cI cL cC cM cS a t_now t_mores t_tape t_typed t_place t_isFault t_readLamps t_read t_undone t_undos t_aside t_bays t_bests t_kept t_keptUndos t_isKept t_lanes t_sizes t_items t_moved x1) [0, 1, 2, 3, 4, 5, 6, 7, 8, 9, 10, 11, 12, 13, 14] [] [0, 1, 2, 3, 4, 5, 6, 7, 8, 9, 10, 11, 12, 13, 14] rfl rfl rfl rfl (by decide +kernel) (fun _ => rfl) rfl (by decide) (Nat.le_of_ble_eq_true rfl) dX7_spare_57 (fun r57 => []) (fun _ => rfl) (fun r57 _ => ?_)
      refine G.iinc 1 (lv' := [some (.ref (a 0)), some (.int x1), some (.int x2), none, some (.int x4), some (.int (x5 + 1))]) dX7_spare_60 rfl (by decide) (by decide) (Nat.le_of_ble_eq_true rfl) rfl rfl ?_
      refine G.goto 48 dX7_spare_63 (by decide) ?_
      exact ih r57 t_mores t_aside x1 x2 x4 (x5 + 1)
set_option maxHeartbeats 4000000 in
set_option maxRecDepth 100000 in
theorem g_X7_spare_c32 (l : Launch) (D : va_G) (ks : Nat × Nat) (cI cL cC cM cS : ClassId) (a : Nat → Nat) (t_tape : Nat → Int32) (t_typed t_place t_isFault : Int32) (t_readLamps t_read t_undone : Nat → Int32) (t_undos : Int32) (t_bays t_bests t_kept : Nat → Int32) (t_keptUndos t_isKept : Int32) (t_lanes t_sizes : Nat → Int32) (t_items t_moved : Nat → Int64) : ∀ (n : Nat), ∀ (t_now t_mores t_aside : Nat → Int32) (x1 : Int32) (x2 : Int32) (x3 : Int32) (x4 : Int32), GJ l D ks (tyz cI cL cC cM cS) RX7 cX7_spare 6 ((some .int)) { frames := 7, cells := 0, slots := 0, locals := 154 } (fun r : Int32 × (Nat → Int32) × (Nat → Int32) × (Nat → Int32) => (some (.int r.1), (w_X7 cI cL cC cM cS a r.2.1 r.2.2.1 t_tape t_typed t_place t_isFault t_readLamps t_read t_undone t_undos r.2.2.2 t_bays t_bests t_kept t_keptUndos t_isKept t_lanes t_sizes t_items t_moved))) (w_X7 cI cL cC cM cS a t_now t_mores t_tape t_typed t_place t_isFault t_readLamps t_read t_undone t_undos t_aside t_bays t_bests t_kept t_keptUndos t_isKept t_lanes t_sizes t_items t_moved) 32 [some (.ref (a 0)), some (.int x1), some (.int x2), some (.int x3), some (.int x4), none] [] (f_X7_spare_c32 n t_now t_mores t_aside x1 x2 x3 x4) := by
  intro n
  induction n with
  | zero =>
    intro t_now t_mores t_aside x1 x2 x3 x4
    exact G.no
  | succ n ih =>
    intro t_now t_mores t_aside x1 x2 x3 x4
    rw [f_X7_spare_c32]
    refine G.iload dX7_spare_32 rfl ?_
    refine G.bipush 21 dX7_spare_34 (by decide) ?_
    refine G.icmp_ge 97 dX7_spare_36 (by decide) (fun h36 => ?_) (fun h36 => ?_)
    · refine G.iload_n dX7_spare_97 rfl ?_
      exact G.iret rfl rfl dX7_spare_98
    · refine G.iload_n dX7_spare_39 rfl ?_
      refine G.bipush (-4) dX7_spare_40 (by decide) ?_
      refine G.icmp_ne 97 dX7_spare_42 (by decide) (fun h42 => ?_) (fun h42 => ?_)
      · refine G.iload_n dX7_spare_97 rfl ?_
        exact G.iret rfl rfl dX7_spare_98
      · refine G.iconst 0 dX7_spare_45 (by decide) ?_
        refine G.istore (lv' := [some (.ref (a 0)), some (.int x1), some (.int x2), some (.int x3), some (.int x4), some (.int 0)]) dX7_spare_46 (by decide) (Nat.le_of_ble_eq_true rfl) rfl rfl ?_
        refine G.mask (lv' := [some (.ref (a 0)), some (.int x1), some (.int x2), none, some (.int x4), some (.int 0)]) [true, true, true, false, true, true] rfl ?_
        exact g_X7_spare_c48 l D ks cI cL cC cM cS a t_tape t_typed t_place t_isFault t_readLamps t_read t_undone t_undos t_bays t_bests t_kept t_keptUndos t_isKept t_lanes t_sizes t_items t_moved (f_X7_spare_c32 n) ih fu t_now t_mores t_aside x1 x2 x4 0
set_option maxHeartbeats 4000000 in
set_option maxRecDepth 100000 in
theorem c_X7_spare (l : Launch) (D : va_G) (ks : Nat × Nat) (cI cL cC cM cS : ClassId) (a : Nat → Nat) (t_now t_mores t_tape : Nat → Int32) (t_typed t_place t_isFault : Int32) (t_readLamps t_read t_undone : Nat → Int32) (t_undos : Int32) (t_aside t_bays t_bests t_kept : Nat → Int32) (t_keptUndos t_isKept : Int32) (t_lanes t_sizes : Nat → Int32) (t_items t_moved : Nat → Int64) (x1 : Int32) (x2 : Int32) : MT l D ks (tyz cI cL cC cM cS) yX7_spare cX7_spare 6 ((some .int)) { frames := 7, cells := 0, slots := 0, locals := 154 } [.ref (a 0), .int x1, .int x2] (w_X7 cI cL cC cM cS a t_now t_mores t_tape t_typed t_place t_isFault t_readLamps t_read t_undone t_undos t_aside t_bays t_bests t_kept t_keptUndos t_isKept t_lanes t_sizes t_items t_moved) (fun r : Int32 × (Nat → Int32) × (Nat → Int32) × (Nat → Int32) => (some (.int r.1), (w_X7 cI cL cC cM cS a r.2.1 r.2.2.1 t_tape t_typed t_place t_isFault t_readLamps t_read t_undone t_undos r.2.2.2 t_bays t_bests t_kept t_keptUndos t_isKept t_lanes t_sizes t_items t_moved))) (f_X7_spare t_now t_mores t_aside x1 x2) := by
  refine MT.of 3 [some (.ref (a 0)), some (.int x1), some (.int x2), none, none, none] (by decide) (Nat.le_of_ble_eq_true rfl) rfl ?_
  unfold f_X7_spare
  refine G.aload_n dX7_spare_0 rfl ?_
  refine G.iload_n dX7_spare_1 rfl ?_
  refine G.callV (st := []) (w' := fun r2 => (w_X7 cI cL cC cM cS a t_now t_mores t_tape t_typed t_place t_isFault t_readLamps t_read t_undone t_undos t_aside t_bays t_bests t_kept t_keptUndos t_isKept t_lanes t_sizes t_items t_moved)) mv_X7_isHolder lk_7_120 (c_X7_isHolder l D ks cI cL cC cM cS a t_now t_mores t_tape t_typed t_place t_isFault t_readLamps t_read t_undone t_undos t_aside t_bays t_bests t_kept t_keptUndos t_isKept t_lanes t_sizes t_items t_moved x1) [0, 1, 2, 3, 4, 5, 6, 7, 8, 9, 10, 11, 12, 13, 14] [] [0, 1, 2, 3, 4, 5, 6, 7, 8, 9, 10, 11, 12, 13, 14] rfl rfl rfl rfl (by decide +kernel) (fun _ => rfl) rfl (by decide) (Nat.le_of_ble_eq_true rfl) dX7_spare_2 (fun r2 => [.int r2]) (fun _ => rfl) (fun r2 _ => ?_)
  refine G.if_eq 20 dX7_spare_5 (by decide) (fun h5 => ?_) (fun h5 => ?_)
  · refine G.iconst (-1) dX7_spare_20 (by decide) ?_
    exact G.iret rfl rfl dX7_spare_21
  · refine G.iload_n dX7_spare_8 rfl ?_
    refine G.i2l dX7_spare_9 ?_
    refine G.lconst 1 dX7_spare_10 (by decide) ?_
    refine G.ldc2 kl_7_165 dX7_spare_11 ?_
    refine G.callS (st := []) (w' := fun r14 => (w_X7 cI cL cC cM cS a t_now t_mores t_tape t_typed t_place t_isFault t_readLamps t_read t_undone t_undos t_aside t_bays t_bests t_kept t_keptUndos t_isKept t_lanes t_sizes t_items t_moved)) ms_X7_in lk_7_53 (c_X7_in l D ks cI cL cC cM cS (x2.toInt64) 1 40) [] [0, 1, 2, 3, 4, 5, 6, 7, 8, 9, 10, 11, 12, 13, 14] [0, 1, 2, 3, 4, 5, 6, 7, 8, 9, 10, 11, 12, 13, 14] rfl rfl rfl rfl (by decide +kernel) (fun _ => rfl) (by decide) (Nat.le_of_ble_eq_true rfl) dX7_spare_14 (fun r14 => [.int r14]) (fun _ => rfl) (fun r14 _ => ?_)
    refine G.if_ne 22 dX7_spare_17 (by decide) (fun h17 => ?_) (fun h17 => ?_)
    · refine G.bipush (-4) dX7_spare_22 (by decide) ?_
      refine G.istore_n (lv' := [some (.ref (a 0)), some (.int x1), some (.int x2), some (.int (-4)), none, none]) dX7_spare_24 (by decide) (Nat.le_of_ble_eq_true rfl) rfl rfl ?_
      refine G.aload_n dX7_spare_25 rfl ?_
      refine G.callV (st := []) (w' := fun r26 => (w_X7 cI cL cC cM cS a t_now t_mores t_tape t_typed t_place t_isFault t_readLamps t_read t_undone t_undos r26 t_bays t_bests t_kept t_keptUndos t_isKept t_lanes t_sizes t_items t_moved)) mv_X7_asides lk_7_187 (c_X7_asides l D ks cI cL cC cM cS a t_now t_mores t_tape t_typed t_place t_isFault t_readLamps t_read t_undone t_undos t_aside t_bays t_bests t_kept t_keptUndos t_isKept t_lanes t_sizes t_items t_moved) [0, 1, 2, 3, 4, 5, 6, 7, 8, 9, 10, 11, 12, 13, 14] [] [0, 1, 2, 3, 4, 5, 6, 7, 8, 9, 10, 11, 12, 13, 14] rfl rfl rfl rfl (by decide +kernel) (fun _ => rfl) rfl (by decide) (Nat.le_of_ble_eq_true rfl) dX7_spare_26 (fun r26 => []) (fun _ => rfl) (fun r26 _ => ?_)
      refine G.iconst 0 dX7_spare_29 (by decide) ?_
      refine G.istore (lv' := [some (.ref (a 0)), some (.int x1), some (.int x2), some (.int (-4)), some (.int 0), none]) dX7_spare_30 (by decide) (Nat.le_of_ble_eq_true rfl) rfl rfl ?_
      exact g_X7_spare_c32 l D ks cI cL cC cM cS a t_tape t_typed t_place t_isFault t_readLamps t_read t_undone t_undos t_bays t_bests t_kept t_keptUndos t_isKept t_lanes t_sizes t_items t_moved fu t_now t_mores r26 x1 x2 (-4) 0
    · refine G.iconst (-1) dX7_spare_20 (by decide) ?_
      exact G.iret rfl rfl dX7_spare_21
set_option maxHeartbeats 4000000 in
set_option maxRecDepth 100000 in
theorem g_X7_swapsNow_c18 (l : Launch) (D : va_G) (ks : Nat × Nat) (cI cL cC cM cS : ClassId) (a : Nat → Nat) (t_mores t_tape : Nat → Int32) (t_typed t_place t_isFault : Int32) (t_readLamps t_read t_undone : Nat → Int32) (t_undos : Int32) (t_aside t_bays t_bests t_kept : Nat → Int32) (t_keptUndos t_isKept : Int32) (t_lanes t_sizes : Nat → Int32) (t_items t_moved : Nat → Int64) (k4 : (Nat → Int32) → Int32 → Int32 → Option (Int32)) (hk4 : ∀ (t_now : Nat → Int32) (x1 : Int32) (x2 : Int32), GJ l D ks (tyz cI cL cC cM cS) RX7 cX7_swapsNow 4 ((some .int)) { frames := 4, cells := 0, slots := 0, locals := 86 } (fun r : Int32 => (some (.int r), (w_X7 cI cL cC cM cS a t_now t_mores t_tape t_typed t_place t_isFault t_readLamps t_read t_undone t_undos t_aside t_bays t_bests t_kept t_keptUndos t_isKept t_lanes t_sizes t_items t_moved))) (w_X7 cI cL cC cM cS a t_now t_mores t_tape t_typed t_place t_isFault t_readLamps t_read t_undone t_undos t_aside t_bays t_bests t_kept t_keptUndos t_isKept t_lanes t_sizes t_items t_moved) 4 [some (.ref (a 0)), some (.int x1), some (.int x2), none] [] (k4 t_now x1 x2)) : ∀ (n : Nat), ∀ (t_now : Nat → Int32) (x1 : Int32) (x2 : Int32) (x3 : Int32), GJ l D ks (tyz cI cL cC cM cS) RX7 cX7_swapsNow 4 ((some .int)) { frames := 4, cells := 0, slots := 0, locals := 86 } (fun r : Int32 => (some (.int r), (w_X7 cI cL cC cM cS a t_now t_mores t_tape t_typed t_place t_isFault t_readLamps t_read t_undone t_undos t_aside t_bays t_bests t_kept t_keptUndos t_isKept t_lanes t_sizes t_items t_moved))) (w_X7 cI cL cC cM cS a t_now t_mores t_tape t_typed t_place t_isFault t_readLamps t_read t_undone t_undos t_aside t_bays t_bests t_kept t_keptUndos t_isKept t_lanes t_sizes t_items t_moved) 18 [some (.ref (a 0)), some (.int x1), some (.int x2), some (.int x3)] [] (f_X7_swapsNow_c18 k4 n t_now x1 x2 x3) := by
  intro n
  induction n with
  | zero =>
    intro t_now x1 x2 x3
    exact G.no
  | succ n ih =>
    intro t_now x1 x2 x3
    rw [f_X7_swapsNow_c18]
    refine G.iload_n dX7_swapsNow_18 rfl ?_
    refine G.aload_n dX7_swapsNow_19 rfl ?_
    refine G.get fl_7_7 0 rfl rfl dX7_swapsNow_20 ?_
    refine G.iconst 0 dX7_swapsNow_23 (by decide) ?_
    refine G.iaload 1 0 rfl rfl 0 (by decide) (by decide) dX7_swapsNow_24 ?_
    refine G.topi (fun v24 => ?_)
    refine G.icmp_ge 51 dX7_swapsNow_25 (by decide) (fun h25 => ?_) (fun h25 => ?_)
    · refine G.iinc 1 (lv' := [some (.ref (a 0)), some (.int x1), some (.int (x2 + 1)), some (.int x3)]) dX7_swapsNow_51 rfl (by decide) (by decide) (Nat.le_of_ble_eq_true rfl) rfl rfl ?_
      refine G.goto 4 dX7_swapsNow_54 (by decide) ?_
      refine G.mask (lv' := [some (.ref (a 0)), some (.int x1), some (.int (x2 + 1)), none]) [true, true, true, false] rfl ?_
      exact hk4 t_now x1 (x2 + 1)
    · refine G.iload_n dX7_swapsNow_28 rfl ?_
      refine G.aload_n dX7_swapsNow_29 rfl ?_
      refine G.iload_n dX7_swapsNow_30 rfl ?_
      refine G.iload_n dX7_swapsNow_31 rfl ?_
      refine G.callV (st := [.int x1]) (w' := fun r32 => (w_X7 cI cL cC cM cS a t_now t_mores t_tape t_typed t_place t_isFault t_readLamps t_read t_undone t_undos t_aside t_bays t_bests t_kept t_keptUndos t_isKept t_lanes t_sizes t_items t_moved)) mv_X7_wouldSwap lk_7_205 (c_X7_wouldSwap l D ks cI cL cC cM cS a t_now t_mores t_tape t_typed t_place t_isFault t_readLamps t_read t_undone t_undos t_aside t_bays t_bests t_kept t_keptUndos t_isKept t_lanes t_sizes t_items t_moved x2 x3) [0, 1, 2, 3, 4, 5, 6, 7, 8, 9, 10, 11, 12, 13, 14] [] [0, 1, 2, 3, 4, 5, 6, 7, 8, 9, 10, 11, 12, 13, 14] rfl rfl rfl rfl (by decide +kernel) (fun _ => rfl) rfl (by decide) (Nat.le_of_ble_eq_true rfl) dX7_swapsNow_32 (fun r32 => [.int r32, .int x1]) (fun _ => rfl) (fun r32 _ => ?_)
      refine G.join (st := [.int x1]) Value.int 43 (fun v43 => ?_) (fun hJ => ?_)
      · refine G.iadd dX7_swapsNow_43 ?_
        refine G.istore_n (lv' := [some (.ref (a 0)), some (.int (x1 + v43)), some (.int x2), some (.int x3)]) dX7_swapsNow_44 (by decide) (Nat.le_of_ble_eq_true rfl) rfl rfl ?_
        refine G.iinc 1 (lv' := [some (.ref (a 0)), some (.int (x1 + v43)), some (.int x2), some (.int (x3 + 1))]) dX7_swapsNow_45 rfl (by decide) (by decide) (Nat.le_of_ble_eq_true rfl) rfl rfl ?_
        refine G.goto 18 dX7_swapsNow_48 (by decide) ?_
        exact ih t_now (x1 + v43) x2 (x3 + 1)
      · refine G.ite ?_
        refine G.if_eq 42 dX7_swapsNow_35 (by decide) (fun _ => ?_) (fun _ => ?_)
        · refine G.iconst 0 dX7_swapsNow_42 (by decide) ?_
          exact hJ _
        · refine G.iconst 1 dX7_swapsNow_38 (by decide) ?_
          refine G.goto 43 dX7_swapsNow_39 (by decide) ?_
          exact hJ _
set_option maxHeartbeats 4000000 in
set_option maxRecDepth 100000 in
theorem g_X7_swapsNow_c4 (l : Launch) (D : va_G) (ks : Nat × Nat) (cI cL cC cM cS : ClassId) (a : Nat → Nat) (t_mores t_tape : Nat → Int32) (t_typed t_place t_isFault : Int32) (t_readLamps t_read t_undone : Nat → Int32) (t_undos : Int32) (t_aside t_bays t_bests t_kept : Nat → Int32) (t_keptUndos t_isKept : Int32) (t_lanes t_sizes : Nat → Int32) (t_items t_moved : Nat → Int64) : ∀ (n : Nat), ∀ (t_now : Nat → Int32) (x1 : Int32) (x2 : Int32), GJ l D ks (tyz cI cL cC cM cS) RX7 cX7_swapsNow 4 ((some .int)) { frames := 4, cells := 0, slots := 0, locals := 86 } (fun r : Int32 => (some (.int r), (w_X7 cI cL cC cM cS a t_now t_mores t_tape t_typed t_place t_isFault t_readLamps t_read t_undone t_undos t_aside t_bays t_bests t_kept t_keptUndos t_isKept t_lanes t_sizes t_items t_moved))) (w_X7 cI cL cC cM cS a t_now t_mores t_tape t_typed t_place t_isFault t_readLamps t_read t_undone t_undos t_aside t_bays t_bests t_kept t_keptUndos t_isKept t_lanes t_sizes t_items t_moved) 4 [some (.ref (a 0)), some (.int x1), some (.int x2), none] [] (f_X7_swapsNow_c4 n t_now x1 x2) := by
  intro n
  induction n with
  | zero =>
    intro t_now x1 x2
    exact G.no
  | succ n ih =>
    intro t_now x1 x2
    rw [f_X7_swapsNow_c4]
    refine G.iload_n dX7_swapsNow_4 rfl ?_
    refine G.aload_n dX7_swapsNow_5 rfl ?_
    refine G.get fl_7_7 0 rfl rfl dX7_swapsNow_6 ?_
    refine G.iconst 0 dX7_swapsNow_9 (by decide) ?_
    refine G.iaload 1 0 rfl rfl 0 (by decide) (by decide) dX7_swapsNow_10 ?_
    refine G.topi (fun v10 => ?_)
    refine G.icmp_ge 57 dX7_swapsNow_11 (by decide) (fun h11 => ?_) (fun h11 => ?_)
    · refine G.iload_n dX7_swapsNow_57 rfl ?_
      exact G.iret rfl rfl dX7_swapsNow_58
    · refine G.iload_n dX7_swapsNow_14 rfl ?_
      refine G.iconst 1 dX7_swapsNow_15 (by decide) ?_
      refine G.iadd dX7_swapsNow_16 ?_
      refine G.istore_n (lv' := [some (.ref (a 0)), some (.int x1), some (.int x2), some (.int (x2 + 1))]) dX7_swapsNow_17 (by decide) (Nat.le_of_ble_eq_true rfl) rfl rfl ?_
      exact g_X7_swapsNow_c18 l D ks cI cL cC cM cS a t_mores t_tape t_typed t_place t_isFault t_readLamps t_read t_undone t_undos t_aside t_bays t_bests t_kept t_keptUndos t_isKept t_lanes t_sizes t_items t_moved (f_X7_swapsNow_c4 n) ih fu t_now x1 x2 (x2 + 1)
set_option maxHeartbeats 4000000 in
set_option maxRecDepth 100000 in
theorem c_X7_swapsNow (l : Launch) (D : va_G) (ks : Nat × Nat) (cI cL cC cM cS : ClassId) (a : Nat → Nat) (t_now t_mores t_tape : Nat → Int32) (t_typed t_place t_isFault : Int32) (t_readLamps t_read t_undone : Nat → Int32) (t_undos : Int32) (t_aside t_bays t_bests t_kept : Nat → Int32) (t_keptUndos t_isKept : Int32) (t_lanes t_sizes : Nat → Int32) (t_items t_moved : Nat → Int64) : MT l D ks (tyz cI cL cC cM cS) yX7_swapsNow cX7_swapsNow 4 ((some .int)) { frames := 4, cells := 0, slots := 0, locals := 86 } [.ref (a 0)] (w_X7 cI cL cC cM cS a t_now t_mores t_tape t_typed t_place t_isFault t_readLamps t_read t_undone t_undos t_aside t_bays t_bests t_kept t_keptUndos t_isKept t_lanes t_sizes t_items t_moved) (fun r : Int32 => (some (.int r), (w_X7 cI cL cC cM cS a t_now t_mores t_tape t_typed t_place t_isFault t_readLamps t_read t_undone t_undos t_aside t_bays t_bests t_kept t_keptUndos t_isKept t_lanes t_sizes t_items t_moved))) (f_X7_swapsNow t_now) := by
  refine MT.of 3 [some (.ref (a 0)), none, none, none] (by decide) (Nat.le_of_ble_eq_true rfl) rfl ?_
  unfold f_X7_swapsNow
  refine G.iconst 0 dX7_swapsNow_0 (by decide) ?_
  refine G.istore_n (lv' := [some (.ref (a 0)), some (.int 0), none, none]) dX7_swapsNow_1 (by decide) (Nat.le_of_ble_eq_true rfl) rfl rfl ?_
  refine G.iconst 0 dX7_swapsNow_2 (by decide) ?_
  refine G.istore_n (lv' := [some (.ref (a 0)), some (.int 0), some (.int 0), none]) dX7_swapsNow_3 (by decide) (Nat.le_of_ble_eq_true rfl) rfl rfl ?_
  exact g_X7_swapsNow_c4 l D ks cI cL cC cM cS a t_mores t_tape t_typed t_place t_isFault t_readLamps t_read t_undone t_undos t_aside t_bays t_bests t_kept t_keptUndos t_isKept t_lanes t_sizes t_items t_moved fu t_now 0 0
set_option maxHeartbeats 4000000 in
set_option maxRecDepth 100000 in
theorem g_X7_swaps_c46 (l : Launch) (D : va_G) (ks : Nat × Nat) (cI cL cC cM cS : ClassId) (a : Nat → Nat) (t_mores t_tape : Nat → Int32) (t_typed t_place t_isFault : Int32) (t_readLamps t_read t_undone : Nat → Int32) (t_undos : Int32) (t_bays t_bests t_kept : Nat → Int32) (t_keptUndos t_isKept : Int32) (t_lanes t_sizes : Nat → Int32) (t_items t_moved : Nat → Int64) : ∀ (n : Nat), ∀ (t_now t_aside : Nat → Int32) (x2 : Int32) (x3 : Int32), GJ l D ks (tyz cI cL cC cM cS) RX7 cX7_swaps 4 ((some .int)) { frames := 5, cells := 0, slots := 0, locals := 109 } (fun r : Int32 × (Nat → Int32) × (Nat → Int32) => (some (.int r.1), (w_X7 cI cL cC cM cS a r.2.1 t_mores t_tape t_typed t_place t_isFault t_readLamps t_read t_undone t_undos r.2.2 t_bays t_bests t_kept t_keptUndos t_isKept t_lanes t_sizes t_items t_moved))) (w_X7 cI cL cC cM cS a t_now t_mores t_tape t_typed t_place t_isFault t_readLamps t_read t_undone t_undos t_aside t_bays t_bests t_kept t_keptUndos t_isKept t_lanes t_sizes t_items t_moved) 46 [some (.ref (a 0)), none, some (.int x2), some (.int x3)] [] (f_X7_swaps_c46 n t_now t_aside x2 x3) := by
  intro n
  induction n with
  | zero =>
    intro t_now t_aside x2 x3
    exact G.no
  | succ n ih =>
    intro t_now t_aside x2 x3
    rw [f_X7_swaps_c46]
    refine G.iload_n dX7_swaps_46 rfl ?_
    refine G.bipush (-4) dX7_swaps_47 (by decide) ?_
    refine G.icmp_eq 75 dX7_swaps_49 (by decide) (fun h49 => ?_) (fun h49 => ?_)
    · refine G.aload_n dX7_swaps_75 rfl ?_
      refine G.callV (st := []) (w' := fun r76 => (w_X7 cI cL cC cM cS a r76 t_mores t_tape t_typed t_place t_isFault t_readLamps t_read t_undone t_undos t_aside t_bays t_bests t_kept t_keptUndos t_isKept t_lanes t_sizes t_items t_moved)) mv_X7_backs lk_7_193 (c_X7_backs l D ks cI cL cC cM cS a t_now t_mores t_tape t_typed t_place t_isFault t_readLamps t_read t_undone t_undos t_aside t_bays t_bests t_kept t_keptUndos t_isKept t_lanes t_sizes t_items t_moved) [0, 1, 2, 3, 4, 5, 6, 7, 8, 9, 10, 11, 12, 13, 14] [] [0, 1, 2, 3, 4, 5, 6, 7, 8, 9, 10, 11, 12, 13, 14] rfl rfl rfl rfl (by decide +kernel) (fun _ => rfl) rfl (by decide) (Nat.le_of_ble_eq_true rfl) dX7_swaps_76 (fun r76 => []) (fun _ => rfl) (fun r76 _ => ?_)
      refine G.iload_n dX7_swaps_79 rfl ?_
      exact G.iret rfl rfl dX7_swaps_80
    · refine G.aload_n dX7_swaps_52 rfl ?_
      refine G.iload_n dX7_swaps_53 rfl ?_
      refine G.bipush 10 dX7_swaps_54 (by decide) ?_
      refine G.idiv dX7_swaps_56 (by decide) ?_
      refine G.iload_n dX7_swaps_57 rfl ?_
      refine G.bipush 10 dX7_swaps_58 (by decide) ?_
      refine G.irem dX7_swaps_60 (by decide) ?_
      refine G.callV (st := []) (w' := fun r61 => (w_X7 cI cL cC cM cS a r61 t_mores t_tape t_typed t_place t_isFault t_readLamps t_read t_undone t_undos t_aside t_bays t_bests t_kept t_keptUndos t_isKept t_lanes t_sizes t_items t_moved)) mv_X7_exchanges lk_7_173 (c_X7_exchanges l D ks cI cL cC cM cS a t_now t_mores t_tape t_typed t_place t_isFault t_readLamps t_read t_undone t_undos t_aside t_bays t_bests t_kept t_keptUndos t_isKept t_lanes t_sizes t_items t_moved (x3 / 10) (x3 - x3 / 10 * 10)) [0, 1, 2, 3, 4, 5, 6, 7, 8, 9, 10, 11, 12, 13, 14] [] [0, 1, 2, 3, 4, 5, 6, 7, 8, 9, 10, 11, 12, 13, 14] rfl rfl rfl rfl (by decide +kernel) (fun _ => rfl) rfl (by decide) (Nat.le_of_ble_eq_true rfl) dX7_swaps_61 (fun r61 => []) (fun _ => rfl) (fun r61 _ => ?_)
      refine G.iinc 1 (lv' := [some (.ref (a 0)), none, some (.int (x2 + 1)), some (.int x3)]) dX7_swaps_64 rfl (by decide) (by decide) (Nat.le_of_ble_eq_true rfl) rfl rfl ?_
      refine G.aload_n dX7_swaps_67 rfl ?_
      refine G.callV (st := []) (w' := fun r68 => (w_X7 cI cL cC cM cS a r61 t_mores t_tape t_typed t_place t_isFault t_readLamps t_read t_undone t_undos t_aside t_bays t_bests t_kept t_keptUndos t_isKept t_lanes t_sizes t_items t_moved)) mv_X7_firstSwap lk_7_212 (c_X7_firstSwap l D ks cI cL cC cM cS a r61 t_mores t_tape t_typed t_place t_isFault t_readLamps t_read t_undone t_undos t_aside t_bays t_bests t_kept t_keptUndos t_isKept t_lanes t_sizes t_items t_moved) [0, 1, 2, 3, 4, 5, 6, 7, 8, 9, 10, 11, 12, 13, 14] [] [0, 1, 2, 3, 4, 5, 6, 7, 8, 9, 10, 11, 12, 13, 14] rfl rfl rfl rfl (by decide +kernel) (fun _ => rfl) rfl (by decide) (Nat.le_of_ble_eq_true rfl) dX7_swaps_68 (fun r68 => [.int r68]) (fun _ => rfl) (fun r68 _ => ?_)
      refine G.istore_n (lv' := [some (.ref (a 0)), none, some (.int (x2 + 1)), some (.int r68)]) dX7_swaps_71 (by decide) (Nat.le_of_ble_eq_true rfl) rfl rfl ?_
      refine G.goto 46 dX7_swaps_72 (by decide) ?_
      exact ih r61 t_aside (x2 + 1) r68
set_option maxHeartbeats 4000000 in
set_option maxRecDepth 100000 in
theorem c_X7_swaps (l : Launch) (D : va_G) (ks : Nat × Nat) (cI cL cC cM cS : ClassId) (a : Nat → Nat) (t_now t_mores t_tape : Nat → Int32) (t_typed t_place t_isFault : Int32) (t_readLamps t_read t_undone : Nat → Int32) (t_undos : Int32) (t_aside t_bays t_bests t_kept : Nat → Int32) (t_keptUndos t_isKept : Int32) (t_lanes t_sizes : Nat → Int32) (t_items t_moved : Nat → Int64) (x1 : Int32) : MT l D ks (tyz cI cL cC cM cS) yX7_swaps cX7_swaps 4 ((some .int)) { frames := 5, cells := 0, slots := 0, locals := 109 } [.ref (a 0), .int x1] (w_X7 cI cL cC cM cS a t_now t_mores t_tape t_typed t_place t_isFault t_readLamps t_read t_undone t_undos t_aside t_bays t_bests t_kept t_keptUndos t_isKept t_lanes t_sizes t_items t_moved) (fun r : Int32 × (Nat → Int32) × (Nat → Int32) => (some (.int r.1), (w_X7 cI cL cC cM cS a r.2.1 t_mores t_tape t_typed t_place t_isFault t_readLamps t_read t_undone t_undos r.2.2 t_bays t_bests t_kept t_keptUndos t_isKept t_lanes t_sizes t_items t_moved))) (f_X7_swaps t_now t_aside x1) := by
  refine MT.of 2 [some (.ref (a 0)), some (.int x1), none, none] (by decide) (Nat.le_of_ble_eq_true rfl) rfl ?_
  unfold f_X7_swaps
  refine G.iload_n dX7_swaps_0 rfl ?_
  refine G.i2l dX7_swaps_1 ?_
  refine G.lconst 0 dX7_swaps_2 (by decide) ?_
  refine G.ldc2 kl_7_123 dX7_swaps_3 ?_
  refine G.callS (st := []) (w' := fun r6 => (w_X7 cI cL cC cM cS a t_now t_mores t_tape t_typed t_place t_isFault t_readLamps t_read t_undone t_undos t_aside t_bays t_bests t_kept t_keptUndos t_isKept t_lanes t_sizes t_items t_moved)) ms_X7_in lk_7_53 (c_X7_in l D ks cI cL cC cM cS (x1.toInt64) 0 2) [] [0, 1, 2, 3, 4, 5, 6, 7, 8, 9, 10, 11, 12, 13, 14] [0, 1, 2, 3, 4, 5, 6, 7, 8, 9, 10, 11, 12, 13, 14] rfl rfl rfl rfl (by decide +kernel) (fun _ => rfl) (by decide) (Nat.le_of_ble_eq_true rfl) dX7_swaps_6 (fun r6 => [.int r6]) (fun _ => rfl) (fun r6 _ => ?_)
  refine G.if_ne 14 dX7_swaps_9 (by decide) (fun h9 => ?_) (fun h9 => ?_)
  · refine G.iload_n dX7_swaps_14 rfl ?_
    refine G.iconst 2 dX7_swaps_15 (by decide) ?_
    refine G.icmp_ge 35 dX7_swaps_16 (by decide) (fun h16 => ?_) (fun h16 => ?_)
    · refine G.aload_n dX7_swaps_35 rfl ?_
      refine G.callV (st := []) (w' := fun r36 => (w_X7 cI cL cC cM cS a t_now t_mores t_tape t_typed t_place t_isFault t_readLamps t_read t_undone t_undos r36 t_bays t_bests t_kept t_keptUndos t_isKept t_lanes t_sizes t_items t_moved)) mv_X7_asides lk_7_187 (c_X7_asides l D ks cI cL cC cM cS a t_now t_mores t_tape t_typed t_place t_isFault t_readLamps t_read t_undone t_undos t_aside t_bays t_bests t_kept t_keptUndos t_isKept t_lanes t_sizes t_items t_moved) [0, 1, 2, 3, 4, 5, 6, 7, 8, 9, 10, 11, 12, 13, 14] [] [0, 1, 2, 3, 4, 5, 6, 7, 8, 9, 10, 11, 12, 13, 14] rfl rfl rfl rfl (by decide +kernel) (fun _ => rfl) rfl (by decide) (Nat.le_of_ble_eq_true rfl) dX7_swaps_36 (fun r36 => []) (fun _ => rfl) (fun r36 _ => ?_)
      refine G.iconst 0 dX7_swaps_39 (by decide) ?_
      refine G.istore_n (lv' := [some (.ref (a 0)), some (.int x1), some (.int 0), none]) dX7_swaps_40 (by decide) (Nat.le_of_ble_eq_true rfl) rfl rfl ?_
      refine G.aload_n dX7_swaps_41 rfl ?_
      refine G.callV (st := []) (w' := fun r42 => (w_X7 cI cL cC cM cS a t_now t_mores t_tape t_typed t_place t_isFault t_readLamps t_read t_undone t_undos r36 t_bays t_bests t_kept t_keptUndos t_isKept t_lanes t_sizes t_items t_moved)) mv_X7_firstSwap lk_7_212 (c_X7_firstSwap l D ks cI cL cC cM cS a t_now t_mores t_tape t_typed t_place t_isFault t_readLamps t_read t_undone t_undos r36 t_bays t_bests t_kept t_keptUndos t_isKept t_lanes t_sizes t_items t_moved) [0, 1, 2, 3, 4, 5, 6, 7, 8, 9, 10, 11, 12, 13, 14] [] [0, 1, 2, 3, 4, 5, 6, 7, 8, 9, 10, 11, 12, 13, 14] rfl rfl rfl rfl (by decide +kernel) (fun _ => rfl) rfl (by decide) (Nat.le_of_ble_eq_true rfl) dX7_swaps_42 (fun r42 => [.int r42]) (fun _ => rfl) (fun r42 _ => ?_)
      refine G.istore_n (lv' := [some (.ref (a 0)), some (.int x1), some (.int 0), some (.int r42)]) dX7_swaps_45 (by decide) (Nat.le_of_ble_eq_true rfl) rfl rfl ?_
      refine G.mask (lv' := [some (.ref (a 0)), none, some (.int 0), some (.int r42)]) [true, false, true, true] rfl ?_
      exact g_X7_swaps_c46 l D ks cI cL cC cM cS a t_mores t_tape t_typed t_place t_isFault t_readLamps t_read t_undone t_undos t_bays t_bests t_kept t_keptUndos t_isKept t_lanes t_sizes t_items t_moved fu t_now r36 0 r42
    · refine G.iload_n dX7_swaps_19 rfl ?_
      refine G.if_ne 30 dX7_swaps_20 (by decide) (fun h20 => ?_) (fun h20 => ?_)
      · refine G.aload_n dX7_swaps_30 rfl ?_
        refine G.callV (st := []) (w' := fun r31 => (w_X7 cI cL cC cM cS a t_now t_mores t_tape t_typed t_place t_isFault t_readLamps t_read t_undone t_undos t_aside t_bays t_bests t_kept t_keptUndos t_isKept t_lanes t_sizes t_items t_moved)) mv_X7_firstSwap lk_7_212 (c_X7_firstSwap l D ks cI cL cC cM cS a t_now t_mores t_tape t_typed t_place t_isFault t_readLamps t_read t_undone t_undos t_aside t_bays t_bests t_kept t_keptUndos t_isKept t_lanes t_sizes t_items t_moved) [0, 1, 2, 3, 4, 5, 6, 7, 8, 9, 10, 11, 12, 13, 14] [] [0, 1, 2, 3, 4, 5, 6, 7, 8, 9, 10, 11, 12, 13, 14] rfl rfl rfl rfl (by decide +kernel) (fun _ => rfl) rfl (by decide) (Nat.le_of_ble_eq_true rfl) dX7_swaps_31 (fun r31 => [.int r31]) (fun _ => rfl) (fun r31 _ => ?_)
        exact G.iret rfl rfl dX7_swaps_34
      · refine G.aload_n dX7_swaps_23 rfl ?_
        refine G.callV (st := []) (w' := fun r24 => (w_X7 cI cL cC cM cS a t_now t_mores t_tape t_typed t_place t_isFault t_readLamps t_read t_undone t_undos t_aside t_bays t_bests t_kept t_keptUndos t_isKept t_lanes t_sizes t_items t_moved)) mv_X7_swapsNow lk_7_209 (c_X7_swapsNow l D ks cI cL cC cM cS a t_now t_mores t_tape t_typed t_place t_isFault t_readLamps t_read t_undone t_undos t_aside t_bays t_bests t_kept t_keptUndos t_isKept t_lanes t_sizes t_items t_moved) [0, 1, 2, 3, 4, 5, 6, 7, 8, 9, 10, 11, 12, 13, 14] [] [0, 1, 2, 3, 4, 5, 6, 7, 8, 9, 10, 11, 12, 13, 14] rfl rfl rfl rfl (by decide +kernel) (fun _ => rfl) rfl (by decide) (Nat.le_of_ble_eq_true rfl) dX7_swaps_24 (fun r24 => [.int r24]) (fun _ => rfl) (fun r24 _ => ?_)
        refine G.goto 34 dX7_swaps_27 (by decide) ?_
        exact G.iret rfl rfl dX7_swaps_34
  · refine G.iconst (-1) dX7_swaps_12 (by decide) ?_
    exact G.iret rfl rfl dX7_swaps_13
set_option maxHeartbeats 4000000 in
set_option maxRecDepth 100000 in
theorem g_X7_takes_c40 (l : Launch) (D : va_G) (ks : Nat × Nat) (cI cL cC cM cS : ClassId) (a : Nat → Nat) (t_tape : Nat → Int32) (t_typed t_place t_isFault : Int32) (t_readLamps t_read t_undone : Nat → Int32) (t_undos : Int32) (t_bays t_bests t_kept : Nat → Int32) (t_keptUndos t_isKept : Int32) (t_lanes t_sizes : Nat → Int32) (t_items t_moved : Nat → Int64) (t_now t_mores t_aside : Nat → Int32) (x2 : Int32) : GJ l D ks (tyz cI cL cC cM cS) RX7 cX7_takes 3 ((some .int)) { frames := 6, cells := 0, slots := 0, locals := 132 } (fun r : Int32 × (Nat → Int32) × (Nat → Int32) × (Nat → Int32) => (some (.int r.1), (w_X7 cI cL cC cM cS a r.2.1 r.2.2.1 t_tape t_typed t_place t_isFault t_readLamps t_read t_undone t_undos r.2.2.2 t_bays t_bests t_kept t_keptUndos t_isKept t_lanes t_sizes t_items t_moved))) (w_X7 cI cL cC cM cS a t_now t_mores t_tape t_typed t_place t_isFault t_readLamps t_read t_undone t_undos t_aside t_bays t_bests t_kept t_keptUndos t_isKept t_lanes t_sizes t_items t_moved) 40 [some (.ref (a 0)), none, some (.int x2)] [] (f_X7_takes_c40 t_now t_mores t_aside x2) := by
  unfold f_X7_takes_c40
  refine G.aload_n dX7_takes_40 rfl ?_
  refine G.callV (st := []) (w' := fun r41 => (w_X7 cI cL cC cM cS a r41 t_mores t_tape t_typed t_place t_isFault t_readLamps t_read t_undone t_undos t_aside t_bays t_bests t_kept t_keptUndos t_isKept t_lanes t_sizes t_items t_moved)) mv_X7_backs lk_7_193 (c_X7_backs l D ks cI cL cC cM cS a t_now t_mores t_tape t_typed t_place t_isFault t_readLamps t_read t_undone t_undos t_aside t_bays t_bests t_kept t_keptUndos t_isKept t_lanes t_sizes t_items t_moved) [0, 1, 2, 3, 4, 5, 6, 7, 8, 9, 10, 11, 12, 13, 14] [] [0, 1, 2, 3, 4, 5, 6, 7, 8, 9, 10, 11, 12, 13, 14] rfl rfl rfl rfl (by decide +kernel) (fun _ => rfl) rfl (by decide) (Nat.le_of_ble_eq_true rfl) dX7_takes_41 (fun r41 => []) (fun _ => rfl) (fun r41 _ => ?_)
  refine G.iload_n dX7_takes_44 rfl ?_
  refine G.bipush 100 dX7_takes_45 (by decide) ?_
  refine G.join (st := []) Value.int 56 (fun v56 => ?_) (fun hJ => ?_)
  · exact G.iret rfl rfl dX7_takes_56
  · refine G.ite ?_
    refine G.icmp_ge 54 dX7_takes_47 (by decide) (fun _ => ?_) (fun _ => ?_)
    · refine G.bipush (-4) dX7_takes_54 (by decide) ?_
      exact hJ _
    · refine G.iload_n dX7_takes_50 rfl ?_
      refine G.goto 56 dX7_takes_51 (by decide) ?_
      exact hJ _
set_option maxHeartbeats 4000000 in
set_option maxRecDepth 100000 in
theorem g_X7_takes_c16 (l : Launch) (D : va_G) (ks : Nat × Nat) (cI cL cC cM cS : ClassId) (a : Nat → Nat) (t_tape : Nat → Int32) (t_typed t_place t_isFault : Int32) (t_readLamps t_read t_undone : Nat → Int32) (t_undos : Int32) (t_bays t_bests t_kept : Nat → Int32) (t_keptUndos t_isKept : Int32) (t_lanes t_sizes : Nat → Int32) (t_items t_moved : Nat → Int64) : ∀ (n : Nat), ∀ (t_now t_mores t_aside : Nat → Int32) (x1 : Int32) (x2 : Int32), GJ l D ks (tyz cI cL cC cM cS) RX7 cX7_takes 3 ((some .int)) { frames := 6, cells := 0, slots := 0, locals := 132 } (fun r : Int32 × (Nat → Int32) × (Nat → Int32) × (Nat → Int32) => (some (.int r.1), (w_X7 cI cL cC cM cS a r.2.1 r.2.2.1 t_tape t_typed t_place t_isFault t_readLamps t_read t_undone t_undos r.2.2.2 t_bays t_bests t_kept t_keptUndos t_isKept t_lanes t_sizes t_items t_moved))) (w_X7 cI cL cC cM cS a t_now t_mores t_tape t_typed t_place t_isFault t_readLamps t_read t_undone t_undos t_aside t_bays t_bests t_kept t_keptUndos t_isKept t_lanes t_sizes t_items t_moved) 16 [some (.ref (a 0)), some (.int x1), some (.int x2)] [] (f_X7_takes_c16 n t_now t_mores t_aside x1 x2) := by
  intro n
  induction n with
  | zero =>
    intro t_now t_mores t_aside x1 x2
    exact G.no
  | succ n ih =>
    intro t_now t_mores t_aside x1 x2
    rw [f_X7_takes_c16]
    refine G.iload_n dX7_takes_16 rfl ?_
    refine G.bipush 100 dX7_takes_17 (by decide) ?_
    refine G.icmp_ge 40 dX7_takes_19 (by decide) (fun h19 => ?_) (fun h19 => ?_)
    · refine G.mask (lv' := [some (.ref (a 0)), none, some (.int x2)]) [true, false, true] rfl ?_
      exact g_X7_takes_c40 l D ks cI cL cC cM cS a t_tape t_typed t_place t_isFault t_readLamps t_read t_undone t_undos t_bays t_bests t_kept t_keptUndos t_isKept t_lanes t_sizes t_items t_moved t_now t_mores t_aside x2
    · refine G.aload_n dX7_takes_22 rfl ?_
      refine G.iload_n dX7_takes_23 rfl ?_
      refine G.callV (st := []) (w' := fun r24 => (w_X7 cI cL cC cM cS a t_now t_mores t_tape t_typed t_place t_isFault t_readLamps t_read t_undone t_undos t_aside t_bays t_bests t_kept t_keptUndos t_isKept t_lanes t_sizes t_items t_moved)) mv_X7_isUp lk_7_76 (c_X7_isUp l D ks cI cL cC cM cS a t_now t_mores t_tape t_typed t_place t_isFault t_readLamps t_read t_undone t_undos t_aside t_bays t_bests t_kept t_keptUndos t_isKept t_lanes t_sizes t_items t_moved x1) [0, 1, 2, 3, 4, 5, 6, 7, 8, 9, 10, 11, 12, 13, 14] [] [0, 1, 2, 3, 4, 5, 6, 7, 8, 9, 10, 11, 12, 13, 14] rfl rfl rfl rfl (by decide +kernel) (fun _ => rfl) rfl (by decide) (Nat.le_of_ble_eq_true rfl) dX7_takes_24 (fun r24 => [.int r24]) (fun _ => rfl) (fun r24 _ => ?_)
      refine G.if_ne 40 dX7_takes_27 (by decide) (fun h27 => ?_) (fun h27 => ?_)
      · refine G.mask (lv' := [some (.ref (a 0)), none, some (.int x2)]) [true, false, true] rfl ?_
        exact g_X7_takes_c40 l D ks cI cL cC cM cS a t_tape t_typed t_place t_isFault t_readLamps t_read t_undone t_undos t_bays t_bests t_kept t_keptUndos t_isKept t_lanes t_sizes t_items t_moved t_now t_mores t_aside x2
      · refine G.aload_n dX7_takes_30 rfl ?_
        refine G.callV (st := []) (w' := fun r31 => (w_X7 cI cL cC cM cS a r31.1 r31.2 t_tape t_typed t_place t_isFault t_readLamps t_read t_undone t_undos t_aside t_bays t_bests t_kept t_keptUndos t_isKept t_lanes t_sizes t_items t_moved)) mv_X7_goesBy lk_7_97 (c_X7_goesBy l D ks cI cL cC cM cS a t_now t_mores t_tape t_typed t_place t_isFault t_readLamps t_read t_undone t_undos t_aside t_bays t_bests t_kept t_keptUndos t_isKept t_lanes t_sizes t_items t_moved) [0, 1, 2, 3, 4, 5, 6, 7, 8, 9, 10, 11, 12, 13, 14] [] [0, 1, 2, 3, 4, 5, 6, 7, 8, 9, 10, 11, 12, 13, 14] rfl rfl rfl rfl (by decide +kernel) (fun _ => rfl) rfl (by decide) (Nat.le_of_ble_eq_true rfl) dX7_takes_31 (fun r31 => []) (fun _ => rfl) (fun r31 _ => ?_)
        refine G.iinc 1 (lv' := [some (.ref (a 0)), some (.int x1), some (.int (x2 + 1))]) dX7_takes_34 rfl (by decide) (by decide) (Nat.le_of_ble_eq_true rfl) rfl rfl ?_
        refine G.goto 16 dX7_takes_37 (by decide) ?_
        exact ih r31.1 r31.2 t_aside x1 (x2 + 1)
set_option maxHeartbeats 4000000 in
set_option maxRecDepth 100000 in
theorem c_X7_takes (l : Launch) (D : va_G) (ks : Nat × Nat) (cI cL cC cM cS : ClassId) (a : Nat → Nat) (t_now t_mores t_tape : Nat → Int32) (t_typed t_place t_isFault : Int32) (t_readLamps t_read t_undone : Nat → Int32) (t_undos : Int32) (t_aside t_bays t_bests t_kept : Nat → Int32) (t_keptUndos t_isKept : Int32) (t_lanes t_sizes : Nat → Int32) (t_items t_moved : Nat → Int64) (x1 : Int32) : MT l D ks (tyz cI cL cC cM cS) yX7_takes cX7_takes 3 ((some .int)) { frames := 6, cells := 0, slots := 0, locals := 132 } [.ref (a 0), .int x1] (w_X7 cI cL cC cM cS a t_now t_mores t_tape t_typed t_place t_isFault t_readLamps t_read t_undone t_undos t_aside t_bays t_bests t_kept t_keptUndos t_isKept t_lanes t_sizes t_items t_moved) (fun r : Int32 × (Nat → Int32) × (Nat → Int32) × (Nat → Int32) => (some (.int r.1), (w_X7 cI cL cC cM cS a r.2.1 r.2.2.1 t_tape t_typed t_place t_isFault t_readLamps t_read t_undone t_undos r.2.2.2 t_bays t_bests t_kept t_keptUndos t_isKept t_lanes t_sizes t_items t_moved))) (f_X7_takes t_now t_mores t_aside x1) := by
  refine MT.of 1 [some (.ref (a 0)), some (.int x1), none] (by decide) (Nat.le_of_ble_eq_true rfl) rfl ?_
  unfold f_X7_takes
  refine G.aload_n dX7_takes_0 rfl ?_
  refine G.iload_n dX7_takes_1 rfl ?_
  refine G.callV (st := []) (w' := fun r2 => (w_X7 cI cL cC cM cS a t_now t_mores t_tape t_typed t_place t_isFault t_readLamps t_read t_undone t_undos t_aside t_bays t_bests t_kept t_keptUndos t_isKept t_lanes t_sizes t_items t_moved)) mv_X7_isHolder lk_7_120 (c_X7_isHolder l D ks cI cL cC cM cS a t_now t_mores t_tape t_typed t_place t_isFault t_readLamps t_read t_undone t_undos t_aside t_bays t_bests t_kept t_keptUndos t_isKept t_lanes t_sizes t_items t_moved x1) [0, 1, 2, 3, 4, 5, 6, 7, 8, 9, 10, 11, 12, 13, 14] [] [0, 1, 2, 3, 4, 5, 6, 7, 8, 9, 10, 11, 12, 13, 14] rfl rfl rfl rfl (by decide +kernel) (fun _ => rfl) rfl (by decide) (Nat.le_of_ble_eq_true rfl) dX7_takes_2 (fun r2 => [.int r2]) (fun _ => rfl) (fun r2 _ => ?_)
  refine G.if_ne 10 dX7_takes_5 (by decide) (fun h5 => ?_) (fun h5 => ?_)
  · refine G.aload_n dX7_takes_10 rfl ?_
    refine G.callV (st := []) (w' := fun r11 => (w_X7 cI cL cC cM cS a t_now t_mores t_tape t_typed t_place t_isFault t_readLamps t_read t_undone t_undos r11 t_bays t_bests t_kept t_keptUndos t_isKept t_lanes t_sizes t_items t_moved)) mv_X7_asides lk_7_187 (c_X7_asides l D ks cI cL cC cM cS a t_now t_mores t_tape t_typed t_place t_isFault t_readLamps t_read t_undone t_undos t_aside t_bays t_bests t_kept t_keptUndos t_isKept t_lanes t_sizes t_items t_moved) [0, 1, 2, 3, 4, 5, 6, 7, 8, 9, 10, 11, 12, 13, 14] [] [0, 1, 2, 3, 4, 5, 6, 7, 8, 9, 10, 11, 12, 13, 14] rfl rfl rfl rfl (by decide +kernel) (fun _ => rfl) rfl (by decide) (Nat.le_of_ble_eq_true rfl) dX7_takes_11 (fun r11 => []) (fun _ => rfl) (fun r11 _ => ?_)
    refine G.iconst 0 dX7_takes_14 (by decide) ?_
    refine G.istore_n (lv' := [some (.ref (a 0)), some (.int x1), some (.int 0)]) dX7_takes_15 (by decide) (Nat.le_of_ble_eq_true rfl) rfl rfl ?_
    exact g_X7_takes_c16 l D ks cI cL cC cM cS a t_tape t_typed t_place t_isFault t_readLamps t_read t_undone t_undos t_bays t_bests t_kept t_keptUndos t_isKept t_lanes t_sizes t_items t_moved fu t_now t_mores r11 x1 0
  · refine G.iconst (-1) dX7_takes_8 (by decide) ?_
    exact G.iret rfl rfl dX7_takes_9
set_option maxHeartbeats 4000000 in
set_option maxRecDepth 100000 in
theorem c_X7_talk (l : Launch) (D : va_G) (ks : Nat × Nat) (cI cL cC cM cS : ClassId) (a : Nat → Nat) (t_now t_mores t_tape : Nat → Int32) (t_typed t_place t_isFault : Int32) (t_readLamps t_read t_undone : Nat → Int32) (t_undos : Int32) (t_aside t_bays t_bests t_kept : Nat → Int32) (t_keptUndos t_isKept : Int32) (t_lanes t_sizes : Nat → Int32) (t_items t_moved : Nat → Int64) (x1 : Int32) : MT l D ks (tyz cI cL cC cM cS) yX7_talk cX7_talk 2 ((some .int)) { frames := 4, cells := 0, slots := 0, locals := 85 } [.ref (a 0), .int x1] (w_X7 cI cL cC cM cS a t_now t_mores t_tape t_typed t_place t_isFault t_readLamps t_read t_undone t_undos t_aside t_bays t_bests t_kept t_keptUndos t_isKept t_lanes t_sizes t_items t_moved) (fun r : Int32 × (Nat → Int32) × (Nat → Int32) × Int32 => (some (.int r.1), (w_X7 cI cL cC cM cS a r.2.1 t_mores t_tape t_typed t_place t_isFault t_readLamps t_read r.2.2.1 r.2.2.2 t_aside t_bays t_bests t_kept t_keptUndos t_isKept t_lanes t_sizes t_items t_moved))) (f_X7_talk t_now t_undone t_undos x1) := by
  refine MT.of 0 [some (.ref (a 0)), some (.int x1)] (by decide) (Nat.le_of_ble_eq_true rfl) rfl ?_
  unfold f_X7_talk
  refine G.aload_n dX7_talk_0 rfl ?_
  refine G.iload_n dX7_talk_1 rfl ?_
  refine G.callV (st := []) (w' := fun r2 => (w_X7 cI cL cC cM cS a t_now t_mores t_tape t_typed t_place t_isFault t_readLamps t_read t_undone t_undos t_aside t_bays t_bests t_kept t_keptUndos t_isKept t_lanes t_sizes t_items t_moved)) mv_X7_isHolder lk_7_120 (c_X7_isHolder l D ks cI cL cC cM cS a t_now t_mores t_tape t_typed t_place t_isFault t_readLamps t_read t_undone t_undos t_aside t_bays t_bests t_kept t_keptUndos t_isKept t_lanes t_sizes t_items t_moved x1) [0, 1, 2, 3, 4, 5, 6, 7, 8, 9, 10, 11, 12, 13, 14] [] [0, 1, 2, 3, 4, 5, 6, 7, 8, 9, 10, 11, 12, 13, 14] rfl rfl rfl rfl (by decide +kernel) (fun _ => rfl) rfl (by decide) (Nat.le_of_ble_eq_true rfl) dX7_talk_2 (fun r2 => [.int r2]) (fun _ => rfl) (fun r2 _ => ?_)
  refine G.if_ne 10 dX7_talk_5 (by decide) (fun h5 => ?_) (fun h5 => ?_)
  · refine G.aload_n dX7_talk_10 rfl ?_
    refine G.iload_n dX7_talk_11 rfl ?_
    refine G.callV (st := []) (w' := fun r12 => (w_X7 cI cL cC cM cS a t_now t_mores t_tape t_typed t_place t_isFault t_readLamps t_read t_undone t_undos t_aside t_bays t_bests t_kept t_keptUndos t_isKept t_lanes t_sizes t_items t_moved)) mv_X7_isUp lk_7_76 (c_X7_isUp l D ks cI cL cC cM cS a t_now t_mores t_tape t_typed t_place t_isFault t_readLamps t_read t_undone t_undos t_aside t_bays t_bests t_kept t_keptUndos t_isKept t_lanes t_sizes t_items t_moved x1) [0, 1, 2, 3, 4, 5, 6, 7, 8, 9, 10, 11, 12, 13, 14] [] [0, 1, 2, 3, 4, 5, 6, 7, 8, 9, 10, 11, 12, 13, 14] rfl rfl rfl rfl (by decide +kernel) (fun _ => rfl) rfl (by decide) (Nat.le_of_ble_eq_true rfl) dX7_talk_12 (fun r12 => [.int r12]) (fun _ => rfl) (fun r12 _ => ?_)
    refine G.if_eq 21 dX7_talk_15 (by decide) (fun h15 => ?_) (fun h15 => ?_)
    · refine G.aload_n dX7_talk_21 rfl ?_
      refine G.callV (st := []) (w' := fun r22 => (w_X7 cI cL cC cM cS a t_now t_mores t_tape t_typed t_place t_isFault t_readLamps t_read r22.1 r22.2 t_aside t_bays t_bests t_kept t_keptUndos t_isKept t_lanes t_sizes t_items t_moved)) mv_X7_notes lk_7_167 (c_X7_notes l D ks cI cL cC cM cS a t_now t_mores t_tape t_typed t_place t_isFault t_readLamps t_read t_undone t_undos t_aside t_bays t_bests t_kept t_keptUndos t_isKept t_lanes t_sizes t_items t_moved) [0, 1, 2, 3, 4, 5, 6, 7, 8, 9, 10, 11, 12, 13, 14] [] [0, 1, 2, 3, 4, 5, 6, 7, 8, 9, 10, 11, 12, 13, 14] rfl rfl rfl rfl (by decide +kernel) (fun _ => rfl) rfl (by decide) (Nat.le_of_ble_eq_true rfl) dX7_talk_22 (fun r22 => []) (fun _ => rfl) (fun r22 _ => ?_)
      refine G.aload_n dX7_talk_25 rfl ?_
      refine G.iload_n dX7_talk_26 rfl ?_
      refine G.callV (st := []) (w' := fun r27 => (w_X7 cI cL cC cM cS a r27 t_mores t_tape t_typed t_place t_isFault t_readLamps t_read r22.1 r22.2 t_aside t_bays t_bests t_kept t_keptUndos t_isKept t_lanes t_sizes t_items t_moved)) mv_X7_talks lk_7_176 (c_X7_talks l D ks cI cL cC cM cS a t_now t_mores t_tape t_typed t_place t_isFault t_readLamps t_read r22.1 r22.2 t_aside t_bays t_bests t_kept t_keptUndos t_isKept t_lanes t_sizes t_items t_moved x1) [0, 1, 2, 3, 4, 5, 6, 7, 8, 9, 10, 11, 12, 13, 14] [] [0, 1, 2, 3, 4, 5, 6, 7, 8, 9, 10, 11, 12, 13, 14] rfl rfl rfl rfl (by decide +kernel) (fun _ => rfl) rfl (by decide) (Nat.le_of_ble_eq_true rfl) dX7_talk_27 (fun r27 => []) (fun _ => rfl) (fun r27 _ => ?_)
      refine G.aload_n dX7_talk_30 rfl ?_
      refine G.iload_n dX7_talk_31 rfl ?_
      refine G.callV (st := []) (w' := fun r32 => (w_X7 cI cL cC cM cS a r27 t_mores t_tape t_typed t_place t_isFault t_readLamps t_read r22.1 r22.2 t_aside t_bays t_bests t_kept t_keptUndos t_isKept t_lanes t_sizes t_items t_moved)) mv_X7_used lk_7_63 (c_X7_used l D ks cI cL cC cM cS a r27 t_mores t_tape t_typed t_place t_isFault t_readLamps t_read r22.1 r22.2 t_aside t_bays t_bests t_kept t_keptUndos t_isKept t_lanes t_sizes t_items t_moved x1) [0, 1, 2, 3, 4, 5, 6, 7, 8, 9, 10, 11, 12, 13, 14] [] [0, 1, 2, 3, 4, 5, 6, 7, 8, 9, 10, 11, 12, 13, 14] rfl rfl rfl rfl (by decide +kernel) (fun _ => rfl) rfl (by decide) (Nat.le_of_ble_eq_true rfl) dX7_talk_32 (fun r32 => [.int r32]) (fun _ => rfl) (fun r32 _ => ?_)
      exact G.iret rfl rfl dX7_talk_35
    · refine G.bipush (-2) dX7_talk_18 (by decide) ?_
      exact G.iret rfl rfl dX7_talk_20
  · refine G.iconst (-1) dX7_talk_8 (by decide) ?_
    exact G.iret rfl rfl dX7_talk_9
set_option maxHeartbeats 4000000 in
set_option maxRecDepth 100000 in
theorem g_X7_then_c50 (l : Launch) (D : va_G) (ks : Nat × Nat) (cI cL cC cM cS : ClassId) (a : Nat → Nat) (t_tape : Nat → Int32) (t_typed t_place t_isFault : Int32) (t_readLamps t_read t_undone : Nat → Int32) (t_undos : Int32) (t_bays t_bests t_kept : Nat → Int32) (t_keptUndos t_isKept : Int32) (t_lanes t_sizes : Nat → Int32) (t_items t_moved : Nat → Int64) (t_now t_mores t_aside : Nat → Int32) (s0 : Int32) : GJ l D ks (tyz cI cL cC cM cS) RX7 cX7_then 4 ((some .int)) { frames := 7, cells := 0, slots := 0, locals := 154 } (fun r : Int32 × (Nat → Int32) × (Nat → Int32) × (Nat → Int32) => (some (.int r.1), (w_X7 cI cL cC cM cS a r.2.1 r.2.2.1 t_tape t_typed t_place t_isFault t_readLamps t_read t_undone t_undos r.2.2.2 t_bays t_bests t_kept t_keptUndos t_isKept t_lanes t_sizes t_items t_moved))) (w_X7 cI cL cC cM cS a t_now t_mores t_tape t_typed t_place t_isFault t_readLamps t_read t_undone t_undos t_aside t_bays t_bests t_kept t_keptUndos t_isKept t_lanes t_sizes t_items t_moved) 50 [some (.ref (a 0)), none, none, none] [.int s0] (f_X7_then_c50 t_now t_mores t_aside s0) := by
  unfold f_X7_then_c50
  refine G.istore_n (lv' := [some (.ref (a 0)), none, none, some (.int s0)]) dX7_then_50 (by decide) (Nat.le_of_ble_eq_true rfl) rfl rfl ?_
  refine G.aload_n dX7_then_51 rfl ?_
  refine G.callV (st := []) (w' := fun r52 => (w_X7 cI cL cC cM cS a r52 t_mores t_tape t_typed t_place t_isFault t_readLamps t_read t_undone t_undos t_aside t_bays t_bests t_kept t_keptUndos t_isKept t_lanes t_sizes t_items t_moved)) mv_X7_backs lk_7_193 (c_X7_backs l D ks cI cL cC cM cS a t_now t_mores t_tape t_typed t_place t_isFault t_readLamps t_read t_undone t_undos t_aside t_bays t_bests t_kept t_keptUndos t_isKept t_lanes t_sizes t_items t_moved) [0, 1, 2, 3, 4, 5, 6, 7, 8, 9, 10, 11, 12, 13, 14] [] [0, 1, 2, 3, 4, 5, 6, 7, 8, 9, 10, 11, 12, 13, 14] rfl rfl rfl rfl (by decide +kernel) (fun _ => rfl) rfl (by decide) (Nat.le_of_ble_eq_true rfl) dX7_then_52 (fun r52 => []) (fun _ => rfl) (fun r52 _ => ?_)
  refine G.iload_n dX7_then_55 rfl ?_
  exact G.iret rfl rfl dX7_then_56
set_option maxHeartbeats 4000000 in
set_option maxRecDepth 100000 in
theorem c_X7_then (l : Launch) (D : va_G) (ks : Nat × Nat) (cI cL cC cM cS : ClassId) (a : Nat → Nat) (t_now t_mores t_tape : Nat → Int32) (t_typed t_place t_isFault : Int32) (t_readLamps t_read t_undone : Nat → Int32) (t_undos : Int32) (t_aside t_bays t_bests t_kept : Nat → Int32) (t_keptUndos t_isKept : Int32) (t_lanes t_sizes : Nat → Int32) (t_items t_moved : Nat → Int64) (x1 : Int32) (x2 : Int32) : MT l D ks (tyz cI cL cC cM cS) yX7_then cX7_then 4 ((some .int)) { frames := 7, cells := 0, slots := 0, locals := 154 } [.ref (a 0), .int x1, .int x2] (w_X7 cI cL cC cM cS a t_now t_mores t_tape t_typed t_place t_isFault t_readLamps t_read t_undone t_undos t_aside t_bays t_bests t_kept t_keptUndos t_isKept t_lanes t_sizes t_items t_moved) (fun r : Int32 × (Nat → Int32) × (Nat → Int32) × (Nat → Int32) => (some (.int r.1), (w_X7 cI cL cC cM cS a r.2.1 r.2.2.1 t_tape t_typed t_place t_isFault t_readLamps t_read t_undone t_undos r.2.2.2 t_bays t_bests t_kept t_keptUndos t_isKept t_lanes t_sizes t_items t_moved))) (f_X7_then t_now t_mores t_aside x1 x2) := by
  refine MT.of 1 [some (.ref (a 0)), some (.int x1), some (.int x2), none] (by decide) (Nat.le_of_ble_eq_true rfl) rfl ?_
  unfold f_X7_then
  refine G.iload_n dX7_then_0 rfl ?_
  refine G.i2l dX7_then_1 ?_
  refine G.lconst 0 dX7_then_2 (by decide) ?_
  refine G.ldc2 kl_7_106 dX7_then_3 ?_
  refine G.callS (st := []) (w' := fun r6 => (w_X7 cI cL cC cM cS a t_now t_mores t_tape t_typed t_place t_isFault t_readLamps t_read t_undone t_undos t_aside t_bays t_bests t_kept t_keptUndos t_isKept t_lanes t_sizes t_items t_moved)) ms_X7_in lk_7_53 (c_X7_in l D ks cI cL cC cM cS (x1.toInt64) 0 99) [] [0, 1, 2, 3, 4, 5, 6, 7, 8, 9, 10, 11, 12, 13, 14] [0, 1, 2, 3, 4, 5, 6, 7, 8, 9, 10, 11, 12, 13, 14] rfl rfl rfl rfl (by decide +kernel) (fun _ => rfl) (by decide) (Nat.le_of_ble_eq_true rfl) dX7_then_6 (fun r6 => [.int r6]) (fun _ => rfl) (fun r6 _ => ?_)
  refine G.if_eq 22 dX7_then_9 (by decide) (fun h9 => ?_) (fun h9 => ?_)
  · refine G.iconst (-1) dX7_then_22 (by decide) ?_
    exact G.iret rfl rfl dX7_then_23
  · refine G.iload_n dX7_then_12 rfl ?_
    refine G.i2l dX7_then_13 ?_
    refine G.lconst 0 dX7_then_14 (by decide) ?_
    refine G.lconst 1 dX7_then_15 (by decide) ?_
    refine G.callS (st := []) (w' := fun r16 => (w_X7 cI cL cC cM cS a t_now t_mores t_tape t_typed t_place t_isFault t_readLamps t_read t_undone t_undos t_aside t_bays t_bests t_kept t_keptUndos t_isKept t_lanes t_sizes t_items t_moved)) ms_X7_in lk_7_53 (c_X7_in l D ks cI cL cC cM cS (x2.toInt64) 0 1) [] [0, 1, 2, 3, 4, 5, 6, 7, 8, 9, 10, 11, 12, 13, 14] [0, 1, 2, 3, 4, 5, 6, 7, 8, 9, 10, 11, 12, 13, 14] rfl rfl rfl rfl (by decide +kernel) (fun _ => rfl) (by decide) (Nat.le_of_ble_eq_true rfl) dX7_then_16 (fun r16 => [.int r16]) (fun _ => rfl) (fun r16 _ => ?_)
    refine G.if_ne 24 dX7_then_19 (by decide) (fun h19 => ?_) (fun h19 => ?_)
    · refine G.aload_n dX7_then_24 rfl ?_
      refine G.callV (st := []) (w' := fun r25 => (w_X7 cI cL cC cM cS a t_now t_mores t_tape t_typed t_place t_isFault t_readLamps t_read t_undone t_undos r25 t_bays t_bests t_kept t_keptUndos t_isKept t_lanes t_sizes t_items t_moved)) mv_X7_asides lk_7_187 (c_X7_asides l D ks cI cL cC cM cS a t_now t_mores t_tape t_typed t_place t_isFault t_readLamps t_read t_undone t_undos t_aside t_bays t_bests t_kept t_keptUndos t_isKept t_lanes t_sizes t_items t_moved) [0, 1, 2, 3, 4, 5, 6, 7, 8, 9, 10, 11, 12, 13, 14] [] [0, 1, 2, 3, 4, 5, 6, 7, 8, 9, 10, 11, 12, 13, 14] rfl rfl rfl rfl (by decide +kernel) (fun _ => rfl) rfl (by decide) (Nat.le_of_ble_eq_true rfl) dX7_then_25 (fun r25 => []) (fun _ => rfl) (fun r25 _ => ?_)
      refine G.aload_n dX7_then_28 rfl ?_
      refine G.iload_n dX7_then_29 rfl ?_
      refine G.callV (st := []) (w' := fun r30 => (w_X7 cI cL cC cM cS a r30.1 r30.2 t_tape t_typed t_place t_isFault t_readLamps t_read t_undone t_undos r25 t_bays t_bests t_kept t_keptUndos t_isKept t_lanes t_sizes t_items t_moved)) mv_X7_goesOn lk_7_190 (c_X7_goesOn l D ks cI cL cC cM cS a t_now t_mores t_tape t_typed t_place t_isFault t_readLamps t_read t_undone t_undos r25 t_bays t_bests t_kept t_keptUndos t_isKept t_lanes t_sizes t_items t_moved x1) [0, 1, 2, 3, 4, 5, 6, 7, 8, 9, 10, 11, 12, 13, 14] [] [0, 1, 2, 3, 4, 5, 6, 7, 8, 9, 10, 11, 12, 13, 14] rfl rfl rfl rfl (by decide +kernel) (fun _ => rfl) rfl (by decide) (Nat.le_of_ble_eq_true rfl) dX7_then_30 (fun r30 => []) (fun _ => rfl) (fun r30 _ => ?_)
      refine G.iload_n dX7_then_33 rfl ?_
      refine G.if_ne 44 dX7_then_34 (by decide) (fun h34 => ?_) (fun h34 => ?_)
      · refine G.aload_n dX7_then_44 rfl ?_
        refine G.get fl_7_7 0 rfl rfl dX7_then_45 ?_
        refine G.iconst 2 dX7_then_48 (by decide) ?_
        refine G.iaload 1 0 rfl rfl 2 (by decide) (by decide) dX7_then_49 ?_
        refine G.topi (fun v49 => ?_)
        refine G.mask (lv' := [some (.ref (a 0)), none, none, none]) [true, false, false, false] rfl ?_
        exact g_X7_then_c50 l D ks cI cL cC cM cS a t_tape t_typed t_place t_isFault t_readLamps t_read t_undone t_undos t_bays t_bests t_kept t_keptUndos t_isKept t_lanes t_sizes t_items t_moved r30.1 r30.2 r25 v49
      · refine G.aload_n dX7_then_37 rfl ?_
        refine G.callV (st := []) (w' := fun r38 => (w_X7 cI cL cC cM cS a r30.1 r30.2 t_tape t_typed t_place t_isFault t_readLamps t_read t_undone t_undos r25 t_bays t_bests t_kept t_keptUndos t_isKept t_lanes t_sizes t_items t_moved)) mv_X7_ups lk_7_83 (c_X7_ups l D ks cI cL cC cM cS a r30.1 r30.2 t_tape t_typed t_place t_isFault t_readLamps t_read t_undone t_undos r25 t_bays t_bests t_kept t_keptUndos t_isKept t_lanes t_sizes t_items t_moved) [0, 1, 2, 3, 4, 5, 6, 7, 8, 9, 10, 11, 12, 13, 14] [] [0, 1, 2, 3, 4, 5, 6, 7, 8, 9, 10, 11, 12, 13, 14] rfl rfl rfl rfl (by decide +kernel) (fun _ => rfl) rfl (by decide) (Nat.le_of_ble_eq_true rfl) dX7_then_38 (fun r38 => [.int r38]) (fun _ => rfl) (fun r38 _ => ?_)
        refine G.goto 50 dX7_then_41 (by decide) ?_
        refine G.mask (lv' := [some (.ref (a 0)), none, none, none]) [true, false, false, false] rfl ?_
        exact g_X7_then_c50 l D ks cI cL cC cM cS a t_tape t_typed t_place t_isFault t_readLamps t_read t_undone t_undos t_bays t_bests t_kept t_keptUndos t_isKept t_lanes t_sizes t_items t_moved r30.1 r30.2 r25 r38
    · refine G.iconst (-1) dX7_then_22 (by decide) ?_
      exact G.iret rfl rfl dX7_then_23
set_option maxHeartbeats 4000000 in
set_option maxRecDepth 100000 in
theorem c_X7_type (l : Launch) (D : va_G) (ks : Nat × Nat) (cI cL cC cM cS : ClassId) (a : Nat → Nat) (t_now t_mores t_tape : Nat → Int32) (t_typed t_place t_isFault : Int32) (t_readLamps t_read t_undone : Nat → Int32) (t_undos : Int32) (t_aside t_bays t_bests t_kept : Nat → Int32) (t_keptUndos t_isKept : Int32) (t_lanes t_sizes : Nat → Int32) (t_items t_moved : Nat → Int64) (x1 : Int32) : MT l D ks (tyz cI cL cC cM cS) yX7_type cX7_type 2 ((some .int)) { frames := 1, cells := 0, slots := 0, locals := 25 } [.ref (a 0), .int x1] (w_X7 cI cL cC cM cS a t_now t_mores t_tape t_typed t_place t_isFault t_readLamps t_read t_undone t_undos t_aside t_bays t_bests t_kept t_keptUndos t_isKept t_lanes t_sizes t_items t_moved) (fun r : Int32 × (Nat → Int32) × Int32 => (some (.int r.1), (w_X7 cI cL cC cM cS a t_now t_mores r.2.1 r.2.2 t_place t_isFault t_readLamps t_read t_undone t_undos t_aside t_bays t_bests t_kept t_keptUndos t_isKept t_lanes t_sizes t_items t_moved))) (f_X7_type t_tape t_typed x1) := by
  refine MT.of 0 [some (.ref (a 0)), some (.int x1)] (by decide) (Nat.le_of_ble_eq_true rfl) rfl ?_
  unfold f_X7_type
  refine G.iload_n dX7_type_0 rfl ?_
  refine G.i2l dX7_type_1 ?_
  refine G.ldc2 kl_7_131 dX7_type_2 ?_
  refine G.ldc2 kl_7_133 dX7_type_5 ?_
  refine G.callS (st := []) (w' := fun r8 => (w_X7 cI cL cC cM cS a t_now t_mores t_tape t_typed t_place t_isFault t_readLamps t_read t_undone t_undos t_aside t_bays t_bests t_kept t_keptUndos t_isKept t_lanes t_sizes t_items t_moved)) ms_X7_in lk_7_53 (c_X7_in l D ks cI cL cC cM cS (x1.toInt64) 32 126) [] [0, 1, 2, 3, 4, 5, 6, 7, 8, 9, 10, 11, 12, 13, 14] [0, 1, 2, 3, 4, 5, 6, 7, 8, 9, 10, 11, 12, 13, 14] rfl rfl rfl rfl (by decide +kernel) (fun _ => rfl) (by decide) (Nat.le_of_ble_eq_true rfl) dX7_type_8 (fun r8 => [.int r8]) (fun _ => rfl) (fun r8 _ => ?_)
  refine G.if_ne 16 dX7_type_11 (by decide) (fun h11 => ?_) (fun h11 => ?_)
  · refine G.aload_n dX7_type_16 rfl ?_
    refine G.get fl_7_135 0 rfl rfl dX7_type_17 ?_
    refine G.bipush 80 dX7_type_20 (by decide) ?_
    refine G.icmp_ne 28 dX7_type_22 (by decide) (fun h22 => ?_) (fun h22 => ?_)
    · refine G.aload_n dX7_type_28 rfl ?_
      refine G.get fl_7_16 0 rfl rfl dX7_type_29 ?_
      refine G.aload_n dX7_type_32 rfl ?_
      refine G.get fl_7_135 0 rfl rfl dX7_type_33 ?_
      refine G.iload_n dX7_type_36 rfl ?_
      refine G.chk (fun h37 => ?_)
      refine G.iastore (w' := (w_X7 cI cL cC cM cS a t_now t_mores (upd t_tape t_typed.toNatClampNeg x1) t_typed t_place t_isFault t_readLamps t_read t_undone t_undos t_aside t_bays t_bests t_kept t_keptUndos t_isKept t_lanes t_sizes t_items t_moved)) 3 0 rfl rfl t_typed.toNatClampNeg rfl h37 rfl dX7_type_37 ?_
      refine G.aload_n dX7_type_38 rfl ?_
      refine G.dup dX7_type_39 rfl ?_
      refine G.get fl_7_135 0 rfl rfl dX7_type_40 ?_
      refine G.iconst 1 dX7_type_43 (by decide) ?_
      refine G.iadd dX7_type_44 ?_
      refine G.put (w' := (w_X7 cI cL cC cM cS a t_now t_mores (upd t_tape t_typed.toNatClampNeg x1) (t_typed + 1) t_place t_isFault t_readLamps t_read t_undone t_undos t_aside t_bays t_bests t_kept t_keptUndos t_isKept t_lanes t_sizes t_items t_moved)) fp_7_135 0 rfl (Nat.le_of_ble_eq_true rfl) rfl rfl rfl dX7_type_45 ?_
      refine G.aload_n dX7_type_48 rfl ?_
      refine G.get fl_7_135 0 rfl rfl dX7_type_49 ?_
      exact G.iret rfl rfl dX7_type_52
    · refine G.bipush (-3) dX7_type_25 (by decide) ?_
      exact G.iret rfl rfl dX7_type_27
  · refine G.iconst (-1) dX7_type_14 (by decide) ?_
    exact G.iret rfl rfl dX7_type_15
set_option maxHeartbeats 4000000 in
set_option maxRecDepth 100000 in
theorem g_X7_undo_c59 (l : Launch) (D : va_G) (ks : Nat × Nat) (cI cL cC cM cS : ClassId) (a : Nat → Nat) (t_mores t_tape : Nat → Int32) (t_typed t_place t_isFault : Int32) (t_readLamps t_read t_aside t_bays t_bests t_kept : Nat → Int32) (t_keptUndos t_isKept : Int32) (t_lanes t_sizes : Nat → Int32) (t_items t_moved : Nat → Int64) : ∀ (n : Nat), ∀ (t_now t_undone : Nat → Int32) (t_undos : Int32) (x1 : Int32) (x2 : Int32), GJ l D ks (tyz cI cL cC cM cS) RX7 cX7_undo 3 ((some .int)) { frames := 0, cells := 0, slots := 0, locals := 0 } (fun r : Int32 × (Nat → Int32) × Int32 => (some (.int r.1), (w_X7 cI cL cC cM cS a r.2.1 t_mores t_tape t_typed t_place t_isFault t_readLamps t_read t_undone r.2.2 t_aside t_bays t_bests t_kept t_keptUndos t_isKept t_lanes t_sizes t_items t_moved))) (w_X7 cI cL cC cM cS a t_now t_mores t_tape t_typed t_place t_isFault t_readLamps t_read t_undone t_undos t_aside t_bays t_bests t_kept t_keptUndos t_isKept t_lanes t_sizes t_items t_moved) 59 [some (.ref (a 0)), some (.int x1), some (.int x2)] [] (f_X7_undo_c59 n t_now t_undone t_undos x1 x2) := by
  intro n
  induction n with
  | zero =>
    intro t_now t_undone t_undos x1 x2
    exact G.no
  | succ n ih =>
    intro t_now t_undone t_undos x1 x2
    rw [f_X7_undo_c59]
    refine G.iload_n dX7_undo_59 rfl ?_
    refine G.bipush 6 dX7_undo_60 (by decide) ?_
    refine G.icmp_ge 116 dX7_undo_62 (by decide) (fun h62 => ?_) (fun h62 => ?_)
    · refine G.aload_n dX7_undo_116 rfl ?_
      refine G.get fl_7_100 0 rfl rfl dX7_undo_117 ?_
      exact G.iret rfl rfl dX7_undo_120
    · refine G.aload_n dX7_undo_65 rfl ?_
      refine G.get fl_7_7 0 rfl rfl dX7_undo_66 ?_
      refine G.iconst 4 dX7_undo_69 (by decide) ?_
      refine G.iconst 4 dX7_undo_70 (by decide) ?_
      refine G.iload_n dX7_undo_71 rfl ?_
      refine G.imul dX7_undo_72 ?_
      refine G.iadd dX7_undo_73 ?_
      refine G.iconst 1 dX7_undo_74 (by decide) ?_
      refine G.iadd dX7_undo_75 ?_
      refine G.aload_n dX7_undo_76 rfl ?_
      refine G.get fl_7_25 0 rfl rfl dX7_undo_77 ?_
      refine G.iload_n dX7_undo_80 rfl ?_
      refine G.iconst 3 dX7_undo_81 (by decide) ?_
      refine G.iadd dX7_undo_82 ?_
      refine G.iload_n dX7_undo_83 rfl ?_
      refine G.iadd dX7_undo_84 ?_
      refine G.chk (fun h85 => ?_)
      refine G.iaload 6 0 rfl rfl (((x1 + 3) + x2).toNatClampNeg) rfl h85 dX7_undo_85 ?_
      refine G.topi (fun v85 => ?_)
      refine G.chk (fun h86 => ?_)
      refine G.iastore (w' := (w_X7 cI cL cC cM cS a (upd t_now (((4 + (4 * x2)) + 1).toNatClampNeg) v85) t_mores t_tape t_typed t_place t_isFault t_readLamps t_read t_undone t_undos t_aside t_bays t_bests t_kept t_keptUndos t_isKept t_lanes t_sizes t_items t_moved)) 1 0 rfl rfl (((4 + (4 * x2)) + 1).toNatClampNeg) rfl h86 rfl dX7_undo_86 ?_
      refine G.aload_n dX7_undo_87 rfl ?_
      refine G.get fl_7_7 0 rfl rfl dX7_undo_88 ?_
      refine G.iconst 4 dX7_undo_91 (by decide) ?_
      refine G.iconst 4 dX7_undo_92 (by decide) ?_
      refine G.iload_n dX7_undo_93 rfl ?_
      refine G.imul dX7_undo_94 ?_
      refine G.iadd dX7_undo_95 ?_
      refine G.iconst 2 dX7_undo_96 (by decide) ?_
      refine G.iadd dX7_undo_97 ?_
      refine G.aload_n dX7_undo_98 rfl ?_
      refine G.get fl_7_25 0 rfl rfl dX7_undo_99 ?_
      refine G.iload_n dX7_undo_102 rfl ?_
      refine G.bipush 9 dX7_undo_103 (by decide) ?_
      refine G.iadd dX7_undo_105 ?_
      refine G.iload_n dX7_undo_106 rfl ?_
      refine G.iadd dX7_undo_107 ?_
      refine G.chk (fun h108 => ?_)
      refine G.iaload 6 0 rfl rfl (((x1 + 9) + x2).toNatClampNeg) rfl h108 dX7_undo_108 ?_
      refine G.topi (fun v108 => ?_)
      refine G.chk (fun h109 => ?_)
      refine G.iastore (w' := (w_X7 cI cL cC cM cS a (upd (upd t_now (((4 + (4 * x2)) + 1).toNatClampNeg) v85) (((4 + (4 * x2)) + 2).toNatClampNeg) v108) t_mores t_tape t_typed t_place t_isFault t_readLamps t_read t_undone t_undos t_aside t_bays t_bests t_kept t_keptUndos t_isKept t_lanes t_sizes t_items t_moved)) 1 0 rfl rfl (((4 + (4 * x2)) + 2).toNatClampNeg) rfl h109 rfl dX7_undo_109 ?_
      refine G.iinc 1 (lv' := [some (.ref (a 0)), some (.int x1), some (.int (x2 + 1))]) dX7_undo_110 rfl (by decide) (by decide) (Nat.le_of_ble_eq_true rfl) rfl rfl ?_
      refine G.goto 59 dX7_undo_113 (by decide) ?_
      exact ih (upd (upd t_now (((4 + (4 * x2)) + 1).toNatClampNeg) v85) (((4 + (4 * x2)) + 2).toNatClampNeg) v108) t_undone t_undos x1 (x2 + 1)
set_option maxHeartbeats 4000000 in
set_option maxRecDepth 100000 in
theorem g_X7_undo_c30 (l : Launch) (D : va_G) (ks : Nat × Nat) (cI cL cC cM cS : ClassId) (a : Nat → Nat) (t_mores t_tape : Nat → Int32) (t_typed t_place t_isFault : Int32) (t_readLamps t_read t_aside t_bays t_bests t_kept : Nat → Int32) (t_keptUndos t_isKept : Int32) (t_lanes t_sizes : Nat → Int32) (t_items t_moved : Nat → Int64) : ∀ (n : Nat), ∀ (t_now t_undone : Nat → Int32) (t_undos : Int32) (x1 : Int32) (x2 : Int32), GJ l D ks (tyz cI cL cC cM cS) RX7 cX7_undo 3 ((some .int)) { frames := 0, cells := 0, slots := 0, locals := 0 } (fun r : Int32 × (Nat → Int32) × Int32 => (some (.int r.1), (w_X7 cI cL cC cM cS a r.2.1 t_mores t_tape t_typed t_place t_isFault t_readLamps t_read t_undone r.2.2 t_aside t_bays t_bests t_kept t_keptUndos t_isKept t_lanes t_sizes t_items t_moved))) (w_X7 cI cL cC cM cS a t_now t_mores t_tape t_typed t_place t_isFault t_readLamps t_read t_undone t_undos t_aside t_bays t_bests t_kept t_keptUndos t_isKept t_lanes t_sizes t_items t_moved) 30 [some (.ref (a 0)), some (.int x1), some (.int x2)] [] (f_X7_undo_c30 n t_now t_undone t_undos x1 x2) := by
  intro n
  induction n with
  | zero =>
    intro t_now t_undone t_undos x1 x2
    exact G.no
  | succ n ih =>
    intro t_now t_undone t_undos x1 x2
    rw [f_X7_undo_c30]
    refine G.iload_n dX7_undo_30 rfl ?_
    refine G.iconst 3 dX7_undo_31 (by decide) ?_
    refine G.icmp_ge 57 dX7_undo_32 (by decide) (fun h32 => ?_) (fun h32 => ?_)
    · refine G.iconst 0 dX7_undo_57 (by decide) ?_
      refine G.istore_n (lv' := [some (.ref (a 0)), some (.int x1), some (.int 0)]) dX7_undo_58 (by decide) (Nat.le_of_ble_eq_true rfl) rfl rfl ?_
      exact g_X7_undo_c59 l D ks cI cL cC cM cS a t_mores t_tape t_typed t_place t_isFault t_readLamps t_read t_aside t_bays t_bests t_kept t_keptUndos t_isKept t_lanes t_sizes t_items t_moved fu t_now t_undone t_undos x1 0
    · refine G.aload_n dX7_undo_35 rfl ?_
      refine G.get fl_7_7 0 rfl rfl dX7_undo_36 ?_
      refine G.iconst 1 dX7_undo_39 (by decide) ?_
      refine G.iload_n dX7_undo_40 rfl ?_
      refine G.iadd dX7_undo_41 ?_
      refine G.aload_n dX7_undo_42 rfl ?_
      refine G.get fl_7_25 0 rfl rfl dX7_undo_43 ?_
      refine G.iload_n dX7_undo_46 rfl ?_
      refine G.iload_n dX7_undo_47 rfl ?_
      refine G.iadd dX7_undo_48 ?_
      refine G.chk (fun h49 => ?_)
      refine G.iaload 6 0 rfl rfl ((x1 + x2).toNatClampNeg) rfl h49 dX7_undo_49 ?_
      refine G.topi (fun v49 => ?_)
      refine G.chk (fun h50 => ?_)
      refine G.iastore (w' := (w_X7 cI cL cC cM cS a (upd t_now ((1 + x2).toNatClampNeg) v49) t_mores t_tape t_typed t_place t_isFault t_readLamps t_read t_undone t_undos t_aside t_bays t_bests t_kept t_keptUndos t_isKept t_lanes t_sizes t_items t_moved)) 1 0 rfl rfl ((1 + x2).toNatClampNeg) rfl h50 rfl dX7_undo_50 ?_
      refine G.iinc 1 (lv' := [some (.ref (a 0)), some (.int x1), some (.int (x2 + 1))]) dX7_undo_51 rfl (by decide) (by decide) (Nat.le_of_ble_eq_true rfl) rfl rfl ?_
      refine G.goto 30 dX7_undo_54 (by decide) ?_
      exact ih (upd t_now ((1 + x2).toNatClampNeg) v49) t_undone t_undos x1 (x2 + 1)
set_option maxHeartbeats 4000000 in
set_option maxRecDepth 100000 in
theorem c_X7_undo (l : Launch) (D : va_G) (ks : Nat × Nat) (cI cL cC cM cS : ClassId) (a : Nat → Nat) (t_now t_mores t_tape : Nat → Int32) (t_typed t_place t_isFault : Int32) (t_readLamps t_read t_undone : Nat → Int32) (t_undos : Int32) (t_aside t_bays t_bests t_kept : Nat → Int32) (t_keptUndos t_isKept : Int32) (t_lanes t_sizes : Nat → Int32) (t_items t_moved : Nat → Int64) : MT l D ks (tyz cI cL cC cM cS) yX7_undo cX7_undo 3 ((some .int)) { frames := 0, cells := 0, slots := 0, locals := 0 } [.ref (a 0)] (w_X7 cI cL cC cM cS a t_now t_mores t_tape t_typed t_place t_isFault t_readLamps t_read t_undone t_undos t_aside t_bays t_bests t_kept t_keptUndos t_isKept t_lanes t_sizes t_items t_moved) (fun r : Int32 × (Nat → Int32) × Int32 => (some (.int r.1), (w_X7 cI cL cC cM cS a r.2.1 t_mores t_tape t_typed t_place t_isFault t_readLamps t_read t_undone r.2.2 t_aside t_bays t_bests t_kept t_keptUndos t_isKept t_lanes t_sizes t_items t_moved))) (f_X7_undo t_now t_undone t_undos) := by
  refine MT.of 2 [some (.ref (a 0)), none, none] (by decide) (Nat.le_of_ble_eq_true rfl) rfl ?_
  unfold f_X7_undo
  refine G.aload_n dX7_undo_0 rfl ?_
  refine G.get fl_7_100 0 rfl rfl dX7_undo_1 ?_
  refine G.if_ne 10 dX7_undo_4 (by decide) (fun h4 => ?_) (fun h4 => ?_)
  · refine G.aload_n dX7_undo_10 rfl ?_
    refine G.dup dX7_undo_11 rfl ?_
    refine G.get fl_7_100 0 rfl rfl dX7_undo_12 ?_
    refine G.iconst 1 dX7_undo_15 (by decide) ?_
    refine G.isub dX7_undo_16 ?_
    refine G.put (w' := (w_X7 cI cL cC cM cS a t_now t_mores t_tape t_typed t_place t_isFault t_readLamps t_read t_undone (t_undos - 1) t_aside t_bays t_bests t_kept t_keptUndos t_isKept t_lanes t_sizes t_items t_moved)) fp_7_100 0 rfl (Nat.le_of_ble_eq_true rfl) rfl rfl rfl dX7_undo_17 ?_
    refine G.bipush 15 dX7_undo_20 (by decide) ?_
    refine G.aload_n dX7_undo_22 rfl ?_
    refine G.get fl_7_100 0 rfl rfl dX7_undo_23 ?_
    refine G.imul dX7_undo_26 ?_
    refine G.istore_n (lv' := [some (.ref (a 0)), some (.int (15 * (t_undos - 1))), none]) dX7_undo_27 (by decide) (Nat.le_of_ble_eq_true rfl) rfl rfl ?_
    refine G.iconst 0 dX7_undo_28 (by decide) ?_
    refine G.istore_n (lv' := [some (.ref (a 0)), some (.int (15 * (t_undos - 1))), some (.int 0)]) dX7_undo_29 (by decide) (Nat.le_of_ble_eq_true rfl) rfl rfl ?_
    exact g_X7_undo_c30 l D ks cI cL cC cM cS a t_mores t_tape t_typed t_place t_isFault t_readLamps t_read t_aside t_bays t_bests t_kept t_keptUndos t_isKept t_lanes t_sizes t_items t_moved fu t_now t_undone (t_undos - 1) (15 * (t_undos - 1)) 0
  · refine G.bipush (-4) dX7_undo_7 (by decide) ?_
    exact G.iret rfl rfl dX7_undo_9
