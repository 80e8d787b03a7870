/-! the parts of the class: the contracts -/
set_option maxHeartbeats 4000000 in
set_option maxRecDepth 100000 in
theorem c_X0_answer (l : Launch) (D : va_G) (ks : Nat × Nat) (cI cL cC cM cS : ClassId) (a : Nat → Nat) (t_bay t_best : Nat → Int32) (t_worth t_free t_count : Int32) (x1 : Int32) : MT l D ks (tyz cI cL cC cM cS) yX0_answer cX0_answer 2 ((some .int)) { frames := 0, cells := 0, slots := 0, locals := 0 } [.ref (a 0), .int x1] (w_X0 cI cL cC cM cS a t_bay t_best t_worth t_free t_count) (fun r : Int32 => (some (.int r), (w_X0 cI cL cC cM cS a t_bay t_best t_worth t_free t_count))) (f_X0_answer t_best t_worth t_count x1) := by
  refine MT.of 0 [some (.ref (a 0)), some (.int x1)] (by decide) (Nat.le_of_ble_eq_true rfl) rfl ?_
  unfold f_X0_answer
  refine G.iload_n dX0_answer_0 rfl ?_
  refine G.if_ge 9 dX0_answer_1 (by decide) (fun h1 => ?_) (fun h1 => ?_)
  · refine G.iload_n dX0_answer_9 rfl ?_
    refine G.aload_n dX0_answer_10 rfl ?_
    refine G.get fl_0_18 0 rfl rfl dX0_answer_11 ?_
    refine G.icmp_ge 26 dX0_answer_14 (by decide) (fun h14 => ?_) (fun h14 => ?_)
    · refine G.bipush (-4) dX0_answer_26 (by decide) ?_
      exact G.iret rfl rfl dX0_answer_28
    · refine G.aload_n dX0_answer_17 rfl ?_
      refine G.get fl_0_15 0 rfl rfl dX0_answer_18 ?_
      refine G.iload_n dX0_answer_21 rfl ?_
      refine G.chk (fun h22 => ?_)
      refine G.iaload 2 0 rfl rfl x1.toNatClampNeg rfl h22 dX0_answer_22 ?_
      refine G.topi (fun v22 => ?_)
      refine G.goto 28 dX0_answer_23 (by decide) ?_
      exact G.iret rfl rfl dX0_answer_28
  · refine G.aload_n dX0_answer_4 rfl ?_
    refine G.get fl_0_37 0 rfl rfl dX0_answer_5 ?_
    exact G.iret rfl rfl dX0_answer_8
set_option maxHeartbeats 4000000 in
set_option maxRecDepth 100000 in
theorem g_X0_freeFrom_c0 (l : Launch) (D : va_G) (ks : Nat × Nat) (cI cL cC cM cS : ClassId) (a : Nat → Nat) (t_bay t_best : Nat → Int32) (t_worth t_count : Int32) : ∀ (n : Nat), ∀ (t_free : Int32) (x1 : Int32), GJ l D ks (tyz cI cL cC cM cS) RX0 cX0_freeFrom 2 ((some .int)) { frames := 0, cells := 0, slots := 0, locals := 0 } (fun r : Int32 => (some (.int r), (w_X0 cI cL cC cM cS a t_bay t_best t_worth t_free t_count))) (w_X0 cI cL cC cM cS a t_bay t_best t_worth t_free t_count) 0 [some (.ref (a 0)), some (.int x1)] [] (f_X0_freeFrom_c0 n t_free x1) := by
  intro n
  induction n with
  | zero =>
    intro t_free x1
    exact G.no
  | succ n ih =>
    intro t_free x1
    rw [f_X0_freeFrom_c0]
    refine G.iload_n dX0_freeFrom_0 rfl ?_
    refine G.bipush 6 dX0_freeFrom_1 (by decide) ?_
    refine G.icmp_ge 23 dX0_freeFrom_3 (by decide) (fun h3 => ?_) (fun h3 => ?_)
    · refine G.iload_n dX0_freeFrom_23 rfl ?_
      exact G.iret rfl rfl dX0_freeFrom_24
    · refine G.aload_n dX0_freeFrom_6 rfl ?_
      refine G.get fl_0_22 0 rfl rfl dX0_freeFrom_7 ?_
      refine G.iload_n dX0_freeFrom_10 rfl ?_
      refine G.ishr dX0_freeFrom_11 ?_
      refine G.iconst 1 dX0_freeFrom_12 (by decide) ?_
      refine G.iand dX0_freeFrom_13 ?_
      refine G.if_ne 23 dX0_freeFrom_14 (by decide) (fun h14 => ?_) (fun h14 => ?_)
      · refine G.iload_n dX0_freeFrom_23 rfl ?_
        exact G.iret rfl rfl dX0_freeFrom_24
      · refine G.iinc 1 (lv' := [some (.ref (a 0)), some (.int (x1 + 1))]) dX0_freeFrom_17 rfl (by decide) (by decide) (Nat.le_of_ble_eq_true rfl) rfl rfl ?_
        refine G.goto 0 dX0_freeFrom_20 (by decide) ?_
        exact ih t_free (x1 + 1)
set_option maxHeartbeats 4000000 in
set_option maxRecDepth 100000 in
theorem c_X0_freeFrom (l : Launch) (D : va_G) (ks : Nat × Nat) (cI cL cC cM cS : ClassId) (a : Nat → Nat) (t_bay t_best : Nat → Int32) (t_worth t_free t_count : Int32) (x1 : Int32) : MT l D ks (tyz cI cL cC cM cS) yX0_freeFrom cX0_freeFrom 2 ((some .int)) { frames := 0, cells := 0, slots := 0, locals := 0 } [.ref (a 0), .int x1] (w_X0 cI cL cC cM cS a t_bay t_best t_worth t_free t_count) (fun r : Int32 => (some (.int r), (w_X0 cI cL cC cM cS a t_bay t_best t_worth t_free t_count))) (f_X0_freeFrom t_free x1) := by
  refine MT.of 0 [some (.ref (a 0)), some (.int x1)] (by decide) (Nat.le_of_ble_eq_true rfl) rfl ?_
  unfold f_X0_freeFrom
  exact g_X0_freeFrom_c0 l D ks cI cL cC cM cS a t_bay t_best t_worth t_count fu t_free x1
set_option maxHeartbeats 4000000 in
set_option maxRecDepth 100000 in
theorem c_X0_give (l : Launch) (D : va_G) (ks : Nat × Nat) (cI cL cC cM cS : ClassId) (a : Nat → Nat) (t_bay t_best : Nat → Int32) (t_worth t_free t_count : Int32) (x1 : Int32) (x2 : Int32) : MT l D ks (tyz cI cL cC cM cS) yX0_give cX0_give 3 none { frames := 0, cells := 0, slots := 0, locals := 0 } [.ref (a 0), .int x1, .int x2] (w_X0 cI cL cC cM cS a t_bay t_best t_worth t_free t_count) (fun r : (Nat → Int32) × Int32 => (none, (w_X0 cI cL cC cM cS a r.1 t_best t_worth r.2 t_count))) (f_X0_give t_bay t_free x1 x2) := by
  refine MT.of 0 [some (.ref (a 0)), some (.int x1), some (.int x2)] (by decide) (Nat.le_of_ble_eq_true rfl) rfl ?_
  unfold f_X0_give
  refine G.aload_n dX0_give_0 rfl ?_
  refine G.get fl_0_9 0 rfl rfl dX0_give_1 ?_
  refine G.iload_n dX0_give_4 rfl ?_
  refine G.iload_n dX0_give_5 rfl ?_
  refine G.chk (fun h6 => ?_)
  refine G.iastore (w' := (w_X0 cI cL cC cM cS a (upd t_bay x1.toNatClampNeg x2) t_best t_worth t_free t_count)) 1 0 rfl rfl x1.toNatClampNeg rfl h6 rfl dX0_give_6 ?_
  refine G.aload_n dX0_give_7 rfl ?_
  refine G.dup dX0_give_8 rfl ?_
  refine G.get fl_0_22 0 rfl rfl dX0_give_9 ?_
  refine G.iconst 1 dX0_give_12 (by decide) ?_
  refine G.iload_n dX0_give_13 rfl ?_
  refine G.ishl dX0_give_14 ?_
  refine G.iconst (-1) dX0_give_15 (by decide) ?_
  refine G.ixor dX0_give_16 ?_
  refine G.iand dX0_give_17 ?_
  refine G.put (w' := (w_X0 cI cL cC cM cS a (upd t_bay x1.toNatClampNeg x2) t_best t_worth (t_free &&& ((1 <<< (x2 &&& 31)) ^^^ (-1))) t_count)) fp_0_22 0 rfl (Nat.le_of_ble_eq_true rfl) rfl rfl rfl dX0_give_18 ?_
  exact G.vret rfl rfl dX0_give_21
set_option maxHeartbeats 4000000 in
set_option maxRecDepth 100000 in
theorem g_X0_fillFrom_c28 (l : Launch) (D : va_G) (ks : Nat × Nat) (cI cL cC cM cS : ClassId) (a : Nat → Nat) (t_best : Nat → Int32) (t_worth : Int32) (k2 : (Nat → Int32) → Int32 → Int32 → Int32 → (Option ((Nat → Int32) × Int32))) (hk2 : ∀ (t_bay : Nat → Int32) (t_free t_count : Int32) (x2 : Int32), GJ l D ks (tyz cI cL cC cM cS) RX0 cX0_fillFrom 4 none { frames := 1, cells := 0, slots := 0, locals := 22 } (fun r : (Nat → Int32) × Int32 => (none, (w_X0 cI cL cC cM cS a r.1 t_best t_worth r.2 t_count))) (w_X0 cI cL cC cM cS a t_bay t_best t_worth t_free t_count) 2 [some (.ref (a 0)), none, some (.int x2), none] [] (k2 t_bay t_free t_count x2)) (t_bay : Nat → Int32) (t_free t_count : Int32) (x2 : Int32) : GJ l D ks (tyz cI cL cC cM cS) RX0 cX0_fillFrom 4 none { frames := 1, cells := 0, slots := 0, locals := 22 } (fun r : (Nat → Int32) × Int32 => (none, (w_X0 cI cL cC cM cS a r.1 t_best t_worth r.2 t_count))) (w_X0 cI cL cC cM cS a t_bay t_best t_worth t_free t_count) 28 [some (.ref (a 0)), none, some (.int x2), none] [] (f_X0_fillFrom_c28 k2 t_bay t_free t_count x2) := by
  unfold f_X0_fillFrom_c28
  refine G.iinc 1 (lv' := [some (.ref (a 0)), none, some (.int (x2 + 1)), none]) dX0_fillFrom_28 rfl (by decide) (by decide) (Nat.le_of_ble_eq_true rfl) rfl rfl ?_
  refine G.goto 2 dX0_fillFrom_31 (by decide) ?_
  exact hk2 t_bay t_free t_count (x2 + 1)
set_option maxHeartbeats 4000000 in
set_option maxRecDepth 100000 in
theorem g_X0_fillFrom_c2 (l : Launch) (D : va_G) (ks : Nat × Nat) (cI cL cC cM cS : ClassId) (a : Nat → Nat) (t_best : Nat → Int32) (t_worth : Int32) : ∀ (n : Nat), ∀ (t_bay : Nat → Int32) (t_free t_count : Int32) (x2 : Int32), GJ l D ks (tyz cI cL cC cM cS) RX0 cX0_fillFrom 4 none { frames := 1, cells := 0, slots := 0, locals := 22 } (fun r : (Nat → Int32) × Int32 => (none, (w_X0 cI cL cC cM cS a r.1 t_best t_worth r.2 t_count))) (w_X0 cI cL cC cM cS a t_bay t_best t_worth t_free t_count) 2 [some (.ref (a 0)), none, some (.int x2), none] [] (f_X0_fillFrom_c2 n t_bay t_free t_count x2) := by
  intro n
  induction n with
  | zero =>
    intro t_bay t_free t_count x2
    exact G.no
  | succ n ih =>
    intro t_bay t_free t_count x2
    rw [f_X0_fillFrom_c2]
    refine G.iload_n dX0_fillFrom_2 rfl ?_
    refine G.aload_n dX0_fillFrom_3 rfl ?_
    refine G.get fl_0_18 0 rfl rfl dX0_fillFrom_4 ?_
    refine G.icmp_ge 34 dX0_fillFrom_7 (by decide) (fun h7 => ?_) (fun h7 => ?_)
    · exact G.vret rfl rfl dX0_fillFrom_34
    · refine G.aload_n dX0_fillFrom_10 rfl ?_
      refine G.iconst 0 dX0_fillFrom_11 (by decide) ?_
      refine G.callV (st := []) (w' := fun r12 => (w_X0 cI cL cC cM cS a t_bay t_best t_worth t_free t_count)) mv_X0_freeFrom lk_0_29 (c_X0_freeFrom l D ks cI cL cC cM cS a t_bay t_best t_worth t_free t_count 0) [0, 1, 2] [] [0, 1, 2] rfl rfl rfl rfl (by decide +kernel) (fun _ => rfl) rfl (by decide) (Nat.le_of_ble_eq_true rfl) dX0_fillFrom_12 (fun r12 => [.int r12]) (fun _ => rfl) (fun r12 _ => ?_)
      refine G.istore_n (lv' := [some (.ref (a 0)), none, some (.int x2), some (.int r12)]) dX0_fillFrom_15 (by decide) (Nat.le_of_ble_eq_true rfl) rfl rfl ?_
      refine G.iload_n dX0_fillFrom_16 rfl ?_
      refine G.bipush 6 dX0_fillFrom_17 (by decide) ?_
      refine G.icmp_ge 28 dX0_fillFrom_19 (by decide) (fun h19 => ?_) (fun h19 => ?_)
      · refine G.mask (lv' := [some (.ref (a 0)), none, some (.int x2), none]) [true, false, true, false] rfl ?_
        exact g_X0_fillFrom_c28 l D ks cI cL cC cM cS a t_best t_worth (f_X0_fillFrom_c2 n) ih t_bay t_free t_count x2
      · refine G.aload_n dX0_fillFrom_22 rfl ?_
        refine G.iload_n dX0_fillFrom_23 rfl ?_
        refine G.iload_n dX0_fillFrom_24 rfl ?_
        refine G.callV (st := []) (w' := fun r25 => (w_X0 cI cL cC cM cS a r25.1 t_best t_worth r25.2 t_count)) mv_X0_give lk_0_33 (c_X0_give l D ks cI cL cC cM cS a t_bay t_best t_worth t_free t_count x2 r12) [0, 1, 2] [] [0, 1, 2] rfl rfl rfl rfl (by decide +kernel) (fun _ => rfl) rfl (by decide) (Nat.le_of_ble_eq_true rfl) dX0_fillFrom_25 (fun r25 => []) (fun _ => rfl) (fun r25 _ => ?_)
        refine G.mask (lv' := [some (.ref (a 0)), none, some (.int x2), none]) [true, false, true, false] rfl ?_
        exact g_X0_fillFrom_c28 l D ks cI cL cC cM cS a t_best t_worth (f_X0_fillFrom_c2 n) ih r25.1 r25.2 t_count x2
set_option maxHeartbeats 4000000 in
set_option maxRecDepth 100000 in
theorem c_X0_fillFrom (l : Launch) (D : va_G) (ks : Nat × Nat) (cI cL cC cM cS : ClassId) (a : Nat → Nat) (t_bay t_best : Nat → Int32) (t_worth t_free t_count : Int32) (x1 : Int32) : MT l D ks (tyz cI cL cC cM cS) yX0_fillFrom cX0_fillFrom 4 none { frames := 1, cells := 0, slots := 0, locals := 22 } [.ref (a 0), .int x1] (w_X0 cI cL cC cM cS a t_bay t_best t_worth t_free t_count) (fun r : (Nat → Int32) × Int32 => (none, (w_X0 cI cL cC cM cS a r.1 t_best t_worth r.2 t_count))) (f_X0_fillFrom t_bay t_free t_count x1) := by
  refine MT.of 2 [some (.ref (a 0)), some (.int x1), none, none] (by decide) (Nat.le_of_ble_eq_true rfl) rfl ?_
  unfold f_X0_fillFrom
  refine G.iload_n dX0_fillFrom_0 rfl ?_
  refine G.istore_n (lv' := [some (.ref (a 0)), some (.int x1), some (.int x1), none]) dX0_fillFrom_1 (by decide) (Nat.le_of_ble_eq_true rfl) rfl rfl ?_
  refine G.mask (lv' := [some (.ref (a 0)), none, some (.int x1), none]) [true, false, true, false] rfl ?_
  exact g_X0_fillFrom_c2 l D ks cI cL cC cM cS a t_best t_worth fu t_bay t_free t_count x1
set_option maxHeartbeats 4000000 in
set_option maxRecDepth 100000 in
theorem c_X0_begin (l : Launch) (D : va_G) (ks : Nat × Nat) (cI cL cC cM cS : ClassId) (a : Nat → Nat) (t_bay t_best : Nat → Int32) (t_worth t_free t_count : Int32) (x1 : Int32) (x2 : Int32) : MT l D ks (tyz cI cL cC cM cS) yX0_begin cX0_begin 3 none { frames := 2, cells := 0, slots := 0, locals := 45 } [.ref (a 0), .int x1, .int x2] (w_X0 cI cL cC cM cS a t_bay t_best t_worth t_free t_count) (fun r : (Nat → Int32) × Int32 × Int32 => (none, (w_X0 cI cL cC cM cS a r.1 t_best t_worth r.2.1 r.2.2))) (f_X0_begin t_bay t_free t_count x1 x2) := by
  refine MT.of 0 [some (.ref (a 0)), some (.int x1), some (.int x2)] (by decide) (Nat.le_of_ble_eq_true rfl) rfl ?_
  unfold f_X0_begin
  refine G.aload_n dX0_begin_0 rfl ?_
  refine G.iload_n dX0_begin_1 rfl ?_
  refine G.put (w' := (w_X0 cI cL cC cM cS a t_bay t_best t_worth t_free x1)) fp_0_18 0 rfl (Nat.le_of_ble_eq_true rfl) rfl rfl rfl dX0_begin_2 ?_
  refine G.aload_n dX0_begin_5 rfl ?_
  refine G.iload_n dX0_begin_6 rfl ?_
  refine G.put (w' := (w_X0 cI cL cC cM cS a t_bay t_best t_worth x2 x1)) fp_0_22 0 rfl (Nat.le_of_ble_eq_true rfl) rfl rfl rfl dX0_begin_7 ?_
  refine G.aload_n dX0_begin_10 rfl ?_
  refine G.iconst 0 dX0_begin_11 (by decide) ?_
  refine G.callV (st := []) (w' := fun r12 => (w_X0 cI cL cC cM cS a r12.1 t_best t_worth r12.2 x1)) mv_X0_fillFrom lk_0_25 (c_X0_fillFrom l D ks cI cL cC cM cS a t_bay t_best t_worth x2 x1 0) [0, 1, 2] [] [0, 1, 2] rfl rfl rfl rfl (by decide +kernel) (fun _ => rfl) rfl (by decide) (Nat.le_of_ble_eq_true rfl) dX0_begin_12 (fun r12 => []) (fun _ => rfl) (fun r12 _ => ?_)
  exact G.vret rfl rfl dX0_begin_15
set_option maxHeartbeats 4000000 in
set_option maxRecDepth 100000 in
theorem c_X0_keep (l : Launch) (D : va_G) (ks : Nat × Nat) (cI cL cC cM cS : ClassId) (a : Nat → Nat) (t_bay t_best : Nat → Int32) (t_worth t_free t_count : Int32) (x1 : Int32) : MT l D ks (tyz cI cL cC cM cS) yX0_keep cX0_keep 2 none { frames := 1, cells := 0, slots := 0, locals := 26 } [.ref (a 0), .int x1] (w_X0 cI cL cC cM cS a t_bay t_best t_worth t_free t_count) (fun r : (Nat → Int32) × Int32 => (none, (w_X0 cI cL cC cM cS a t_bay r.1 r.2 t_free t_count))) (f_X0_keep t_bay t_best t_worth x1) := by
  refine MT.of 0 [some (.ref (a 0)), some (.int x1)] (by decide) (Nat.le_of_ble_eq_true rfl) rfl ?_
  unfold f_X0_keep
  refine G.aload_n dX0_keep_0 rfl ?_
  refine G.iload_n dX0_keep_1 rfl ?_
  refine G.put (w' := (w_X0 cI cL cC cM cS a t_bay t_best x1 t_free t_count)) fp_0_37 0 rfl (Nat.le_of_ble_eq_true rfl) rfl rfl rfl dX0_keep_2 ?_
  refine G.aload_n dX0_keep_5 rfl ?_
  refine G.get fl_0_9 0 rfl rfl dX0_keep_6 ?_
  refine G.iconst 0 dX0_keep_9 (by decide) ?_
  refine G.aload_n dX0_keep_10 rfl ?_
  refine G.get fl_0_15 0 rfl rfl dX0_keep_11 ?_
  refine G.iconst 0 dX0_keep_14 (by decide) ?_
  refine G.bipush 6 dX0_keep_15 (by decide) ?_
  refine G.copyi (w' := (w_X0 cI cL cC cM cS a t_bay (va_cpy t_bay t_best 0 0 6) x1 t_free t_count)) 1 2 0 0 lk_0_40 acn acs aci rfl rfl rfl rfl (by decide) (by decide) (by decide) (by decide) (by decide) (by decide) (Nat.le_of_ble_eq_true rfl) rfl dX0_keep_17 ?_
  exact G.vret rfl rfl dX0_keep_20
set_option maxHeartbeats 4000000 in
set_option maxRecDepth 100000 in
theorem g_X0_next_c7 (l : Launch) (D : va_G) (ks : Nat × Nat) (cI cL cC cM cS : ClassId) (a : Nat → Nat) (t_best : Nat → Int32) (t_worth : Int32) : ∀ (n : Nat), ∀ (t_bay : Nat → Int32) (t_free t_count : Int32) (x1 : Int32), GJ l D ks (tyz cI cL cC cM cS) RX0 cX0_next 3 ((some .boolean)) { frames := 2, cells := 0, slots := 0, locals := 45 } (fun r : Int32 × (Nat → Int32) × Int32 => (some (.int r.1), (w_X0 cI cL cC cM cS a r.2.1 t_best t_worth r.2.2 t_count))) (w_X0 cI cL cC cM cS a t_bay t_best t_worth t_free t_count) 7 [some (.ref (a 0)), some (.int x1), none] [] (f_X0_next_c7 n t_bay t_free t_count x1) := by
  intro n
  induction n with
  | zero =>
    intro t_bay t_free t_count x1
    exact G.no
  | succ n ih =>
    intro t_bay t_free t_count x1
    rw [f_X0_next_c7]
    refine G.iload_n dX0_next_7 rfl ?_
    refine G.if_lt 68 dX0_next_8 (by decide) (fun h8 => ?_) (fun h8 => ?_)
    · refine G.iconst 0 dX0_next_68 (by decide) ?_
      exact G.zret rfl rfl rfl dX0_next_69
    · refine G.aload_n dX0_next_11 rfl ?_
      refine G.dup dX0_next_12 rfl ?_
      refine G.get fl_0_22 0 rfl rfl dX0_next_13 ?_
      refine G.iconst 1 dX0_next_16 (by decide) ?_
      refine G.aload_n dX0_next_17 rfl ?_
      refine G.get fl_0_9 0 rfl rfl dX0_next_18 ?_
      refine G.iload_n dX0_next_21 rfl ?_
      refine G.chk (fun h22 => ?_)
      refine G.iaload 1 0 rfl rfl x1.toNatClampNeg rfl h22 dX0_next_22 ?_
      refine G.topi (fun v22 => ?_)
      refine G.ishl dX0_next_23 ?_
      refine G.ior dX0_next_24 ?_
      refine G.put (w' := (w_X0 cI cL cC cM cS a t_bay t_best t_worth (t_free ||| (1 <<< (v22 &&& 31))) t_count)) fp_0_22 0 rfl (Nat.le_of_ble_eq_true rfl) rfl rfl rfl dX0_next_25 ?_
      refine G.aload_n dX0_next_28 rfl ?_
      refine G.aload_n dX0_next_29 rfl ?_
      refine G.get fl_0_9 0 rfl rfl dX0_next_30 ?_
      refine G.iload_n dX0_next_33 rfl ?_
      refine G.iaload 1 0 rfl rfl x1.toNatClampNeg rfl h22 dX0_next_34 ?_
      refine G.topi (fun v34 => ?_)
      refine G.iconst 1 dX0_next_35 (by decide) ?_
      refine G.iadd dX0_next_36 ?_
      refine G.callV (st := []) (w' := fun r37 => (w_X0 cI cL cC cM cS a t_bay t_best t_worth (t_free ||| (1 <<< (v22 &&& 31))) t_count)) mv_X0_freeFrom lk_0_29 (c_X0_freeFrom l D ks cI cL cC cM cS a t_bay t_best t_worth (t_free ||| (1 <<< (v22 &&& 31))) t_count (v34 + 1)) [0, 1, 2] [] [0, 1, 2] rfl rfl rfl rfl (by decide +kernel) (fun _ => rfl) rfl (by decide) (Nat.le_of_ble_eq_true rfl) dX0_next_37 (fun r37 => [.int r37]) (fun _ => rfl) (fun r37 _ => ?_)
      refine G.istore_n (lv' := [some (.ref (a 0)), some (.int x1), some (.int r37)]) dX0_next_40 (by decide) (Nat.le_of_ble_eq_true rfl) rfl rfl ?_
      refine G.iload_n dX0_next_41 rfl ?_
      refine G.bipush 6 dX0_next_42 (by decide) ?_
      refine G.icmp_ge 62 dX0_next_44 (by decide) (fun h44 => ?_) (fun h44 => ?_)
      · refine G.iinc (-1) (lv' := [some (.ref (a 0)), some (.int (x1 + (-1))), some (.int r37)]) dX0_next_62 rfl (by decide) (by decide) (Nat.le_of_ble_eq_true rfl) rfl rfl ?_
        refine G.goto 7 dX0_next_65 (by decide) ?_
        refine G.mask (lv' := [some (.ref (a 0)), some (.int (x1 + (-1))), none]) [true, true, false] rfl ?_
        exact ih t_bay (t_free ||| (1 <<< (v22 &&& 31))) t_count (x1 + (-1))
      · refine G.aload_n dX0_next_47 rfl ?_
        refine G.iload_n dX0_next_48 rfl ?_
        refine G.iload_n dX0_next_49 rfl ?_
        refine G.callV (st := []) (w' := fun r50 => (w_X0 cI cL cC cM cS a r50.1 t_best t_worth r50.2 t_count)) mv_X0_give lk_0_33 (c_X0_give l D ks cI cL cC cM cS a t_bay t_best t_worth (t_free ||| (1 <<< (v22 &&& 31))) t_count x1 r37) [0, 1, 2] [] [0, 1, 2] rfl rfl rfl rfl (by decide +kernel) (fun _ => rfl) rfl (by decide) (Nat.le_of_ble_eq_true rfl) dX0_next_50 (fun r50 => []) (fun _ => rfl) (fun r50 _ => ?_)
        refine G.aload_n dX0_next_53 rfl ?_
        refine G.iload_n dX0_next_54 rfl ?_
        refine G.iconst 1 dX0_next_55 (by decide) ?_
        refine G.iadd dX0_next_56 ?_
        refine G.callV (st := []) (w' := fun r57 => (w_X0 cI cL cC cM cS a r57.1 t_best t_worth r57.2 t_count)) mv_X0_fillFrom lk_0_25 (c_X0_fillFrom l D ks cI cL cC cM cS a r50.1 t_best t_worth r50.2 t_count (x1 + 1)) [0, 1, 2] [] [0, 1, 2] rfl rfl rfl rfl (by decide +kernel) (fun _ => rfl) rfl (by decide) (Nat.le_of_ble_eq_true rfl) dX0_next_57 (fun r57 => []) (fun _ => rfl) (fun r57 _ => ?_)
        refine G.iconst 1 dX0_next_60 (by decide) ?_
        exact G.zret rfl rfl rfl dX0_next_61
set_option maxHeartbeats 4000000 in
set_option maxRecDepth 100000 in
theorem c_X0_next (l : Launch) (D : va_G) (ks : Nat × Nat) (cI cL cC cM cS : ClassId) (a : Nat → Nat) (t_bay t_best : Nat → Int32) (t_worth t_free t_count : Int32) : MT l D ks (tyz cI cL cC cM cS) yX0_next cX0_next 3 ((some .boolean)) { frames := 2, cells := 0, slots := 0, locals := 45 } [.ref (a 0)] (w_X0 cI cL cC cM cS a t_bay t_best t_worth t_free t_count) (fun r : Int32 × (Nat → Int32) × Int32 => (some (.int r.1), (w_X0 cI cL cC cM cS a r.2.1 t_best t_worth r.2.2 t_count))) (f_X0_next t_bay t_free t_count) := by
  refine MT.of 2 [some (.ref (a 0)), none, none] (by decide) (Nat.le_of_ble_eq_true rfl) rfl ?_
  unfold f_X0_next
  refine G.aload_n dX0_next_0 rfl ?_
  refine G.get fl_0_18 0 rfl rfl dX0_next_1 ?_
  refine G.iconst 1 dX0_next_4 (by decide) ?_
  refine G.isub dX0_next_5 ?_
  refine G.istore_n (lv' := [some (.ref (a 0)), some (.int (t_count - 1)), none]) dX0_next_6 (by decide) (Nat.le_of_ble_eq_true rfl) rfl rfl ?_
  exact g_X0_next_c7 l D ks cI cL cC cM cS a t_best t_worth fu t_bay t_free t_count (t_count - 1)
set_option maxHeartbeats 4000000 in
set_option maxRecDepth 100000 in
theorem c_X1_become (l : Launch) (D : va_G) (ks : Nat × Nat) (cI cL cC cM cS : ClassId) (a b : Nat → Nat) (t_used t_bay : Nat → Int32) (t_day t_dues t_draw : Int32) (u_used u_bay : Nat → Int32) (u_day u_dues u_draw : Int32) : MT l D ks (tyz cI cL cC cM cS) yX1_become cX1_become 2 none { frames := 1, cells := 0, slots := 0, locals := 26 } [.ref (a 0), .ref (b 0)] (w_X1_X1 cI cL cC cM cS a b t_used t_bay t_day t_dues t_draw u_used u_bay u_day u_dues u_draw) (fun r : (Nat → Int32) × (Nat → Int32) × Int32 × Int32 × Int32 => (none, (w_X1_X1 cI cL cC cM cS a b r.1 r.2.1 r.2.2.1 r.2.2.2.1 r.2.2.2.2 u_used u_bay u_day u_dues u_draw))) (f_X1_become t_used t_bay t_day t_dues t_draw u_used u_bay u_day u_dues u_draw) := by
  refine MT.of 0 [some (.ref (a 0)), some (.ref (b 0))] (by decide) (Nat.le_of_ble_eq_true rfl) rfl ?_
  unfold f_X1_become
  refine G.aload_n dX1_become_0 rfl ?_
  refine G.get fl_1_9 3 rfl rfl dX1_become_1 ?_
  refine G.iconst 0 dX1_become_4 (by decide) ?_
  refine G.aload_n dX1_become_5 rfl ?_
  refine G.get fl_1_9 0 rfl rfl dX1_become_6 ?_
  refine G.iconst 0 dX1_become_9 (by decide) ?_
  refine G.bipush 6 dX1_become_10 (by decide) ?_
  refine G.copyi (w' := (w_X1_X1 cI cL cC cM cS a b (va_cpy u_used t_used 0 0 6) t_bay t_day t_dues t_draw u_used u_bay u_day u_dues u_draw)) 4 1 0 0 lk_1_21 acn acs aci rfl rfl rfl rfl (by decide) (by decide) (by decide) (by decide) (by decide) (by decide) (Nat.le_of_ble_eq_true rfl) rfl dX1_become_12 ?_
  refine G.aload_n dX1_become_15 rfl ?_
  refine G.get fl_1_15 3 rfl rfl dX1_become_16 ?_
  refine G.iconst 0 dX1_become_19 (by decide) ?_
  refine G.aload_n dX1_become_20 rfl ?_
  refine G.get fl_1_15 0 rfl rfl dX1_become_21 ?_
  refine G.iconst 0 dX1_become_24 (by decide) ?_
  refine G.bipush 6 dX1_become_25 (by decide) ?_
  refine G.copyi (w' := (w_X1_X1 cI cL cC cM cS a b (va_cpy u_used t_used 0 0 6) (va_cpy u_bay t_bay 0 0 6) t_day t_dues t_draw u_used u_bay u_day u_dues u_draw)) 5 2 0 0 lk_1_21 acn acs aci rfl rfl rfl rfl (by decide) (by decide) (by decide) (by decide) (by decide) (by decide) (Nat.le_of_ble_eq_true rfl) rfl dX1_become_27 ?_
  refine G.aload_n dX1_become_30 rfl ?_
  refine G.aload_n dX1_become_31 rfl ?_
  refine G.get fl_1_32 3 rfl rfl dX1_become_32 ?_
  refine G.put (w' := (w_X1_X1 cI cL cC cM cS a b (va_cpy u_used t_used 0 0 6) (va_cpy u_bay t_bay 0 0 6) u_day t_dues t_draw u_used u_bay u_day u_dues u_draw)) fp_1_32 0 rfl (Nat.le_of_ble_eq_true rfl) rfl rfl rfl dX1_become_35 ?_
  refine G.aload_n dX1_become_38 rfl ?_
  refine G.aload_n dX1_become_39 rfl ?_
  refine G.get fl_1_36 3 rfl rfl dX1_become_40 ?_
  refine G.put (w' := (w_X1_X1 cI cL cC cM cS a b (va_cpy u_used t_used 0 0 6) (va_cpy u_bay t_bay 0 0 6) u_day u_dues t_draw u_used u_bay u_day u_dues u_draw)) fp_1_36 0 rfl (Nat.le_of_ble_eq_true rfl) rfl rfl rfl dX1_become_43 ?_
  refine G.aload_n dX1_become_46 rfl ?_
  refine G.aload_n dX1_become_47 rfl ?_
  refine G.get fl_1_40 3 rfl rfl dX1_become_48 ?_
  refine G.put (w' := (w_X1_X1 cI cL cC cM cS a b (va_cpy u_used t_used 0 0 6) (va_cpy u_bay t_bay 0 0 6) u_day u_dues u_draw u_used u_bay u_day u_dues u_draw)) fp_1_40 0 rfl (Nat.le_of_ble_eq_true rfl) rfl rfl rfl dX1_become_51 ?_
  exact G.vret rfl rfl dX1_become_54
set_option maxHeartbeats 4000000 in
set_option maxRecDepth 100000 in
theorem c_X3_seat (l : Launch) (D : va_G) (ks : Nat × Nat) (cI cL cC cM cS : ClassId) (a : Nat → Nat) (t_kind t_used t_bay t_likes t_who t_lamp t_due t_gain : Nat → Int32) (t_count t_day t_dues t_draw : Int32) (x1 : Int32) (x2 : Int32) : MT l D ks (tyz cI cL cC cM cS) yX3_seat cX3_seat 3 none { frames := 0, cells := 0, slots := 0, locals := 0 } [.ref (a 0), .int x1, .int x2] (w_X3 cI cL cC cM cS a t_kind t_used t_bay t_likes t_who t_lamp t_due t_gain t_count t_day t_dues t_draw) (fun r : (Nat → Int32) × (Nat → Int32) => (none, (w_X3 cI cL cC cM cS a t_kind t_used r.1 t_likes r.2 t_lamp t_due t_gain t_count t_day t_dues t_draw))) (f_X3_seat t_bay t_who x1 x2) := by
  refine MT.of 0 [some (.ref (a 0)), some (.int x1), some (.int x2)] (by decide) (Nat.le_of_ble_eq_true rfl) rfl ?_
  unfold f_X3_seat
  refine G.aload_n dX3_seat_0 rfl ?_
  refine G.get fl_3_18 0 rfl rfl dX3_seat_1 ?_
  refine G.iload_n dX3_seat_4 rfl ?_
  refine G.iload_n dX3_seat_5 rfl ?_
  refine G.chk (fun h6 => ?_)
  refine G.iastore (w' := (w_X3 cI cL cC cM cS a t_kind t_used (upd t_bay x1.toNatClampNeg x2) t_likes t_who t_lamp t_due t_gain t_count t_day t_dues t_draw)) 3 0 rfl rfl x1.toNatClampNeg rfl h6 rfl dX3_seat_6 ?_
  refine G.aload_n dX3_seat_7 rfl ?_
  refine G.get fl_3_24 0 rfl rfl dX3_seat_8 ?_
  refine G.iload_n dX3_seat_11 rfl ?_
  refine G.iload_n dX3_seat_12 rfl ?_
  refine G.chk (fun h13 => ?_)
  refine G.iastore (w' := (w_X3 cI cL cC cM cS a t_kind t_used (upd t_bay x1.toNatClampNeg x2) t_likes (upd t_who x2.toNatClampNeg x1) t_lamp t_due t_gain t_count t_day t_dues t_draw)) 5 0 rfl rfl x2.toNatClampNeg rfl h13 rfl dX3_seat_13 ?_
  exact G.vret rfl rfl dX3_seat_14
set_option maxHeartbeats 4000000 in
set_option maxRecDepth 100000 in
theorem g_X3_seatAll_c23 (l : Launch) (D : va_G) (ks : Nat × Nat) (cI cL cC cM cS : ClassId) (a b : Nat → Nat) (t_kind t_used t_likes t_lamp t_due t_gain : Nat → Int32) (t_day t_dues t_draw : Int32) : ∀ (n : Nat), ∀ (t_bay t_who : Nat → Int32) (t_count : Int32) (u_arr : Nat → Int32) (x2 : Int32), GJ l D ks (tyz cI cL cC cM cS) RX3 cX3_seatAll 3 none { frames := 1, cells := 0, slots := 0, locals := 22 } (fun r : (Nat → Int32) × (Nat → Int32) => (none, (w_X3_A cI cL cC cM cS a b t_kind t_used r.1 t_likes r.2 t_lamp t_due t_gain t_count t_day t_dues t_draw u_arr))) (w_X3_A cI cL cC cM cS a b t_kind t_used t_bay t_likes t_who t_lamp t_due t_gain t_count t_day t_dues t_draw u_arr) 23 [some (.ref (a 0)), some (.ref (b 0)), some (.int x2)] [] (f_X3_seatAll_c23 n t_bay t_who t_count u_arr x2) := by
  intro n
  induction n with
  | zero =>
    intro t_bay t_who t_count u_arr x2
    exact G.no
  | succ n ih =>
    intro t_bay t_who t_count u_arr x2
    rw [f_X3_seatAll_c23]
    refine G.iload_n dX3_seatAll_23 rfl ?_
    refine G.aload_n dX3_seatAll_24 rfl ?_
    refine G.get fl_3_46 0 rfl rfl dX3_seatAll_25 ?_
    refine G.icmp_ge 45 dX3_seatAll_28 (by decide) (fun h28 => ?_) (fun h28 => ?_)
    · exact G.vret rfl rfl dX3_seatAll_45
    · refine G.aload_n dX3_seatAll_31 rfl ?_
      refine G.iload_n dX3_seatAll_32 rfl ?_
      refine G.aload_n dX3_seatAll_33 rfl ?_
      refine G.iload_n dX3_seatAll_34 rfl ?_
      refine G.chk (fun h35 => ?_)
      refine G.iaload 9 0 rfl rfl x2.toNatClampNeg rfl h35 dX3_seatAll_35 ?_
      refine G.topi (fun v35 => ?_)
      refine G.callV (st := []) (w' := fun r36 => (w_X3_A cI cL cC cM cS a b t_kind t_used r36.1 t_likes r36.2 t_lamp t_due t_gain t_count t_day t_dues t_draw u_arr)) mv_X3_seat lk_3_55 (c_X3_seat l D ks cI cL cC cM cS a t_kind t_used t_bay t_likes t_who t_lamp t_due t_gain t_count t_day t_dues t_draw x2 v35) [0, 1, 2, 3, 4, 5, 6, 7, 8] [9] [1, 2, 3, 4, 5, 6, 7, 8, 9, 0] rfl rfl rfl rfl (by decide +kernel) (fun _ => rfl) rfl (by decide) (Nat.le_of_ble_eq_true rfl) dX3_seatAll_36 (fun r36 => []) (fun _ => rfl) (fun r36 _ => ?_)
      refine G.iinc 1 (lv' := [some (.ref (a 0)), some (.ref (b 0)), some (.int (x2 + 1))]) dX3_seatAll_39 rfl (by decide) (by decide) (Nat.le_of_ble_eq_true rfl) rfl rfl ?_
      refine G.goto 23 dX3_seatAll_42 (by decide) ?_
      exact ih r36.1 r36.2 t_count u_arr (x2 + 1)
set_option maxHeartbeats 4000000 in
set_option maxRecDepth 100000 in
theorem g_X3_seatAll_c2 (l : Launch) (D : va_G) (ks : Nat × Nat) (cI cL cC cM cS : ClassId) (a b : Nat → Nat) (t_kind t_used t_likes t_lamp t_due t_gain : Nat → Int32) (t_day t_dues t_draw : Int32) : ∀ (n : Nat), ∀ (t_bay t_who : Nat → Int32) (t_count : Int32) (u_arr : Nat → Int32) (x2 : Int32), GJ l D ks (tyz cI cL cC cM cS) RX3 cX3_seatAll 3 none { frames := 1, cells := 0, slots := 0, locals := 22 } (fun r : (Nat → Int32) × (Nat → Int32) => (none, (w_X3_A cI cL cC cM cS a b t_kind t_used r.1 t_likes r.2 t_lamp t_due t_gain t_count t_day t_dues t_draw u_arr))) (w_X3_A cI cL cC cM cS a b t_kind t_used t_bay t_likes t_who t_lamp t_due t_gain t_count t_day t_dues t_draw u_arr) 2 [some (.ref (a 0)), some (.ref (b 0)), some (.int x2)] [] (f_X3_seatAll_c2 n t_bay t_who t_count u_arr x2) := by
  intro n
  induction n with
  | zero =>
    intro t_bay t_who t_count u_arr x2
    exact G.no
  | succ n ih =>
    intro t_bay t_who t_count u_arr x2
    rw [f_X3_seatAll_c2]
    refine G.iload_n dX3_seatAll_2 rfl ?_
    refine G.bipush 6 dX3_seatAll_3 (by decide) ?_
    refine G.icmp_ge 21 dX3_seatAll_5 (by decide) (fun h5 => ?_) (fun h5 => ?_)
    · refine G.iconst 0 dX3_seatAll_21 (by decide) ?_
      refine G.istore_n (lv' := [some (.ref (a 0)), some (.ref (b 0)), some (.int 0)]) dX3_seatAll_22 (by decide) (Nat.le_of_ble_eq_true rfl) rfl rfl ?_
      exact g_X3_seatAll_c23 l D ks cI cL cC cM cS a b t_kind t_used t_likes t_lamp t_due t_gain t_day t_dues t_draw fu t_bay t_who t_count u_arr 0
    · refine G.aload_n dX3_seatAll_8 rfl ?_
      refine G.get fl_3_24 0 rfl rfl dX3_seatAll_9 ?_
      refine G.iload_n dX3_seatAll_12 rfl ?_
      refine G.iconst (-1) dX3_seatAll_13 (by decide) ?_
      refine G.chk (fun h14 => ?_)
      refine G.iastore (w' := (w_X3_A cI cL cC cM cS a b t_kind t_used t_bay t_likes (upd t_who x2.toNatClampNeg (-1)) t_lamp t_due t_gain t_count t_day t_dues t_draw u_arr)) 5 0 rfl rfl x2.toNatClampNeg rfl h14 rfl dX3_seatAll_14 ?_
      refine G.iinc 1 (lv' := [some (.ref (a 0)), some (.ref (b 0)), some (.int (x2 + 1))]) dX3_seatAll_15 rfl (by decide) (by decide) (Nat.le_of_ble_eq_true rfl) rfl rfl ?_
      refine G.goto 2 dX3_seatAll_18 (by decide) ?_
      exact ih t_bay (upd t_who x2.toNatClampNeg (-1)) t_count u_arr (x2 + 1)
set_option maxHeartbeats 4000000 in
set_option maxRecDepth 100000 in
theorem c_X3_seatAll (l : Launch) (D : va_G) (ks : Nat × Nat) (cI cL cC cM cS : ClassId) (a b : Nat → Nat) (t_kind t_used t_bay t_likes t_who t_lamp t_due t_gain : Nat → Int32) (t_count t_day t_dues t_draw : Int32) (u_arr : Nat → Int32) : MT l D ks (tyz cI cL cC cM cS) yX3_seatAll cX3_seatAll 3 none { frames := 1, cells := 0, slots := 0, locals := 22 } [.ref (a 0), .ref (b 0)] (w_X3_A cI cL cC cM cS a b t_kind t_used t_bay t_likes t_who t_lamp t_due t_gain t_count t_day t_dues t_draw u_arr) (fun r : (Nat → Int32) × (Nat → Int32) => (none, (w_X3_A cI cL cC cM cS a b t_kind t_used r.1 t_likes r.2 t_lamp t_due t_gain t_count t_day t_dues t_draw u_arr))) (f_X3_seatAll t_bay t_who t_count u_arr) := by
  refine MT.of 1 [some (.ref (a 0)), some (.ref (b 0)), none] (by decide) (Nat.le_of_ble_eq_true rfl) rfl ?_
  unfold f_X3_seatAll
  refine G.iconst 0 dX3_seatAll_0 (by decide) ?_
  refine G.istore_n (lv' := [some (.ref (a 0)), some (.ref (b 0)), some (.int 0)]) dX3_seatAll_1 (by decide) (Nat.le_of_ble_eq_true rfl) rfl rfl ?_
  exact g_X3_seatAll_c2 l D ks cI cL cC cM cS a b t_kind t_used t_likes t_lamp t_due t_gain t_day t_dues t_draw fu t_bay t_who t_count u_arr 0
set_option maxHeartbeats 4000000 in
set_option maxRecDepth 100000 in
theorem c_X1_give (l : Launch) (D : va_G) (ks : Nat × Nat) (cI cL cC cM cS : ClassId) (a b : Nat → Nat) (t_used t_bay : Nat → Int32) (t_day t_dues t_draw : Int32) (u_kind u_used u_bay u_likes u_who u_lamp u_due u_gain : Nat → Int32) (u_count u_day u_dues u_draw : Int32) : MT l D ks (tyz cI cL cC cM cS) yX1_give cX1_give 2 none { frames := 2, cells := 0, slots := 0, locals := 44 } [.ref (a 0), .ref (b 0)] (w_X1_X3 cI cL cC cM cS a b t_used t_bay t_day t_dues t_draw u_kind u_used u_bay u_likes u_who u_lamp u_due u_gain u_count u_day u_dues u_draw) (fun r : (Nat → Int32) × (Nat → Int32) × (Nat → Int32) × Int32 × Int32 × Int32 => (none, (w_X1_X3 cI cL cC cM cS a b t_used t_bay t_day t_dues t_draw u_kind r.1 r.2.1 u_likes r.2.2.1 u_lamp u_due u_gain u_count r.2.2.2.1 r.2.2.2.2.1 r.2.2.2.2.2))) (f_X1_give t_used t_bay t_day t_dues t_draw u_used u_bay u_who u_count u_day u_dues u_draw) := by
  refine MT.of 0 [some (.ref (a 0)), some (.ref (b 0))] (by decide) (Nat.le_of_ble_eq_true rfl) rfl ?_
  unfold f_X1_give
  refine G.aload_n dX1_give_0 rfl ?_
  refine G.get fl_1_9 0 rfl rfl dX1_give_1 ?_
  refine G.iconst 0 dX1_give_4 (by decide) ?_
  refine G.aload_n dX1_give_5 rfl ?_
  refine G.get fl_1_18 3 rfl rfl dX1_give_6 ?_
  refine G.iconst 0 dX1_give_9 (by decide) ?_
  refine G.bipush 6 dX1_give_10 (by decide) ?_
  refine G.copyi (w' := (w_X1_X3 cI cL cC cM cS a b t_used t_bay t_day t_dues t_draw u_kind (va_cpy t_used u_used 0 0 6) u_bay u_likes u_who u_lamp u_due u_gain u_count u_day u_dues u_draw)) 1 5 0 0 lk_1_21 acn acs aci rfl rfl rfl rfl (by decide) (by decide) (by decide) (by decide) (by decide) (by decide) (Nat.le_of_ble_eq_true rfl) rfl dX1_give_12 ?_
  refine G.aload_n dX1_give_15 rfl ?_
  refine G.aload_n dX1_give_16 rfl ?_
  refine G.get fl_1_15 0 rfl rfl dX1_give_17 ?_
  refine G.callV (st := []) (w' := fun r20 => (w_X1_X3 cI cL cC cM cS a b t_used t_bay t_day t_dues t_draw u_kind (va_cpy t_used u_used 0 0 6) r20.1 u_likes r20.2 u_lamp u_due u_gain u_count u_day u_dues u_draw)) mv_X3_seatAll lk_1_41 (c_X3_seatAll l D ks cI cL cC cM cS b (fun k => a (2 + k)) u_kind (va_cpy t_used u_used 0 0 6) u_bay u_likes u_who u_lamp u_due u_gain u_count u_day u_dues u_draw t_bay) [3, 4, 5, 6, 7, 8, 9, 10, 11, 2] [0, 1] [0, 1, 11, 2, 3, 4, 5, 6, 7, 8, 9, 10] rfl rfl rfl rfl (by decide +kernel) (fun _ => rfl) rfl (by decide) (Nat.le_of_ble_eq_true rfl) dX1_give_20 (fun r20 => []) (fun _ => rfl) (fun r20 _ => ?_)
  refine G.aload_n dX1_give_23 rfl ?_
  refine G.aload_n dX1_give_24 rfl ?_
  refine G.get fl_1_32 0 rfl rfl dX1_give_25 ?_
  refine G.put (w' := (w_X1_X3 cI cL cC cM cS a b t_used t_bay t_day t_dues t_draw u_kind (va_cpy t_used u_used 0 0 6) r20.1 u_likes r20.2 u_lamp u_due u_gain u_count t_day u_dues u_draw)) fp_1_28 3 rfl (Nat.le_of_ble_eq_true rfl) rfl rfl rfl dX1_give_28 ?_
  refine G.aload_n dX1_give_31 rfl ?_
  refine G.aload_n dX1_give_32 rfl ?_
  refine G.get fl_1_36 0 rfl rfl dX1_give_33 ?_
  refine G.put (w' := (w_X1_X3 cI cL cC cM cS a b t_used t_bay t_day t_dues t_draw u_kind (va_cpy t_used u_used 0 0 6) r20.1 u_likes r20.2 u_lamp u_due u_gain u_count t_day t_dues u_draw)) fp_1_33 3 rfl (Nat.le_of_ble_eq_true rfl) rfl rfl rfl dX1_give_36 ?_
  refine G.aload_n dX1_give_39 rfl ?_
  refine G.aload_n dX1_give_40 rfl ?_
  refine G.get fl_1_40 0 rfl rfl dX1_give_41 ?_
  refine G.put (w' := (w_X1_X3 cI cL cC cM cS a b t_used t_bay t_day t_dues t_draw u_kind (va_cpy t_used u_used 0 0 6) r20.1 u_likes r20.2 u_lamp u_due u_gain u_count t_day t_dues t_draw)) fp_1_37 3 rfl (Nat.le_of_ble_eq_true rfl) rfl rfl rfl dX1_give_44 ?_
  exact G.vret rfl rfl dX1_give_47
set_option maxHeartbeats 4000000 in
set_option maxRecDepth 100000 in
theorem c_X1_note (l : Launch) (D : va_G) (ks : Nat × Nat) (cI cL cC cM cS : ClassId) (a b : Nat → Nat) (t_used t_bay : Nat → Int32) (t_day t_dues t_draw : Int32) (u_kind u_used u_bay u_likes u_who u_lamp u_due u_gain : Nat → Int32) (u_count u_day u_dues u_draw : Int32) : MT l D ks (tyz cI cL cC cM cS) yX1_note cX1_note 2 none { frames := 1, cells := 0, slots := 0, locals := 26 } [.ref (a 0), .ref (b 0)] (w_X1_X3 cI cL cC cM cS a b t_used t_bay t_day t_dues t_draw u_kind u_used u_bay u_likes u_who u_lamp u_due u_gain u_count u_day u_dues u_draw) (fun r : (Nat → Int32) × (Nat → Int32) × Int32 × Int32 × Int32 => (none, (w_X1_X3 cI cL cC cM cS a b r.1 r.2.1 r.2.2.1 r.2.2.2.1 r.2.2.2.2 u_kind u_used u_bay u_likes u_who u_lamp u_due u_gain u_count u_day u_dues u_draw))) (f_X1_note t_used t_bay t_day t_dues t_draw u_used u_bay u_day u_dues u_draw) := by
  refine MT.of 0 [some (.ref (a 0)), some (.ref (b 0))] (by decide) (Nat.le_of_ble_eq_true rfl) rfl ?_
  unfold f_X1_note
  refine G.aload_n dX1_note_0 rfl ?_
  refine G.get fl_1_18 3 rfl rfl dX1_note_1 ?_
  refine G.iconst 0 dX1_note_4 (by decide) ?_
  refine G.aload_n dX1_note_5 rfl ?_
  refine G.get fl_1_9 0 rfl rfl dX1_note_6 ?_
  refine G.iconst 0 dX1_note_9 (by decide) ?_
  refine G.bipush 6 dX1_note_10 (by decide) ?_
  refine G.copyi (w' := (w_X1_X3 cI cL cC cM cS a b (va_cpy u_used t_used 0 0 6) t_bay t_day t_dues t_draw u_kind u_used u_bay u_likes u_who u_lamp u_due u_gain u_count u_day u_dues u_draw)) 5 1 0 0 lk_1_21 acn acs aci rfl rfl rfl rfl (by decide) (by decide) (by decide) (by decide) (by decide) (by decide) (Nat.le_of_ble_eq_true rfl) rfl dX1_note_12 ?_
  refine G.aload_n dX1_note_15 rfl ?_
  refine G.get fl_1_27 3 rfl rfl dX1_note_16 ?_
  refine G.iconst 0 dX1_note_19 (by decide) ?_
  refine G.aload_n dX1_note_20 rfl ?_
  refine G.get fl_1_15 0 rfl rfl dX1_note_21 ?_
  refine G.iconst 0 dX1_note_24 (by decide) ?_
  refine G.bipush 6 dX1_note_25 (by decide) ?_
  refine G.copyi (w' := (w_X1_X3 cI cL cC cM cS a b (va_cpy u_used t_used 0 0 6) (va_cpy u_bay t_bay 0 0 6) t_day t_dues t_draw u_kind u_used u_bay u_likes u_who u_lamp u_due u_gain u_count u_day u_dues u_draw)) 6 2 0 0 lk_1_21 acn acs aci rfl rfl rfl rfl (by decide) (by decide) (by decide) (by decide) (by decide) (by decide) (Nat.le_of_ble_eq_true rfl) rfl dX1_note_27 ?_
  refine G.aload_n dX1_note_30 rfl ?_
  refine G.aload_n dX1_note_31 rfl ?_
  refine G.get fl_1_28 3 rfl rfl dX1_note_32 ?_
  refine G.put (w' := (w_X1_X3 cI cL cC cM cS a b (va_cpy u_used t_used 0 0 6) (va_cpy u_bay t_bay 0 0 6) u_day t_dues t_draw u_kind u_used u_bay u_likes u_who u_lamp u_due u_gain u_count u_day u_dues u_draw)) fp_1_32 0 rfl (Nat.le_of_ble_eq_true rfl) rfl rfl rfl dX1_note_35 ?_
  refine G.aload_n dX1_note_38 rfl ?_
  refine G.aload_n dX1_note_39 rfl ?_
  refine G.get fl_1_33 3 rfl rfl dX1_note_40 ?_
  refine G.put (w' := (w_X1_X3 cI cL cC cM cS a b (va_cpy u_used t_used 0 0 6) (va_cpy u_bay t_bay 0 0 6) u_day u_dues t_draw u_kind u_used u_bay u_likes u_who u_lamp u_due u_gain u_count u_day u_dues u_draw)) fp_1_36 0 rfl (Nat.le_of_ble_eq_true rfl) rfl rfl rfl dX1_note_43 ?_
  refine G.aload_n dX1_note_46 rfl ?_
  refine G.aload_n dX1_note_47 rfl ?_
  refine G.get fl_1_37 3 rfl rfl dX1_note_48 ?_
  refine G.put (w' := (w_X1_X3 cI cL cC cM cS a b (va_cpy u_used t_used 0 0 6) (va_cpy u_bay t_bay 0 0 6) u_day u_dues u_draw u_kind u_used u_bay u_likes u_who u_lamp u_due u_gain u_count u_day u_dues u_draw)) fp_1_40 0 rfl (Nat.le_of_ble_eq_true rfl) rfl rfl rfl dX1_note_51 ?_
  exact G.vret rfl rfl dX1_note_54
set_option maxHeartbeats 4000000 in
set_option maxRecDepth 100000 in
theorem g_X2_become_c2 (l : Launch) (D : va_G) (ks : Nat × Nat) (cI cL cC cM cS : ClassId) (a b : Nat → Nat) : ∀ (n : Nat), ∀ (t_marks_used t_marks_bay : Nat → Nat → Int32) (t_marks_day t_marks_dues t_marks_draw : Nat → Int32) (t_next t_known : Int32) (u_marks_used u_marks_bay : Nat → Nat → Int32) (u_marks_day u_marks_dues u_marks_draw : Nat → Int32) (u_next u_known : Int32) (x2 : Int32), GJ l D ks (tyz cI cL cC cM cS) RX2 cX2_become 3 none { frames := 2, cells := 0, slots := 0, locals := 47 } (fun r : (Nat → Nat → Int32) × (Nat → Nat → Int32) × (Nat → Int32) × (Nat → Int32) × (Nat → Int32) × Int32 × Int32 => (none, (w_X2_X2 cI cL cC cM cS a b r.1 r.2.1 r.2.2.1 r.2.2.2.1 r.2.2.2.2.1 r.2.2.2.2.2.1 r.2.2.2.2.2.2 u_marks_used u_marks_bay u_marks_day u_marks_dues u_marks_draw u_next u_known))) (w_X2_X2 cI cL cC cM cS a b t_marks_used t_marks_bay t_marks_day t_marks_dues t_marks_draw t_next t_known u_marks_used u_marks_bay u_marks_day u_marks_dues u_marks_draw u_next u_known) 2 [some (.ref (a 0)), some (.ref (b 0)), some (.int x2)] [] (f_X2_become_c2 n t_marks_used t_marks_bay t_marks_day t_marks_dues t_marks_draw t_next t_known u_marks_used u_marks_bay u_marks_day u_marks_dues u_marks_draw u_next u_known x2) := by
  intro n
  induction n with
  | zero =>
    intro t_marks_used t_marks_bay t_marks_day t_marks_dues t_marks_draw t_next t_known u_marks_used u_marks_bay u_marks_day u_marks_dues u_marks_draw u_next u_known x2
    exact G.no
  | succ n ih =>
    intro t_marks_used t_marks_bay t_marks_day t_marks_dues t_marks_draw t_next t_known u_marks_used u_marks_bay u_marks_day u_marks_dues u_marks_draw u_next u_known x2
    rw [f_X2_become_c2]
    refine G.iload_n dX2_become_2 rfl ?_
    refine G.bipush 8 dX2_become_3 (by decide) ?_
    refine G.icmp_ge 29 dX2_become_5 (by decide) (fun h5 => ?_) (fun h5 => ?_)
    · refine G.aload_n dX2_become_29 rfl ?_
      refine G.aload_n dX2_become_30 rfl ?_
      refine G.get fl_2_18 26 rfl rfl dX2_become_31 ?_
      refine G.put (w' := (w_X2_X2 cI cL cC cM cS a b t_marks_used t_marks_bay t_marks_day t_marks_dues t_marks_draw u_next t_known u_marks_used u_marks_bay u_marks_day u_marks_dues u_marks_draw u_next u_known)) fp_2_18 0 rfl (Nat.le_of_ble_eq_true rfl) rfl rfl rfl dX2_become_34 ?_
      refine G.aload_n dX2_become_37 rfl ?_
      refine G.aload_n dX2_become_38 rfl ?_
      refine G.get fl_2_26 26 rfl rfl dX2_become_39 ?_
      refine G.put (w' := (w_X2_X2 cI cL cC cM cS a b t_marks_used t_marks_bay t_marks_day t_marks_dues t_marks_draw u_next u_known u_marks_used u_marks_bay u_marks_day u_marks_dues u_marks_draw u_next u_known)) fp_2_26 0 rfl (Nat.le_of_ble_eq_true rfl) rfl rfl rfl dX2_become_42 ?_
      exact G.vret rfl rfl dX2_become_45
    · refine G.aload_n dX2_become_8 rfl ?_
      refine G.get fl_2_11 0 rfl rfl dX2_become_9 ?_
      refine G.iload_n dX2_become_12 rfl ?_
      refine G.chk (fun h13 => ?_)
      have hl13 := inb_lt h13
      generalize hj13 : x2.toNatClampNeg = j13 at hl13 ⊢
      rcases g_or8 hl13 with rfl | rfl | rfl | rfl | rfl | rfl | rfl | rfl
      · refine G.aaload 1 3 rfl rfl h13 (by rw [hj13]) dX2_become_13 ?_
        refine G.aload_n dX2_become_14 rfl ?_
        refine G.get fl_2_11 26 rfl rfl dX2_become_15 ?_
        refine G.iload_n dX2_become_18 rfl ?_
        refine G.aaload 27 3 rfl rfl h13 (by rw [hj13]) dX2_become_19 ?_
        refine G.callV (st := []) (w' := fun r20 => (w_X2_X2 cI cL cC cM cS a b (va_up t_marks_used 0 r20.1) (va_up t_marks_bay 0 r20.2.1) (va_up t_marks_day 0 r20.2.2.1) (va_up t_marks_dues 0 r20.2.2.2.1) (va_up t_marks_draw 0 r20.2.2.2.2) t_next t_known u_marks_used u_marks_bay u_marks_day u_marks_dues u_marks_draw u_next u_known)) mv_X1_become lk_2_38 (c_X1_become l D ks cI cL cC cM cS (fun k => a (2 + k)) (fun k => b (2 + k)) (t_marks_used 0) (t_marks_bay 0) (t_marks_day 0) (t_marks_dues 0) (t_marks_draw 0) (u_marks_used 0) (u_marks_bay 0) (u_marks_day 0) (u_marks_dues 0) (u_marks_draw 0)) [2, 3, 4, 28, 29, 30] [0, 1, 5, 6, 7, 8, 9, 10, 11, 12, 13, 14, 15, 16, 17, 18, 19, 20, 21, 22, 23, 24, 25, 26, 27, 31, 32, 33, 34, 35, 36, 37, 38, 39, 40, 41, 42, 43, 44, 45, 46, 47, 48, 49, 50, 51] [0, 1, 46, 47, 48, 2, 3, 4, 5, 6, 7, 8, 9, 10, 11, 12, 13, 14, 15, 16, 17, 18, 19, 20, 21, 22, 23, 24, 49, 50, 51, 25, 26, 27, 28, 29, 30, 31, 32, 33, 34, 35, 36, 37, 38, 39, 40, 41, 42, 43, 44, 45] rfl rfl rfl rfl (by decide +kernel) (fun _ => rfl) rfl (by decide) (Nat.le_of_ble_eq_true rfl) dX2_become_20 (fun r20 => []) (fun _ => rfl) (fun r20 _ => ?_)
        refine G.iinc 1 (lv' := [some (.ref (a 0)), some (.ref (b 0)), some (.int (x2 + 1))]) dX2_become_23 rfl (by decide) (by decide) (Nat.le_of_ble_eq_true rfl) rfl rfl ?_
        refine G.goto 2 dX2_become_26 (by decide) ?_
        exact ih (va_up t_marks_used 0 r20.1) (va_up t_marks_bay 0 r20.2.1) (va_up t_marks_day 0 r20.2.2.1) (va_up t_marks_dues 0 r20.2.2.2.1) (va_up t_marks_draw 0 r20.2.2.2.2) t_next t_known u_marks_used u_marks_bay u_marks_day u_marks_dues u_marks_draw u_next u_known (x2 + 1)
      · refine G.aaload 1 3 rfl rfl h13 (by rw [hj13]) dX2_become_13 ?_
        refine G.aload_n dX2_become_14 rfl ?_
        refine G.get fl_2_11 26 rfl rfl dX2_become_15 ?_
        refine G.iload_n dX2_become_18 rfl ?_
        refine G.aaload 27 3 rfl rfl h13 (by rw [hj13]) dX2_become_19 ?_
        refine G.callV (st := []) (w' := fun r20 => (w_X2_X2 cI cL cC cM cS a b (va_up t_marks_used 1 r20.1) (va_up t_marks_bay 1 r20.2.1) (va_up t_marks_day 1 r20.2.2.1) (va_up t_marks_dues 1 r20.2.2.2.1) (va_up t_marks_draw 1 r20.2.2.2.2) t_next t_known u_marks_used u_marks_bay u_marks_day u_marks_dues u_marks_draw u_next u_known)) mv_X1_become lk_2_38 (c_X1_become l D ks cI cL cC cM cS (fun k => a (5 + k)) (fun k => b (5 + k)) (t_marks_used 1) (t_marks_bay 1) (t_marks_day 1) (t_marks_dues 1) (t_marks_draw 1) (u_marks_used 1) (u_marks_bay 1) (u_marks_day 1) (u_marks_dues 1) (u_marks_draw 1)) [5, 6, 7, 31, 32, 33] [0, 1, 2, 3, 4, 8, 9, 10, 11, 12, 13, 14, 15, 16, 17, 18, 19, 20, 21, 22, 23, 24, 25, 26, 27, 28, 29, 30, 34, 35, 36, 37, 38, 39, 40, 41, 42, 43, 44, 45, 46, 47, 48, 49, 50, 51] [0, 1, 2, 3, 4, 46, 47, 48, 5, 6, 7, 8, 9, 10, 11, 12, 13, 14, 15, 16, 17, 18, 19, 20, 21, 22, 23, 24, 25, 26, 27, 49, 50, 51, 28, 29, 30, 31, 32, 33, 34, 35, 36, 37, 38, 39, 40, 41, 42, 43, 44, 45] rfl rfl rfl rfl (by decide +kernel) (fun _ => rfl) rfl (by decide) (Nat.le_of_ble_eq_true rfl) dX2_become_20 (fun r20 => []) (fun _ => rfl) (fun r20 _ => ?_)
        refine G.iinc 1 (lv' := [some (.ref (a 0)), some (.ref (b 0)), some (.int (x2 + 1))]) dX2_become_23 rfl (by decide) (by decide) (Nat.le_of_ble_eq_true rfl) rfl rfl ?_
        refine G.goto 2 dX2_become_26 (by decide) ?_
        exact ih (va_up t_marks_used 1 r20.1) (va_up t_marks_bay 1 r20.2.1) (va_up t_marks_day 1 r20.2.2.1) (va_up t_marks_dues 1 r20.2.2.2.1) (va_up t_marks_draw 1 r20.2.2.2.2) t_next t_known u_marks_used u_marks_bay u_marks_day u_marks_dues u_marks_draw u_next u_known (x2 + 1)
      · refine G.aaload 1 3 rfl rfl h13 (by rw [hj13]) dX2_become_13 ?_
        refine G.aload_n dX2_become_14 rfl ?_
        refine G.get fl_2_11 26 rfl rfl dX2_become_15 ?_
        refine G.iload_n dX2_become_18 rfl ?_
        refine G.aaload 27 3 rfl rfl h13 (by rw [hj13]) dX2_become_19 ?_
        refine G.callV (st := []) (w' := fun r20 => (w_X2_X2 cI cL cC cM cS a b (va_up t_marks_used 2 r20.1) (va_up t_marks_bay 2 r20.2.1) (va_up t_marks_day 2 r20.2.2.1) (va_up t_marks_dues 2 r20.2.2.2.1) (va_up t_marks_draw 2 r20.2.2.2.2) t_next t_known u_marks_used u_marks_bay u_marks_day u_marks_dues u_marks_draw u_next u_known)) mv_X1_become lk_2_38 (c_X1_become l D ks cI cL cC cM cS (fun k => a (8 + k)) (fun k => b (8 + k)) (t_marks_used 2) (t_marks_bay 2) (t_marks_day 2) (t_marks_dues 2) (t_marks_draw 2) (u_marks_used 2) (u_marks_bay 2) (u_marks_day 2) (u_marks_dues 2) (u_marks_draw 2)) [8, 9, 10, 34, 35, 36] [0, 1, 2, 3, 4, 5, 6, 7, 11, 12, 13, 14, 15, 16, 17, 18, 19, 20, 21, 22, 23, 24, 25, 26, 27, 28, 29, 30, 31, 32, 33, 37, 38, 39, 40, 41, 42, 43, 44, 45, 46, 47, 48, 49, 50, 51] [0, 1, 2, 3, 4, 5, 6, 7, 46, 47, 48, 8, 9, 10, 11, 12, 13, 14, 15, 16, 17, 18, 19, 20, 21, 22, 23, 24, 25, 26, 27, 28, 29, 30, 49, 50, 51, 31, 32, 33, 34, 35, 36, 37, 38, 39, 40, 41, 42, 43, 44, 45] rfl rfl rfl rfl (by decide +kernel) (fun _ => rfl) rfl (by decide) (Nat.le_of_ble_eq_true rfl) dX2_become_20 (fun r20 => []) (fun _ => rfl) (fun r20 _ => ?_)
        refine G.iinc 1 (lv' := [some (.ref (a 0)), some (.ref (b 0)), some (.int (x2 + 1))]) dX2_become_23 rfl (by decide) (by decide) (Nat.le_of_ble_eq_true rfl) rfl rfl ?_
        refine G.goto 2 dX2_become_26 (by decide) ?_
        exact ih (va_up t_marks_used 2 r20.1) (va_up t_marks_bay 2 r20.2.1) (va_up t_marks_day 2 r20.2.2.1) (va_up t_marks_dues 2 r20.2.2.2.1) (va_up t_marks_draw 2 r20.2.2.2.2) t_next t_known u_marks_used u_marks_bay u_marks_day u_marks_dues u_marks_draw u_next u_known (x2 + 1)
      · refine G.aaload 1 3 rfl rfl h13 (by rw [hj13]) dX2_become_13 ?_
        refine G.aload_n dX2_become_14 rfl ?_
        refine G.get fl_2_11 26 rfl rfl dX2_become_15 ?_
        refine G.iload_n dX2_become_18 rfl ?_
        refine G.aaload 27 3 rfl rfl h13 (by rw [hj13]) dX2_become_19 ?_
        refine G.callV (st := []) (w' := fun r20 => (w_X2_X2 cI cL cC cM cS a b (va_up t_marks_used 3 r20.1) (va_up t_marks_bay 3 r20.2.1) (va_up t_marks_day 3 r20.2.2.1) (va_up t_marks_dues 3 r20.2.2.2.1) (va_up t_marks_draw 3 r20.2.2.2.2) t_next t_known u_marks_used u_marks_bay u_marks_day u_marks_dues u_marks_draw u_next u_known)) mv_X1_become lk_2_38 (c_X1_become l D ks cI cL cC cM cS (fun k => a (11 + k)) (fun k => b (11 + k)) (t_marks_used 3) (t_marks_bay 3) (t_marks_day 3) (t_marks_dues 3) (t_marks_draw 3) (u_marks_used 3) (u_marks_bay 3) (u_marks_day 3) (u_marks_dues 3) (u_marks_draw 3)) [11, 12, 13, 37, 38, 39] [0, 1, 2, 3, 4, 5, 6, 7, 8, 9, 10, 14, 15, 16, 17, 18, 19, 20, 21, 22, 23, 24, 25, 26, 27, 28, 29, 30, 31, 32, 33, 34, 35, 36, 40, 41, 42, 43, 44, 45, 46, 47, 48, 49, 50, 51] [0, 1, 2, 3, 4, 5, 6, 7, 8, 9, 10, 46, 47, 48, 11, 12, 13, 14, 15, 16, 17, 18, 19, 20, 21, 22, 23, 24, 25, 26, 27, 28, 29, 30, 31, 32, 33, 49, 50, 51, 34, 35, 36, 37, 38, 39, 40, 41, 42, 43, 44, 45] rfl rfl rfl rfl (by decide +kernel) (fun _ => rfl) rfl (by decide) (Nat.le_of_ble_eq_true rfl) dX2_become_20 (fun r20 => []) (fun _ => rfl) (fun r20 _ => ?_)
        refine G.iinc 1 (lv' := [some (.ref (a 0)), some (.ref (b 0)), some (.int (x2 + 1))]) dX2_become_23 rfl (by decide) (by decide) (Nat.le_of_ble_eq_true rfl) rfl rfl ?_
        refine G.goto 2 dX2_become_26 (by decide) ?_
        exact ih (va_up t_marks_used 3 r20.1) (va_up t_marks_bay 3 r20.2.1) (va_up t_marks_day 3 r20.2.2.1) (va_up t_marks_dues 3 r20.2.2.2.1) (va_up t_marks_draw 3 r20.2.2.2.2) t_next t_known u_marks_used u_marks_bay u_marks_day u_marks_dues u_marks_draw u_next u_known (x2 + 1)
      · refine G.aaload 1 3 rfl rfl h13 (by rw [hj13]) dX2_become_13 ?_
        refine G.aload_n dX2_become_14 rfl ?_
        refine G.get fl_2_11 26 rfl rfl dX2_become_15 ?_
        refine G.iload_n dX2_become_18 rfl ?_
        refine G.aaload 27 3 rfl rfl h13 (by rw [hj13]) dX2_become_19 ?_
        refine G.callV (st := []) (w' := fun r20 => (w_X2_X2 cI cL cC cM cS a b (va_up t_marks_used 4 r20.1) (va_up t_marks_bay 4 r20.2.1) (va_up t_marks_day 4 r20.2.2.1) (va_up t_marks_dues 4 r20.2.2.2.1) (va_up t_marks_draw 4 r20.2.2.2.2) t_next t_known u_marks_used u_marks_bay u_marks_day u_marks_dues u_marks_draw u_next u_known)) mv_X1_become lk_2_38 (c_X1_become l D ks cI cL cC cM cS (fun k => a (14 + k)) (fun k => b (14 + k)) (t_marks_used 4) (t_marks_bay 4) (t_marks_day 4) (t_marks_dues 4) (t_marks_draw 4) (u_marks_used 4) (u_marks_bay 4) (u_marks_day 4) (u_marks_dues 4) (u_marks_draw 4)) [14, 15, 16, 40, 41, 42] [0, 1, 2, 3, 4, 5, 6, 7, 8, 9, 10, 11, 12, 13, 17, 18, 19, 20, 21, 22, 23, 24, 25, 26, 27, 28, 29, 30, 31, 32, 33, 34, 35, 36, 37, 38, 39, 43, 44, 45, 46, 47, 48, 49, 50, 51] [0, 1, 2, 3, 4, 5, 6, 7, 8, 9, 10, 11, 12, 13, 46, 47, 48, 14, 15, 16, 17, 18, 19, 20, 21, 22, 23, 24, 25, 26, 27, 28, 29, 30, 31, 32, 33, 34, 35, 36, 49, 50, 51, 37, 38, 39, 40, 41, 42, 43, 44, 45] rfl rfl rfl rfl (by decide +kernel) (fun _ => rfl) rfl (by decide) (Nat.le_of_ble_eq_true rfl) dX2_become_20 (fun r20 => []) (fun _ => rfl) (fun r20 _ => ?_)
        refine G.iinc 1 (lv' := [some (.ref (a 0)), some (.ref (b 0)), some (.int (x2 + 1))]) dX2_become_23 rfl (by decide) (by decide) (Nat.le_of_ble_eq_true rfl) rfl rfl ?_
        refine G.goto 2 dX2_become_26 (by decide) ?_
        exact ih (va_up t_marks_used 4 r20.1) (va_up t_marks_bay 4 r20.2.1) (va_up t_marks_day 4 r20.2.2.1) (va_up t_marks_dues 4 r20.2.2.2.1) (va_up t_marks_draw 4 r20.2.2.2.2) t_next t_known u_marks_used u_marks_bay u_marks_day u_marks_dues u_marks_draw u_next u_known (x2 + 1)
      · refine G.aaload 1 3 rfl rfl h13 (by rw [hj13]) dX2_become_13 ?_
        refine G.aload_n dX2_become_14 rfl ?_
        refine G.get fl_2_11 26 rfl rfl dX2_become_15 ?_
        refine G.iload_n dX2_become_18 rfl ?_
        refine G.aaload 27 3 rfl rfl h13 (by rw [hj13]) dX2_become_19 ?_
        refine G.callV (st := []) (w' := fun r20 => (w_X2_X2 cI cL cC cM cS a b (va_up t_marks_used 5 r20.1) (va_up t_marks_bay 5 r20.2.1) (va_up t_marks_day 5 r20.2.2.1) (va_up t_marks_dues 5 r20.2.2.2.1) (va_up t_marks_draw 5 r20.2.2.2.2) t_next t_known u_marks_used u_marks_bay u_marks_day u_marks_dues u_marks_draw u_next u_known)) mv_X1_become lk_2_38 (c_X1_become l D ks cI cL cC cM cS (fun k => a (17 + k)) (fun k => b (17 + k)) (t_marks_used 5) (t_marks_bay 5) (t_marks_day 5) (t_marks_dues 5) (t_marks_draw 5) (u_marks_used 5) (u_marks_bay 5) (u_marks_day 5) (u_marks_dues 5) (u_marks_draw 5)) [17, 18, 19, 43, 44, 45] [0, 1, 2, 3, 4, 5, 6, 7, 8, 9, 10, 11, 12, 13, 14, 15, 16, 20, 21, 22, 23, 24, 25, 26, 27, 28, 29, 30, 31, 32, 33, 34, 35, 36, 37, 38, 39, 40, 41, 42, 46, 47, 48, 49, 50, 51] [0, 1, 2, 3, 4, 5, 6, 7, 8, 9, 10, 11, 12, 13, 14, 15, 16, 46, 47, 48, 17, 18, 19, 20, 21, 22, 23, 24, 25, 26, 27, 28, 29, 30, 31, 32, 33, 34, 35, 36, 37, 38, 39, 49, 50, 51, 40, 41, 42, 43, 44, 45] rfl rfl rfl rfl (by decide +kernel) (fun _ => rfl) rfl (by decide) (Nat.le_of_ble_eq_true rfl) dX2_become_20 (fun r20 => []) (fun _ => rfl) (fun r20 _ => ?_)
        refine G.iinc 1 (lv' := [some (.ref (a 0)), some (.ref (b 0)), some (.int (x2 + 1))]) dX2_become_23 rfl (by decide) (by decide) (Nat.le_of_ble_eq_true rfl) rfl rfl ?_
        refine G.goto 2 dX2_become_26 (by decide) ?_
        exact ih (va_up t_marks_used 5 r20.1) (va_up t_marks_bay 5 r20.2.1) (va_up t_marks_day 5 r20.2.2.1) (va_up t_marks_dues 5 r20.2.2.2.1) (va_up t_marks_draw 5 r20.2.2.2.2) t_next t_known u_marks_used u_marks_bay u_marks_day u_marks_dues u_marks_draw u_next u_known (x2 + 1)
      · refine G.aaload 1 3 rfl rfl h13 (by rw [hj13]) dX2_become_13 ?_
        refine G.aload_n dX2_become_14 rfl ?_
        refine G.get fl_2_11 26 rfl rfl dX2_become_15 ?_
        refine G.iload_n dX2_become_18 rfl ?_
        refine G.aaload 27 3 rfl rfl h13 (by rw [hj13]) dX2_become_19 ?_
        refine G.callV (st := []) (w' := fun r20 => (w_X2_X2 cI cL cC cM cS a b (va_up t_marks_used 6 r20.1) (va_up t_marks_bay 6 r20.2.1) (va_up t_marks_day 6 r20.2.2.1) (va_up t_marks_dues 6 r20.2.2.2.1) (va_up t_marks_draw 6 r20.2.2.2.2) t_next t_known u_marks_used u_marks_bay u_marks_day u_marks_dues u_marks_draw u_next u_known)) mv_X1_become lk_2_38 (c_X1_become l D ks cI cL cC cM cS (fun k => a (20 + k)) (fun k => b (20 + k)) (t_marks_used 6) (t_marks_bay 6) (t_marks_day 6) (t_marks_dues 6) (t_marks_draw 6) (u_marks_used 6) (u_marks_bay 6) (u_marks_day 6) (u_marks_dues 6) (u_marks_draw 6)) [20, 21, 22, 46, 47, 48] [0, 1, 2, 3, 4, 5, 6, 7, 8, 9, 10, 11, 12, 13, 14, 15, 16, 17, 18, 19, 23, 24, 25, 26, 27, 28, 29, 30, 31, 32, 33, 34, 35, 36, 37, 38, 39, 40, 41, 42, 43, 44, 45, 49, 50, 51] [0, 1, 2, 3, 4, 5, 6, 7, 8, 9, 10, 11, 12, 13, 14, 15, 16, 17, 18, 19, 46, 47, 48, 20, 21, 22, 23, 24, 25, 26, 27, 28, 29, 30, 31, 32, 33, 34, 35, 36, 37, 38, 39, 40, 41, 42, 49, 50, 51, 43, 44, 45] rfl rfl rfl rfl (by decide +kernel) (fun _ => rfl) rfl (by decide) (Nat.le_of_ble_eq_true rfl) dX2_become_20 (fun r20 => []) (fun _ => rfl) (fun r20 _ => ?_)
        refine G.iinc 1 (lv' := [some (.ref (a 0)), some (.ref (b 0)), some (.int (x2 + 1))]) dX2_become_23 rfl (by decide) (by decide) (Nat.le_of_ble_eq_true rfl) rfl rfl ?_
        refine G.goto 2 dX2_become_26 (by decide) ?_
        exact ih (va_up t_marks_used 6 r20.1) (va_up t_marks_bay 6 r20.2.1) (va_up t_marks_day 6 r20.2.2.1) (va_up t_marks_dues 6 r20.2.2.2.1) (va_up t_marks_draw 6 r20.2.2.2.2) t_next t_known u_marks_used u_marks_bay u_marks_day u_marks_dues u_marks_draw u_next u_known (x2 + 1)
      · refine G.aaload 1 3 rfl rfl h13 (by rw [hj13]) dX2_become_13 ?_
        refine G.aload_n dX2_become_14 rfl ?_
        refine G.get fl_2_11 26 rfl rfl dX2_become_15 ?_
        refine G.iload_n dX2_become_18 rfl ?_
        refine G.aaload 27 3 rfl rfl h13 (by rw [hj13]) dX2_become_19 ?_
        refine G.callV (st := []) (w' := fun r20 => (w_X2_X2 cI cL cC cM cS a b (va_up t_marks_used 7 r20.1) (va_up t_marks_bay 7 r20.2.1) (va_up t_marks_day 7 r20.2.2.1) (va_up t_marks_dues 7 r20.2.2.2.1) (va_up t_marks_draw 7 r20.2.2.2.2) t_next t_known u_marks_used u_marks_bay u_marks_day u_marks_dues u_marks_draw u_next u_known)) mv_X1_become lk_2_38 (c_X1_become l D ks cI cL cC cM cS (fun k => a (23 + k)) (fun k => b (23 + k)) (t_marks_used 7) (t_marks_bay 7) (t_marks_day 7) (t_marks_dues 7) (t_marks_draw 7) (u_marks_used 7) (u_marks_bay 7) (u_marks_day 7) (u_marks_dues 7) (u_marks_draw 7)) [23, 24, 25, 49, 50, 51] [0, 1, 2, 3, 4, 5, 6, 7, 8, 9, 10, 11, 12, 13, 14, 15, 16, 17, 18, 19, 20, 21, 22, 26, 27, 28, 29, 30, 31, 32, 33, 34, 35, 36, 37, 38, 39, 40, 41, 42, 43, 44, 45, 46, 47, 48] [0, 1, 2, 3, 4, 5, 6, 7, 8, 9, 10, 11, 12, 13, 14, 15, 16, 17, 18, 19, 20, 21, 22, 46, 47, 48, 23, 24, 25, 26, 27, 28, 29, 30, 31, 32, 33, 34, 35, 36, 37, 38, 39, 40, 41, 42, 43, 44, 45, 49, 50, 51] rfl rfl rfl rfl (by decide +kernel) (fun _ => rfl) rfl (by decide) (Nat.le_of_ble_eq_true rfl) dX2_become_20 (fun r20 => []) (fun _ => rfl) (fun r20 _ => ?_)
        refine G.iinc 1 (lv' := [some (.ref (a 0)), some (.ref (b 0)), some (.int (x2 + 1))]) dX2_become_23 rfl (by decide) (by decide) (Nat.le_of_ble_eq_true rfl) rfl rfl ?_
        refine G.goto 2 dX2_become_26 (by decide) ?_
        exact ih (va_up t_marks_used 7 r20.1) (va_up t_marks_bay 7 r20.2.1) (va_up t_marks_day 7 r20.2.2.1) (va_up t_marks_dues 7 r20.2.2.2.1) (va_up t_marks_draw 7 r20.2.2.2.2) t_next t_known u_marks_used u_marks_bay u_marks_day u_marks_dues u_marks_draw u_next u_known (x2 + 1)
set_option maxHeartbeats 4000000 in
set_option maxRecDepth 100000 in
theorem c_X2_become (l : Launch) (D : va_G) (ks : Nat × Nat) (cI cL cC cM cS : ClassId) (a b : Nat → Nat) (t_marks_used t_marks_bay : Nat → Nat → Int32) (t_marks_day t_marks_dues t_marks_draw : Nat → Int32) (t_next t_known : Int32) (u_marks_used u_marks_bay : Nat → Nat → Int32) (u_marks_day u_marks_dues u_marks_draw : Nat → Int32) (u_next u_known : Int32) : MT l D ks (tyz cI cL cC cM cS) yX2_become cX2_become 3 none { frames := 2, cells := 0, slots := 0, locals := 47 } [.ref (a 0), .ref (b 0)] (w_X2_X2 cI cL cC cM cS a b t_marks_used t_marks_bay t_marks_day t_marks_dues t_marks_draw t_next t_known u_marks_used u_marks_bay u_marks_day u_marks_dues u_marks_draw u_next u_known) (fun r : (Nat → Nat → Int32) × (Nat → Nat → Int32) × (Nat → Int32) × (Nat → Int32) × (Nat → Int32) × Int32 × Int32 => (none, (w_X2_X2 cI cL cC cM cS a b r.1 r.2.1 r.2.2.1 r.2.2.2.1 r.2.2.2.2.1 r.2.2.2.2.2.1 r.2.2.2.2.2.2 u_marks_used u_marks_bay u_marks_day u_marks_dues u_marks_draw u_next u_known))) (f_X2_become t_marks_used t_marks_bay t_marks_day t_marks_dues t_marks_draw t_next t_known u_marks_used u_marks_bay u_marks_day u_marks_dues u_marks_draw u_next u_known) := by
  refine MT.of 1 [some (.ref (a 0)), some (.ref (b 0)), none] (by decide) (Nat.le_of_ble_eq_true rfl) rfl ?_
  unfold f_X2_become
  refine G.iconst 0 dX2_become_0 (by decide) ?_
  refine G.istore_n (lv' := [some (.ref (a 0)), some (.ref (b 0)), some (.int 0)]) dX2_become_1 (by decide) (Nat.le_of_ble_eq_true rfl) rfl rfl ?_
  exact g_X2_become_c2 l D ks cI cL cC cM cS a b fu t_marks_used t_marks_bay t_marks_day t_marks_dues t_marks_draw t_next t_known u_marks_used u_marks_bay u_marks_day u_marks_dues u_marks_draw u_next u_known 0
set_option maxHeartbeats 4000000 in
set_option maxRecDepth 100000 in
theorem c_X2_forget (l : Launch) (D : va_G) (ks : Nat × Nat) (cI cL cC cM cS : ClassId) (a : Nat → Nat) (t_marks_used t_marks_bay : Nat → Nat → Int32) (t_marks_day t_marks_dues t_marks_draw : Nat → Int32) (t_next t_known : Int32) : MT l D ks (tyz cI cL cC cM cS) yX2_forget cX2_forget 1 none { frames := 0, cells := 0, slots := 0, locals := 0 } [.ref (a 0)] (w_X2 cI cL cC cM cS a t_marks_used t_marks_bay t_marks_day t_marks_dues t_marks_draw t_next t_known) (fun r : Int32 => (none, (w_X2 cI cL cC cM cS a t_marks_used t_marks_bay t_marks_day t_marks_dues t_marks_draw t_next r))) (f_X2_forget t_known) := by
  refine MT.of 0 [some (.ref (a 0))] (by decide) (Nat.le_of_ble_eq_true rfl) rfl ?_
  unfold f_X2_forget
  refine G.aload_n dX2_forget_0 rfl ?_
  refine G.iconst 0 dX2_forget_1 (by decide) ?_
  refine G.put (w' := (w_X2 cI cL cC cM cS a t_marks_used t_marks_bay t_marks_day t_marks_dues t_marks_draw t_next 0)) fp_2_26 0 rfl (Nat.le_of_ble_eq_true rfl) rfl rfl rfl dX2_forget_2 ?_
  exact G.vret rfl rfl dX2_forget_5
set_option maxHeartbeats 4000000 in
set_option maxRecDepth 100000 in
theorem c_X2_giveLatest (l : Launch) (D : va_G) (ks : Nat × Nat) (cI cL cC cM cS : ClassId) (a b : Nat → Nat) (t_marks_used t_marks_bay : Nat → Nat → Int32) (t_marks_day t_marks_dues t_marks_draw : Nat → Int32) (t_next t_known : Int32) (u_kind u_used u_bay u_likes u_who u_lamp u_due u_gain : Nat → Int32) (u_count u_day u_dues u_draw : Int32) : MT l D ks (tyz cI cL cC cM cS) yX2_giveLatest cX2_giveLatest 2 none { frames := 3, cells := 0, slots := 0, locals := 65 } [.ref (a 0), .ref (b 0)] (w_X2_X3 cI cL cC cM cS a b t_marks_used t_marks_bay t_marks_day t_marks_dues t_marks_draw t_next t_known u_kind u_used u_bay u_likes u_who u_lamp u_due u_gain u_count u_day u_dues u_draw) (fun r : Int32 × Int32 × (Nat → Int32) × (Nat → Int32) × (Nat → Int32) × Int32 × Int32 × Int32 => (none, (w_X2_X3 cI cL cC cM cS a b t_marks_used t_marks_bay t_marks_day t_marks_dues t_marks_draw r.1 r.2.1 u_kind r.2.2.1 r.2.2.2.1 u_likes r.2.2.2.2.1 u_lamp u_due u_gain u_count r.2.2.2.2.2.1 r.2.2.2.2.2.2.1 r.2.2.2.2.2.2.2))) (f_X2_giveLatest t_marks_used t_marks_bay t_marks_day t_marks_dues t_marks_draw t_next t_known u_used u_bay u_who u_count u_day u_dues u_draw) := by
  refine MT.of 0 [some (.ref (a 0)), some (.ref (b 0))] (by decide) (Nat.le_of_ble_eq_true rfl) rfl ?_
  unfold f_X2_giveLatest
  refine G.aload_n dX2_giveLatest_0 rfl ?_
  refine G.get fl_2_26 0 rfl rfl dX2_giveLatest_1 ?_
  refine G.if_le 46 dX2_giveLatest_4 (by decide) (fun h4 => ?_) (fun h4 => ?_)
  · exact G.vret rfl rfl dX2_giveLatest_46
  · refine G.aload_n dX2_giveLatest_7 rfl ?_
    refine G.aload_n dX2_giveLatest_8 rfl ?_
    refine G.get fl_2_18 0 rfl rfl dX2_giveLatest_9 ?_
    refine G.bipush 8 dX2_giveLatest_12 (by decide) ?_
    refine G.iadd dX2_giveLatest_14 ?_
    refine G.iconst 1 dX2_giveLatest_15 (by decide) ?_
    refine G.isub dX2_giveLatest_16 ?_
    refine G.bipush 8 dX2_giveLatest_17 (by decide) ?_
    refine G.irem dX2_giveLatest_19 (by decide) ?_
    refine G.put (w' := (w_X2_X3 cI cL cC cM cS a b t_marks_used t_marks_bay t_marks_day t_marks_dues t_marks_draw (((t_next + 8) - 1) - ((t_next + 8) - 1) / 8 * 8) t_known u_kind u_used u_bay u_likes u_who u_lamp u_due u_gain u_count u_day u_dues u_draw)) fp_2_18 0 rfl (Nat.le_of_ble_eq_true rfl) rfl rfl rfl dX2_giveLatest_20 ?_
    refine G.aload_n dX2_giveLatest_23 rfl ?_
    refine G.dup dX2_giveLatest_24 rfl ?_
    refine G.get fl_2_26 0 rfl rfl dX2_giveLatest_25 ?_
    refine G.iconst 1 dX2_giveLatest_28 (by decide) ?_
    refine G.isub dX2_giveLatest_29 ?_
    refine G.put (w' := (w_X2_X3 cI cL cC cM cS a b t_marks_used t_marks_bay t_marks_day t_marks_dues t_marks_draw (((t_next + 8) - 1) - ((t_next + 8) - 1) / 8 * 8) (t_known - 1) u_kind u_used u_bay u_likes u_who u_lamp u_due u_gain u_count u_day u_dues u_draw)) fp_2_26 0 rfl (Nat.le_of_ble_eq_true rfl) rfl rfl rfl dX2_giveLatest_30 ?_
    refine G.aload_n dX2_giveLatest_33 rfl ?_
    refine G.get fl_2_11 0 rfl rfl dX2_giveLatest_34 ?_
    refine G.aload_n dX2_giveLatest_37 rfl ?_
    refine G.get fl_2_18 0 rfl rfl dX2_giveLatest_38 ?_
    refine G.chk (fun h41 => ?_)
    have hl41 := inb_lt h41
    generalize hj41 : (((t_next + 8) - 1) - ((t_next + 8) - 1) / 8 * 8).toNatClampNeg = j41 at hl41 ⊢
    rcases g_or8 hl41 with rfl | rfl | rfl | rfl | rfl | rfl | rfl | rfl
    · refine G.aaload 1 3 rfl rfl h41 (by rw [hj41]) dX2_giveLatest_41 ?_
      refine G.aload_n dX2_giveLatest_42 rfl ?_
      refine G.callV (st := []) (w' := fun r43 => (w_X2_X3 cI cL cC cM cS a b t_marks_used t_marks_bay t_marks_day t_marks_dues t_marks_draw (((t_next + 8) - 1) - ((t_next + 8) - 1) / 8 * 8) (t_known - 1) u_kind r43.1 r43.2.1 u_likes r43.2.2.1 u_lamp u_due u_gain u_count r43.2.2.2.1 r43.2.2.2.2.1 r43.2.2.2.2.2)) mv_X1_give lk_2_35 (c_X1_give l D ks cI cL cC cM cS (fun k => a (2 + k)) b (t_marks_used 0) (t_marks_bay 0) (t_marks_day 0) (t_marks_dues 0) (t_marks_draw 0) u_kind u_used u_bay u_likes u_who u_lamp u_due u_gain u_count u_day u_dues u_draw) [2, 3, 4, 26, 27, 28, 29, 30, 31, 32, 33, 34] [0, 1, 5, 6, 7, 8, 9, 10, 11, 12, 13, 14, 15, 16, 17, 18, 19, 20, 21, 22, 23, 24, 25] [0, 1, 23, 24, 25, 2, 3, 4, 5, 6, 7, 8, 9, 10, 11, 12, 13, 14, 15, 16, 17, 18, 19, 20, 21, 22, 26, 27, 28, 29, 30, 31, 32, 33, 34] rfl rfl rfl rfl (by decide +kernel) (fun _ => rfl) rfl (by decide) (Nat.le_of_ble_eq_true rfl) dX2_giveLatest_43 (fun r43 => []) (fun _ => rfl) (fun r43 _ => ?_)
      exact G.vret rfl rfl dX2_giveLatest_46
    · refine G.aaload 1 3 rfl rfl h41 (by rw [hj41]) dX2_giveLatest_41 ?_
      refine G.aload_n dX2_giveLatest_42 rfl ?_
      refine G.callV (st := []) (w' := fun r43 => (w_X2_X3 cI cL cC cM cS a b t_marks_used t_marks_bay t_marks_day t_marks_dues t_marks_draw (((t_next + 8) - 1) - ((t_next + 8) - 1) / 8 * 8) (t_known - 1) u_kind r43.1 r43.2.1 u_likes r43.2.2.1 u_lamp u_due u_gain u_count r43.2.2.2.1 r43.2.2.2.2.1 r43.2.2.2.2.2)) mv_X1_give lk_2_35 (c_X1_give l D ks cI cL cC cM cS (fun k => a (5 + k)) b (t_marks_used 1) (t_marks_bay 1) (t_marks_day 1) (t_marks_dues 1) (t_marks_draw 1) u_kind u_used u_bay u_likes u_who u_lamp u_due u_gain u_count u_day u_dues u_draw) [5, 6, 7, 26, 27, 28, 29, 30, 31, 32, 33, 34] [0, 1, 2, 3, 4, 8, 9, 10, 11, 12, 13, 14, 15, 16, 17, 18, 19, 20, 21, 22, 23, 24, 25] [0, 1, 2, 3, 4, 23, 24, 25, 5, 6, 7, 8, 9, 10, 11, 12, 13, 14, 15, 16, 17, 18, 19, 20, 21, 22, 26, 27, 28, 29, 30, 31, 32, 33, 34] rfl rfl rfl rfl (by decide +kernel) (fun _ => rfl) rfl (by decide) (Nat.le_of_ble_eq_true rfl) dX2_giveLatest_43 (fun r43 => []) (fun _ => rfl) (fun r43 _ => ?_)
      exact G.vret rfl rfl dX2_giveLatest_46
    · refine G.aaload 1 3 rfl rfl h41 (by rw [hj41]) dX2_giveLatest_41 ?_
      refine G.aload_n dX2_giveLatest_42 rfl ?_
      refine G.callV (st := []) (w' := fun r43 => (w_X2_X3 cI cL cC cM cS a b t_marks_used t_marks_bay t_marks_day t_marks_dues t_marks_draw (((t_next + 8) - 1) - ((t_next + 8) - 1) / 8 * 8) (t_known - 1) u_kind r43.1 r43.2.1 u_likes r43.2.2.1 u_lamp u_due u_gain u_count r43.2.2.2.1 r43.2.2.2.2.1 r43.2.2.2.2.2)) mv_X1_give lk_2_35 (c_X1_give l D ks cI cL cC cM cS (fun k => a (8 + k)) b (t_marks_used 2) (t_marks_bay 2) (t_marks_day 2) (t_marks_dues 2) (t_marks_draw 2) u_kind u_used u_bay u_likes u_who u_lamp u_due u_gain u_count u_day u_dues u_draw) [8, 9, 10, 26, 27, 28, 29, 30, 31, 32, 33, 34] [0, 1, 2, 3, 4, 5, 6, 7, 11, 12, 13, 14, 15, 16, 17, 18, 19, 20, 21, 22, 23, 24, 25] [0, 1, 2, 3, 4, 5, 6, 7, 23, 24, 25, 8, 9, 10, 11, 12, 13, 14, 15, 16, 17, 18, 19, 20, 21, 22, 26, 27, 28, 29, 30, 31, 32, 33, 34] rfl rfl rfl rfl (by decide +kernel) (fun _ => rfl) rfl (by decide) (Nat.le_of_ble_eq_true rfl) dX2_giveLatest_43 (fun r43 => []) (fun _ => rfl) (fun r43 _ => ?_)
      exact G.vret rfl rfl dX2_giveLatest_46
    · refine G.aaload 1 3 rfl rfl h41 (by rw [hj41]) dX2_giveLatest_41 ?_
      refine G.aload_n dX2_giveLatest_42 rfl ?_
      refine G.callV (st := []) (w' := fun r43 => (w_X2_X3 cI cL cC cM cS a b t_marks_used t_marks_bay t_marks_day t_marks_dues t_marks_draw (((t_next + 8) - 1) - ((t_next + 8) - 1) / 8 * 8) (t_known - 1) u_kind r43.1 r43.2.1 u_likes r43.2.2.1 u_lamp u_due u_gain u_count r43.2.2.2.1 r43.2.2.2.2.1 r43.2.2.2.2.2)) mv_X1_give lk_2_35 (c_X1_give l D ks cI cL cC cM cS (fun k => a (11 + k)) b (t_marks_used 3) (t_marks_bay 3) (t_marks_day 3) (t_marks_dues 3) (t_marks_draw 3) u_kind u_used u_bay u_likes u_who u_lamp u_due u_gain u_count u_day u_dues u_draw) [11, 12, 13, 26, 27, 28, 29, 30, 31, 32, 33, 34] [0, 1, 2, 3, 4, 5, 6, 7, 8, 9, 10, 14, 15, 16, 17, 18, 19, 20, 21, 22, 23, 24, 25] [0, 1, 2, 3, 4, 5, 6, 7, 8, 9, 10, 23, 24, 25, 11, 12, 13, 14, 15, 16, 17, 18, 19, 20, 21, 22, 26, 27, 28, 29, 30, 31, 32, 33, 34] rfl rfl rfl rfl (by decide +kernel) (fun _ => rfl) rfl (by decide) (Nat.le_of_ble_eq_true rfl) dX2_giveLatest_43 (fun r43 => []) (fun _ => rfl) (fun r43 _ => ?_)
      exact G.vret rfl rfl dX2_giveLatest_46
    · refine G.aaload 1 3 rfl rfl h41 (by rw [hj41]) dX2_giveLatest_41 ?_
      refine G.aload_n dX2_giveLatest_42 rfl ?_
      refine G.callV (st := []) (w' := fun r43 => (w_X2_X3 cI cL cC cM cS a b t_marks_used t_marks_bay t_marks_day t_marks_dues t_marks_draw (((t_next + 8) - 1) - ((t_next + 8) - 1) / 8 * 8) (t_known - 1) u_kind r43.1 r43.2.1 u_likes r43.2.2.1 u_lamp u_due u_gain u_count r43.2.2.2.1 r43.2.2.2.2.1 r43.2.2.2.2.2)) mv_X1_give lk_2_35 (c_X1_give l D ks cI cL cC cM cS (fun k => a (14 + k)) b (t_marks_used 4) (t_marks_bay 4) (t_marks_day 4) (t_marks_dues 4) (t_marks_draw 4) u_kind u_used u_bay u_likes u_who u_lamp u_due u_gain u_count u_day u_dues u_draw) [14, 15, 16, 26, 27, 28, 29, 30, 31, 32, 33, 34] [0, 1, 2, 3, 4, 5, 6, 7, 8, 9, 10, 11, 12, 13, 17, 18, 19, 20, 21, 22, 23, 24, 25] [0, 1, 2, 3, 4, 5, 6, 7, 8, 9, 10, 11, 12, 13, 23, 24, 25, 14, 15, 16, 17, 18, 19, 20, 21, 22, 26, 27, 28, 29, 30, 31, 32, 33, 34] rfl rfl rfl rfl (by decide +kernel) (fun _ => rfl) rfl (by decide) (Nat.le_of_ble_eq_true rfl) dX2_giveLatest_43 (fun r43 => []) (fun _ => rfl) (fun r43 _ => ?_)
      exact G.vret rfl rfl dX2_giveLatest_46
    · refine G.aaload 1 3 rfl rfl h41 (by rw [hj41]) dX2_giveLatest_41 ?_
      refine G.aload_n dX2_giveLatest_42 rfl ?_
      refine G.callV (st := []) (w' := fun r43 => (w_X2_X3 cI cL cC cM cS a b t_marks_used t_marks_bay t_marks_day t_marks_dues t_marks_draw (((t_next + 8) - 1) - ((t_next + 8) - 1) / 8 * 8) (t_known - 1) u_kind r43.1 r43.2.1 u_likes r43.2.2.1 u_lamp u_due u_gain u_count r43.2.2.2.1 r43.2.2.2.2.1 r43.2.2.2.2.2)) mv_X1_give lk_2_35 (c_X1_give l D ks cI cL cC cM cS (fun k => a (17 + k)) b (t_marks_used 5) (t_marks_bay 5) (t_marks_day 5) (t_marks_dues 5) (t_marks_draw 5) u_kind u_used u_bay u_likes u_who u_lamp u_due u_gain u_count u_day u_dues u_draw) [17, 18, 19, 26, 27, 28, 29, 30, 31, 32, 33, 34] [0, 1, 2, 3, 4, 5, 6, 7, 8, 9, 10, 11, 12, 13, 14, 15, 16, 20, 21, 22, 23, 24, 25] [0, 1, 2, 3, 4, 5, 6, 7, 8, 9, 10, 11, 12, 13, 14, 15, 16, 23, 24, 25, 17, 18, 19, 20, 21, 22, 26, 27, 28, 29, 30, 31, 32, 33, 34] rfl rfl rfl rfl (by decide +kernel) (fun _ => rfl) rfl (by decide) (Nat.le_of_ble_eq_true rfl) dX2_giveLatest_43 (fun r43 => []) (fun _ => rfl) (fun r43 _ => ?_)
      exact G.vret rfl rfl dX2_giveLatest_46
    · refine G.aaload 1 3 rfl rfl h41 (by rw [hj41]) dX2_giveLatest_41 ?_
      refine G.aload_n dX2_giveLatest_42 rfl ?_
      refine G.callV (st := []) (w' := fun r43 => (w_X2_X3 cI cL cC cM cS a b t_marks_used t_marks_bay t_marks_day t_marks_dues t_marks_draw (((t_next + 8) - 1) - ((t_next + 8) - 1) / 8 * 8) (t_known - 1) u_kind r43.1 r43.2.1 u_likes r43.2.2.1 u_lamp u_due u_gain u_count r43.2.2.2.1 r43.2.2.2.2.1 r43.2.2.2.2.2)) mv_X1_give lk_2_35 (c_X1_give l D ks cI cL cC cM cS (fun k => a (20 + k)) b (t_marks_used 6) (t_marks_bay 6) (t_marks_day 6) (t_marks_dues 6) (t_marks_draw 6) u_kind u_used u_bay u_likes u_who u_lamp u_due u_gain u_count u_day u_dues u_draw) [20, 21, 22, 26, 27, 28, 29, 30, 31, 32, 33, 34] [0, 1, 2, 3, 4, 5, 6, 7, 8, 9, 10, 11, 12, 13, 14, 15, 16, 17, 18, 19, 23, 24, 25] [0, 1, 2, 3, 4, 5, 6, 7, 8, 9, 10, 11, 12, 13, 14, 15, 16, 17, 18, 19, 23, 24, 25, 20, 21, 22, 26, 27, 28, 29, 30, 31, 32, 33, 34] rfl rfl rfl rfl (by decide +kernel) (fun _ => rfl) rfl (by decide) (Nat.le_of_ble_eq_true rfl) dX2_giveLatest_43 (fun r43 => []) (fun _ => rfl) (fun r43 _ => ?_)
      exact G.vret rfl rfl dX2_giveLatest_46
    · refine G.aaload 1 3 rfl rfl h41 (by rw [hj41]) dX2_giveLatest_41 ?_
      refine G.aload_n dX2_giveLatest_42 rfl ?_
      refine G.callV (st := []) (w' := fun r43 => (w_X2_X3 cI cL cC cM cS a b t_marks_used t_marks_bay t_marks_day t_marks_dues t_marks_draw (((t_next + 8) - 1) - ((t_next + 8) - 1) / 8 * 8) (t_known - 1) u_kind r43.1 r43.2.1 u_likes r43.2.2.1 u_lamp u_due u_gain u_count r43.2.2.2.1 r43.2.2.2.2.1 r43.2.2.2.2.2)) mv_X1_give lk_2_35 (c_X1_give l D ks cI cL cC cM cS (fun k => a (23 + k)) b (t_marks_used 7) (t_marks_bay 7) (t_marks_day 7) (t_marks_dues 7) (t_marks_draw 7) u_kind u_used u_bay u_likes u_who u_lamp u_due u_gain u_count u_day u_dues u_draw) [23, 24, 25, 26, 27, 28, 29, 30, 31, 32, 33, 34] [0, 1, 2, 3, 4, 5, 6, 7, 8, 9, 10, 11, 12, 13, 14, 15, 16, 17, 18, 19, 20, 21, 22] [0, 1, 2, 3, 4, 5, 6, 7, 8, 9, 10, 11, 12, 13, 14, 15, 16, 17, 18, 19, 20, 21, 22, 23, 24, 25, 26, 27, 28, 29, 30, 31, 32, 33, 34] rfl rfl rfl rfl (by decide +kernel) (fun _ => rfl) rfl (by decide) (Nat.le_of_ble_eq_true rfl) dX2_giveLatest_43 (fun r43 => []) (fun _ => rfl) (fun r43 _ => ?_)
      exact G.vret rfl rfl dX2_giveLatest_46
set_option maxHeartbeats 4000000 in
set_option maxRecDepth 100000 in
theorem c_X2_keep (l : Launch) (D : va_G) (ks : Nat × Nat) (cI cL cC cM cS : ClassId) (a b : Nat → Nat) (t_marks_used t_marks_bay : Nat → Nat → Int32) (t_marks_day t_marks_dues t_marks_draw : Nat → Int32) (t_next t_known : Int32) (u_kind u_used u_bay u_likes u_who u_lamp u_due u_gain : Nat → Int32) (u_count u_day u_dues u_draw : Int32) : MT l D ks (tyz cI cL cC cM cS) yX2_keep cX2_keep 2 none { frames := 2, cells := 0, slots := 0, locals := 47 } [.ref (a 0), .ref (b 0)] (w_X2_X3 cI cL cC cM cS a b t_marks_used t_marks_bay t_marks_day t_marks_dues t_marks_draw t_next t_known u_kind u_used u_bay u_likes u_who u_lamp u_due u_gain u_count u_day u_dues u_draw) (fun r : (Nat → Nat → Int32) × (Nat → Nat → Int32) × (Nat → Int32) × (Nat → Int32) × (Nat → Int32) × Int32 × Int32 => (none, (w_X2_X3 cI cL cC cM cS a b r.1 r.2.1 r.2.2.1 r.2.2.2.1 r.2.2.2.2.1 r.2.2.2.2.2.1 r.2.2.2.2.2.2 u_kind u_used u_bay u_likes u_who u_lamp u_due u_gain u_count u_day u_dues u_draw))) (f_X2_keep t_marks_used t_marks_bay t_marks_day t_marks_dues t_marks_draw t_next t_known u_used u_bay u_day u_dues u_draw) := by
  refine MT.of 0 [some (.ref (a 0)), some (.ref (b 0))] (by decide) (Nat.le_of_ble_eq_true rfl) rfl ?_
  unfold f_X2_keep
  refine G.aload_n dX2_keep_0 rfl ?_
  refine G.get fl_2_11 0 rfl rfl dX2_keep_1 ?_
  refine G.aload_n dX2_keep_4 rfl ?_
  refine G.get fl_2_18 0 rfl rfl dX2_keep_5 ?_
  refine G.chk (fun h8 => ?_)
  have hl8 := inb_lt h8
  generalize hj8 : t_next.toNatClampNeg = j8 at hl8 ⊢
  rcases g_or8 hl8 with rfl | rfl | rfl | rfl | rfl | rfl | rfl | rfl
  · refine G.aaload 1 3 rfl rfl h8 (by rw [hj8]) dX2_keep_8 ?_
    refine G.aload_n dX2_keep_9 rfl ?_
    refine G.callV (st := []) (w' := fun r10 => (w_X2_X3 cI cL cC cM cS a b (va_up t_marks_used 0 r10.1) (va_up t_marks_bay 0 r10.2.1) (va_up t_marks_day 0 r10.2.2.1) (va_up t_marks_dues 0 r10.2.2.2.1) (va_up t_marks_draw 0 r10.2.2.2.2) t_next t_known u_kind u_used u_bay u_likes u_who u_lamp u_due u_gain u_count u_day u_dues u_draw)) mv_X1_note lk_2_22 (c_X1_note l D ks cI cL cC cM cS (fun k => a (2 + k)) b (t_marks_used 0) (t_marks_bay 0) (t_marks_day 0) (t_marks_dues 0) (t_marks_draw 0) u_kind u_used u_bay u_likes u_who u_lamp u_due u_gain u_count u_day u_dues u_draw) [2, 3, 4, 26, 27, 28, 29, 30, 31, 32, 33, 34] [0, 1, 5, 6, 7, 8, 9, 10, 11, 12, 13, 14, 15, 16, 17, 18, 19, 20, 21, 22, 23, 24, 25] [0, 1, 23, 24, 25, 2, 3, 4, 5, 6, 7, 8, 9, 10, 11, 12, 13, 14, 15, 16, 17, 18, 19, 20, 21, 22, 26, 27, 28, 29, 30, 31, 32, 33, 34] rfl rfl rfl rfl (by decide +kernel) (fun _ => rfl) rfl (by decide) (Nat.le_of_ble_eq_true rfl) dX2_keep_10 (fun r10 => []) (fun _ => rfl) (fun r10 _ => ?_)
    refine G.aload_n dX2_keep_13 rfl ?_
    refine G.aload_n dX2_keep_14 rfl ?_
    refine G.get fl_2_18 0 rfl rfl dX2_keep_15 ?_
    refine G.iconst 1 dX2_keep_18 (by decide) ?_
    refine G.iadd dX2_keep_19 ?_
    refine G.bipush 8 dX2_keep_20 (by decide) ?_
    refine G.irem dX2_keep_22 (by decide) ?_
    refine G.put (w' := (w_X2_X3 cI cL cC cM cS a b (va_up t_marks_used 0 r10.1) (va_up t_marks_bay 0 r10.2.1) (va_up t_marks_day 0 r10.2.2.1) (va_up t_marks_dues 0 r10.2.2.2.1) (va_up t_marks_draw 0 r10.2.2.2.2) ((t_next + 1) - (t_next + 1) / 8 * 8) t_known u_kind u_used u_bay u_likes u_who u_lamp u_due u_gain u_count u_day u_dues u_draw)) fp_2_18 0 rfl (Nat.le_of_ble_eq_true rfl) rfl rfl rfl dX2_keep_23 ?_
    refine G.aload_n dX2_keep_26 rfl ?_
    refine G.bipush 8 dX2_keep_27 (by decide) ?_
    refine G.aload_n dX2_keep_29 rfl ?_
    refine G.get fl_2_26 0 rfl rfl dX2_keep_30 ?_
    refine G.iconst 1 dX2_keep_33 (by decide) ?_
    refine G.iadd dX2_keep_34 ?_
    refine G.mmin lk_2_29 mst_min mini mcd_min (by decide) (Nat.le_of_ble_eq_true rfl) dX2_keep_35 ?_
    refine G.topi (fun v35 => ?_)
    refine G.put (w' := (w_X2_X3 cI cL cC cM cS a b (va_up t_marks_used 0 r10.1) (va_up t_marks_bay 0 r10.2.1) (va_up t_marks_day 0 r10.2.2.1) (va_up t_marks_dues 0 r10.2.2.2.1) (va_up t_marks_draw 0 r10.2.2.2.2) ((t_next + 1) - (t_next + 1) / 8 * 8) v35 u_kind u_used u_bay u_likes u_who u_lamp u_due u_gain u_count u_day u_dues u_draw)) fp_2_26 0 rfl (Nat.le_of_ble_eq_true rfl) rfl rfl rfl dX2_keep_38 ?_
    exact G.vret rfl rfl dX2_keep_41
  · refine G.aaload 1 3 rfl rfl h8 (by rw [hj8]) dX2_keep_8 ?_
    refine G.aload_n dX2_keep_9 rfl ?_
    refine G.callV (st := []) (w' := fun r10 => (w_X2_X3 cI cL cC cM cS a b (va_up t_marks_used 1 r10.1) (va_up t_marks_bay 1 r10.2.1) (va_up t_marks_day 1 r10.2.2.1) (va_up t_marks_dues 1 r10.2.2.2.1) (va_up t_marks_draw 1 r10.2.2.2.2) t_next t_known u_kind u_used u_bay u_likes u_who u_lamp u_due u_gain u_count u_day u_dues u_draw)) mv_X1_note lk_2_22 (c_X1_note l D ks cI cL cC cM cS (fun k => a (5 + k)) b (t_marks_used 1) (t_marks_bay 1) (t_marks_day 1) (t_marks_dues 1) (t_marks_draw 1) u_kind u_used u_bay u_likes u_who u_lamp u_due u_gain u_count u_day u_dues u_draw) [5, 6, 7, 26, 27, 28, 29, 30, 31, 32, 33, 34] [0, 1, 2, 3, 4, 8, 9, 10, 11, 12, 13, 14, 15, 16, 17, 18, 19, 20, 21, 22, 23, 24, 25] [0, 1, 2, 3, 4, 23, 24, 25, 5, 6, 7, 8, 9, 10, 11, 12, 13, 14, 15, 16, 17, 18, 19, 20, 21, 22, 26, 27, 28, 29, 30, 31, 32, 33, 34] rfl rfl rfl rfl (by decide +kernel) (fun _ => rfl) rfl (by decide) (Nat.le_of_ble_eq_true rfl) dX2_keep_10 (fun r10 => []) (fun _ => rfl) (fun r10 _ => ?_)
    refine G.aload_n dX2_keep_13 rfl ?_
    refine G.aload_n dX2_keep_14 rfl ?_
    refine G.get fl_2_18 0 rfl rfl dX2_keep_15 ?_
    refine G.iconst 1 dX2_keep_18 (by decide) ?_
    refine G.iadd dX2_keep_19 ?_
    refine G.bipush 8 dX2_keep_20 (by decide) ?_
    refine G.irem dX2_keep_22 (by decide) ?_
    refine G.put (w' := (w_X2_X3 cI cL cC cM cS a b (va_up t_marks_used 1 r10.1) (va_up t_marks_bay 1 r10.2.1) (va_up t_marks_day 1 r10.2.2.1) (va_up t_marks_dues 1 r10.2.2.2.1) (va_up t_marks_draw 1 r10.2.2.2.2) ((t_next + 1) - (t_next + 1) / 8 * 8) t_known u_kind u_used u_bay u_likes u_who u_lamp u_due u_gain u_count u_day u_dues u_draw)) fp_2_18 0 rfl (Nat.le_of_ble_eq_true rfl) rfl rfl rfl dX2_keep_23 ?_
    refine G.aload_n dX2_keep_26 rfl ?_
    refine G.bipush 8 dX2_keep_27 (by decide) ?_
    refine G.aload_n dX2_keep_29 rfl ?_
    refine G.get fl_2_26 0 rfl rfl dX2_keep_30 ?_
    refine G.iconst 1 dX2_keep_33 (by decide) ?_
    refine G.iadd dX2_keep_34 ?_
    refine G.mmin lk_2_29 mst_min mini mcd_min (by decide) (Nat.le_of_ble_eq_true rfl) dX2_keep_35 ?_
    refine G.topi (fun v35 => ?_)
    refine G.put (w' := (w_X2_X3 cI cL cC cM cS a b (va_up t_marks_used 1 r10.1) (va_up t_marks_bay 1 r10.2.1) (va_up t_marks_day 1 r10.2.2.1) (va_up t_marks_dues 1 r10.2.2.2.1) (va_up t_marks_draw 1 r10.2.2.2.2) ((t_next + 1) - (t_next + 1) / 8 * 8) v35 u_kind u_used u_bay u_likes u_who u_lamp u_due u_gain u_count u_day u_dues u_draw)) fp_2_26 0 rfl (Nat.le_of_ble_eq_true rfl) rfl rfl rfl dX2_keep_38 ?_
    exact G.vret rfl rfl dX2_keep_41
  · refine G.aaload 1 3 rfl rfl h8 (by rw [hj8]) dX2_keep_8 ?_
    refine G.aload_n dX2_keep_9 rfl ?_
    refine G.callV (st := []) (w' := fun r10 => (w_X2_X3 cI cL cC cM cS a b (va_up t_marks_used 2 r10.1) (va_up t_marks_bay 2 r10.2.1) (va_up t_marks_day 2 r10.2.2.1) (va_up t_marks_dues 2 r10.2.2.2.1) (va_up t_marks_draw 2 r10.2.2.2.2) t_next t_known u_kind u_used u_bay u_likes u_who u_lamp u_due u_gain u_count u_day u_dues u_draw)) mv_X1_note lk_2_22 (c_X1_note l D ks cI cL cC cM cS (fun k => a (8 + k)) b (t_marks_used 2) (t_marks_bay 2) (t_marks_day 2) (t_marks_dues 2) (t_marks_draw 2) u_kind u_used u_bay u_likes u_who u_lamp u_due u_gain u_count u_day u_dues u_draw) [8, 9, 10, 26, 27, 28, 29, 30, 31, 32, 33, 34] [0, 1, 2, 3, 4, 5, 6, 7, 11, 12, 13, 14, 15, 16, 17, 18, 19, 20, 21, 22, 23, 24, 25] [0, 1, 2, 3, 4, 5, 6, 7, 23, 24, 25, 8, 9, 10, 11, 12, 13, 14, 15, 16, 17, 18, 19, 20, 21, 22, 26, 27, 28, 29, 30, 31, 32, 33, 34] rfl rfl rfl rfl (by decide +kernel) (fun _ => rfl) rfl (by decide) (Nat.le_of_ble_eq_true rfl) dX2_keep_10 (fun r10 => []) (fun _ => rfl) (fun r10 _ => ?_)
    refine G.aload_n dX2_keep_13 rfl ?_
    refine G.aload_n dX2_keep_14 rfl ?_
    refine G.get fl_2_18 0 rfl rfl dX2_keep_15 ?_
    refine G.iconst 1 dX2_keep_18 (by decide) ?_
    refine G.iadd dX2_keep_19 ?_
    refine G.bipush 8 dX2_keep_20 (by decide) ?_
    refine G.irem dX2_keep_22 (by decide) ?_
    refine G.put (w' := (w_X2_X3 cI cL cC cM cS a b (va_up t_marks_used 2 r10.1) (va_up t_marks_bay 2 r10.2.1) (va_up t_marks_day 2 r10.2.2.1) (va_up t_marks_dues 2 r10.2.2.2.1) (va_up t_marks_draw 2 r10.2.2.2.2) ((t_next + 1) - (t_next + 1) / 8 * 8) t_known u_kind u_used u_bay u_likes u_who u_lamp u_due u_gain u_count u_day u_dues u_draw)) fp_2_18 0 rfl (Nat.le_of_ble_eq_true rfl) rfl rfl rfl dX2_keep_23 ?_
    refine G.aload_n dX2_keep_26 rfl ?_
    refine G.bipush 8 dX2_keep_27 (by decide) ?_
    refine G.aload_n dX2_keep_29 rfl ?_
    refine G.get fl_2_26 0 rfl rfl dX2_keep_30 ?_
    refine G.iconst 1 dX2_keep_33 (by decide) ?_
    refine G.iadd dX2_keep_34 ?_
    refine G.mmin lk_2_29 mst_min mini mcd_min (by decide) (Nat.le_of_ble_eq_true rfl) dX2_keep_35 ?_
    refine G.topi (fun v35 => ?_)
    refine G.put (w' := (w_X2_X3 cI cL cC cM cS a b (va_up t_marks_used 2 r10.1) (va_up t_marks_bay 2 r10.2.1) (va_up t_marks_day 2 r10.2.2.1) (va_up t_marks_dues 2 r10.2.2.2.1) (va_up t_marks_draw 2 r10.2.2.2.2) ((t_next + 1) - (t_next + 1) / 8 * 8) v35 u_kind u_used u_bay u_likes u_who u_lamp u_due u_gain u_count u_day u_dues u_draw)) fp_2_26 0 rfl (Nat.le_of_ble_eq_true rfl) rfl rfl rfl dX2_keep_38 ?_
    exact G.vret rfl rfl dX2_keep_41
  · refine G.aaload 1 3 rfl rfl h8 (by rw [hj8]) dX2_keep_8 ?_
    refine G.aload_n dX2_keep_9 rfl ?_
    refine G.callV (st := []) (w' := fun r10 => (w_X2_X3 cI cL cC cM cS a b (va_up t_marks_used 3 r10.1) (va_up t_marks_bay 3 r10.2.1) (va_up t_marks_day 3 r10.2.2.1) (va_up t_marks_dues 3 r10.2.2.2.1) (va_up t_marks_draw 3 r10.2.2.2.2) t_next t_known u_kind u_used u_bay u_likes u_who u_lamp u_due u_gain u_count u_day u_dues u_draw)) mv_X1_note lk_2_22 (c_X1_note l D ks cI cL cC cM cS (fun k => a (11 + k)) b (t_marks_used 3) (t_marks_bay 3) (t_marks_day 3) (t_marks_dues 3) (t_marks_draw 3) u_kind u_used u_bay u_likes u_who u_lamp u_due u_gain u_count u_day u_dues u_draw) [11, 12, 13, 26, 27, 28, 29, 30, 31, 32, 33, 34] [0, 1, 2, 3, 4, 5, 6, 7, 8, 9, 10, 14, 15, 16, 17, 18, 19, 20, 21, 22, 23, 24, 25] [0, 1, 2, 3, 4, 5, 6, 7, 8, 9, 10, 23, 24, 25, 11, 12, 13, 14, 15, 16, 17, 18, 19, 20, 21, 22, 26, 27, 28, 29, 30, 31, 32, 33, 34] rfl rfl rfl rfl (by decide +kernel) (fun _ => rfl) rfl (by decide) (Nat.le_of_ble_eq_true rfl) dX2_keep_10 (fun r10 => []) (fun _ => rfl) (fun r10 _ => ?_)
    refine G.aload_n dX2_keep_13 rfl ?_
    refine G.aload_n dX2_keep_14 rfl ?_
    refine G.get fl_2_18 0 rfl rfl dX2_keep_15 ?_
    refine G.iconst 1 dX2_keep_18 (by decide) ?_
    refine G.iadd dX2_keep_19 ?_
    refine G.bipush 8 dX2_keep_20 (by decide) ?_
    refine G.irem dX2_keep_22 (by decide) ?_
    refine G.put (w' := (w_X2_X3 cI cL cC cM cS a b (va_up t_marks_used 3 r10.1) (va_up t_marks_bay 3 r10.2.1) (va_up t_marks_day 3 r10.2.2.1) (va_up t_marks_dues 3 r10.2.2.2.1) (va_up t_marks_draw 3 r10.2.2.2.2) ((t_next + 1) - (t_next + 1) / 8 * 8) t_known u_kind u_used u_bay u_likes u_who u_lamp u_due u_gain u_count u_day u_dues u_draw)) fp_2_18 0 rfl (Nat.le_of_ble_eq_true rfl) rfl rfl rfl dX2_keep_23 ?_
    refine G.aload_n dX2_keep_26 rfl ?_
    refine G.bipush 8 dX2_keep_27 (by decide) ?_
    refine G.aload_n dX2_keep_29 rfl ?_
    refine G.get fl_2_26 0 rfl rfl dX2_keep_30 ?_
    refine G.iconst 1 dX2_keep_33 (by decide) ?_
    refine G.iadd dX2_keep_34 ?_
    refine G.mmin lk_2_29 mst_min mini mcd_min (by decide) (Nat.le_of_ble_eq_true rfl) dX2_keep_35 ?_
    refine G.topi (fun v35 => ?_)
    refine G.put (w' := (w_X2_X3 cI cL cC cM cS a b (va_up t_marks_used 3 r10.1) (va_up t_marks_bay 3 r10.2.1) (va_up t_marks_day 3 r10.2.2.1) (va_up t_marks_dues 3 r10.2.2.2.1) (va_up t_marks_draw 3 r10.2.2.2.2) ((t_next + 1) - (t_next + 1) / 8 * 8) v35 u_kind u_used u_bay u_likes u_who u_lamp u_due u_gain u_count u_day u_dues u_draw)) fp_2_26 0 rfl (Nat.le_of_ble_eq_true rfl) rfl rfl rfl dX2_keep_38 ?_
    exact G.vret rfl rfl dX2_keep_41
  · refine G.aaload 1 3 rfl rfl h8 (by rw [hj8]) dX2_keep_8 ?_
    refine G.aload_n dX2_keep_9 rfl ?_
    refine G.callV (st := []) (w' := fun r10 => (w_X2_X3 cI cL cC cM cS a b (va_up t_marks_used 4 r10.1) (va_up t_marks_bay 4 r10.2.1) (va_up t_marks_day 4 r10.2.2.1) (va_up t_marks_dues 4 r10.2.2.2.1) (va_up t_marks_draw 4 r10.2.2.2.2) t_next t_known u_kind u_used u_bay u_likes u_who u_lamp u_due u_gain u_count u_day u_dues u_draw)) mv_X1_note lk_2_22 (c_X1_note l D ks cI cL cC cM cS (fun k => a (14 + k)) b (t_marks_used 4) (t_marks_bay 4) (t_marks_day 4) (t_marks_dues 4) (t_marks_draw 4) u_kind u_used u_bay u_likes u_who u_lamp u_due u_gain u_count u_day u_dues u_draw) [14, 15, 16, 26, 27, 28, 29, 30, 31, 32, 33, 34] [0, 1, 2, 3, 4, 5, 6, 7, 8, 9, 10, 11, 12, 13, 17, 18, 19, 20, 21, 22, 23, 24, 25] [0, 1, 2, 3, 4, 5, 6, 7, 8, 9, 10, 11, 12, 13, 23, 24, 25, 14, 15, 16, 17, 18, 19, 20, 21, 22, 26, 27, 28, 29, 30, 31, 32, 33, 34] rfl rfl rfl rfl (by decide +kernel) (fun _ => rfl) rfl (by decide) (Nat.le_of_ble_eq_true rfl) dX2_keep_10 (fun r10 => []) (fun _ => rfl) (fun r10 _ => ?_)
    refine G.aload_n dX2_keep_13 rfl ?_
    refine G.aload_n dX2_keep_14 rfl ?_
    refine G.get fl_2_18 0 rfl rfl dX2_keep_15 ?_
    refine G.iconst 1 dX2_keep_18 (by decide) ?_
    refine G.iadd dX2_keep_19 ?_
    refine G.bipush 8 dX2_keep_20 (by decide) ?_
    refine G.irem dX2_keep_22 (by decide) ?_
    refine G.put (w' := (w_X2_X3 cI cL cC cM cS a b (va_up t_marks_used 4 r10.1) (va_up t_marks_bay 4 r10.2.1) (va_up t_marks_day 4 r10.2.2.1) (va_up t_marks_dues 4 r10.2.2.2.1) (va_up t_marks_draw 4 r10.2.2.2.2) ((t_next + 1) - (t_next + 1) / 8 * 8) t_known u_kind u_used u_bay u_likes u_who u_lamp u_due u_gain u_count u_day u_dues u_draw)) fp_2_18 0 rfl (Nat.le_of_ble_eq_true rfl) rfl rfl rfl dX2_keep_23 ?_
    refine G.aload_n dX2_keep_26 rfl ?_
    refine G.bipush 8 dX2_keep_27 (by decide) ?_
    refine G.aload_n dX2_keep_29 rfl ?_
    refine G.get fl_2_26 0 rfl rfl dX2_keep_30 ?_
    refine G.iconst 1 dX2_keep_33 (by decide) ?_
    refine G.iadd dX2_keep_34 ?_
    refine G.mmin lk_2_29 mst_min mini mcd_min (by decide) (Nat.le_of_ble_eq_true rfl) dX2_keep_35 ?_
    refine G.topi (fun v35 => ?_)
    refine G.put (w' := (w_X2_X3 cI cL cC cM cS a b (va_up t_marks_used 4 r10.1) (va_up t_marks_bay 4 r10.2.1) (va_up t_marks_day 4 r10.2.2.1) (va_up t_marks_dues 4 r10.2.2.2.1) (va_up t_marks_draw 4 r10.2.2.2.2) ((t_next + 1) - (t_next + 1) / 8 * 8) v35 u_kind u_used u_bay u_likes u_who u_lamp u_due u_gain u_count u_day u_dues u_draw)) fp_2_26 0 rfl (Nat.le_of_ble_eq_true rfl) rfl rfl rfl dX2_keep_38 ?_
    exact G.vret rfl rfl dX2_keep_41
  · refine G.aaload 1 3 rfl rfl h8 (by rw [hj8]) dX2_keep_8 ?_
    refine G.aload_n dX2_keep_9 rfl ?_
    refine G.callV (st := []) (w' := fun r10 => (w_X2_X3 cI cL cC cM cS a b (va_up t_marks_used 5 r10.1) (va_up t_marks_bay 5 r10.2.1) (va_up t_marks_day 5 r10.2.2.1) (va_up t_marks_dues 5 r10.2.2.2.1) (va_up t_marks_draw 5 r10.2.2.2.2) t_next t_known u_kind u_used u_bay u_likes u_who u_lamp u_due u_gain u_count u_day u_dues u_draw)) mv_X1_note lk_2_22 (c_X1_note l D ks cI cL cC cM cS (fun k => a (17 + k)) b (t_marks_used 5) (t_marks_bay 5) (t_marks_day 5) (t_marks_dues 5) (t_marks_draw 5) u_kind u_used u_bay u_likes u_who u_lamp u_due u_gain u_count u_day u_dues u_draw) [17, 18, 19, 26, 27, 28, 29, 30, 31, 32, 33, 34] [0, 1, 2, 3, 4, 5, 6, 7, 8, 9, 10, 11, 12, 13, 14, 15, 16, 20, 21, 22, 23, 24, 25] [0, 1, 2, 3, 4, 5, 6, 7, 8, 9, 10, 11, 12, 13, 14, 15, 16, 23, 24, 25, 17, 18, 19, 20, 21, 22, 26, 27, 28, 29, 30, 31, 32, 33, 34] rfl rfl rfl rfl (by decide +kernel) (fun _ => rfl) rfl (by decide) (Nat.le_of_ble_eq_true rfl) dX2_keep_10 (fun r10 => []) (fun _ => rfl) (fun r10 _ => ?_)
    refine G.aload_n dX2_keep_13 rfl ?_
    refine G.aload_n dX2_keep_14 rfl ?_
    refine G.get fl_2_18 0 rfl rfl dX2_keep_15 ?_
    refine G.iconst 1 dX2_keep_18 (by decide) ?_
    refine G.iadd dX2_keep_19 ?_
    refine G.bipush 8 dX2_keep_20 (by decide) ?_
    refine G.irem dX2_keep_22 (by decide) ?_
    refine G.put (w' := (w_X2_X3 cI cL cC cM cS a b (va_up t_marks_used 5 r10.1) (va_up t_marks_bay 5 r10.2.1) (va_up t_marks_day 5 r10.2.2.1) (va_up t_marks_dues 5 r10.2.2.2.1) (va_up t_marks_draw 5 r10.2.2.2.2) ((t_next + 1) - (t_next + 1) / 8 * 8) t_known u_kind u_used u_bay u_likes u_who u_lamp u_due u_gain u_count u_day u_dues u_draw)) fp_2_18 0 rfl (Nat.le_of_ble_eq_true rfl) rfl rfl rfl dX2_keep_23 ?_
    refine G.aload_n dX2_keep_26 rfl ?_
    refine G.bipush 8 dX2_keep_27 (by decide) ?_
    refine G.aload_n dX2_keep_29 rfl ?_
    refine G.get fl_2_26 0 rfl rfl dX2_keep_30 ?_
    refine G.iconst 1 dX2_keep_33 (by decide) ?_
    refine G.iadd dX2_keep_34 ?_
    refine G.mmin lk_2_29 mst_min mini mcd_min (by decide) (Nat.le_of_ble_eq_true rfl) dX2_keep_35 ?_
    refine G.topi (fun v35 => ?_)
    refine G.put (w' := (w_X2_X3 cI cL cC cM cS a b (va_up t_marks_used 5 r10.1) (va_up t_marks_bay 5 r10.2.1) (va_up t_marks_day 5 r10.2.2.1) (va_up t_marks_dues 5 r10.2.2.2.1) (va_up t_marks_draw 5 r10.2.2.2.2) ((t_next + 1) - (t_next + 1) / 8 * 8) v35 u_kind u_used u_bay u_likes u_who u_lamp u_due u_gain u_count u_day u_dues u_draw)) fp_2_26 0 rfl (Nat.le_of_ble_eq_true rfl) rfl rfl rfl dX2_keep_38 ?_
    exact G.vret rfl rfl dX2_keep_41
  · refine G.aaload 1 3 rfl rfl h8 (by rw [hj8]) dX2_keep_8 ?_
    refine G.aload_n dX2_keep_9 rfl ?_
    refine G.callV (st := []) (w' := fun r10 => (w_X2_X3 cI cL cC cM cS a b (va_up t_marks_used 6 r10.1) (va_up t_marks_bay 6 r10.2.1) (va_up t_marks_day 6 r10.2.2.1) (va_up t_marks_dues 6 r10.2.2.2.1) (va_up t_marks_draw 6 r10.2.2.2.2) t_next t_known u_kind u_used u_bay u_likes u_who u_lamp u_due u_gain u_count u_day u_dues u_draw)) mv_X1_note lk_2_22 (c_X1_note l D ks cI cL cC cM cS (fun k => a (20 + k)) b (t_marks_used 6) (t_marks_bay 6) (t_marks_day 6) (t_marks_dues 6) (t_marks_draw 6) u_kind u_used u_bay u_likes u_who u_lamp u_due u_gain u_count u_day u_dues u_draw) [20, 21, 22, 26, 27, 28, 29, 30, 31, 32, 33, 34] [0, 1, 2, 3, 4, 5, 6, 7, 8, 9, 10, 11, 12, 13, 14, 15, 16, 17, 18, 19, 23, 24, 25] [0, 1, 2, 3, 4, 5, 6, 7, 8, 9, 10, 11, 12, 13, 14, 15, 16, 17, 18, 19, 23, 24, 25, 20, 21, 22, 26, 27, 28, 29, 30, 31, 32, 33, 34] rfl rfl rfl rfl (by decide +kernel) (fun _ => rfl) rfl (by decide) (Nat.le_of_ble_eq_true rfl) dX2_keep_10 (fun r10 => []) (fun _ => rfl) (fun r10 _ => ?_)
    refine G.aload_n dX2_keep_13 rfl ?_
    refine G.aload_n dX2_keep_14 rfl ?_
    refine G.get fl_2_18 0 rfl rfl dX2_keep_15 ?_
    refine G.iconst 1 dX2_keep_18 (by decide) ?_
    refine G.iadd dX2_keep_19 ?_
    refine G.bipush 8 dX2_keep_20 (by decide) ?_
    refine G.irem dX2_keep_22 (by decide) ?_
    refine G.put (w' := (w_X2_X3 cI cL cC cM cS a b (va_up t_marks_used 6 r10.1) (va_up t_marks_bay 6 r10.2.1) (va_up t_marks_day 6 r10.2.2.1) (va_up t_marks_dues 6 r10.2.2.2.1) (va_up t_marks_draw 6 r10.2.2.2.2) ((t_next + 1) - (t_next + 1) / 8 * 8) t_known u_kind u_used u_bay u_likes u_who u_lamp u_due u_gain u_count u_day u_dues u_draw)) fp_2_18 0 rfl (Nat.le_of_ble_eq_true rfl) rfl rfl rfl dX2_keep_23 ?_
    refine G.aload_n dX2_keep_26 rfl ?_
    refine G.bipush 8 dX2_keep_27 (by decide) ?_
    refine G.aload_n dX2_keep_29 rfl ?_
    refine G.get fl_2_26 0 rfl rfl dX2_keep_30 ?_
    refine G.iconst 1 dX2_keep_33 (by decide) ?_
    refine G.iadd dX2_keep_34 ?_
    refine G.mmin lk_2_29 mst_min mini mcd_min (by decide) (Nat.le_of_ble_eq_true rfl) dX2_keep_35 ?_
    refine G.topi (fun v35 => ?_)
    refine G.put (w' := (w_X2_X3 cI cL cC cM cS a b (va_up t_marks_used 6 r10.1) (va_up t_marks_bay 6 r10.2.1) (va_up t_marks_day 6 r10.2.2.1) (va_up t_marks_dues 6 r10.2.2.2.1) (va_up t_marks_draw 6 r10.2.2.2.2) ((t_next + 1) - (t_next + 1) / 8 * 8) v35 u_kind u_used u_bay u_likes u_who u_lamp u_due u_gain u_count u_day u_dues u_draw)) fp_2_26 0 rfl (Nat.le_of_ble_eq_true rfl) rfl rfl rfl dX2_keep_38 ?_
    exact G.vret rfl rfl dX2_keep_41
  · refine G.aaload 1 3 rfl rfl h8 (by rw [hj8]) dX2_keep_8 ?_
    refine G.aload_n dX2_keep_9 rfl ?_
    refine G.callV (st := []) (w' := fun r10 => (w_X2_X3 cI cL cC cM cS a b (va_up t_marks_used 7 r10.1) (va_up t_marks_bay 7 r10.2.1) (va_up t_marks_day 7 r10.2.2.1) (va_up t_marks_dues 7 r10.2.2.2.1) (va_up t_marks_draw 7 r10.2.2.2.2) t_next t_known u_kind u_used u_bay u_likes u_who u_lamp u_due u_gain u_count u_day u_dues u_draw)) mv_X1_note lk_2_22 (c_X1_note l D ks cI cL cC cM cS (fun k => a (23 + k)) b (t_marks_used 7) (t_marks_bay 7) (t_marks_day 7) (t_marks_dues 7) (t_marks_draw 7) u_kind u_used u_bay u_likes u_who u_lamp u_due u_gain u_count u_day u_dues u_draw) [23, 24, 25, 26, 27, 28, 29, 30, 31, 32, 33, 34] [0, 1, 2, 3, 4, 5, 6, 7, 8, 9, 10, 11, 12, 13, 14, 15, 16, 17, 18, 19, 20, 21, 22] [0, 1, 2, 3, 4, 5, 6, 7, 8, 9, 10, 11, 12, 13, 14, 15, 16, 17, 18, 19, 20, 21, 22, 23, 24, 25, 26, 27, 28, 29, 30, 31, 32, 33, 34] rfl rfl rfl rfl (by decide +kernel) (fun _ => rfl) rfl (by decide) (Nat.le_of_ble_eq_true rfl) dX2_keep_10 (fun r10 => []) (fun _ => rfl) (fun r10 _ => ?_)
    refine G.aload_n dX2_keep_13 rfl ?_
    refine G.aload_n dX2_keep_14 rfl ?_
    refine G.get fl_2_18 0 rfl rfl dX2_keep_15 ?_
    refine G.iconst 1 dX2_keep_18 (by decide) ?_
    refine G.iadd dX2_keep_19 ?_
    refine G.bipush 8 dX2_keep_20 (by decide) ?_
    refine G.irem dX2_keep_22 (by decide) ?_
    refine G.put (w' := (w_X2_X3 cI cL cC cM cS a b (va_up t_marks_used 7 r10.1) (va_up t_marks_bay 7 r10.2.1) (va_up t_marks_day 7 r10.2.2.1) (va_up t_marks_dues 7 r10.2.2.2.1) (va_up t_marks_draw 7 r10.2.2.2.2) ((t_next + 1) - (t_next + 1) / 8 * 8) t_known u_kind u_used u_bay u_likes u_who u_lamp u_due u_gain u_count u_day u_dues u_draw)) fp_2_18 0 rfl (Nat.le_of_ble_eq_true rfl) rfl rfl rfl dX2_keep_23 ?_
    refine G.aload_n dX2_keep_26 rfl ?_
    refine G.bipush 8 dX2_keep_27 (by decide) ?_
    refine G.aload_n dX2_keep_29 rfl ?_
    refine G.get fl_2_26 0 rfl rfl dX2_keep_30 ?_
    refine G.iconst 1 dX2_keep_33 (by decide) ?_
    refine G.iadd dX2_keep_34 ?_
    refine G.mmin lk_2_29 mst_min mini mcd_min (by decide) (Nat.le_of_ble_eq_true rfl) dX2_keep_35 ?_
    refine G.topi (fun v35 => ?_)
    refine G.put (w' := (w_X2_X3 cI cL cC cM cS a b (va_up t_marks_used 7 r10.1) (va_up t_marks_bay 7 r10.2.1) (va_up t_marks_day 7 r10.2.2.1) (va_up t_marks_dues 7 r10.2.2.2.1) (va_up t_marks_draw 7 r10.2.2.2.2) ((t_next + 1) - (t_next + 1) / 8 * 8) v35 u_kind u_used u_bay u_likes u_who u_lamp u_due u_gain u_count u_day u_dues u_draw)) fp_2_26 0 rfl (Nat.le_of_ble_eq_true rfl) rfl rfl rfl dX2_keep_38 ?_
    exact G.vret rfl rfl dX2_keep_41
set_option maxHeartbeats 4000000 in
set_option maxRecDepth 100000 in
theorem c_X3_become (l : Launch) (D : va_G) (ks : Nat × Nat) (cI cL cC cM cS : ClassId) (a b : Nat → Nat) (t_kind t_used t_bay t_likes t_who t_lamp t_due t_gain : Nat → Int32) (t_count t_day t_dues t_draw : Int32) (u_kind u_used u_bay u_likes u_who u_lamp u_due u_gain : Nat → Int32) (u_count u_day u_dues u_draw : Int32) : MT l D ks (tyz cI cL cC cM cS) yX3_become cX3_become 2 none { frames := 1, cells := 0, slots := 0, locals := 26 } [.ref (a 0), .ref (b 0)] (w_X3_X3 cI cL cC cM cS a b t_kind t_used t_bay t_likes t_who t_lamp t_due t_gain t_count t_day t_dues t_draw u_kind u_used u_bay u_likes u_who u_lamp u_due u_gain u_count u_day u_dues u_draw) (fun r : (Nat → Int32) × (Nat → Int32) × (Nat → Int32) × (Nat → Int32) × (Nat → Int32) × (Nat → Int32) × (Nat → Int32) × Int32 × Int32 × Int32 × Int32 => (none, (w_X3_X3 cI cL cC cM cS a b r.1 r.2.1 r.2.2.1 r.2.2.2.1 r.2.2.2.2.1 r.2.2.2.2.2.1 r.2.2.2.2.2.2.1 t_gain r.2.2.2.2.2.2.2.1 r.2.2.2.2.2.2.2.2.1 r.2.2.2.2.2.2.2.2.2.1 r.2.2.2.2.2.2.2.2.2.2 u_kind u_used u_bay u_likes u_who u_lamp u_due u_gain u_count u_day u_dues u_draw))) (f_X3_become t_kind t_used t_bay t_likes t_who t_lamp t_due t_count t_day t_dues t_draw u_kind u_used u_bay u_likes u_who u_lamp u_due u_count u_day u_dues u_draw) := by
  refine MT.of 0 [some (.ref (a 0)), some (.ref (b 0))] (by decide) (Nat.le_of_ble_eq_true rfl) rfl ?_
  unfold f_X3_become
  refine G.aload_n dX3_become_0 rfl ?_
  refine G.get fl_3_9 9 rfl rfl dX3_become_1 ?_
  refine G.iconst 0 dX3_become_4 (by decide) ?_
  refine G.aload_n dX3_become_5 rfl ?_
  refine G.get fl_3_9 0 rfl rfl dX3_become_6 ?_
  refine G.iconst 0 dX3_become_9 (by decide) ?_
  refine G.bipush 6 dX3_become_10 (by decide) ?_
  refine G.copyi (w' := (w_X3_X3 cI cL cC cM cS a b (va_cpy u_kind t_kind 0 0 6) t_used t_bay t_likes t_who t_lamp t_due t_gain t_count t_day t_dues t_draw u_kind u_used u_bay u_likes u_who u_lamp u_due u_gain u_count u_day u_dues u_draw)) 10 1 0 0 lk_3_40 acn acs aci rfl rfl rfl rfl (by decide) (by decide) (by decide) (by decide) (by decide) (by decide) (Nat.le_of_ble_eq_true rfl) rfl dX3_become_12 ?_
  refine G.aload_n dX3_become_15 rfl ?_
  refine G.get fl_3_15 9 rfl rfl dX3_become_16 ?_
  refine G.iconst 0 dX3_become_19 (by decide) ?_
  refine G.aload_n dX3_become_20 rfl ?_
  refine G.get fl_3_15 0 rfl rfl dX3_become_21 ?_
  refine G.iconst 0 dX3_become_24 (by decide) ?_
  refine G.bipush 6 dX3_become_25 (by decide) ?_
  refine G.copyi (w' := (w_X3_X3 cI cL cC cM cS a b (va_cpy u_kind t_kind 0 0 6) (va_cpy u_used t_used 0 0 6) t_bay t_likes t_who t_lamp t_due t_gain t_count t_day t_dues t_draw u_kind u_used u_bay u_likes u_who u_lamp u_due u_gain u_count u_day u_dues u_draw)) 11 2 0 0 lk_3_40 acn acs aci rfl rfl rfl rfl (by decide) (by decide) (by decide) (by decide) (by decide) (by decide) (Nat.le_of_ble_eq_true rfl) rfl dX3_become_27 ?_
  refine G.aload_n dX3_become_30 rfl ?_
  refine G.get fl_3_18 9 rfl rfl dX3_become_31 ?_
  refine G.iconst 0 dX3_become_34 (by decide) ?_
  refine G.aload_n dX3_become_35 rfl ?_
  refine G.get fl_3_18 0 rfl rfl dX3_become_36 ?_
  refine G.iconst 0 dX3_become_39 (by decide) ?_
  refine G.bipush 6 dX3_become_40 (by decide) ?_
  refine G.copyi (w' := (w_X3_X3 cI cL cC cM cS a b (va_cpy u_kind t_kind 0 0 6) (va_cpy u_used t_used 0 0 6) (va_cpy u_bay t_bay 0 0 6) t_likes t_who t_lamp t_due t_gain t_count t_day t_dues t_draw u_kind u_used u_bay u_likes u_who u_lamp u_due u_gain u_count u_day u_dues u_draw)) 12 3 0 0 lk_3_40 acn acs aci rfl rfl rfl rfl (by decide) (by decide) (by decide) (by decide) (by decide) (by decide) (Nat.le_of_ble_eq_true rfl) rfl dX3_become_42 ?_
  refine G.aload_n dX3_become_45 rfl ?_
  refine G.get fl_3_21 9 rfl rfl dX3_become_46 ?_
  refine G.iconst 0 dX3_become_49 (by decide) ?_
  refine G.aload_n dX3_become_50 rfl ?_
  refine G.get fl_3_21 0 rfl rfl dX3_become_51 ?_
  refine G.iconst 0 dX3_become_54 (by decide) ?_
  refine G.bipush 6 dX3_become_55 (by decide) ?_
  refine G.copyi (w' := (w_X3_X3 cI cL cC cM cS a b (va_cpy u_kind t_kind 0 0 6) (va_cpy u_used t_used 0 0 6) (va_cpy u_bay t_bay 0 0 6) (va_cpy u_likes t_likes 0 0 6) t_who t_lamp t_due t_gain t_count t_day t_dues t_draw u_kind u_used u_bay u_likes u_who u_lamp u_due u_gain u_count u_day u_dues u_draw)) 13 4 0 0 lk_3_40 acn acs aci rfl rfl rfl rfl (by decide) (by decide) (by decide) (by decide) (by decide) (by decide) (Nat.le_of_ble_eq_true rfl) rfl dX3_become_57 ?_
  refine G.aload_n dX3_become_60 rfl ?_
  refine G.get fl_3_24 9 rfl rfl dX3_become_61 ?_
  refine G.iconst 0 dX3_become_64 (by decide) ?_
  refine G.aload_n dX3_become_65 rfl ?_
  refine G.get fl_3_24 0 rfl rfl dX3_become_66 ?_
  refine G.iconst 0 dX3_become_69 (by decide) ?_
  refine G.bipush 6 dX3_become_70 (by decide) ?_
  refine G.copyi (w' := (w_X3_X3 cI cL cC cM cS a b (va_cpy u_kind t_kind 0 0 6) (va_cpy u_used t_used 0 0 6) (va_cpy u_bay t_bay 0 0 6) (va_cpy u_likes t_likes 0 0 6) (va_cpy u_who t_who 0 0 6) t_lamp t_due t_gain t_count t_day t_dues t_draw u_kind u_used u_bay u_likes u_who u_lamp u_due u_gain u_count u_day u_dues u_draw)) 14 5 0 0 lk_3_40 acn acs aci rfl rfl rfl rfl (by decide) (by decide) (by decide) (by decide) (by decide) (by decide) (Nat.le_of_ble_eq_true rfl) rfl dX3_become_72 ?_
  refine G.aload_n dX3_become_75 rfl ?_
  refine G.get fl_3_27 9 rfl rfl dX3_become_76 ?_
  refine G.iconst 0 dX3_become_79 (by decide) ?_
  refine G.aload_n dX3_become_80 rfl ?_
  refine G.get fl_3_27 0 rfl rfl dX3_become_81 ?_
  refine G.iconst 0 dX3_become_84 (by decide) ?_
  refine G.bipush 6 dX3_become_85 (by decide) ?_
  refine G.copyi (w' := (w_X3_X3 cI cL cC cM cS a b (va_cpy u_kind t_kind 0 0 6) (va_cpy u_used t_used 0 0 6) (va_cpy u_bay t_bay 0 0 6) (va_cpy u_likes t_likes 0 0 6) (va_cpy u_who t_who 0 0 6) (va_cpy u_lamp t_lamp 0 0 6) t_due t_gain t_count t_day t_dues t_draw u_kind u_used u_bay u_likes u_who u_lamp u_due u_gain u_count u_day u_dues u_draw)) 15 6 0 0 lk_3_40 acn acs aci rfl rfl rfl rfl (by decide) (by decide) (by decide) (by decide) (by decide) (by decide) (Nat.le_of_ble_eq_true rfl) rfl dX3_become_87 ?_
  refine G.aload_n dX3_become_90 rfl ?_
  refine G.get fl_3_30 9 rfl rfl dX3_become_91 ?_
  refine G.iconst 0 dX3_become_94 (by decide) ?_
  refine G.aload_n dX3_become_95 rfl ?_
  refine G.get fl_3_30 0 rfl rfl dX3_become_96 ?_
  refine G.iconst 0 dX3_become_99 (by decide) ?_
  refine G.bipush 6 dX3_become_100 (by decide) ?_
  refine G.copyi (w' := (w_X3_X3 cI cL cC cM cS a b (va_cpy u_kind t_kind 0 0 6) (va_cpy u_used t_used 0 0 6) (va_cpy u_bay t_bay 0 0 6) (va_cpy u_likes t_likes 0 0 6) (va_cpy u_who t_who 0 0 6) (va_cpy u_lamp t_lamp 0 0 6) (va_cpy u_due t_due 0 0 6) t_gain t_count t_day t_dues t_draw u_kind u_used u_bay u_likes u_who u_lamp u_due u_gain u_count u_day u_dues u_draw)) 16 7 0 0 lk_3_40 acn acs aci rfl rfl rfl rfl (by decide) (by decide) (by decide) (by decide) (by decide) (by decide) (Nat.le_of_ble_eq_true rfl) rfl dX3_become_102 ?_
  refine G.aload_n dX3_become_105 rfl ?_
  refine G.aload_n dX3_become_106 rfl ?_
  refine G.get fl_3_46 9 rfl rfl dX3_become_107 ?_
  refine G.put (w' := (w_X3_X3 cI cL cC cM cS a b (va_cpy u_kind t_kind 0 0 6) (va_cpy u_used t_used 0 0 6) (va_cpy u_bay t_bay 0 0 6) (va_cpy u_likes t_likes 0 0 6) (va_cpy u_who t_who 0 0 6) (va_cpy u_lamp t_lamp 0 0 6) (va_cpy u_due t_due 0 0 6) t_gain u_count t_day t_dues t_draw u_kind u_used u_bay u_likes u_who u_lamp u_due u_gain u_count u_day u_dues u_draw)) fp_3_46 0 rfl (Nat.le_of_ble_eq_true rfl) rfl rfl rfl dX3_become_110 ?_
  refine G.aload_n dX3_become_113 rfl ?_
  refine G.aload_n dX3_become_114 rfl ?_
  refine G.get fl_3_49 9 rfl rfl dX3_become_115 ?_
  refine G.put (w' := (w_X3_X3 cI cL cC cM cS a b (va_cpy u_kind t_kind 0 0 6) (va_cpy u_used t_used 0 0 6) (va_cpy u_bay t_bay 0 0 6) (va_cpy u_likes t_likes 0 0 6) (va_cpy u_who t_who 0 0 6) (va_cpy u_lamp t_lamp 0 0 6) (va_cpy u_due t_due 0 0 6) t_gain u_count u_day t_dues t_draw u_kind u_used u_bay u_likes u_who u_lamp u_due u_gain u_count u_day u_dues u_draw)) fp_3_49 0 rfl (Nat.le_of_ble_eq_true rfl) rfl rfl rfl dX3_become_118 ?_
  refine G.aload_n dX3_become_121 rfl ?_
  refine G.aload_n dX3_become_122 rfl ?_
  refine G.get fl_3_52 9 rfl rfl dX3_become_123 ?_
  refine G.put (w' := (w_X3_X3 cI cL cC cM cS a b (va_cpy u_kind t_kind 0 0 6) (va_cpy u_used t_used 0 0 6) (va_cpy u_bay t_bay 0 0 6) (va_cpy u_likes t_likes 0 0 6) (va_cpy u_who t_who 0 0 6) (va_cpy u_lamp t_lamp 0 0 6) (va_cpy u_due t_due 0 0 6) t_gain u_count u_day u_dues t_draw u_kind u_used u_bay u_likes u_who u_lamp u_due u_gain u_count u_day u_dues u_draw)) fp_3_52 0 rfl (Nat.le_of_ble_eq_true rfl) rfl rfl rfl dX3_become_126 ?_
  refine G.aload_n dX3_become_129 rfl ?_
  refine G.aload_n dX3_become_130 rfl ?_
  refine G.get fl_3_36 9 rfl rfl dX3_become_131 ?_
  refine G.put (w' := (w_X3_X3 cI cL cC cM cS a b (va_cpy u_kind t_kind 0 0 6) (va_cpy u_used t_used 0 0 6) (va_cpy u_bay t_bay 0 0 6) (va_cpy u_likes t_likes 0 0 6) (va_cpy u_who t_who 0 0 6) (va_cpy u_lamp t_lamp 0 0 6) (va_cpy u_due t_due 0 0 6) t_gain u_count u_day u_dues u_draw u_kind u_used u_bay u_likes u_who u_lamp u_due u_gain u_count u_day u_dues u_draw)) fp_3_36 0 rfl (Nat.le_of_ble_eq_true rfl) rfl rfl rfl dX3_become_134 ?_
  exact G.vret rfl rfl dX3_become_137
set_option maxHeartbeats 4000000 in
set_option maxRecDepth 100000 in
theorem c_X3_whoIn (l : Launch) (D : va_G) (ks : Nat × Nat) (cI cL cC cM cS : ClassId) (a : Nat → Nat) (t_kind t_used t_bay t_likes t_who t_lamp t_due t_gain : Nat → Int32) (t_count t_day t_dues t_draw : Int32) (x1 : Int32) : MT l D ks (tyz cI cL cC cM cS) yX3_whoIn cX3_whoIn 2 ((some .int)) { frames := 0, cells := 0, slots := 0, locals := 0 } [.ref (a 0), .int x1] (w_X3 cI cL cC cM cS a t_kind t_used t_bay t_likes t_who t_lamp t_due t_gain t_count t_day t_dues t_draw) (fun r : Int32 => (some (.int r), (w_X3 cI cL cC cM cS a t_kind t_used t_bay t_likes t_who t_lamp t_due t_gain t_count t_day t_dues t_draw))) (f_X3_whoIn t_who x1) := by
  refine MT.of 0 [some (.ref (a 0)), some (.int x1)] (by decide) (Nat.le_of_ble_eq_true rfl) rfl ?_
  unfold f_X3_whoIn
  refine G.iload_n dX3_whoIn_0 rfl ?_
  refine G.if_lt 19 dX3_whoIn_1 (by decide) (fun h1 => ?_) (fun h1 => ?_)
  · refine G.iconst (-1) dX3_whoIn_19 (by decide) ?_
    exact G.iret rfl rfl dX3_whoIn_20
  · refine G.iload_n dX3_whoIn_4 rfl ?_
    refine G.bipush 6 dX3_whoIn_5 (by decide) ?_
    refine G.icmp_ge 19 dX3_whoIn_7 (by decide) (fun h7 => ?_) (fun h7 => ?_)
    · refine G.iconst (-1) dX3_whoIn_19 (by decide) ?_
      exact G.iret rfl rfl dX3_whoIn_20
    · refine G.aload_n dX3_whoIn_10 rfl ?_
      refine G.get fl_3_24 0 rfl rfl dX3_whoIn_11 ?_
      refine G.iload_n dX3_whoIn_14 rfl ?_
      refine G.chk (fun h15 => ?_)
      refine G.iaload 5 0 rfl rfl x1.toNatClampNeg rfl h15 dX3_whoIn_15 ?_
      refine G.topi (fun v15 => ?_)
      refine G.goto 20 dX3_whoIn_16 (by decide) ?_
      exact G.iret rfl rfl dX3_whoIn_20
set_option maxHeartbeats 4000000 in
set_option maxRecDepth 100000 in
theorem c_X3_besideSet (l : Launch) (D : va_G) (ks : Nat × Nat) (cI cL cC cM cS : ClassId) (a : Nat → Nat) (t_kind t_used t_bay t_likes t_who t_lamp t_due t_gain : Nat → Int32) (t_count t_day t_dues t_draw : Int32) (x1 : Int32) : MT l D ks (tyz cI cL cC cM cS) yX3_besideSet cX3_besideSet 4 ((some .int)) { frames := 1, cells := 0, slots := 0, locals := 21 } [.ref (a 0), .int x1] (w_X3 cI cL cC cM cS a t_kind t_used t_bay t_likes t_who t_lamp t_due t_gain t_count t_day t_dues t_draw) (fun r : Int32 => (some (.int r), (w_X3 cI cL cC cM cS a t_kind t_used t_bay t_likes t_who t_lamp t_due t_gain t_count t_day t_dues t_draw))) (f_X3_besideSet t_bay t_who x1) := by
  refine MT.of 2 [some (.ref (a 0)), some (.int x1), none, none] (by decide) (Nat.le_of_ble_eq_true rfl) rfl ?_
  unfold f_X3_besideSet
  refine G.aload_n dX3_besideSet_0 rfl ?_
  refine G.aload_n dX3_besideSet_1 rfl ?_
  refine G.get fl_3_18 0 rfl rfl dX3_besideSet_2 ?_
  refine G.iload_n dX3_besideSet_5 rfl ?_
  refine G.chk (fun h6 => ?_)
  refine G.iaload 3 0 rfl rfl x1.toNatClampNeg rfl h6 dX3_besideSet_6 ?_
  refine G.topi (fun v6 => ?_)
  refine G.iconst 1 dX3_besideSet_7 (by decide) ?_
  refine G.isub dX3_besideSet_8 ?_
  refine G.callV (st := []) (w' := fun r9 => (w_X3 cI cL cC cM cS a t_kind t_used t_bay t_likes t_who t_lamp t_due t_gain t_count t_day t_dues t_draw)) mv_X3_whoIn lk_3_63 (c_X3_whoIn l D ks cI cL cC cM cS a t_kind t_used t_bay t_likes t_who t_lamp t_due t_gain t_count t_day t_dues t_draw (v6 - 1)) [0, 1, 2, 3, 4, 5, 6, 7, 8] [] [0, 1, 2, 3, 4, 5, 6, 7, 8] rfl rfl rfl rfl (by decide +kernel) (fun _ => rfl) rfl (by decide) (Nat.le_of_ble_eq_true rfl) dX3_besideSet_9 (fun r9 => [.int r9]) (fun _ => rfl) (fun r9 _ => ?_)
  refine G.istore_n (lv' := [some (.ref (a 0)), some (.int x1), some (.int r9), none]) dX3_besideSet_12 (by decide) (Nat.le_of_ble_eq_true rfl) rfl rfl ?_
  refine G.aload_n dX3_besideSet_13 rfl ?_
  refine G.aload_n dX3_besideSet_14 rfl ?_
  refine G.get fl_3_18 0 rfl rfl dX3_besideSet_15 ?_
  refine G.iload_n dX3_besideSet_18 rfl ?_
  refine G.iaload 3 0 rfl rfl x1.toNatClampNeg rfl h6 dX3_besideSet_19 ?_
  refine G.topi (fun v19 => ?_)
  refine G.iconst 1 dX3_besideSet_20 (by decide) ?_
  refine G.iadd dX3_besideSet_21 ?_
  refine G.callV (st := []) (w' := fun r22 => (w_X3 cI cL cC cM cS a t_kind t_used t_bay t_likes t_who t_lamp t_due t_gain t_count t_day t_dues t_draw)) mv_X3_whoIn lk_3_63 (c_X3_whoIn l D ks cI cL cC cM cS a t_kind t_used t_bay t_likes t_who t_lamp t_due t_gain t_count t_day t_dues t_draw (v19 + 1)) [0, 1, 2, 3, 4, 5, 6, 7, 8] [] [0, 1, 2, 3, 4, 5, 6, 7, 8] rfl rfl rfl rfl (by decide +kernel) (fun _ => rfl) rfl (by decide) (Nat.le_of_ble_eq_true rfl) dX3_besideSet_22 (fun r22 => [.int r22]) (fun _ => rfl) (fun r22 _ => ?_)
  refine G.istore_n (lv' := [some (.ref (a 0)), some (.int x1), some (.int r9), some (.int r22)]) dX3_besideSet_25 (by decide) (Nat.le_of_ble_eq_true rfl) rfl rfl ?_
  refine G.iload_n dX3_besideSet_26 rfl ?_
  refine G.iconst (-1) dX3_besideSet_27 (by decide) ?_
  refine G.join (st := []) Value.int 38 (fun v38 => ?_) (fun hJ => ?_)
  · refine G.iload_n dX3_besideSet_38 rfl ?_
    refine G.iconst (-1) dX3_besideSet_39 (by decide) ?_
    refine G.join (st := [.int v38]) Value.int 50 (fun v50 => ?_) (fun hJ => ?_)
    · refine G.ior dX3_besideSet_50 ?_
      exact G.iret rfl rfl dX3_besideSet_51
    · refine G.ite ?_
      refine G.icmp_ne 47 dX3_besideSet_40 (by decide) (fun _ => ?_) (fun _ => ?_)
      · refine G.iconst 1 dX3_besideSet_47 (by decide) ?_
        refine G.iload_n dX3_besideSet_48 rfl ?_
        refine G.ishl dX3_besideSet_49 ?_
        exact hJ _
      · refine G.iconst 0 dX3_besideSet_43 (by decide) ?_
        refine G.goto 50 dX3_besideSet_44 (by decide) ?_
        exact hJ _
  · refine G.ite ?_
    refine G.icmp_ne 35 dX3_besideSet_28 (by decide) (fun _ => ?_) (fun _ => ?_)
    · refine G.iconst 1 dX3_besideSet_35 (by decide) ?_
      refine G.iload_n dX3_besideSet_36 rfl ?_
      refine G.ishl dX3_besideSet_37 ?_
      exact hJ _
    · refine G.iconst 0 dX3_besideSet_31 (by decide) ?_
      refine G.goto 38 dX3_besideSet_32 (by decide) ?_
      exact hJ _
set_option maxHeartbeats 4000000 in
set_option maxRecDepth 100000 in
theorem g_X3_clear_c2 (l : Launch) (D : va_G) (ks : Nat × Nat) (cI cL cC cM cS : ClassId) (a : Nat → Nat) (t_kind t_used t_bay t_likes t_lamp t_due t_gain : Nat → Int32) (t_draw : Int32) : ∀ (n : Nat), ∀ (t_who : Nat → Int32) (t_count t_day t_dues : Int32) (x1 : Int32), GJ l D ks (tyz cI cL cC cM cS) RX3 cX3_clear 2 none { frames := 0, cells := 0, slots := 0, locals := 0 } (fun r : (Nat → Int32) × Int32 × Int32 × Int32 => (none, (w_X3 cI cL cC cM cS a t_kind t_used t_bay t_likes r.1 t_lamp t_due t_gain r.2.1 r.2.2.1 r.2.2.2 t_draw))) (w_X3 cI cL cC cM cS a t_kind t_used t_bay t_likes t_who t_lamp t_due t_gain t_count t_day t_dues t_draw) 2 [some (.ref (a 0)), some (.int x1)] [] (f_X3_clear_c2 n t_who t_count t_day t_dues x1) := by
  intro n
  induction n with
  | zero =>
    intro t_who t_count t_day t_dues x1
    exact G.no
  | succ n ih =>
    intro t_who t_count t_day t_dues x1
    rw [f_X3_clear_c2]
    refine G.iload_n dX3_clear_2 rfl ?_
    refine G.bipush 6 dX3_clear_3 (by decide) ?_
    refine G.icmp_ge 21 dX3_clear_5 (by decide) (fun h5 => ?_) (fun h5 => ?_)
    · refine G.aload_n dX3_clear_21 rfl ?_
      refine G.iconst 0 dX3_clear_22 (by decide) ?_
      refine G.put (w' := (w_X3 cI cL cC cM cS a t_kind t_used t_bay t_likes t_who t_lamp t_due t_gain 0 t_day t_dues t_draw)) fp_3_46 0 rfl (Nat.le_of_ble_eq_true rfl) rfl rfl rfl dX3_clear_23 ?_
      refine G.aload_n dX3_clear_26 rfl ?_
      refine G.iconst 0 dX3_clear_27 (by decide) ?_
      refine G.put (w' := (w_X3 cI cL cC cM cS a t_kind t_used t_bay t_likes t_who t_lamp t_due t_gain 0 0 t_dues t_draw)) fp_3_49 0 rfl (Nat.le_of_ble_eq_true rfl) rfl rfl rfl dX3_clear_28 ?_
      refine G.aload_n dX3_clear_31 rfl ?_
      refine G.iconst 0 dX3_clear_32 (by decide) ?_
      refine G.put (w' := (w_X3 cI cL cC cM cS a t_kind t_used t_bay t_likes t_who t_lamp t_due t_gain 0 0 0 t_draw)) fp_3_52 0 rfl (Nat.le_of_ble_eq_true rfl) rfl rfl rfl dX3_clear_33 ?_
      exact G.vret rfl rfl dX3_clear_36
    · refine G.aload_n dX3_clear_8 rfl ?_
      refine G.get fl_3_24 0 rfl rfl dX3_clear_9 ?_
      refine G.iload_n dX3_clear_12 rfl ?_
      refine G.iconst (-1) dX3_clear_13 (by decide) ?_
      refine G.chk (fun h14 => ?_)
      refine G.iastore (w' := (w_X3 cI cL cC cM cS a t_kind t_used t_bay t_likes (upd t_who x1.toNatClampNeg (-1)) t_lamp t_due t_gain t_count t_day t_dues t_draw)) 5 0 rfl rfl x1.toNatClampNeg rfl h14 rfl dX3_clear_14 ?_
      refine G.iinc 1 (lv' := [some (.ref (a 0)), some (.int (x1 + 1))]) dX3_clear_15 rfl (by decide) (by decide) (Nat.le_of_ble_eq_true rfl) rfl rfl ?_
      refine G.goto 2 dX3_clear_18 (by decide) ?_
      exact ih (upd t_who x1.toNatClampNeg (-1)) t_count t_day t_dues (x1 + 1)
set_option maxHeartbeats 4000000 in
set_option maxRecDepth 100000 in
theorem c_X3_clear (l : Launch) (D : va_G) (ks : Nat × Nat) (cI cL cC cM cS : ClassId) (a : Nat → Nat) (t_kind t_used t_bay t_likes t_who t_lamp t_due t_gain : Nat → Int32) (t_count t_day t_dues t_draw : Int32) : MT l D ks (tyz cI cL cC cM cS) yX3_clear cX3_clear 2 none { frames := 0, cells := 0, slots := 0, locals := 0 } [.ref (a 0)] (w_X3 cI cL cC cM cS a t_kind t_used t_bay t_likes t_who t_lamp t_due t_gain t_count t_day t_dues t_draw) (fun r : (Nat → Int32) × Int32 × Int32 × Int32 => (none, (w_X3 cI cL cC cM cS a t_kind t_used t_bay t_likes r.1 t_lamp t_due t_gain r.2.1 r.2.2.1 r.2.2.2 t_draw))) (f_X3_clear t_who t_count t_day t_dues) := by
  refine MT.of 1 [some (.ref (a 0)), none] (by decide) (Nat.le_of_ble_eq_true rfl) rfl ?_
  unfold f_X3_clear
  refine G.iconst 0 dX3_clear_0 (by decide) ?_
  refine G.istore_n (lv' := [some (.ref (a 0)), some (.int 0)]) dX3_clear_1 (by decide) (Nat.le_of_ble_eq_true rfl) rfl rfl ?_
  exact g_X3_clear_c2 l D ks cI cL cC cM cS a t_kind t_used t_bay t_likes t_lamp t_due t_gain t_draw fu t_who t_count t_day t_dues 0
set_option maxHeartbeats 4000000 in
set_option maxRecDepth 100000 in
theorem c_X3_farFrom (l : Launch) (D : va_G) (ks : Nat × Nat) (cI cL cC cM cS : ClassId) (a : Nat → Nat) (t_kind t_used t_bay t_likes t_who t_lamp t_due t_gain : Nat → Int32) (t_count t_day t_dues t_draw : Int32) (x1 : Int32) (x2 : Int32) : MT l D ks (tyz cI cL cC cM cS) yX3_farFrom cX3_farFrom 3 ((some .int)) { frames := 1, cells := 0, slots := 0, locals := 21 } [.ref (a 0), .int x1, .int x2] (w_X3 cI cL cC cM cS a t_kind t_used t_bay t_likes t_who t_lamp t_due t_gain t_count t_day t_dues t_draw) (fun r : Int32 => (some (.int r), (w_X3 cI cL cC cM cS a t_kind t_used t_bay t_likes t_who t_lamp t_due t_gain t_count t_day t_dues t_draw))) (f_X3_farFrom t_likes x1 x2) := by
  refine MT.of 0 [some (.ref (a 0)), some (.int x1), some (.int x2)] (by decide) (Nat.le_of_ble_eq_true rfl) rfl ?_
  unfold f_X3_farFrom
  refine G.iload_n dX3_farFrom_0 rfl ?_
  refine G.aload_n dX3_farFrom_1 rfl ?_
  refine G.get fl_3_21 0 rfl rfl dX3_farFrom_2 ?_
  refine G.iload_n dX3_farFrom_5 rfl ?_
  refine G.chk (fun h6 => ?_)
  refine G.iaload 4 0 rfl rfl x1.toNatClampNeg rfl h6 dX3_farFrom_6 ?_
  refine G.topi (fun v6 => ?_)
  refine G.isub dX3_farFrom_7 ?_
  refine G.mabs lk_3_95 mst_abs mini mcd_abs (by decide) (Nat.le_of_ble_eq_true rfl) dX3_farFrom_8 ?_
  refine G.topi (fun v8 => ?_)
  exact G.iret rfl rfl dX3_farFrom_11
set_option maxHeartbeats 4000000 in
set_option maxRecDepth 100000 in
theorem c_X3_wouldSwap (l : Launch) (D : va_G) (ks : Nat × Nat) (cI cL cC cM cS : ClassId) (a : Nat → Nat) (t_kind t_used t_bay t_likes t_who t_lamp t_due t_gain : Nat → Int32) (t_count t_day t_dues t_draw : Int32) (x1 : Int32) (x2 : Int32) : MT l D ks (tyz cI cL cC cM cS) yX3_wouldSwap cX3_wouldSwap 3 ((some .boolean)) { frames := 2, cells := 0, slots := 0, locals := 43 } [.ref (a 0), .int x1, .int x2] (w_X3 cI cL cC cM cS a t_kind t_used t_bay t_likes t_who t_lamp t_due t_gain t_count t_day t_dues t_draw) (fun r : Int32 => (some (.int r), (w_X3 cI cL cC cM cS a t_kind t_used t_bay t_likes t_who t_lamp t_due t_gain t_count t_day t_dues t_draw))) (f_X3_wouldSwap t_bay t_likes x1 x2) := by
  refine MT.of 0 [some (.ref (a 0)), some (.int x1), some (.int x2)] (by decide) (Nat.le_of_ble_eq_true rfl) rfl ?_
  unfold f_X3_wouldSwap
  refine G.aload_n dX3_wouldSwap_0 rfl ?_
  refine G.iload_n dX3_wouldSwap_1 rfl ?_
  refine G.aload_n dX3_wouldSwap_2 rfl ?_
  refine G.get fl_3_18 0 rfl rfl dX3_wouldSwap_3 ?_
  refine G.iload_n dX3_wouldSwap_6 rfl ?_
  refine G.chk (fun h7 => ?_)
  refine G.iaload 3 0 rfl rfl x2.toNatClampNeg rfl h7 dX3_wouldSwap_7 ?_
  refine G.topi (fun v7 => ?_)
  refine G.callV (st := []) (w' := fun r8 => (w_X3 cI cL cC cM cS a t_kind t_used t_bay t_likes t_who t_lamp t_due t_gain t_count t_day t_dues t_draw)) mv_X3_farFrom lk_3_98 (c_X3_farFrom l D ks cI cL cC cM cS a t_kind t_used t_bay t_likes t_who t_lamp t_due t_gain t_count t_day t_dues t_draw x1 v7) [0, 1, 2, 3, 4, 5, 6, 7, 8] [] [0, 1, 2, 3, 4, 5, 6, 7, 8] rfl rfl rfl rfl (by decide +kernel) (fun _ => rfl) rfl (by decide) (Nat.le_of_ble_eq_true rfl) dX3_wouldSwap_8 (fun r8 => [.int r8]) (fun _ => rfl) (fun r8 _ => ?_)
  refine G.aload_n dX3_wouldSwap_11 rfl ?_
  refine G.iload_n dX3_wouldSwap_12 rfl ?_
  refine G.aload_n dX3_wouldSwap_13 rfl ?_
  refine G.get fl_3_18 0 rfl rfl dX3_wouldSwap_14 ?_
  refine G.iload_n dX3_wouldSwap_17 rfl ?_
  refine G.chk (fun h18 => ?_)
  refine G.iaload 3 0 rfl rfl x1.toNatClampNeg rfl h18 dX3_wouldSwap_18 ?_
  refine G.topi (fun v18 => ?_)
  refine G.callV (st := [.int r8]) (w' := fun r19 => (w_X3 cI cL cC cM cS a t_kind t_used t_bay t_likes t_who t_lamp t_due t_gain t_count t_day t_dues t_draw)) mv_X3_farFrom lk_3_98 (c_X3_farFrom l D ks cI cL cC cM cS a t_kind t_used t_bay t_likes t_who t_lamp t_due t_gain t_count t_day t_dues t_draw x1 v18) [0, 1, 2, 3, 4, 5, 6, 7, 8] [] [0, 1, 2, 3, 4, 5, 6, 7, 8] rfl rfl rfl rfl (by decide +kernel) (fun _ => rfl) rfl (by decide) (Nat.le_of_ble_eq_true rfl) dX3_wouldSwap_19 (fun r19 => [.int r19, .int r8]) (fun _ => rfl) (fun r19 _ => ?_)
  refine G.icmp_ge 54 dX3_wouldSwap_22 (by decide) (fun h22 => ?_) (fun h22 => ?_)
  · refine G.iconst 0 dX3_wouldSwap_54 (by decide) ?_
    exact G.zret rfl rfl rfl dX3_wouldSwap_55
  · refine G.aload_n dX3_wouldSwap_25 rfl ?_
    refine G.iload_n dX3_wouldSwap_26 rfl ?_
    refine G.aload_n dX3_wouldSwap_27 rfl ?_
    refine G.get fl_3_18 0 rfl rfl dX3_wouldSwap_28 ?_
    refine G.iload_n dX3_wouldSwap_31 rfl ?_
    refine G.iaload 3 0 rfl rfl x1.toNatClampNeg rfl h18 dX3_wouldSwap_32 ?_
    refine G.topi (fun v32 => ?_)
    refine G.callV (st := []) (w' := fun r33 => (w_X3 cI cL cC cM cS a t_kind t_used t_bay t_likes t_who t_lamp t_due t_gain t_count t_day t_dues t_draw)) mv_X3_farFrom lk_3_98 (c_X3_farFrom l D ks cI cL cC cM cS a t_kind t_used t_bay t_likes t_who t_lamp t_due t_gain t_count t_day t_dues t_draw x2 v32) [0, 1, 2, 3, 4, 5, 6, 7, 8] [] [0, 1, 2, 3, 4, 5, 6, 7, 8] rfl rfl rfl rfl (by decide +kernel) (fun _ => rfl) rfl (by decide) (Nat.le_of_ble_eq_true rfl) dX3_wouldSwap_33 (fun r33 => [.int r33]) (fun _ => rfl) (fun r33 _ => ?_)
    refine G.aload_n dX3_wouldSwap_36 rfl ?_
    refine G.iload_n dX3_wouldSwap_37 rfl ?_
    refine G.aload_n dX3_wouldSwap_38 rfl ?_
    refine G.get fl_3_18 0 rfl rfl dX3_wouldSwap_39 ?_
    refine G.iload_n dX3_wouldSwap_42 rfl ?_
    refine G.iaload 3 0 rfl rfl x2.toNatClampNeg rfl h7 dX3_wouldSwap_43 ?_
    refine G.topi (fun v43 => ?_)
    refine G.callV (st := [.int r33]) (w' := fun r44 => (w_X3 cI cL cC cM cS a t_kind t_used t_bay t_likes t_who t_lamp t_due t_gain t_count t_day t_dues t_draw)) mv_X3_farFrom lk_3_98 (c_X3_farFrom l D ks cI cL cC cM cS a t_kind t_used t_bay t_likes t_who t_lamp t_due t_gain t_count t_day t_dues t_draw x2 v43) [0, 1, 2, 3, 4, 5, 6, 7, 8] [] [0, 1, 2, 3, 4, 5, 6, 7, 8] rfl rfl rfl rfl (by decide +kernel) (fun _ => rfl) rfl (by decide) (Nat.le_of_ble_eq_true rfl) dX3_wouldSwap_44 (fun r44 => [.int r44, .int r33]) (fun _ => rfl) (fun r44 _ => ?_)
    refine G.join (st := []) Value.int 55 (fun v55 => ?_) (fun hJ => ?_)
    · refine G.chk (fun h55 => ?_)
      exact G.zret rfl rfl (isb_n h55) dX3_wouldSwap_55
    · refine G.ite ?_
      refine G.icmp_ge 54 dX3_wouldSwap_47 (by decide) (fun _ => ?_) (fun _ => ?_)
      · refine G.iconst 0 dX3_wouldSwap_54 (by decide) ?_
        exact hJ _
      · refine G.iconst 1 dX3_wouldSwap_50 (by decide) ?_
        refine G.goto 55 dX3_wouldSwap_51 (by decide) ?_
        exact hJ _
set_option maxHeartbeats 4000000 in
set_option maxRecDepth 100000 in
theorem g_X3_countSwaps_c36 (l : Launch) (D : va_G) (ks : Nat × Nat) (cI cL cC cM cS : ClassId) (a : Nat → Nat) (t_kind t_used t_who t_lamp t_due t_gain : Nat → Int32) (t_day t_dues t_draw : Int32) (k4 : (Nat → Int32) → (Nat → Int32) → Int32 → Int32 → Int32 → Option (Int32)) (hk4 : ∀ (t_bay t_likes : Nat → Int32) (t_count : Int32) (x1 : Int32) (x2 : Int32), GJ l D ks (tyz cI cL cC cM cS) RX3 cX3_countSwaps 4 ((some .int)) { frames := 3, cells := 0, slots := 0, locals := 65 } (fun r : Int32 => (some (.int r), (w_X3 cI cL cC cM cS a t_kind t_used t_bay t_likes t_who t_lamp t_due t_gain t_count t_day t_dues t_draw))) (w_X3 cI cL cC cM cS a t_kind t_used t_bay t_likes t_who t_lamp t_due t_gain t_count t_day t_dues t_draw) 4 [some (.ref (a 0)), some (.int x1), some (.int x2), none] [] (k4 t_bay t_likes t_count x1 x2)) (k16 : (Nat → Int32) → (Nat → Int32) → Int32 → Int32 → Int32 → Int32 → Option (Int32)) (hk16 : ∀ (t_bay t_likes : Nat → Int32) (t_count : Int32) (x1 : Int32) (x2 : Int32) (x3 : Int32), GJ l D ks (tyz cI cL cC cM cS) RX3 cX3_countSwaps 4 ((some .int)) { frames := 3, cells := 0, slots := 0, locals := 65 } (fun r : Int32 => (some (.int r), (w_X3 cI cL cC cM cS a t_kind t_used t_bay t_likes t_who t_lamp t_due t_gain t_count t_day t_dues t_draw))) (w_X3 cI cL cC cM cS a t_kind t_used t_bay t_likes t_who t_lamp t_due t_gain t_count t_day t_dues t_draw) 16 [some (.ref (a 0)), some (.int x1), some (.int x2), some (.int x3)] [] (k16 t_bay t_likes t_count x1 x2 x3)) (t_bay t_likes : Nat → Int32) (t_count : Int32) (x1 : Int32) (x2 : Int32) (x3 : Int32) : GJ l D ks (tyz cI cL cC cM cS) RX3 cX3_countSwaps 4 ((some .int)) { frames := 3, cells := 0, slots := 0, locals := 65 } (fun r : Int32 => (some (.int r), (w_X3 cI cL cC cM cS a t_kind t_used t_bay t_likes t_who t_lamp t_due t_gain t_count t_day t_dues t_draw))) (w_X3 cI cL cC cM cS a t_kind t_used t_bay t_likes t_who t_lamp t_due t_gain t_count t_day t_dues t_draw) 36 [some (.ref (a 0)), some (.int x1), some (.int x2), some (.int x3)] [] (f_X3_countSwaps_c36 k4 k16 t_bay t_likes t_count x1 x2 x3) := by
  unfold f_X3_countSwaps_c36
  refine G.iinc 1 (lv' := [some (.ref (a 0)), some (.int x1), some (.int x2), some (.int (x3 + 1))]) dX3_countSwaps_36 rfl (by decide) (by decide) (Nat.le_of_ble_eq_true rfl) rfl rfl ?_
  refine G.goto 16 dX3_countSwaps_39 (by decide) ?_
  exact hk16 t_bay t_likes t_count x1 x2 (x3 + 1)
set_option maxHeartbeats 4000000 in
set_option maxRecDepth 100000 in
theorem g_X3_countSwaps_c16 (l : Launch) (D : va_G) (ks : Nat × Nat) (cI cL cC cM cS : ClassId) (a : Nat → Nat) (t_kind t_used t_who t_lamp t_due t_gain : Nat → Int32) (t_day t_dues t_draw : Int32) (k4 : (Nat → Int32) → (Nat → Int32) → Int32 → Int32 → Int32 → Option (Int32)) (hk4 : ∀ (t_bay t_likes : Nat → Int32) (t_count : Int32) (x1 : Int32) (x2 : Int32), GJ l D ks (tyz cI cL cC cM cS) RX3 cX3_countSwaps 4 ((some .int)) { frames := 3, cells := 0, slots := 0, locals := 65 } (fun r : Int32 => (some (.int r), (w_X3 cI cL cC cM cS a t_kind t_used t_bay t_likes t_who t_lamp t_due t_gain t_count t_day t_dues t_draw))) (w_X3 cI cL cC cM cS a t_kind t_used t_bay t_likes t_who t_lamp t_due t_gain t_count t_day t_dues t_draw) 4 [some (.ref (a 0)), some (.int x1), some (.int x2), none] [] (k4 t_bay t_likes t_count x1 x2)) : ∀ (n : Nat), ∀ (t_bay t_likes : Nat → Int32) (t_count : Int32) (x1 : Int32) (x2 : Int32) (x3 : Int32), GJ l D ks (tyz cI cL cC cM cS) RX3 cX3_countSwaps 4 ((some .int)) { frames := 3, cells := 0, slots := 0, locals := 65 } (fun r : Int32 => (some (.int r), (w_X3 cI cL cC cM cS a t_kind t_used t_bay t_likes t_who t_lamp t_due t_gain t_count t_day t_dues t_draw))) (w_X3 cI cL cC cM cS a t_kind t_used t_bay t_likes t_who t_lamp t_due t_gain t_count t_day t_dues t_draw) 16 [some (.ref (a 0)), some (.int x1), some (.int x2), some (.int x3)] [] (f_X3_countSwaps_c16 k4 n t_bay t_likes t_count x1 x2 x3) := by
  intro n
  induction n with
  | zero =>
    intro t_bay t_likes t_count x1 x2 x3
    exact G.no
  | succ n ih =>
    intro t_bay t_likes t_count x1 x2 x3
    rw [f_X3_countSwaps_c16]
    refine G.iload_n dX3_countSwaps_16 rfl ?_
    refine G.aload_n dX3_countSwaps_17 rfl ?_
    refine G.get fl_3_46 0 rfl rfl dX3_countSwaps_18 ?_
    refine G.icmp_ge 42 dX3_countSwaps_21 (by decide) (fun h21 => ?_) (fun h21 => ?_)
    · refine G.iinc 1 (lv' := [some (.ref (a 0)), some (.int x1), some (.int (x2 + 1)), some (.int x3)]) dX3_countSwaps_42 rfl (by decide) (by decide) (Nat.le_of_ble_eq_true rfl) rfl rfl ?_
      refine G.goto 4 dX3_countSwaps_45 (by decide) ?_
      refine G.mask (lv' := [some (.ref (a 0)), some (.int x1), some (.int (x2 + 1)), none]) [true, true, true, false] rfl ?_
      exact hk4 t_bay t_likes t_count x1 (x2 + 1)
    · refine G.aload_n dX3_countSwaps_24 rfl ?_
      refine G.iload_n dX3_countSwaps_25 rfl ?_
      refine G.iload_n dX3_countSwaps_26 rfl ?_
      refine G.callV (st := []) (w' := fun r27 => (w_X3 cI cL cC cM cS a t_kind t_used t_bay t_likes t_who t_lamp t_due t_gain t_count t_day t_dues t_draw)) mv_X3_wouldSwap lk_3_101 (c_X3_wouldSwap l D ks cI cL cC cM cS a t_kind t_used t_bay t_likes t_who t_lamp t_due t_gain t_count t_day t_dues t_draw x2 x3) [0, 1, 2, 3, 4, 5, 6, 7, 8] [] [0, 1, 2, 3, 4, 5, 6, 7, 8] rfl rfl rfl rfl (by decide +kernel) (fun _ => rfl) rfl (by decide) (Nat.le_of_ble_eq_true rfl) dX3_countSwaps_27 (fun r27 => [.int r27]) (fun _ => rfl) (fun r27 _ => ?_)
      refine G.if_eq 36 dX3_countSwaps_30 (by decide) (fun h30 => ?_) (fun h30 => ?_)
      · exact g_X3_countSwaps_c36 l D ks cI cL cC cM cS a t_kind t_used t_who t_lamp t_due t_gain t_day t_dues t_draw k4 hk4 (f_X3_countSwaps_c16 k4 n) ih t_bay t_likes t_count x1 x2 x3
      · refine G.iinc 1 (lv' := [some (.ref (a 0)), some (.int (x1 + 1)), some (.int x2), some (.int x3)]) dX3_countSwaps_33 rfl (by decide) (by decide) (Nat.le_of_ble_eq_true rfl) rfl rfl ?_
        exact g_X3_countSwaps_c36 l D ks cI cL cC cM cS a t_kind t_used t_who t_lamp t_due t_gain t_day t_dues t_draw k4 hk4 (f_X3_countSwaps_c16 k4 n) ih t_bay t_likes t_count (x1 + 1) x2 x3
set_option maxHeartbeats 4000000 in
set_option maxRecDepth 100000 in
theorem g_X3_countSwaps_c4 (l : Launch) (D : va_G) (ks : Nat × Nat) (cI cL cC cM cS : ClassId) (a : Nat → Nat) (t_kind t_used t_who t_lamp t_due t_gain : Nat → Int32) (t_day t_dues t_draw : Int32) : ∀ (n : Nat), ∀ (t_bay t_likes : Nat → Int32) (t_count : Int32) (x1 : Int32) (x2 : Int32), GJ l D ks (tyz cI cL cC cM cS) RX3 cX3_countSwaps 4 ((some .int)) { frames := 3, cells := 0, slots := 0, locals := 65 } (fun r : Int32 => (some (.int r), (w_X3 cI cL cC cM cS a t_kind t_used t_bay t_likes t_who t_lamp t_due t_gain t_count t_day t_dues t_draw))) (w_X3 cI cL cC cM cS a t_kind t_used t_bay t_likes t_who t_lamp t_due t_gain t_count t_day t_dues t_draw) 4 [some (.ref (a 0)), some (.int x1), some (.int x2), none] [] (f_X3_countSwaps_c4 n t_bay t_likes t_count x1 x2) := by
  intro n
  induction n with
  | zero =>
    intro t_bay t_likes t_count x1 x2
    exact G.no
  | succ n ih =>
    intro t_bay t_likes t_count x1 x2
    rw [f_X3_countSwaps_c4]
    refine G.iload_n dX3_countSwaps_4 rfl ?_
    refine G.aload_n dX3_countSwaps_5 rfl ?_
    refine G.get fl_3_46 0 rfl rfl dX3_countSwaps_6 ?_
    refine G.icmp_ge 48 dX3_countSwaps_9 (by decide) (fun h9 => ?_) (fun h9 => ?_)
    · refine G.iload_n dX3_countSwaps_48 rfl ?_
      exact G.iret rfl rfl dX3_countSwaps_49
    · refine G.iload_n dX3_countSwaps_12 rfl ?_
      refine G.iconst 1 dX3_countSwaps_13 (by decide) ?_
      refine G.iadd dX3_countSwaps_14 ?_
      refine G.istore_n (lv' := [some (.ref (a 0)), some (.int x1), some (.int x2), some (.int (x2 + 1))]) dX3_countSwaps_15 (by decide) (Nat.le_of_ble_eq_true rfl) rfl rfl ?_
      exact g_X3_countSwaps_c16 l D ks cI cL cC cM cS a t_kind t_used t_who t_lamp t_due t_gain t_day t_dues t_draw (f_X3_countSwaps_c4 n) ih fu t_bay t_likes t_count x1 x2 (x2 + 1)
set_option maxHeartbeats 4000000 in
set_option maxRecDepth 100000 in
theorem c_X3_countSwaps (l : Launch) (D : va_G) (ks : Nat × Nat) (cI cL cC cM cS : ClassId) (a : Nat → Nat) (t_kind t_used t_bay t_likes t_who t_lamp t_due t_gain : Nat → Int32) (t_count t_day t_dues t_draw : Int32) : MT l D ks (tyz cI cL cC cM cS) yX3_countSwaps cX3_countSwaps 4 ((some .int)) { frames := 3, cells := 0, slots := 0, locals := 65 } [.ref (a 0)] (w_X3 cI cL cC cM cS a t_kind t_used t_bay t_likes t_who t_lamp t_due t_gain t_count t_day t_dues t_draw) (fun r : Int32 => (some (.int r), (w_X3 cI cL cC cM cS a t_kind t_used t_bay t_likes t_who t_lamp t_due t_gain t_count t_day t_dues t_draw))) (f_X3_countSwaps t_bay t_likes t_count) := by
  refine MT.of 3 [some (.ref (a 0)), none, none, none] (by decide) (Nat.le_of_ble_eq_true rfl) rfl ?_
  unfold f_X3_countSwaps
  refine G.iconst 0 dX3_countSwaps_0 (by decide) ?_
  refine G.istore_n (lv' := [some (.ref (a 0)), some (.int 0), none, none]) dX3_countSwaps_1 (by decide) (Nat.le_of_ble_eq_true rfl) rfl rfl ?_
  refine G.iconst 0 dX3_countSwaps_2 (by decide) ?_
  refine G.istore_n (lv' := [some (.ref (a 0)), some (.int 0), some (.int 0), none]) dX3_countSwaps_3 (by decide) (Nat.le_of_ble_eq_true rfl) rfl rfl ?_
  exact g_X3_countSwaps_c4 l D ks cI cL cC cM cS a t_kind t_used t_who t_lamp t_due t_gain t_day t_dues t_draw fu t_bay t_likes t_count 0 0
set_option maxHeartbeats 4000000 in
set_option maxRecDepth 100000 in
theorem c_X3_hasTaken (l : Launch) (D : va_G) (ks : Nat × Nat) (cI cL cC cM cS : ClassId) (a : Nat → Nat) (t_kind t_used t_bay t_likes t_who t_lamp t_due t_gain : Nat → Int32) (t_count t_day t_dues t_draw : Int32) (x1 : Int32) : MT l D ks (tyz cI cL cC cM cS) yX3_hasTaken cX3_hasTaken 2 ((some .boolean)) { frames := 0, cells := 0, slots := 0, locals := 0 } [.ref (a 0), .int x1] (w_X3 cI cL cC cM cS a t_kind t_used t_bay t_likes t_who t_lamp t_due t_gain t_count t_day t_dues t_draw) (fun r : Int32 => (some (.int r), (w_X3 cI cL cC cM cS a t_kind t_used t_bay t_likes t_who t_lamp t_due t_gain t_count t_day t_dues t_draw))) (f_X3_hasTaken t_used x1) := by
  refine MT.of 0 [some (.ref (a 0)), some (.int x1)] (by decide) (Nat.le_of_ble_eq_true rfl) rfl ?_
  unfold f_X3_hasTaken
  refine G.aload_n dX3_hasTaken_0 rfl ?_
  refine G.get fl_3_15 0 rfl rfl dX3_hasTaken_1 ?_
  refine G.iload_n dX3_hasTaken_4 rfl ?_
  refine G.chk (fun h5 => ?_)
  refine G.iaload 2 0 rfl rfl x1.toNatClampNeg rfl h5 dX3_hasTaken_5 ?_
  refine G.topi (fun v5 => ?_)
  refine G.bipush 99 dX3_hasTaken_6 (by decide) ?_
  refine G.join (st := []) Value.int 16 (fun v16 => ?_) (fun hJ => ?_)
  · refine G.chk (fun h16 => ?_)
    exact G.zret rfl rfl (isb_n h16) dX3_hasTaken_16
  · refine G.ite ?_
    refine G.icmp_lt 15 dX3_hasTaken_8 (by decide) (fun _ => ?_) (fun _ => ?_)
    · refine G.iconst 0 dX3_hasTaken_15 (by decide) ?_
      exact hJ _
    · refine G.iconst 1 dX3_hasTaken_11 (by decide) ?_
      refine G.goto 16 dX3_hasTaken_12 (by decide) ?_
      exact hJ _
set_option maxHeartbeats 4000000 in
set_option maxRecDepth 100000 in
theorem c_X3_talkTo (l : Launch) (D : va_G) (ks : Nat × Nat) (cI cL cC cM cS : ClassId) (a : Nat → Nat) (t_kind t_used t_bay t_likes t_who t_lamp t_due t_gain : Nat → Int32) (t_count t_day t_dues t_draw : Int32) (x1 : Int32) : MT l D ks (tyz cI cL cC cM cS) yX3_talkTo cX3_talkTo 2 none { frames := 1, cells := 0, slots := 0, locals := 21 } [.ref (a 0), .int x1] (w_X3 cI cL cC cM cS a t_kind t_used t_bay t_likes t_who t_lamp t_due t_gain t_count t_day t_dues t_draw) (fun r : (Nat → Int32) => (none, (w_X3 cI cL cC cM cS a t_kind r t_bay t_likes t_who t_lamp t_due t_gain t_count t_day t_dues t_draw))) (f_X3_talkTo t_used x1) := by
  refine MT.of 0 [some (.ref (a 0)), some (.int x1)] (by decide) (Nat.le_of_ble_eq_true rfl) rfl ?_
  unfold f_X3_talkTo
  refine G.aload_n dX3_talkTo_0 rfl ?_
  refine G.iload_n dX3_talkTo_1 rfl ?_
  refine G.callV (st := []) (w' := fun r2 => (w_X3 cI cL cC cM cS a t_kind t_used t_bay t_likes t_who t_lamp t_due t_gain t_count t_day t_dues t_draw)) mv_X3_hasTaken lk_3_59 (c_X3_hasTaken l D ks cI cL cC cM cS a t_kind t_used t_bay t_likes t_who t_lamp t_due t_gain t_count t_day t_dues t_draw x1) [0, 1, 2, 3, 4, 5, 6, 7, 8] [] [0, 1, 2, 3, 4, 5, 6, 7, 8] rfl rfl rfl rfl (by decide +kernel) (fun _ => rfl) rfl (by decide) (Nat.le_of_ble_eq_true rfl) dX3_talkTo_2 (fun r2 => [.int r2]) (fun _ => rfl) (fun r2 _ => ?_)
  refine G.if_ne 26 dX3_talkTo_5 (by decide) (fun h5 => ?_) (fun h5 => ?_)
  · exact G.vret rfl rfl dX3_talkTo_26
  · refine G.aload_n dX3_talkTo_8 rfl ?_
    refine G.get fl_3_15 0 rfl rfl dX3_talkTo_9 ?_
    refine G.iload_n dX3_talkTo_12 rfl ?_
    refine G.iconst 0 dX3_talkTo_13 (by decide) ?_
    refine G.aload_n dX3_talkTo_14 rfl ?_
    refine G.get fl_3_15 0 rfl rfl dX3_talkTo_15 ?_
    refine G.iload_n dX3_talkTo_18 rfl ?_
    refine G.chk (fun h19 => ?_)
    refine G.iaload 2 0 rfl rfl x1.toNatClampNeg rfl h19 dX3_talkTo_19 ?_
    refine G.topi (fun v19 => ?_)
    refine G.iconst 5 dX3_talkTo_20 (by decide) ?_
    refine G.isub dX3_talkTo_21 ?_
    refine G.mmax lk_3_70 mst_max mini mcd_max (by decide) (Nat.le_of_ble_eq_true rfl) dX3_talkTo_22 ?_
    refine G.topi (fun v22 => ?_)
    refine G.iastore (w' := (w_X3 cI cL cC cM cS a t_kind (upd t_used x1.toNatClampNeg v22) t_bay t_likes t_who t_lamp t_due t_gain t_count t_day t_dues t_draw)) 2 0 rfl rfl x1.toNatClampNeg rfl h19 rfl dX3_talkTo_25 ?_
    exact G.vret rfl rfl dX3_talkTo_26
set_option maxHeartbeats 4000000 in
set_option maxRecDepth 100000 in
theorem c_X3_drawTalk (l : Launch) (D : va_G) (ks : Nat × Nat) (cI cL cC cM cS : ClassId) (a : Nat → Nat) (t_kind t_used t_bay t_likes t_who t_lamp t_due t_gain : Nat → Int32) (t_count t_day t_dues t_draw : Int32) : MT l D ks (tyz cI cL cC cM cS) yX3_drawTalk cX3_drawTalk 1 none { frames := 2, cells := 0, slots := 0, locals := 42 } [.ref (a 0)] (w_X3 cI cL cC cM cS a t_kind t_used t_bay t_likes t_who t_lamp t_due t_gain t_count t_day t_dues t_draw) (fun r : (Nat → Int32) × Int32 => (none, (w_X3 cI cL cC cM cS a t_kind r.1 t_bay t_likes t_who t_lamp t_due t_gain t_count t_day t_dues r.2))) (f_X3_drawTalk t_used t_count t_draw) := by
  refine MT.of 0 [some (.ref (a 0))] (by decide) (Nat.le_of_ble_eq_true rfl) rfl ?_
  unfold f_X3_drawTalk
  refine G.aload_n dX3_drawTalk_0 rfl ?_
  refine G.aload_n dX3_drawTalk_1 rfl ?_
  refine G.get fl_3_36 0 rfl rfl dX3_drawTalk_2 ?_
  refine G.ldc kc_3_88 dX3_drawTalk_5 ?_
  refine G.imul dX3_drawTalk_7 ?_
  refine G.sipush 12345 dX3_drawTalk_8 (by decide) ?_
  refine G.iadd dX3_drawTalk_11 ?_
  refine G.ldc kc_3_89 dX3_drawTalk_12 ?_
  refine G.iand dX3_drawTalk_14 ?_
  refine G.put (w' := (w_X3 cI cL cC cM cS a t_kind t_used t_bay t_likes t_who t_lamp t_due t_gain t_count t_day t_dues (((t_draw * 1103515245) + 12345) &&& 2147483647))) fp_3_36 0 rfl (Nat.le_of_ble_eq_true rfl) rfl rfl rfl dX3_drawTalk_15 ?_
  refine G.aload_n dX3_drawTalk_18 rfl ?_
  refine G.get fl_3_36 0 rfl rfl dX3_drawTalk_19 ?_
  refine G.ldc kc_3_90 dX3_drawTalk_22 ?_
  refine G.idiv dX3_drawTalk_24 (by decide) ?_
  refine G.iconst 3 dX3_drawTalk_25 (by decide) ?_
  refine G.irem dX3_drawTalk_26 (by decide) ?_
  refine G.if_ne 54 dX3_drawTalk_27 (by decide) (fun h27 => ?_) (fun h27 => ?_)
  · exact G.vret rfl rfl dX3_drawTalk_54
  · refine G.aload_n dX3_drawTalk_30 rfl ?_
    refine G.get fl_3_46 0 rfl rfl dX3_drawTalk_31 ?_
    refine G.if_le 54 dX3_drawTalk_34 (by decide) (fun h34 => ?_) (fun h34 => ?_)
    · exact G.vret rfl rfl dX3_drawTalk_54
    · refine G.aload_n dX3_drawTalk_37 rfl ?_
      refine G.aload_n dX3_drawTalk_38 rfl ?_
      refine G.get fl_3_36 0 rfl rfl dX3_drawTalk_39 ?_
      refine G.sipush 128 dX3_drawTalk_42 (by decide) ?_
      refine G.idiv dX3_drawTalk_45 (by decide) ?_
      refine G.aload_n dX3_drawTalk_46 rfl ?_
      refine G.get fl_3_46 0 rfl rfl dX3_drawTalk_47 ?_
      refine G.nz (fun h50 => ?_)
      refine G.irem dX3_drawTalk_50 h50 ?_
      refine G.callV (st := []) (w' := fun r51 => (w_X3 cI cL cC cM cS a t_kind r51 t_bay t_likes t_who t_lamp t_due t_gain t_count t_day t_dues (((t_draw * 1103515245) + 12345) &&& 2147483647))) mv_X3_talkTo lk_3_91 (c_X3_talkTo l D ks cI cL cC cM cS a t_kind t_used t_bay t_likes t_who t_lamp t_due t_gain t_count t_day t_dues (((t_draw * 1103515245) + 12345) &&& 2147483647) (((((t_draw * 1103515245) + 12345) &&& 2147483647) / 128) - ((((t_draw * 1103515245) + 12345) &&& 2147483647) / 128) / t_count * t_count)) [0, 1, 2, 3, 4, 5, 6, 7, 8] [] [0, 1, 2, 3, 4, 5, 6, 7, 8] rfl rfl rfl rfl (by decide +kernel) (fun _ => rfl) rfl (by decide) (Nat.le_of_ble_eq_true rfl) dX3_drawTalk_51 (fun r51 => []) (fun _ => rfl) (fun r51 _ => ?_)
      exact G.vret rfl rfl dX3_drawTalk_54
set_option maxHeartbeats 4000000 in
set_option maxRecDepth 100000 in
theorem c_X3_notTakenIn (l : Launch) (D : va_G) (ks : Nat × Nat) (cI cL cC cM cS : ClassId) (a : Nat → Nat) (t_kind t_used t_bay t_likes t_who t_lamp t_due t_gain : Nat → Int32) (t_count t_day t_dues t_draw : Int32) (x1 : Int32) : MT l D ks (tyz cI cL cC cM cS) yX3_notTakenIn cX3_notTakenIn 3 ((some .int)) { frames := 1, cells := 0, slots := 0, locals := 21 } [.ref (a 0), .int x1] (w_X3 cI cL cC cM cS a t_kind t_used t_bay t_likes t_who t_lamp t_due t_gain t_count t_day t_dues t_draw) (fun r : Int32 => (some (.int r), (w_X3 cI cL cC cM cS a t_kind t_used t_bay t_likes t_who t_lamp t_due t_gain t_count t_day t_dues t_draw))) (f_X3_notTakenIn t_used t_who x1) := by
  refine MT.of 1 [some (.ref (a 0)), some (.int x1), none] (by decide) (Nat.le_of_ble_eq_true rfl) rfl ?_
  unfold f_X3_notTakenIn
  refine G.aload_n dX3_notTakenIn_0 rfl ?_
  refine G.iload_n dX3_notTakenIn_1 rfl ?_
  refine G.callV (st := []) (w' := fun r2 => (w_X3 cI cL cC cM cS a t_kind t_used t_bay t_likes t_who t_lamp t_due t_gain t_count t_day t_dues t_draw)) mv_X3_whoIn lk_3_63 (c_X3_whoIn l D ks cI cL cC cM cS a t_kind t_used t_bay t_likes t_who t_lamp t_due t_gain t_count t_day t_dues t_draw x1) [0, 1, 2, 3, 4, 5, 6, 7, 8] [] [0, 1, 2, 3, 4, 5, 6, 7, 8] rfl rfl rfl rfl (by decide +kernel) (fun _ => rfl) rfl (by decide) (Nat.le_of_ble_eq_true rfl) dX3_notTakenIn_2 (fun r2 => [.int r2]) (fun _ => rfl) (fun r2 _ => ?_)
  refine G.istore_n (lv' := [some (.ref (a 0)), some (.int x1), some (.int r2)]) dX3_notTakenIn_5 (by decide) (Nat.le_of_ble_eq_true rfl) rfl rfl ?_
  refine G.iload_n dX3_notTakenIn_6 rfl ?_
  refine G.iconst (-1) dX3_notTakenIn_7 (by decide) ?_
  refine G.icmp_eq 23 dX3_notTakenIn_8 (by decide) (fun h8 => ?_) (fun h8 => ?_)
  · refine G.iconst 0 dX3_notTakenIn_23 (by decide) ?_
    exact G.iret rfl rfl dX3_notTakenIn_24
  · refine G.aload_n dX3_notTakenIn_11 rfl ?_
    refine G.iload_n dX3_notTakenIn_12 rfl ?_
    refine G.callV (st := []) (w' := fun r13 => (w_X3 cI cL cC cM cS a t_kind t_used t_bay t_likes t_who t_lamp t_due t_gain t_count t_day t_dues t_draw)) mv_X3_hasTaken lk_3_59 (c_X3_hasTaken l D ks cI cL cC cM cS a t_kind t_used t_bay t_likes t_who t_lamp t_due t_gain t_count t_day t_dues t_draw r2) [0, 1, 2, 3, 4, 5, 6, 7, 8] [] [0, 1, 2, 3, 4, 5, 6, 7, 8] rfl rfl rfl rfl (by decide +kernel) (fun _ => rfl) rfl (by decide) (Nat.le_of_ble_eq_true rfl) dX3_notTakenIn_13 (fun r13 => [.int r13]) (fun _ => rfl) (fun r13 _ => ?_)
    refine G.join (st := []) Value.int 24 (fun v24 => ?_) (fun hJ => ?_)
    · exact G.iret rfl rfl dX3_notTakenIn_24
    · refine G.ite ?_
      refine G.if_ne 23 dX3_notTakenIn_16 (by decide) (fun _ => ?_) (fun _ => ?_)
      · refine G.iconst 0 dX3_notTakenIn_23 (by decide) ?_
        exact hJ _
      · refine G.iconst 1 dX3_notTakenIn_19 (by decide) ?_
        refine G.goto 24 dX3_notTakenIn_20 (by decide) ?_
        exact hJ _
set_option maxHeartbeats 4000000 in
set_option maxRecDepth 100000 in
theorem c_X3_takenIn (l : Launch) (D : va_G) (ks : Nat × Nat) (cI cL cC cM cS : ClassId) (a : Nat → Nat) (t_kind t_used t_bay t_likes t_who t_lamp t_due t_gain : Nat → Int32) (t_count t_day t_dues t_draw : Int32) (x1 : Int32) : MT l D ks (tyz cI cL cC cM cS) yX3_takenIn cX3_takenIn 3 ((some .int)) { frames := 1, cells := 0, slots := 0, locals := 21 } [.ref (a 0), .int x1] (w_X3 cI cL cC cM cS a t_kind t_used t_bay t_likes t_who t_lamp t_due t_gain t_count t_day t_dues t_draw) (fun r : Int32 => (some (.int r), (w_X3 cI cL cC cM cS a t_kind t_used t_bay t_likes t_who t_lamp t_due t_gain t_count t_day t_dues t_draw))) (f_X3_takenIn t_used t_who x1) := by
  refine MT.of 1 [some (.ref (a 0)), some (.int x1), none] (by decide) (Nat.le_of_ble_eq_true rfl) rfl ?_
  unfold f_X3_takenIn
  refine G.aload_n dX3_takenIn_0 rfl ?_
  refine G.iload_n dX3_takenIn_1 rfl ?_
  refine G.callV (st := []) (w' := fun r2 => (w_X3 cI cL cC cM cS a t_kind t_used t_bay t_likes t_who t_lamp t_due t_gain t_count t_day t_dues t_draw)) mv_X3_whoIn lk_3_63 (c_X3_whoIn l D ks cI cL cC cM cS a t_kind t_used t_bay t_likes t_who t_lamp t_due t_gain t_count t_day t_dues t_draw x1) [0, 1, 2, 3, 4, 5, 6, 7, 8] [] [0, 1, 2, 3, 4, 5, 6, 7, 8] rfl rfl rfl rfl (by decide +kernel) (fun _ => rfl) rfl (by decide) (Nat.le_of_ble_eq_true rfl) dX3_takenIn_2 (fun r2 => [.int r2]) (fun _ => rfl) (fun r2 _ => ?_)
  refine G.istore_n (lv' := [some (.ref (a 0)), some (.int x1), some (.int r2)]) dX3_takenIn_5 (by decide) (Nat.le_of_ble_eq_true rfl) rfl rfl ?_
  refine G.iload_n dX3_takenIn_6 rfl ?_
  refine G.iconst (-1) dX3_takenIn_7 (by decide) ?_
  refine G.icmp_eq 23 dX3_takenIn_8 (by decide) (fun h8 => ?_) (fun h8 => ?_)
  · refine G.iconst 0 dX3_takenIn_23 (by decide) ?_
    exact G.iret rfl rfl dX3_takenIn_24
  · refine G.aload_n dX3_takenIn_11 rfl ?_
    refine G.iload_n dX3_takenIn_12 rfl ?_
    refine G.callV (st := []) (w' := fun r13 => (w_X3 cI cL cC cM cS a t_kind t_used t_bay t_likes t_who t_lamp t_due t_gain t_count t_day t_dues t_draw)) mv_X3_hasTaken lk_3_59 (c_X3_hasTaken l D ks cI cL cC cM cS a t_kind t_used t_bay t_likes t_who t_lamp t_due t_gain t_count t_day t_dues t_draw r2) [0, 1, 2, 3, 4, 5, 6, 7, 8] [] [0, 1, 2, 3, 4, 5, 6, 7, 8] rfl rfl rfl rfl (by decide +kernel) (fun _ => rfl) rfl (by decide) (Nat.le_of_ble_eq_true rfl) dX3_takenIn_13 (fun r13 => [.int r13]) (fun _ => rfl) (fun r13 _ => ?_)
    refine G.join (st := []) Value.int 24 (fun v24 => ?_) (fun hJ => ?_)
    · exact G.iret rfl rfl dX3_takenIn_24
    · refine G.ite ?_
      refine G.if_eq 23 dX3_takenIn_16 (by decide) (fun _ => ?_) (fun _ => ?_)
      · refine G.iconst 0 dX3_takenIn_23 (by decide) ?_
        exact hJ _
      · refine G.iconst 1 dX3_takenIn_19 (by decide) ?_
        refine G.goto 24 dX3_takenIn_20 (by decide) ?_
        exact hJ _
set_option maxHeartbeats 4000000 in
set_option maxRecDepth 100000 in
theorem g_X3_gainOf_c44 (l : Launch) (D : va_G) (ks : Nat × Nat) (cI cL cC cM cS : ClassId) (a : Nat → Nat) (t_likes t_due t_gain : Nat → Int32) (t_count t_day t_dues t_draw : Int32) (t_kind t_used t_bay t_who t_lamp : Nat → Int32) (x2 : Int32) (x3 : Int32) (x4 : Int32) : GJ l D ks (tyz cI cL cC cM cS) RX3 cX3_gainOf 6 ((some .int)) { frames := 2, cells := 0, slots := 0, locals := 43 } (fun r : Int32 => (some (.int r), (w_X3 cI cL cC cM cS a t_kind t_used t_bay t_likes t_who t_lamp t_due t_gain t_count t_day t_dues t_draw))) (w_X3 cI cL cC cM cS a t_kind t_used t_bay t_likes t_who t_lamp t_due t_gain t_count t_day t_dues t_draw) 44 [some (.ref (a 0)), none, some (.int x2), some (.int x3), some (.int x4), none] [] (f_X3_gainOf_c44 t_kind t_used t_bay t_who t_lamp x2 x3 x4) := by
  unfold f_X3_gainOf_c44
  refine G.iconst 0 dX3_gainOf_44 (by decide) ?_
  refine G.iload_n dX3_gainOf_45 rfl ?_
  refine G.aload_n dX3_gainOf_46 rfl ?_
  refine G.iload_n dX3_gainOf_47 rfl ?_
  refine G.iconst 1 dX3_gainOf_48 (by decide) ?_
  refine G.isub dX3_gainOf_49 ?_
  refine G.callV (st := [.int x3, .int 0]) (w' := fun r50 => (w_X3 cI cL cC cM cS a t_kind t_used t_bay t_likes t_who t_lamp t_due t_gain t_count t_day t_dues t_draw)) mv_X3_notTakenIn lk_3_67 (c_X3_notTakenIn l D ks cI cL cC cM cS a t_kind t_used t_bay t_likes t_who t_lamp t_due t_gain t_count t_day t_dues t_draw (x2 - 1)) [0, 1, 2, 3, 4, 5, 6, 7, 8] [] [0, 1, 2, 3, 4, 5, 6, 7, 8] rfl rfl rfl rfl (by decide +kernel) (fun _ => rfl) rfl (by decide) (Nat.le_of_ble_eq_true rfl) dX3_gainOf_50 (fun r50 => [.int r50, .int x3, .int 0]) (fun _ => rfl) (fun r50 _ => ?_)
  refine G.isub dX3_gainOf_53 ?_
  refine G.aload_n dX3_gainOf_54 rfl ?_
  refine G.iload_n dX3_gainOf_55 rfl ?_
  refine G.iconst 1 dX3_gainOf_56 (by decide) ?_
  refine G.iadd dX3_gainOf_57 ?_
  refine G.callV (st := [.int (x3 - r50), .int 0]) (w' := fun r58 => (w_X3 cI cL cC cM cS a t_kind t_used t_bay t_likes t_who t_lamp t_due t_gain t_count t_day t_dues t_draw)) mv_X3_notTakenIn lk_3_67 (c_X3_notTakenIn l D ks cI cL cC cM cS a t_kind t_used t_bay t_likes t_who t_lamp t_due t_gain t_count t_day t_dues t_draw (x2 + 1)) [0, 1, 2, 3, 4, 5, 6, 7, 8] [] [0, 1, 2, 3, 4, 5, 6, 7, 8] rfl rfl rfl rfl (by decide +kernel) (fun _ => rfl) rfl (by decide) (Nat.le_of_ble_eq_true rfl) dX3_gainOf_58 (fun r58 => [.int r58, .int (x3 - r50), .int 0]) (fun _ => rfl) (fun r58 _ => ?_)
  refine G.isub dX3_gainOf_61 ?_
  refine G.mmax lk_3_70 mst_max mini mcd_max (by decide) (Nat.le_of_ble_eq_true rfl) dX3_gainOf_62 ?_
  refine G.topi (fun v62 => ?_)
  refine G.istore (lv' := [some (.ref (a 0)), none, some (.int x2), some (.int x3), some (.int x4), some (.int v62)]) dX3_gainOf_65 (by decide) (Nat.le_of_ble_eq_true rfl) rfl rfl ?_
  refine G.iload dX3_gainOf_67 rfl ?_
  refine G.iconst 1 dX3_gainOf_69 (by decide) ?_
  refine G.icmp_ne 78 dX3_gainOf_70 (by decide) (fun h70 => ?_) (fun h70 => ?_)
  · refine G.iconst 4 dX3_gainOf_78 (by decide) ?_
    refine G.iload dX3_gainOf_79 rfl ?_
    refine G.mmin lk_3_76 mst_min mini mcd_min (by decide) (Nat.le_of_ble_eq_true rfl) dX3_gainOf_81 ?_
    refine G.topi (fun v81 => ?_)
    exact G.iret rfl rfl dX3_gainOf_84
  · refine G.iload dX3_gainOf_73 rfl ?_
    refine G.goto 84 dX3_gainOf_75 (by decide) ?_
    exact G.iret rfl rfl dX3_gainOf_84
set_option maxHeartbeats 4000000 in
set_option maxRecDepth 100000 in
theorem c_X3_gainOf (l : Launch) (D : va_G) (ks : Nat × Nat) (cI cL cC cM cS : ClassId) (a : Nat → Nat) (t_kind t_used t_bay t_likes t_who t_lamp t_due t_gain : Nat → Int32) (t_count t_day t_dues t_draw : Int32) (x1 : Int32) : MT l D ks (tyz cI cL cC cM cS) yX3_gainOf cX3_gainOf 6 ((some .int)) { frames := 2, cells := 0, slots := 0, locals := 43 } [.ref (a 0), .int x1] (w_X3 cI cL cC cM cS a t_kind t_used t_bay t_likes t_who t_lamp t_due t_gain t_count t_day t_dues t_draw) (fun r : Int32 => (some (.int r), (w_X3 cI cL cC cM cS a t_kind t_used t_bay t_likes t_who t_lamp t_due t_gain t_count t_day t_dues t_draw))) (f_X3_gainOf t_kind t_used t_bay t_who t_lamp x1) := by
  refine MT.of 4 [some (.ref (a 0)), some (.int x1), none, none, none, none] (by decide) (Nat.le_of_ble_eq_true rfl) rfl ?_
  unfold f_X3_gainOf
  refine G.aload_n dX3_gainOf_0 rfl ?_
  refine G.get fl_3_18 0 rfl rfl dX3_gainOf_1 ?_
  refine G.iload_n dX3_gainOf_4 rfl ?_
  refine G.chk (fun h5 => ?_)
  refine G.iaload 3 0 rfl rfl x1.toNatClampNeg rfl h5 dX3_gainOf_5 ?_
  refine G.topi (fun v5 => ?_)
  refine G.istore_n (lv' := [some (.ref (a 0)), some (.int x1), some (.int v5), none, none, none]) dX3_gainOf_6 (by decide) (Nat.le_of_ble_eq_true rfl) rfl rfl ?_
  refine G.bipush 10 dX3_gainOf_7 (by decide) ?_
  refine G.aload_n dX3_gainOf_9 rfl ?_
  refine G.get fl_3_27 0 rfl rfl dX3_gainOf_10 ?_
  refine G.iload_n dX3_gainOf_13 rfl ?_
  refine G.chk (fun h14 => ?_)
  refine G.iaload 6 0 rfl rfl v5.toNatClampNeg rfl h14 dX3_gainOf_14 ?_
  refine G.topi (fun v14 => ?_)
  refine G.isub dX3_gainOf_15 ?_
  refine G.istore_n (lv' := [some (.ref (a 0)), some (.int x1), some (.int v5), some (.int (10 - v14)), none, none]) dX3_gainOf_16 (by decide) (Nat.le_of_ble_eq_true rfl) rfl rfl ?_
  refine G.aload_n dX3_gainOf_17 rfl ?_
  refine G.get fl_3_9 0 rfl rfl dX3_gainOf_18 ?_
  refine G.iload_n dX3_gainOf_21 rfl ?_
  refine G.iaload 1 0 rfl rfl x1.toNatClampNeg rfl h5 dX3_gainOf_22 ?_
  refine G.topi (fun v22 => ?_)
  refine G.istore (lv' := [some (.ref (a 0)), some (.int x1), some (.int v5), some (.int (10 - v14)), some (.int v22), none]) dX3_gainOf_23 (by decide) (Nat.le_of_ble_eq_true rfl) rfl rfl ?_
  refine G.iload dX3_gainOf_25 rfl ?_
  refine G.if_ne 32 dX3_gainOf_27 (by decide) (fun h27 => ?_) (fun h27 => ?_)
  · refine G.iload dX3_gainOf_32 rfl ?_
    refine G.iconst 1 dX3_gainOf_34 (by decide) ?_
    refine G.icmp_eq 44 dX3_gainOf_35 (by decide) (fun h35 => ?_) (fun h35 => ?_)
    · refine G.mask (lv' := [some (.ref (a 0)), none, some (.int v5), some (.int (10 - v14)), some (.int v22), none]) [true, false, true, true, true, false] rfl ?_
      exact g_X3_gainOf_c44 l D ks cI cL cC cM cS a t_likes t_due t_gain t_count t_day t_dues t_draw t_kind t_used t_bay t_who t_lamp v5 (10 - v14) v22
    · refine G.iload dX3_gainOf_38 rfl ?_
      refine G.iconst 3 dX3_gainOf_40 (by decide) ?_
      refine G.icmp_ne 85 dX3_gainOf_41 (by decide) (fun h41 => ?_) (fun h41 => ?_)
      · refine G.iload_n dX3_gainOf_85 rfl ?_
        refine G.join (st := []) Value.int 101 (fun v101 => ?_) (fun hJ => ?_)
        · refine G.istore (lv' := [some (.ref (a 0)), some (.int x1), some (.int v5), some (.int (10 - v14)), some (.int v22), some (.int v101)]) dX3_gainOf_101 (by decide) (Nat.le_of_ble_eq_true rfl) rfl rfl ?_
          refine G.iload dX3_gainOf_103 rfl ?_
          refine G.iconst 4 dX3_gainOf_105 (by decide) ?_
          refine G.icmp_ne 132 dX3_gainOf_106 (by decide) (fun h106 => ?_) (fun h106 => ?_)
          · refine G.iload dX3_gainOf_132 rfl ?_
            exact G.iret rfl rfl dX3_gainOf_134
          · refine G.iload dX3_gainOf_109 rfl ?_
            refine G.iconst 2 dX3_gainOf_111 (by decide) ?_
            refine G.aload_n dX3_gainOf_112 rfl ?_
            refine G.iload_n dX3_gainOf_113 rfl ?_
            refine G.iconst 1 dX3_gainOf_114 (by decide) ?_
            refine G.isub dX3_gainOf_115 ?_
            refine G.callV (st := [.int 2, .int v101]) (w' := fun r116 => (w_X3 cI cL cC cM cS a t_kind t_used t_bay t_likes t_who t_lamp t_due t_gain t_count t_day t_dues t_draw)) mv_X3_takenIn lk_3_79 (c_X3_takenIn l D ks cI cL cC cM cS a t_kind t_used t_bay t_likes t_who t_lamp t_due t_gain t_count t_day t_dues t_draw (v5 - 1)) [0, 1, 2, 3, 4, 5, 6, 7, 8] [] [0, 1, 2, 3, 4, 5, 6, 7, 8] rfl rfl rfl rfl (by decide +kernel) (fun _ => rfl) rfl (by decide) (Nat.le_of_ble_eq_true rfl) dX3_gainOf_116 (fun r116 => [.int r116, .int 2, .int v101]) (fun _ => rfl) (fun r116 _ => ?_)
            refine G.aload_n dX3_gainOf_119 rfl ?_
            refine G.iload_n dX3_gainOf_120 rfl ?_
            refine G.iconst 1 dX3_gainOf_121 (by decide) ?_
            refine G.iadd dX3_gainOf_122 ?_
            refine G.callV (st := [.int r116, .int 2, .int v101]) (w' := fun r123 => (w_X3 cI cL cC cM cS a t_kind t_used t_bay t_likes t_who t_lamp t_due t_gain t_count t_day t_dues t_draw)) mv_X3_takenIn lk_3_79 (c_X3_takenIn l D ks cI cL cC cM cS a t_kind t_used t_bay t_likes t_who t_lamp t_due t_gain t_count t_day t_dues t_draw (v5 + 1)) [0, 1, 2, 3, 4, 5, 6, 7, 8] [] [0, 1, 2, 3, 4, 5, 6, 7, 8] rfl rfl rfl rfl (by decide +kernel) (fun _ => rfl) rfl (by decide) (Nat.le_of_ble_eq_true rfl) dX3_gainOf_123 (fun r123 => [.int r123, .int r116, .int 2, .int v101]) (fun _ => rfl) (fun r123 _ => ?_)
            refine G.iadd dX3_gainOf_126 ?_
            refine G.imul dX3_gainOf_127 ?_
            refine G.iadd dX3_gainOf_128 ?_
            refine G.goto 134 dX3_gainOf_129 (by decide) ?_
            exact G.iret rfl rfl dX3_gainOf_134
        · refine G.ite ?_
          refine G.if_eq 94 dX3_gainOf_86 (by decide) (fun _ => ?_) (fun _ => ?_)
          · refine G.iload_n dX3_gainOf_94 rfl ?_
            refine G.iconst 3 dX3_gainOf_95 (by decide) ?_
            refine G.iadd dX3_gainOf_96 ?_
            refine G.goto 101 dX3_gainOf_97 (by decide) ?_
            exact hJ _
          · refine G.iload_n dX3_gainOf_89 rfl ?_
            refine G.iconst 5 dX3_gainOf_90 (by decide) ?_
            refine G.ite ?_
            refine G.icmp_ne 100 dX3_gainOf_91 (by decide) (fun _ => ?_) (fun _ => ?_)
            · refine G.iload_n dX3_gainOf_100 rfl ?_
              exact hJ _
            · refine G.iload_n dX3_gainOf_94 rfl ?_
              refine G.iconst 3 dX3_gainOf_95 (by decide) ?_
              refine G.iadd dX3_gainOf_96 ?_
              refine G.goto 101 dX3_gainOf_97 (by decide) ?_
              exact hJ _
      · refine G.mask (lv' := [some (.ref (a 0)), none, some (.int v5), some (.int (10 - v14)), some (.int v22), none]) [true, false, true, true, true, false] rfl ?_
        exact g_X3_gainOf_c44 l D ks cI cL cC cM cS a t_likes t_due t_gain t_count t_day t_dues t_draw t_kind t_used t_bay t_who t_lamp v5 (10 - v14) v22
  · refine G.iload_n dX3_gainOf_30 rfl ?_
    exact G.iret rfl rfl dX3_gainOf_31
set_option maxHeartbeats 4000000 in
set_option maxRecDepth 100000 in
theorem g_X3_duesAtMost_c76 (l : Launch) (D : va_G) (ks : Nat × Nat) (cI cL cC cM cS : ClassId) (a : Nat → Nat) (t_likes t_gain : Nat → Int32) (t_day t_dues t_draw : Int32) (k4 : (Nat → Int32) → (Nat → Int32) → (Nat → Int32) → (Nat → Int32) → (Nat → Int32) → (Nat → Int32) → Int32 → Int32 → Int32 → Int32 → Option (Int32)) (hk4 : ∀ (t_kind t_used t_bay t_who t_lamp t_due : Nat → Int32) (t_count : Int32) (x1 : Int32) (x2 : Int32) (x3 : Int32), GJ l D ks (tyz cI cL cC cM cS) RX3 cX3_duesAtMost 6 ((some .int)) { frames := 3, cells := 0, slots := 0, locals := 68 } (fun r : Int32 => (some (.int r), (w_X3 cI cL cC cM cS a t_kind t_used t_bay t_likes t_who t_lamp t_due t_gain t_count t_day t_dues t_draw))) (w_X3 cI cL cC cM cS a t_kind t_used t_bay t_likes t_who t_lamp t_due t_gain t_count t_day t_dues t_draw) 4 [some (.ref (a 0)), some (.int x1), some (.int x2), some (.int x3), none, none] [] (k4 t_kind t_used t_bay t_who t_lamp t_due t_count x1 x2 x3)) (t_kind t_used t_bay t_who t_lamp t_due : Nat → Int32) (t_count : Int32) (x1 : Int32) (x2 : Int32) (x3 : Int32) : GJ l D ks (tyz cI cL cC cM cS) RX3 cX3_duesAtMost 6 ((some .int)) { frames := 3, cells := 0, slots := 0, locals := 68 } (fun r : Int32 => (some (.int r), (w_X3 cI cL cC cM cS a t_kind t_used t_bay t_likes t_who t_lamp t_due t_gain t_count t_day t_dues t_draw))) (w_X3 cI cL cC cM cS a t_kind t_used t_bay t_likes t_who t_lamp t_due t_gain t_count t_day t_dues t_draw) 76 [some (.ref (a 0)), some (.int x1), some (.int x2), some (.int x3), none, none] [] (f_X3_duesAtMost_c76 k4 t_kind t_used t_bay t_who t_lamp t_due t_count x1 x2 x3) := by
  unfold f_X3_duesAtMost_c76
  refine G.iinc 1 (lv' := [some (.ref (a 0)), some (.int x1), some (.int x2), some (.int (x3 + 1)), none, none]) dX3_duesAtMost_76 rfl (by decide) (by decide) (Nat.le_of_ble_eq_true rfl) rfl rfl ?_
  refine G.goto 4 dX3_duesAtMost_79 (by decide) ?_
  exact hk4 t_kind t_used t_bay t_who t_lamp t_due t_count x1 x2 (x3 + 1)
set_option maxHeartbeats 4000000 in
set_option maxRecDepth 100000 in
theorem g_X3_duesAtMost_c53 (l : Launch) (D : va_G) (ks : Nat × Nat) (cI cL cC cM cS : ClassId) (a : Nat → Nat) (t_likes t_gain : Nat → Int32) (t_day t_dues t_draw : Int32) (k4 : (Nat → Int32) → (Nat → Int32) → (Nat → Int32) → (Nat → Int32) → (Nat → Int32) → (Nat → Int32) → Int32 → Int32 → Int32 → Int32 → Option (Int32)) (hk4 : ∀ (t_kind t_used t_bay t_who t_lamp t_due : Nat → Int32) (t_count : Int32) (x1 : Int32) (x2 : Int32) (x3 : Int32), GJ l D ks (tyz cI cL cC cM cS) RX3 cX3_duesAtMost 6 ((some .int)) { frames := 3, cells := 0, slots := 0, locals := 68 } (fun r : Int32 => (some (.int r), (w_X3 cI cL cC cM cS a t_kind t_used t_bay t_likes t_who t_lamp t_due t_gain t_count t_day t_dues t_draw))) (w_X3 cI cL cC cM cS a t_kind t_used t_bay t_likes t_who t_lamp t_due t_gain t_count t_day t_dues t_draw) 4 [some (.ref (a 0)), some (.int x1), some (.int x2), some (.int x3), none, none] [] (k4 t_kind t_used t_bay t_who t_lamp t_due t_count x1 x2 x3)) (t_kind t_used t_bay t_who t_lamp t_due : Nat → Int32) (t_count : Int32) (x1 : Int32) (x2 : Int32) (x3 : Int32) (s0 : Int32) : GJ l D ks (tyz cI cL cC cM cS) RX3 cX3_duesAtMost 6 ((some .int)) { frames := 3, cells := 0, slots := 0, locals := 68 } (fun r : Int32 => (some (.int r), (w_X3 cI cL cC cM cS a t_kind t_used t_bay t_likes t_who t_lamp t_due t_gain t_count t_day t_dues t_draw))) (w_X3 cI cL cC cM cS a t_kind t_used t_bay t_likes t_who t_lamp t_due t_gain t_count t_day t_dues t_draw) 53 [some (.ref (a 0)), some (.int x1), some (.int x2), some (.int x3), none, none] [.int s0] (f_X3_duesAtMost_c53 k4 t_kind t_used t_bay t_who t_lamp t_due t_count x1 x2 x3 s0) := by
  unfold f_X3_duesAtMost_c53
  refine G.istore (lv' := [some (.ref (a 0)), some (.int x1), some (.int x2), some (.int x3), none, some (.int s0)]) dX3_duesAtMost_53 (by decide) (Nat.le_of_ble_eq_true rfl) rfl rfl ?_
  refine G.iload_n dX3_duesAtMost_55 rfl ?_
  refine G.aload_n dX3_duesAtMost_56 rfl ?_
  refine G.get fl_3_30 0 rfl rfl dX3_duesAtMost_57 ?_
  refine G.aload_n dX3_duesAtMost_60 rfl ?_
  refine G.get fl_3_18 0 rfl rfl dX3_duesAtMost_61 ?_
  refine G.iload_n dX3_duesAtMost_64 rfl ?_
  refine G.chk (fun h65 => ?_)
  refine G.iaload 3 0 rfl rfl x3.toNatClampNeg rfl h65 dX3_duesAtMost_65 ?_
  refine G.topi (fun v65 => ?_)
  refine G.chk (fun h66 => ?_)
  refine G.iaload 7 0 rfl rfl v65.toNatClampNeg rfl h66 dX3_duesAtMost_66 ?_
  refine G.topi (fun v66 => ?_)
  refine G.iload_n dX3_duesAtMost_67 rfl ?_
  refine G.iload dX3_duesAtMost_68 rfl ?_
  refine G.mmin lk_3_76 mst_min mini mcd_min (by decide) (Nat.le_of_ble_eq_true rfl) dX3_duesAtMost_70 ?_
  refine G.topi (fun v70 => ?_)
  refine G.imul dX3_duesAtMost_73 ?_
  refine G.iadd dX3_duesAtMost_74 ?_
  refine G.istore_n (lv' := [some (.ref (a 0)), some (.int x1), some (.int (x2 + (v66 * v70))), some (.int x3), none, some (.int s0)]) dX3_duesAtMost_75 (by decide) (Nat.le_of_ble_eq_true rfl) rfl rfl ?_
  refine G.mask (lv' := [some (.ref (a 0)), some (.int x1), some (.int (x2 + (v66 * v70))), some (.int x3), none, none]) [true, true, true, true, false, false] rfl ?_
  exact g_X3_duesAtMost_c76 l D ks cI cL cC cM cS a t_likes t_gain t_day t_dues t_draw k4 hk4 t_kind t_used t_bay t_who t_lamp t_due t_count x1 (x2 + (v66 * v70)) x3
set_option maxHeartbeats 4000000 in
set_option maxRecDepth 100000 in
theorem g_X3_duesAtMost_c4 (l : Launch) (D : va_G) (ks : Nat × Nat) (cI cL cC cM cS : ClassId) (a : Nat → Nat) (t_likes t_gain : Nat → Int32) (t_day t_dues t_draw : Int32) : ∀ (n : Nat), ∀ (t_kind t_used t_bay t_who t_lamp t_due : Nat → Int32) (t_count : Int32) (x1 : Int32) (x2 : Int32) (x3 : Int32), GJ l D ks (tyz cI cL cC cM cS) RX3 cX3_duesAtMost 6 ((some .int)) { frames := 3, cells := 0, slots := 0, locals := 68 } (fun r : Int32 => (some (.int r), (w_X3 cI cL cC cM cS a t_kind t_used t_bay t_likes t_who t_lamp t_due t_gain t_count t_day t_dues t_draw))) (w_X3 cI cL cC cM cS a t_kind t_used t_bay t_likes t_who t_lamp t_due t_gain t_count t_day t_dues t_draw) 4 [some (.ref (a 0)), some (.int x1), some (.int x2), some (.int x3), none, none] [] (f_X3_duesAtMost_c4 n t_kind t_used t_bay t_who t_lamp t_due t_count x1 x2 x3) := by
  intro n
  induction n with
  | zero =>
    intro t_kind t_used t_bay t_who t_lamp t_due t_count x1 x2 x3
    exact G.no
  | succ n ih =>
    intro t_kind t_used t_bay t_who t_lamp t_due t_count x1 x2 x3
    rw [f_X3_duesAtMost_c4]
    refine G.iload_n dX3_duesAtMost_4 rfl ?_
    refine G.aload_n dX3_duesAtMost_5 rfl ?_
    refine G.get fl_3_46 0 rfl rfl dX3_duesAtMost_6 ?_
    refine G.icmp_ge 82 dX3_duesAtMost_9 (by decide) (fun h9 => ?_) (fun h9 => ?_)
    · refine G.iload_n dX3_duesAtMost_82 rfl ?_
      exact G.iret rfl rfl dX3_duesAtMost_83
    · refine G.aload_n dX3_duesAtMost_12 rfl ?_
      refine G.iload_n dX3_duesAtMost_13 rfl ?_
      refine G.callV (st := []) (w' := fun r14 => (w_X3 cI cL cC cM cS a t_kind t_used t_bay t_likes t_who t_lamp t_due t_gain t_count t_day t_dues t_draw)) mv_X3_hasTaken lk_3_59 (c_X3_hasTaken l D ks cI cL cC cM cS a t_kind t_used t_bay t_likes t_who t_lamp t_due t_gain t_count t_day t_dues t_draw x3) [0, 1, 2, 3, 4, 5, 6, 7, 8] [] [0, 1, 2, 3, 4, 5, 6, 7, 8] rfl rfl rfl rfl (by decide +kernel) (fun _ => rfl) rfl (by decide) (Nat.le_of_ble_eq_true rfl) dX3_duesAtMost_14 (fun r14 => [.int r14]) (fun _ => rfl) (fun r14 _ => ?_)
      refine G.if_ne 76 dX3_duesAtMost_17 (by decide) (fun h17 => ?_) (fun h17 => ?_)
      · exact g_X3_duesAtMost_c76 l D ks cI cL cC cM cS a t_likes t_gain t_day t_dues t_draw (f_X3_duesAtMost_c4 n) ih t_kind t_used t_bay t_who t_lamp t_due t_count x1 x2 x3
      · refine G.aload_n dX3_duesAtMost_20 rfl ?_
        refine G.iload_n dX3_duesAtMost_21 rfl ?_
        refine G.callV (st := []) (w' := fun r22 => (w_X3 cI cL cC cM cS a t_kind t_used t_bay t_likes t_who t_lamp t_due t_gain t_count t_day t_dues t_draw)) mv_X3_gainOf lk_3_82 (c_X3_gainOf l D ks cI cL cC cM cS a t_kind t_used t_bay t_likes t_who t_lamp t_due t_gain t_count t_day t_dues t_draw x3) [0, 1, 2, 3, 4, 5, 6, 7, 8] [] [0, 1, 2, 3, 4, 5, 6, 7, 8] rfl rfl rfl rfl (by decide +kernel) (fun _ => rfl) rfl (by decide) (Nat.le_of_ble_eq_true rfl) dX3_duesAtMost_22 (fun r22 => [.int r22]) (fun _ => rfl) (fun r22 _ => ?_)
        refine G.istore (lv' := [some (.ref (a 0)), some (.int x1), some (.int x2), some (.int x3), some (.int r22), none]) dX3_duesAtMost_25 (by decide) (Nat.le_of_ble_eq_true rfl) rfl rfl ?_
        refine G.iload dX3_duesAtMost_27 rfl ?_
        refine G.if_le 52 dX3_duesAtMost_29 (by decide) (fun h29 => ?_) (fun h29 => ?_)
        · refine G.iload_n dX3_duesAtMost_52 rfl ?_
          refine G.mask (lv' := [some (.ref (a 0)), some (.int x1), some (.int x2), some (.int x3), none, none]) [true, true, true, true, false, false] rfl ?_
          exact g_X3_duesAtMost_c53 l D ks cI cL cC cM cS a t_likes t_gain t_day t_dues t_draw (f_X3_duesAtMost_c4 n) ih t_kind t_used t_bay t_who t_lamp t_due t_count x1 x2 x3 x1
        · refine G.bipush 99 dX3_duesAtMost_32 (by decide) ?_
          refine G.aload_n dX3_duesAtMost_34 rfl ?_
          refine G.get fl_3_15 0 rfl rfl dX3_duesAtMost_35 ?_
          refine G.iload_n dX3_duesAtMost_38 rfl ?_
          refine G.chk (fun h39 => ?_)
          refine G.iaload 2 0 rfl rfl x3.toNatClampNeg rfl h39 dX3_duesAtMost_39 ?_
          refine G.topi (fun v39 => ?_)
          refine G.isub dX3_duesAtMost_40 ?_
          refine G.iload dX3_duesAtMost_41 rfl ?_
          refine G.iadd dX3_duesAtMost_43 ?_
          refine G.iconst 1 dX3_duesAtMost_44 (by decide) ?_
          refine G.isub dX3_duesAtMost_45 ?_
          refine G.iload dX3_duesAtMost_46 rfl ?_
          refine G.nz (fun h48 => ?_)
          refine G.idiv dX3_duesAtMost_48 h48 ?_
          refine G.goto 53 dX3_duesAtMost_49 (by decide) ?_
          refine G.mask (lv' := [some (.ref (a 0)), some (.int x1), some (.int x2), some (.int x3), none, none]) [true, true, true, true, false, false] rfl ?_
          exact g_X3_duesAtMost_c53 l D ks cI cL cC cM cS a t_likes t_gain t_day t_dues t_draw (f_X3_duesAtMost_c4 n) ih t_kind t_used t_bay t_who t_lamp t_due t_count x1 x2 x3 ((((99 - v39) + r22) - 1) / r22)
set_option maxHeartbeats 4000000 in
set_option maxRecDepth 100000 in
theorem c_X3_duesAtMost (l : Launch) (D : va_G) (ks : Nat × Nat) (cI cL cC cM cS : ClassId) (a : Nat → Nat) (t_kind t_used t_bay t_likes t_who t_lamp t_due t_gain : Nat → Int32) (t_count t_day t_dues t_draw : Int32) (x1 : Int32) : MT l D ks (tyz cI cL cC cM cS) yX3_duesAtMost cX3_duesAtMost 6 ((some .int)) { frames := 3, cells := 0, slots := 0, locals := 68 } [.ref (a 0), .int x1] (w_X3 cI cL cC cM cS a t_kind t_used t_bay t_likes t_who t_lamp t_due t_gain t_count t_day t_dues t_draw) (fun r : Int32 => (some (.int r), (w_X3 cI cL cC cM cS a t_kind t_used t_bay t_likes t_who t_lamp t_due t_gain t_count t_day t_dues t_draw))) (f_X3_duesAtMost t_kind t_used t_bay t_who t_lamp t_due t_count x1) := by
  refine MT.of 4 [some (.ref (a 0)), some (.int x1), none, none, none, none] (by decide) (Nat.le_of_ble_eq_true rfl) rfl ?_
  unfold f_X3_duesAtMost
  refine G.iconst 0 dX3_duesAtMost_0 (by decide) ?_
  refine G.istore_n (lv' := [some (.ref (a 0)), some (.int x1), some (.int 0), none, none, none]) dX3_duesAtMost_1 (by decide) (Nat.le_of_ble_eq_true rfl) rfl rfl ?_
  refine G.iconst 0 dX3_duesAtMost_2 (by decide) ?_
  refine G.istore_n (lv' := [some (.ref (a 0)), some (.int x1), some (.int 0), some (.int 0), none, none]) dX3_duesAtMost_3 (by decide) (Nat.le_of_ble_eq_true rfl) rfl rfl ?_
  exact g_X3_duesAtMost_c4 l D ks cI cL cC cM cS a t_likes t_gain t_day t_dues t_draw fu t_kind t_used t_bay t_who t_lamp t_due t_count x1 0 0
set_option maxHeartbeats 4000000 in
set_option maxRecDepth 100000 in
theorem c_X3_enter (l : Launch) (D : va_G) (ks : Nat × Nat) (cI cL cC cM cS : ClassId) (a : Nat → Nat) (t_kind t_used t_bay t_likes t_who t_lamp t_due t_gain : Nat → Int32) (t_count t_day t_dues t_draw : Int32) (x1 : Int32) (x2 : Int32) (x3 : Int32) (x4 : Int32) : MT l D ks (tyz cI cL cC cM cS) yX3_enter cX3_enter 5 none { frames := 1, cells := 0, slots := 0, locals := 22 } [.ref (a 0), .int x1, .int x2, .int x3, .int x4] (w_X3 cI cL cC cM cS a t_kind t_used t_bay t_likes t_who t_lamp t_due t_gain t_count t_day t_dues t_draw) (fun r : (Nat → Int32) × (Nat → Int32) × (Nat → Int32) × (Nat → Int32) × (Nat → Int32) × Int32 => (none, (w_X3 cI cL cC cM cS a r.1 r.2.1 r.2.2.1 r.2.2.2.1 r.2.2.2.2.1 t_lamp t_due t_gain r.2.2.2.2.2 t_day t_dues t_draw))) (f_X3_enter t_kind t_used t_bay t_likes t_who t_count x1 x2 x3 x4) := by
  refine MT.of 0 [some (.ref (a 0)), some (.int x1), some (.int x2), some (.int x3), some (.int x4)] (by decide) (Nat.le_of_ble_eq_true rfl) rfl ?_
  unfold f_X3_enter
  refine G.aload_n dX3_enter_0 rfl ?_
  refine G.get fl_3_46 0 rfl rfl dX3_enter_1 ?_
  refine G.bipush 6 dX3_enter_4 (by decide) ?_
  refine G.icmp_lt 10 dX3_enter_6 (by decide) (fun h6 => ?_) (fun h6 => ?_)
  · refine G.aload_n dX3_enter_10 rfl ?_
    refine G.get fl_3_9 0 rfl rfl dX3_enter_11 ?_
    refine G.aload_n dX3_enter_14 rfl ?_
    refine G.get fl_3_46 0 rfl rfl dX3_enter_15 ?_
    refine G.iload_n dX3_enter_18 rfl ?_
    refine G.chk (fun h19 => ?_)
    refine G.iastore (w' := (w_X3 cI cL cC cM cS a (upd t_kind t_count.toNatClampNeg x1) t_used t_bay t_likes t_who t_lamp t_due t_gain t_count t_day t_dues t_draw)) 1 0 rfl rfl t_count.toNatClampNeg rfl h19 rfl dX3_enter_19 ?_
    refine G.aload_n dX3_enter_20 rfl ?_
    refine G.get fl_3_15 0 rfl rfl dX3_enter_21 ?_
    refine G.aload_n dX3_enter_24 rfl ?_
    refine G.get fl_3_46 0 rfl rfl dX3_enter_25 ?_
    refine G.iload_n dX3_enter_28 rfl ?_
    refine G.iastore (w' := (w_X3 cI cL cC cM cS a (upd t_kind t_count.toNatClampNeg x1) (upd t_used t_count.toNatClampNeg x2) t_bay t_likes t_who t_lamp t_due t_gain t_count t_day t_dues t_draw)) 2 0 rfl rfl t_count.toNatClampNeg rfl h19 rfl dX3_enter_29 ?_
    refine G.aload_n dX3_enter_30 rfl ?_
    refine G.get fl_3_21 0 rfl rfl dX3_enter_31 ?_
    refine G.aload_n dX3_enter_34 rfl ?_
    refine G.get fl_3_46 0 rfl rfl dX3_enter_35 ?_
    refine G.iload dX3_enter_38 rfl ?_
    refine G.iastore (w' := (w_X3 cI cL cC cM cS a (upd t_kind t_count.toNatClampNeg x1) (upd t_used t_count.toNatClampNeg x2) t_bay (upd t_likes t_count.toNatClampNeg x4) t_who t_lamp t_due t_gain t_count t_day t_dues t_draw)) 4 0 rfl rfl t_count.toNatClampNeg rfl h19 rfl dX3_enter_40 ?_
    refine G.aload_n dX3_enter_41 rfl ?_
    refine G.aload_n dX3_enter_42 rfl ?_
    refine G.get fl_3_46 0 rfl rfl dX3_enter_43 ?_
    refine G.iload_n dX3_enter_46 rfl ?_
    refine G.callV (st := []) (w' := fun r47 => (w_X3 cI cL cC cM cS a (upd t_kind t_count.toNatClampNeg x1) (upd t_used t_count.toNatClampNeg x2) r47.1 (upd t_likes t_count.toNatClampNeg x4) r47.2 t_lamp t_due t_gain t_count t_day t_dues t_draw)) mv_X3_seat lk_3_55 (c_X3_seat l D ks cI cL cC cM cS a (upd t_kind t_count.toNatClampNeg x1) (upd t_used t_count.toNatClampNeg x2) t_bay (upd t_likes t_count.toNatClampNeg x4) t_who t_lamp t_due t_gain t_count t_day t_dues t_draw t_count x3) [0, 1, 2, 3, 4, 5, 6, 7, 8] [] [0, 1, 2, 3, 4, 5, 6, 7, 8] rfl rfl rfl rfl (by decide +kernel) (fun _ => rfl) rfl (by decide) (Nat.le_of_ble_eq_true rfl) dX3_enter_47 (fun r47 => []) (fun _ => rfl) (fun r47 _ => ?_)
    refine G.aload_n dX3_enter_50 rfl ?_
    refine G.dup dX3_enter_51 rfl ?_
    refine G.get fl_3_46 0 rfl rfl dX3_enter_52 ?_
    refine G.iconst 1 dX3_enter_55 (by decide) ?_
    refine G.iadd dX3_enter_56 ?_
    refine G.put (w' := (w_X3 cI cL cC cM cS a (upd t_kind t_count.toNatClampNeg x1) (upd t_used t_count.toNatClampNeg x2) r47.1 (upd t_likes t_count.toNatClampNeg x4) r47.2 t_lamp t_due t_gain (t_count + 1) t_day t_dues t_draw)) fp_3_46 0 rfl (Nat.le_of_ble_eq_true rfl) rfl rfl rfl dX3_enter_57 ?_
    exact G.vret rfl rfl dX3_enter_60
  · exact G.vret rfl rfl dX3_enter_9
set_option maxHeartbeats 4000000 in
set_option maxRecDepth 100000 in
theorem g_X3_farTogether_c4 (l : Launch) (D : va_G) (ks : Nat × Nat) (cI cL cC cM cS : ClassId) (a : Nat → Nat) (t_kind t_used t_who t_lamp t_due t_gain : Nat → Int32) (t_day t_dues t_draw : Int32) : ∀ (n : Nat), ∀ (t_bay t_likes : Nat → Int32) (t_count : Int32) (x1 : Int32) (x2 : Int32), GJ l D ks (tyz cI cL cC cM cS) RX3 cX3_farTogether 3 ((some .int)) { frames := 2, cells := 0, slots := 0, locals := 43 } (fun r : Int32 => (some (.int r), (w_X3 cI cL cC cM cS a t_kind t_used t_bay t_likes t_who t_lamp t_due t_gain t_count t_day t_dues t_draw))) (w_X3 cI cL cC cM cS a t_kind t_used t_bay t_likes t_who t_lamp t_due t_gain t_count t_day t_dues t_draw) 4 [some (.ref (a 0)), some (.int x1), some (.int x2)] [] (f_X3_farTogether_c4 n t_bay t_likes t_count x1 x2) := by
  intro n
  induction n with
  | zero =>
    intro t_bay t_likes t_count x1 x2
    exact G.no
  | succ n ih =>
    intro t_bay t_likes t_count x1 x2
    rw [f_X3_farTogether_c4]
    refine G.iload_n dX3_farTogether_4 rfl ?_
    refine G.aload_n dX3_farTogether_5 rfl ?_
    refine G.get fl_3_46 0 rfl rfl dX3_farTogether_6 ?_
    refine G.icmp_ge 32 dX3_farTogether_9 (by decide) (fun h9 => ?_) (fun h9 => ?_)
    · refine G.iload_n dX3_farTogether_32 rfl ?_
      exact G.iret rfl rfl dX3_farTogether_33
    · refine G.iload_n dX3_farTogether_12 rfl ?_
      refine G.aload_n dX3_farTogether_13 rfl ?_
      refine G.iload_n dX3_farTogether_14 rfl ?_
      refine G.aload_n dX3_farTogether_15 rfl ?_
      refine G.get fl_3_18 0 rfl rfl dX3_farTogether_16 ?_
      refine G.iload_n dX3_farTogether_19 rfl ?_
      refine G.chk (fun h20 => ?_)
      refine G.iaload 3 0 rfl rfl x2.toNatClampNeg rfl h20 dX3_farTogether_20 ?_
      refine G.topi (fun v20 => ?_)
      refine G.callV (st := [.int x1]) (w' := fun r21 => (w_X3 cI cL cC cM cS a t_kind t_used t_bay t_likes t_who t_lamp t_due t_gain t_count t_day t_dues t_draw)) mv_X3_farFrom lk_3_98 (c_X3_farFrom l D ks cI cL cC cM cS a t_kind t_used t_bay t_likes t_who t_lamp t_due t_gain t_count t_day t_dues t_draw x2 v20) [0, 1, 2, 3, 4, 5, 6, 7, 8] [] [0, 1, 2, 3, 4, 5, 6, 7, 8] rfl rfl rfl rfl (by decide +kernel) (fun _ => rfl) rfl (by decide) (Nat.le_of_ble_eq_true rfl) dX3_farTogether_21 (fun r21 => [.int r21, .int x1]) (fun _ => rfl) (fun r21 _ => ?_)
      refine G.iadd dX3_farTogether_24 ?_
      refine G.istore_n (lv' := [some (.ref (a 0)), some (.int (x1 + r21)), some (.int x2)]) dX3_farTogether_25 (by decide) (Nat.le_of_ble_eq_true rfl) rfl rfl ?_
      refine G.iinc 1 (lv' := [some (.ref (a 0)), some (.int (x1 + r21)), some (.int (x2 + 1))]) dX3_farTogether_26 rfl (by decide) (by decide) (Nat.le_of_ble_eq_true rfl) rfl rfl ?_
      refine G.goto 4 dX3_farTogether_29 (by decide) ?_
      exact ih t_bay t_likes t_count (x1 + r21) (x2 + 1)
set_option maxHeartbeats 4000000 in
set_option maxRecDepth 100000 in
theorem c_X3_farTogether (l : Launch) (D : va_G) (ks : Nat × Nat) (cI cL cC cM cS : ClassId) (a : Nat → Nat) (t_kind t_used t_bay t_likes t_who t_lamp t_due t_gain : Nat → Int32) (t_count t_day t_dues t_draw : Int32) : MT l D ks (tyz cI cL cC cM cS) yX3_farTogether cX3_farTogether 3 ((some .int)) { frames := 2, cells := 0, slots := 0, locals := 43 } [.ref (a 0)] (w_X3 cI cL cC cM cS a t_kind t_used t_bay t_likes t_who t_lamp t_due t_gain t_count t_day t_dues t_draw) (fun r : Int32 => (some (.int r), (w_X3 cI cL cC cM cS a t_kind t_used t_bay t_likes t_who t_lamp t_due t_gain t_count t_day t_dues t_draw))) (f_X3_farTogether t_bay t_likes t_count) := by
  refine MT.of 2 [some (.ref (a 0)), none, none] (by decide) (Nat.le_of_ble_eq_true rfl) rfl ?_
  unfold f_X3_farTogether
  refine G.iconst 0 dX3_farTogether_0 (by decide) ?_
  refine G.istore_n (lv' := [some (.ref (a 0)), some (.int 0), none]) dX3_farTogether_1 (by decide) (Nat.le_of_ble_eq_true rfl) rfl rfl ?_
  refine G.iconst 0 dX3_farTogether_2 (by decide) ?_
  refine G.istore_n (lv' := [some (.ref (a 0)), some (.int 0), some (.int 0)]) dX3_farTogether_3 (by decide) (Nat.le_of_ble_eq_true rfl) rfl rfl ?_
  exact g_X3_farTogether_c4 l D ks cI cL cC cM cS a t_kind t_used t_who t_lamp t_due t_gain t_day t_dues t_draw fu t_bay t_likes t_count 0 0
set_option maxHeartbeats 4000000 in
set_option maxRecDepth 100000 in
theorem g_X3_firstAlike_c72 (l : Launch) (D : va_G) (ks : Nat × Nat) (cI cL cC cM cS : ClassId) (a : Nat → Nat) (t_kind t_likes t_who t_lamp t_due t_gain : Nat → Int32) (t_day t_dues t_draw : Int32) (k2 : (Nat → Int32) → (Nat → Int32) → Int32 → Int32 → Option (Int32)) (hk2 : ∀ (t_used t_bay : Nat → Int32) (t_count : Int32) (x1 : Int32), GJ l D ks (tyz cI cL cC cM cS) RX3 cX3_firstAlike 3 ((some .int)) { frames := 1, cells := 0, slots := 0, locals := 21 } (fun r : Int32 => (some (.int r), (w_X3 cI cL cC cM cS a t_kind t_used t_bay t_likes t_who t_lamp t_due t_gain t_count t_day t_dues t_draw))) (w_X3 cI cL cC cM cS a t_kind t_used t_bay t_likes t_who t_lamp t_due t_gain t_count t_day t_dues t_draw) 2 [some (.ref (a 0)), some (.int x1), none] [] (k2 t_used t_bay t_count x1)) (k14 : (Nat → Int32) → (Nat → Int32) → Int32 → Int32 → Int32 → Option (Int32)) (hk14 : ∀ (t_used t_bay : Nat → Int32) (t_count : Int32) (x1 : Int32) (x2 : Int32), GJ l D ks (tyz cI cL cC cM cS) RX3 cX3_firstAlike 3 ((some .int)) { frames := 1, cells := 0, slots := 0, locals := 21 } (fun r : Int32 => (some (.int r), (w_X3 cI cL cC cM cS a t_kind t_used t_bay t_likes t_who t_lamp t_due t_gain t_count t_day t_dues t_draw))) (w_X3 cI cL cC cM cS a t_kind t_used t_bay t_likes t_who t_lamp t_due t_gain t_count t_day t_dues t_draw) 14 [some (.ref (a 0)), some (.int x1), some (.int x2)] [] (k14 t_used t_bay t_count x1 x2)) (t_used t_bay : Nat → Int32) (t_count : Int32) (x1 : Int32) (x2 : Int32) : GJ l D ks (tyz cI cL cC cM cS) RX3 cX3_firstAlike 3 ((some .int)) { frames := 1, cells := 0, slots := 0, locals := 21 } (fun r : Int32 => (some (.int r), (w_X3 cI cL cC cM cS a t_kind t_used t_bay t_likes t_who t_lamp t_due t_gain t_count t_day t_dues t_draw))) (w_X3 cI cL cC cM cS a t_kind t_used t_bay t_likes t_who t_lamp t_due t_gain t_count t_day t_dues t_draw) 72 [some (.ref (a 0)), some (.int x1), some (.int x2)] [] (f_X3_firstAlike_c72 k2 k14 t_used t_bay t_count x1 x2) := by
  unfold f_X3_firstAlike_c72
  refine G.iinc 1 (lv' := [some (.ref (a 0)), some (.int x1), some (.int (x2 + 1))]) dX3_firstAlike_72 rfl (by decide) (by decide) (Nat.le_of_ble_eq_true rfl) rfl rfl ?_
  refine G.goto 14 dX3_firstAlike_75 (by decide) ?_
  exact hk14 t_used t_bay t_count x1 (x2 + 1)
set_option maxHeartbeats 4000000 in
set_option maxRecDepth 100000 in
theorem g_X3_firstAlike_c14 (l : Launch) (D : va_G) (ks : Nat × Nat) (cI cL cC cM cS : ClassId) (a : Nat → Nat) (t_kind t_likes t_who t_lamp t_due t_gain : Nat → Int32) (t_day t_dues t_draw : Int32) (k2 : (Nat → Int32) → (Nat → Int32) → Int32 → Int32 → Option (Int32)) (hk2 : ∀ (t_used t_bay : Nat → Int32) (t_count : Int32) (x1 : Int32), GJ l D ks (tyz cI cL cC cM cS) RX3 cX3_firstAlike 3 ((some .int)) { frames := 1, cells := 0, slots := 0, locals := 21 } (fun r : Int32 => (some (.int r), (w_X3 cI cL cC cM cS a t_kind t_used t_bay t_likes t_who t_lamp t_due t_gain t_count t_day t_dues t_draw))) (w_X3 cI cL cC cM cS a t_kind t_used t_bay t_likes t_who t_lamp t_due t_gain t_count t_day t_dues t_draw) 2 [some (.ref (a 0)), some (.int x1), none] [] (k2 t_used t_bay t_count x1)) : ∀ (n : Nat), ∀ (t_used t_bay : Nat → Int32) (t_count : Int32) (x1 : Int32) (x2 : Int32), GJ l D ks (tyz cI cL cC cM cS) RX3 cX3_firstAlike 3 ((some .int)) { frames := 1, cells := 0, slots := 0, locals := 21 } (fun r : Int32 => (some (.int r), (w_X3 cI cL cC cM cS a t_kind t_used t_bay t_likes t_who t_lamp t_due t_gain t_count t_day t_dues t_draw))) (w_X3 cI cL cC cM cS a t_kind t_used t_bay t_likes t_who t_lamp t_due t_gain t_count t_day t_dues t_draw) 14 [some (.ref (a 0)), some (.int x1), some (.int x2)] [] (f_X3_firstAlike_c14 k2 n t_used t_bay t_count x1 x2) := by
  intro n
  induction n with
  | zero =>
    intro t_used t_bay t_count x1 x2
    exact G.no
  | succ n ih =>
    intro t_used t_bay t_count x1 x2
    rw [f_X3_firstAlike_c14]
    refine G.iload_n dX3_firstAlike_14 rfl ?_
    refine G.aload_n dX3_firstAlike_15 rfl ?_
    refine G.get fl_3_46 0 rfl rfl dX3_firstAlike_16 ?_
    refine G.icmp_ge 78 dX3_firstAlike_19 (by decide) (fun h19 => ?_) (fun h19 => ?_)
    · refine G.iinc 1 (lv' := [some (.ref (a 0)), some (.int (x1 + 1)), some (.int x2)]) dX3_firstAlike_78 rfl (by decide) (by decide) (Nat.le_of_ble_eq_true rfl) rfl rfl ?_
      refine G.goto 2 dX3_firstAlike_81 (by decide) ?_
      refine G.mask (lv' := [some (.ref (a 0)), some (.int (x1 + 1)), none]) [true, true, false] rfl ?_
      exact hk2 t_used t_bay t_count (x1 + 1)
    · refine G.aload_n dX3_firstAlike_22 rfl ?_
      refine G.get fl_3_15 0 rfl rfl dX3_firstAlike_23 ?_
      refine G.iload_n dX3_firstAlike_26 rfl ?_
      refine G.chk (fun h27 => ?_)
      refine G.iaload 2 0 rfl rfl x1.toNatClampNeg rfl h27 dX3_firstAlike_27 ?_
      refine G.topi (fun v27 => ?_)
      refine G.aload_n dX3_firstAlike_28 rfl ?_
      refine G.get fl_3_15 0 rfl rfl dX3_firstAlike_29 ?_
      refine G.iload_n dX3_firstAlike_32 rfl ?_
      refine G.chk (fun h33 => ?_)
      refine G.iaload 2 0 rfl rfl x2.toNatClampNeg rfl h33 dX3_firstAlike_33 ?_
      refine G.topi (fun v33 => ?_)
      refine G.icmp_ne 72 dX3_firstAlike_34 (by decide) (fun h34 => ?_) (fun h34 => ?_)
      · exact g_X3_firstAlike_c72 l D ks cI cL cC cM cS a t_kind t_likes t_who t_lamp t_due t_gain t_day t_dues t_draw k2 hk2 (f_X3_firstAlike_c14 k2 n) ih t_used t_bay t_count x1 x2
      · refine G.aload_n dX3_firstAlike_37 rfl ?_
        refine G.iload_n dX3_firstAlike_38 rfl ?_
        refine G.callV (st := []) (w' := fun r39 => (w_X3 cI cL cC cM cS a t_kind t_used t_bay t_likes t_who t_lamp t_due t_gain t_count t_day t_dues t_draw)) mv_X3_hasTaken lk_3_59 (c_X3_hasTaken l D ks cI cL cC cM cS a t_kind t_used t_bay t_likes t_who t_lamp t_due t_gain t_count t_day t_dues t_draw x1) [0, 1, 2, 3, 4, 5, 6, 7, 8] [] [0, 1, 2, 3, 4, 5, 6, 7, 8] rfl rfl rfl rfl (by decide +kernel) (fun _ => rfl) rfl (by decide) (Nat.le_of_ble_eq_true rfl) dX3_firstAlike_39 (fun r39 => [.int r39]) (fun _ => rfl) (fun r39 _ => ?_)
        refine G.if_ne 72 dX3_firstAlike_42 (by decide) (fun h42 => ?_) (fun h42 => ?_)
        · exact g_X3_firstAlike_c72 l D ks cI cL cC cM cS a t_kind t_likes t_who t_lamp t_due t_gain t_day t_dues t_draw k2 hk2 (f_X3_firstAlike_c14 k2 n) ih t_used t_bay t_count x1 x2
        · refine G.aload_n dX3_firstAlike_45 rfl ?_
          refine G.get fl_3_18 0 rfl rfl dX3_firstAlike_46 ?_
          refine G.iload_n dX3_firstAlike_49 rfl ?_
          refine G.iaload 3 0 rfl rfl x1.toNatClampNeg rfl h27 dX3_firstAlike_50 ?_
          refine G.topi (fun v50 => ?_)
          refine G.aload_n dX3_firstAlike_51 rfl ?_
          refine G.get fl_3_18 0 rfl rfl dX3_firstAlike_52 ?_
          refine G.iload_n dX3_firstAlike_55 rfl ?_
          refine G.iaload 3 0 rfl rfl x2.toNatClampNeg rfl h33 dX3_firstAlike_56 ?_
          refine G.topi (fun v56 => ?_)
          refine G.isub dX3_firstAlike_57 ?_
          refine G.mabs lk_3_95 mst_abs mini mcd_abs (by decide) (Nat.le_of_ble_eq_true rfl) dX3_firstAlike_58 ?_
          refine G.topi (fun v58 => ?_)
          refine G.iconst 1 dX3_firstAlike_61 (by decide) ?_
          refine G.icmp_ne 72 dX3_firstAlike_62 (by decide) (fun h62 => ?_) (fun h62 => ?_)
          · exact g_X3_firstAlike_c72 l D ks cI cL cC cM cS a t_kind t_likes t_who t_lamp t_due t_gain t_day t_dues t_draw k2 hk2 (f_X3_firstAlike_c14 k2 n) ih t_used t_bay t_count x1 x2
          · refine G.bipush 10 dX3_firstAlike_65 (by decide) ?_
            refine G.iload_n dX3_firstAlike_67 rfl ?_
            refine G.imul dX3_firstAlike_68 ?_
            refine G.iload_n dX3_firstAlike_69 rfl ?_
            refine G.iadd dX3_firstAlike_70 ?_
            exact G.iret rfl rfl dX3_firstAlike_71
set_option maxHeartbeats 4000000 in
set_option maxRecDepth 100000 in
theorem g_X3_firstAlike_c2 (l : Launch) (D : va_G) (ks : Nat × Nat) (cI cL cC cM cS : ClassId) (a : Nat → Nat) (t_kind t_likes t_who t_lamp t_due t_gain : Nat → Int32) (t_day t_dues t_draw : Int32) : ∀ (n : Nat), ∀ (t_used t_bay : Nat → Int32) (t_count : Int32) (x1 : Int32), GJ l D ks (tyz cI cL cC cM cS) RX3 cX3_firstAlike 3 ((some .int)) { frames := 1, cells := 0, slots := 0, locals := 21 } (fun r : Int32 => (some (.int r), (w_X3 cI cL cC cM cS a t_kind t_used t_bay t_likes t_who t_lamp t_due t_gain t_count t_day t_dues t_draw))) (w_X3 cI cL cC cM cS a t_kind t_used t_bay t_likes t_who t_lamp t_due t_gain t_count t_day t_dues t_draw) 2 [some (.ref (a 0)), some (.int x1), none] [] (f_X3_firstAlike_c2 n t_used t_bay t_count x1) := by
  intro n
  induction n with
  | zero =>
    intro t_used t_bay t_count x1
    exact G.no
  | succ n ih =>
    intro t_used t_bay t_count x1
    rw [f_X3_firstAlike_c2]
    refine G.iload_n dX3_firstAlike_2 rfl ?_
    refine G.aload_n dX3_firstAlike_3 rfl ?_
    refine G.get fl_3_46 0 rfl rfl dX3_firstAlike_4 ?_
    refine G.icmp_ge 84 dX3_firstAlike_7 (by decide) (fun h7 => ?_) (fun h7 => ?_)
    · refine G.bipush (-4) dX3_firstAlike_84 (by decide) ?_
      exact G.iret rfl rfl dX3_firstAlike_86
    · refine G.iload_n dX3_firstAlike_10 rfl ?_
      refine G.iconst 1 dX3_firstAlike_11 (by decide) ?_
      refine G.iadd dX3_firstAlike_12 ?_
      refine G.istore_n (lv' := [some (.ref (a 0)), some (.int x1), some (.int (x1 + 1))]) dX3_firstAlike_13 (by decide) (Nat.le_of_ble_eq_true rfl) rfl rfl ?_
      exact g_X3_firstAlike_c14 l D ks cI cL cC cM cS a t_kind t_likes t_who t_lamp t_due t_gain t_day t_dues t_draw (f_X3_firstAlike_c2 n) ih fu t_used t_bay t_count x1 (x1 + 1)
set_option maxHeartbeats 4000000 in
set_option maxRecDepth 100000 in
theorem c_X3_firstAlike (l : Launch) (D : va_G) (ks : Nat × Nat) (cI cL cC cM cS : ClassId) (a : Nat → Nat) (t_kind t_used t_bay t_likes t_who t_lamp t_due t_gain : Nat → Int32) (t_count t_day t_dues t_draw : Int32) : MT l D ks (tyz cI cL cC cM cS) yX3_firstAlike cX3_firstAlike 3 ((some .int)) { frames := 1, cells := 0, slots := 0, locals := 21 } [.ref (a 0)] (w_X3 cI cL cC cM cS a t_kind t_used t_bay t_likes t_who t_lamp t_due t_gain t_count t_day t_dues t_draw) (fun r : Int32 => (some (.int r), (w_X3 cI cL cC cM cS a t_kind t_used t_bay t_likes t_who t_lamp t_due t_gain t_count t_day t_dues t_draw))) (f_X3_firstAlike t_used t_bay t_count) := by
  refine MT.of 2 [some (.ref (a 0)), none, none] (by decide) (Nat.le_of_ble_eq_true rfl) rfl ?_
  unfold f_X3_firstAlike
  refine G.iconst 0 dX3_firstAlike_0 (by decide) ?_
  refine G.istore_n (lv' := [some (.ref (a 0)), some (.int 0), none]) dX3_firstAlike_1 (by decide) (Nat.le_of_ble_eq_true rfl) rfl rfl ?_
  exact g_X3_firstAlike_c2 l D ks cI cL cC cM cS a t_kind t_likes t_who t_lamp t_due t_gain t_day t_dues t_draw fu t_used t_bay t_count 0
set_option maxHeartbeats 4000000 in
set_option maxRecDepth 100000 in
theorem g_X3_firstSwap_c14 (l : Launch) (D : va_G) (ks : Nat × Nat) (cI cL cC cM cS : ClassId) (a : Nat → Nat) (t_kind t_used t_who t_lamp t_due t_gain : Nat → Int32) (t_day t_dues t_draw : Int32) (k2 : (Nat → Int32) → (Nat → Int32) → Int32 → Int32 → Option (Int32)) (hk2 : ∀ (t_bay t_likes : Nat → Int32) (t_count : Int32) (x1 : Int32), GJ l D ks (tyz cI cL cC cM cS) RX3 cX3_firstSwap 3 ((some .int)) { frames := 3, cells := 0, slots := 0, locals := 65 } (fun r : Int32 => (some (.int r), (w_X3 cI cL cC cM cS a t_kind t_used t_bay t_likes t_who t_lamp t_due t_gain t_count t_day t_dues t_draw))) (w_X3 cI cL cC cM cS a t_kind t_used t_bay t_likes t_who t_lamp t_due t_gain t_count t_day t_dues t_draw) 2 [some (.ref (a 0)), some (.int x1), none] [] (k2 t_bay t_likes t_count x1)) : ∀ (n : Nat), ∀ (t_bay t_likes : Nat → Int32) (t_count : Int32) (x1 : Int32) (x2 : Int32), GJ l D ks (tyz cI cL cC cM cS) RX3 cX3_firstSwap 3 ((some .int)) { frames := 3, cells := 0, slots := 0, locals := 65 } (fun r : Int32 => (some (.int r), (w_X3 cI cL cC cM cS a t_kind t_used t_bay t_likes t_who t_lamp t_due t_gain t_count t_day t_dues t_draw))) (w_X3 cI cL cC cM cS a t_kind t_used t_bay t_likes t_who t_lamp t_due t_gain t_count t_day t_dues t_draw) 14 [some (.ref (a 0)), some (.int x1), some (.int x2)] [] (f_X3_firstSwap_c14 k2 n t_bay t_likes t_count x1 x2) := by
  intro n
  induction n with
  | zero =>
    intro t_bay t_likes t_count x1 x2
    exact G.no
  | succ n ih =>
    intro t_bay t_likes t_count x1 x2
    rw [f_X3_firstSwap_c14]
    refine G.iload_n dX3_firstSwap_14 rfl ?_
    refine G.aload_n dX3_firstSwap_15 rfl ?_
    refine G.get fl_3_46 0 rfl rfl dX3_firstSwap_16 ?_
    refine G.icmp_ge 44 dX3_firstSwap_19 (by decide) (fun h19 => ?_) (fun h19 => ?_)
    · refine G.iinc 1 (lv' := [some (.ref (a 0)), some (.int (x1 + 1)), some (.int x2)]) dX3_firstSwap_44 rfl (by decide) (by decide) (Nat.le_of_ble_eq_true rfl) rfl rfl ?_
      refine G.goto 2 dX3_firstSwap_47 (by decide) ?_
      refine G.mask (lv' := [some (.ref (a 0)), some (.int (x1 + 1)), none]) [true, true, false] rfl ?_
      exact hk2 t_bay t_likes t_count (x1 + 1)
    · refine G.aload_n dX3_firstSwap_22 rfl ?_
      refine G.iload_n dX3_firstSwap_23 rfl ?_
      refine G.iload_n dX3_firstSwap_24 rfl ?_
      refine G.callV (st := []) (w' := fun r25 => (w_X3 cI cL cC cM cS a t_kind t_used t_bay t_likes t_who t_lamp t_due t_gain t_count t_day t_dues t_draw)) mv_X3_wouldSwap lk_3_101 (c_X3_wouldSwap l D ks cI cL cC cM cS a t_kind t_used t_bay t_likes t_who t_lamp t_due t_gain t_count t_day t_dues t_draw x1 x2) [0, 1, 2, 3, 4, 5, 6, 7, 8] [] [0, 1, 2, 3, 4, 5, 6, 7, 8] rfl rfl rfl rfl (by decide +kernel) (fun _ => rfl) rfl (by decide) (Nat.le_of_ble_eq_true rfl) dX3_firstSwap_25 (fun r25 => [.int r25]) (fun _ => rfl) (fun r25 _ => ?_)
      refine G.if_eq 38 dX3_firstSwap_28 (by decide) (fun h28 => ?_) (fun h28 => ?_)
      · refine G.iinc 1 (lv' := [some (.ref (a 0)), some (.int x1), some (.int (x2 + 1))]) dX3_firstSwap_38 rfl (by decide) (by decide) (Nat.le_of_ble_eq_true rfl) rfl rfl ?_
        refine G.goto 14 dX3_firstSwap_41 (by decide) ?_
        exact ih t_bay t_likes t_count x1 (x2 + 1)
      · refine G.bipush 10 dX3_firstSwap_31 (by decide) ?_
        refine G.iload_n dX3_firstSwap_33 rfl ?_
        refine G.imul dX3_firstSwap_34 ?_
        refine G.iload_n dX3_firstSwap_35 rfl ?_
        refine G.iadd dX3_firstSwap_36 ?_
        exact G.iret rfl rfl dX3_firstSwap_37
set_option maxHeartbeats 4000000 in
set_option maxRecDepth 100000 in
theorem g_X3_firstSwap_c2 (l : Launch) (D : va_G) (ks : Nat × Nat) (cI cL cC cM cS : ClassId) (a : Nat → Nat) (t_kind t_used t_who t_lamp t_due t_gain : Nat → Int32) (t_day t_dues t_draw : Int32) : ∀ (n : Nat), ∀ (t_bay t_likes : Nat → Int32) (t_count : Int32) (x1 : Int32), GJ l D ks (tyz cI cL cC cM cS) RX3 cX3_firstSwap 3 ((some .int)) { frames := 3, cells := 0, slots := 0, locals := 65 } (fun r : Int32 => (some (.int r), (w_X3 cI cL cC cM cS a t_kind t_used t_bay t_likes t_who t_lamp t_due t_gain t_count t_day t_dues t_draw))) (w_X3 cI cL cC cM cS a t_kind t_used t_bay t_likes t_who t_lamp t_due t_gain t_count t_day t_dues t_draw) 2 [some (.ref (a 0)), some (.int x1), none] [] (f_X3_firstSwap_c2 n t_bay t_likes t_count x1) := by
  intro n
  induction n with
  | zero =>
    intro t_bay t_likes t_count x1
    exact G.no
  | succ n ih =>
    intro t_bay t_likes t_count x1
    rw [f_X3_firstSwap_c2]
    refine G.iload_n dX3_firstSwap_2 rfl ?_
    refine G.aload_n dX3_firstSwap_3 rfl ?_
    refine G.get fl_3_46 0 rfl rfl dX3_firstSwap_4 ?_
    refine G.icmp_ge 50 dX3_firstSwap_7 (by decide) (fun h7 => ?_) (fun h7 => ?_)
    · refine G.bipush (-4) dX3_firstSwap_50 (by decide) ?_
      exact G.iret rfl rfl dX3_firstSwap_52
    · refine G.iload_n dX3_firstSwap_10 rfl ?_
      refine G.iconst 1 dX3_firstSwap_11 (by decide) ?_
      refine G.iadd dX3_firstSwap_12 ?_
      refine G.istore_n (lv' := [some (.ref (a 0)), some (.int x1), some (.int (x1 + 1))]) dX3_firstSwap_13 (by decide) (Nat.le_of_ble_eq_true rfl) rfl rfl ?_
      exact g_X3_firstSwap_c14 l D ks cI cL cC cM cS a t_kind t_used t_who t_lamp t_due t_gain t_day t_dues t_draw (f_X3_firstSwap_c2 n) ih fu t_bay t_likes t_count x1 (x1 + 1)
set_option maxHeartbeats 4000000 in
set_option maxRecDepth 100000 in
theorem c_X3_firstSwap (l : Launch) (D : va_G) (ks : Nat × Nat) (cI cL cC cM cS : ClassId) (a : Nat → Nat) (t_kind t_used t_bay t_likes t_who t_lamp t_due t_gain : Nat → Int32) (t_count t_day t_dues t_draw : Int32) : MT l D ks (tyz cI cL cC cM cS) yX3_firstSwap cX3_firstSwap 3 ((some .int)) { frames := 3, cells := 0, slots := 0, locals := 65 } [.ref (a 0)] (w_X3 cI cL cC cM cS a t_kind t_used t_bay t_likes t_who t_lamp t_due t_gain t_count t_day t_dues t_draw) (fun r : Int32 => (some (.int r), (w_X3 cI cL cC cM cS a t_kind t_used t_bay t_likes t_who t_lamp t_due t_gain t_count t_day t_dues t_draw))) (f_X3_firstSwap t_bay t_likes t_count) := by
  refine MT.of 2 [some (.ref (a 0)), none, none] (by decide) (Nat.le_of_ble_eq_true rfl) rfl ?_
  unfold f_X3_firstSwap
  refine G.iconst 0 dX3_firstSwap_0 (by decide) ?_
  refine G.istore_n (lv' := [some (.ref (a 0)), some (.int 0), none]) dX3_firstSwap_1 (by decide) (Nat.le_of_ble_eq_true rfl) rfl rfl ?_
  exact g_X3_firstSwap_c2 l D ks cI cL cC cM cS a t_kind t_used t_who t_lamp t_due t_gain t_day t_dues t_draw fu t_bay t_likes t_count 0
set_option maxHeartbeats 4000000 in
set_option maxRecDepth 100000 in
theorem c_X3_has (l : Launch) (D : va_G) (ks : Nat × Nat) (cI cL cC cM cS : ClassId) (a : Nat → Nat) (t_kind t_used t_bay t_likes t_who t_lamp t_due t_gain : Nat → Int32) (t_count t_day t_dues t_draw : Int32) (x1 : Int32) : MT l D ks (tyz cI cL cC cM cS) yX3_has cX3_has 2 ((some .boolean)) { frames := 0, cells := 0, slots := 0, locals := 0 } [.ref (a 0), .int x1] (w_X3 cI cL cC cM cS a t_kind t_used t_bay t_likes t_who t_lamp t_due t_gain t_count t_day t_dues t_draw) (fun r : Int32 => (some (.int r), (w_X3 cI cL cC cM cS a t_kind t_used t_bay t_likes t_who t_lamp t_due t_gain t_count t_day t_dues t_draw))) (f_X3_has t_count x1) := by
  refine MT.of 0 [some (.ref (a 0)), some (.int x1)] (by decide) (Nat.le_of_ble_eq_true rfl) rfl ?_
  unfold f_X3_has
  refine G.iload_n dX3_has_0 rfl ?_
  refine G.join (st := []) Value.int 17 (fun v17 => ?_) (fun hJ => ?_)
  · refine G.chk (fun h17 => ?_)
    exact G.zret rfl rfl (isb_n h17) dX3_has_17
  · refine G.ite ?_
    refine G.if_lt 16 dX3_has_1 (by decide) (fun _ => ?_) (fun _ => ?_)
    · refine G.iconst 0 dX3_has_16 (by decide) ?_
      exact hJ _
    · refine G.iload_n dX3_has_4 rfl ?_
      refine G.aload_n dX3_has_5 rfl ?_
      refine G.get fl_3_46 0 rfl rfl dX3_has_6 ?_
      refine G.ite ?_
      refine G.icmp_ge 16 dX3_has_9 (by decide) (fun _ => ?_) (fun _ => ?_)
      · refine G.iconst 0 dX3_has_16 (by decide) ?_
        exact hJ _
      · refine G.iconst 1 dX3_has_12 (by decide) ?_
        refine G.goto 17 dX3_has_13 (by decide) ?_
        exact hJ _
set_option maxHeartbeats 4000000 in
set_option maxRecDepth 100000 in
theorem g_X3_heldBays_c4 (l : Launch) (D : va_G) (ks : Nat × Nat) (cI cL cC cM cS : ClassId) (a : Nat → Nat) (t_kind t_used t_likes t_who t_lamp t_due t_gain : Nat → Int32) (t_day t_dues t_draw : Int32) : ∀ (n : Nat), ∀ (t_bay : Nat → Int32) (t_count : Int32) (x1 : Int32) (x2 : Int32), GJ l D ks (tyz cI cL cC cM cS) RX3 cX3_heldBays 3 ((some .int)) { frames := 0, cells := 0, slots := 0, locals := 0 } (fun r : Int32 => (some (.int r), (w_X3 cI cL cC cM cS a t_kind t_used t_bay t_likes t_who t_lamp t_due t_gain t_count t_day t_dues t_draw))) (w_X3 cI cL cC cM cS a t_kind t_used t_bay t_likes t_who t_lamp t_due t_gain t_count t_day t_dues t_draw) 4 [some (.ref (a 0)), some (.int x1), some (.int x2)] [] (f_X3_heldBays_c4 n t_bay t_count x1 x2) := by
  intro n
  induction n with
  | zero =>
    intro t_bay t_count x1 x2
    exact G.no
  | succ n ih =>
    intro t_bay t_count x1 x2
    rw [f_X3_heldBays_c4]
    refine G.iload_n dX3_heldBays_4 rfl ?_
    refine G.aload_n dX3_heldBays_5 rfl ?_
    refine G.get fl_3_46 0 rfl rfl dX3_heldBays_6 ?_
    refine G.icmp_ge 29 dX3_heldBays_9 (by decide) (fun h9 => ?_) (fun h9 => ?_)
    · refine G.iload_n dX3_heldBays_29 rfl ?_
      exact G.iret rfl rfl dX3_heldBays_30
    · refine G.iload_n dX3_heldBays_12 rfl ?_
      refine G.iconst 1 dX3_heldBays_13 (by decide) ?_
      refine G.aload_n dX3_heldBays_14 rfl ?_
      refine G.get fl_3_18 0 rfl rfl dX3_heldBays_15 ?_
      refine G.iload_n dX3_heldBays_18 rfl ?_
      refine G.chk (fun h19 => ?_)
      refine G.iaload 3 0 rfl rfl x2.toNatClampNeg rfl h19 dX3_heldBays_19 ?_
      refine G.topi (fun v19 => ?_)
      refine G.ishl dX3_heldBays_20 ?_
      refine G.ior dX3_heldBays_21 ?_
      refine G.istore_n (lv' := [some (.ref (a 0)), some (.int (x1 ||| (1 <<< (v19 &&& 31)))), some (.int x2)]) dX3_heldBays_22 (by decide) (Nat.le_of_ble_eq_true rfl) rfl rfl ?_
      refine G.iinc 1 (lv' := [some (.ref (a 0)), some (.int (x1 ||| (1 <<< (v19 &&& 31)))), some (.int (x2 + 1))]) dX3_heldBays_23 rfl (by decide) (by decide) (Nat.le_of_ble_eq_true rfl) rfl rfl ?_
      refine G.goto 4 dX3_heldBays_26 (by decide) ?_
      exact ih t_bay t_count (x1 ||| (1 <<< (v19 &&& 31))) (x2 + 1)
set_option maxHeartbeats 4000000 in
set_option maxRecDepth 100000 in
theorem c_X3_heldBays (l : Launch) (D : va_G) (ks : Nat × Nat) (cI cL cC cM cS : ClassId) (a : Nat → Nat) (t_kind t_used t_bay t_likes t_who t_lamp t_due t_gain : Nat → Int32) (t_count t_day t_dues t_draw : Int32) : MT l D ks (tyz cI cL cC cM cS) yX3_heldBays cX3_heldBays 3 ((some .int)) { frames := 0, cells := 0, slots := 0, locals := 0 } [.ref (a 0)] (w_X3 cI cL cC cM cS a t_kind t_used t_bay t_likes t_who t_lamp t_due t_gain t_count t_day t_dues t_draw) (fun r : Int32 => (some (.int r), (w_X3 cI cL cC cM cS a t_kind t_used t_bay t_likes t_who t_lamp t_due t_gain t_count t_day t_dues t_draw))) (f_X3_heldBays t_bay t_count) := by
  refine MT.of 2 [some (.ref (a 0)), none, none] (by decide) (Nat.le_of_ble_eq_true rfl) rfl ?_
  unfold f_X3_heldBays
  refine G.iconst 0 dX3_heldBays_0 (by decide) ?_
  refine G.istore_n (lv' := [some (.ref (a 0)), some (.int 0), none]) dX3_heldBays_1 (by decide) (Nat.le_of_ble_eq_true rfl) rfl rfl ?_
  refine G.iconst 0 dX3_heldBays_2 (by decide) ?_
  refine G.istore_n (lv' := [some (.ref (a 0)), some (.int 0), some (.int 0)]) dX3_heldBays_3 (by decide) (Nat.le_of_ble_eq_true rfl) rfl rfl ?_
  exact g_X3_heldBays_c4 l D ks cI cL cC cM cS a t_kind t_used t_likes t_who t_lamp t_due t_gain t_day t_dues t_draw fu t_bay t_count 0 0
set_option maxHeartbeats 4000000 in
set_option maxRecDepth 100000 in
theorem g_X3_lowestFreeBay_c2 (l : Launch) (D : va_G) (ks : Nat × Nat) (cI cL cC cM cS : ClassId) (a : Nat → Nat) (t_kind t_used t_bay t_likes t_lamp t_due t_gain : Nat → Int32) (t_count t_day t_dues t_draw : Int32) : ∀ (n : Nat), ∀ (t_who : Nat → Int32) (x1 : Int32), GJ l D ks (tyz cI cL cC cM cS) RX3 cX3_lowestFreeBay 2 ((some .int)) { frames := 0, cells := 0, slots := 0, locals := 0 } (fun r : Int32 => (some (.int r), (w_X3 cI cL cC cM cS a t_kind t_used t_bay t_likes t_who t_lamp t_due t_gain t_count t_day t_dues t_draw))) (w_X3 cI cL cC cM cS a t_kind t_used t_bay t_likes t_who t_lamp t_due t_gain t_count t_day t_dues t_draw) 2 [some (.ref (a 0)), some (.int x1)] [] (f_X3_lowestFreeBay_c2 n t_who x1) := by
  intro n
  induction n with
  | zero =>
    intro t_who x1
    exact G.no
  | succ n ih =>
    intro t_who x1
    rw [f_X3_lowestFreeBay_c2]
    refine G.iload_n dX3_lowestFreeBay_2 rfl ?_
    refine G.bipush 6 dX3_lowestFreeBay_3 (by decide) ?_
    refine G.icmp_ge 26 dX3_lowestFreeBay_5 (by decide) (fun h5 => ?_) (fun h5 => ?_)
    · refine G.iconst (-1) dX3_lowestFreeBay_26 (by decide) ?_
      exact G.iret rfl rfl dX3_lowestFreeBay_27
    · refine G.aload_n dX3_lowestFreeBay_8 rfl ?_
      refine G.get fl_3_24 0 rfl rfl dX3_lowestFreeBay_9 ?_
      refine G.iload_n dX3_lowestFreeBay_12 rfl ?_
      refine G.chk (fun h13 => ?_)
      refine G.iaload 5 0 rfl rfl x1.toNatClampNeg rfl h13 dX3_lowestFreeBay_13 ?_
      refine G.topi (fun v13 => ?_)
      refine G.iconst (-1) dX3_lowestFreeBay_14 (by decide) ?_
      refine G.icmp_ne 20 dX3_lowestFreeBay_15 (by decide) (fun h15 => ?_) (fun h15 => ?_)
      · refine G.iinc 1 (lv' := [some (.ref (a 0)), some (.int (x1 + 1))]) dX3_lowestFreeBay_20 rfl (by decide) (by decide) (Nat.le_of_ble_eq_true rfl) rfl rfl ?_
        refine G.goto 2 dX3_lowestFreeBay_23 (by decide) ?_
        exact ih t_who (x1 + 1)
      · refine G.iload_n dX3_lowestFreeBay_18 rfl ?_
        exact G.iret rfl rfl dX3_lowestFreeBay_19
set_option maxHeartbeats 4000000 in
set_option maxRecDepth 100000 in
theorem c_X3_lowestFreeBay (l : Launch) (D : va_G) (ks : Nat × Nat) (cI cL cC cM cS : ClassId) (a : Nat → Nat) (t_kind t_used t_bay t_likes t_who t_lamp t_due t_gain : Nat → Int32) (t_count t_day t_dues t_draw : Int32) : MT l D ks (tyz cI cL cC cM cS) yX3_lowestFreeBay cX3_lowestFreeBay 2 ((some .int)) { frames := 0, cells := 0, slots := 0, locals := 0 } [.ref (a 0)] (w_X3 cI cL cC cM cS a t_kind t_used t_bay t_likes t_who t_lamp t_due t_gain t_count t_day t_dues t_draw) (fun r : Int32 => (some (.int r), (w_X3 cI cL cC cM cS a t_kind t_used t_bay t_likes t_who t_lamp t_due t_gain t_count t_day t_dues t_draw))) (f_X3_lowestFreeBay t_who) := by
  refine MT.of 1 [some (.ref (a 0)), none] (by decide) (Nat.le_of_ble_eq_true rfl) rfl ?_
  unfold f_X3_lowestFreeBay
  refine G.iconst 0 dX3_lowestFreeBay_0 (by decide) ?_
  refine G.istore_n (lv' := [some (.ref (a 0)), some (.int 0)]) dX3_lowestFreeBay_1 (by decide) (Nat.le_of_ble_eq_true rfl) rfl rfl ?_
  exact g_X3_lowestFreeBay_c2 l D ks cI cL cC cM cS a t_kind t_used t_bay t_likes t_lamp t_due t_gain t_count t_day t_dues t_draw fu t_who 0
set_option maxHeartbeats 4000000 in
set_option maxRecDepth 100000 in
theorem g_X3_passDay_c67 (l : Launch) (D : va_G) (ks : Nat × Nat) (cI cL cC cM cS : ClassId) (a : Nat → Nat) (t_likes : Nat → Int32) (t_draw : Int32) : ∀ (n : Nat), ∀ (t_kind t_used t_bay t_who t_lamp t_due t_gain : Nat → Int32) (t_count t_day t_dues : Int32) (x1 : Int32), GJ l D ks (tyz cI cL cC cM cS) RX3 cX3_passDay 2 none { frames := 3, cells := 0, slots := 0, locals := 68 } (fun r : (Nat → Int32) × (Nat → Int32) × Int32 × Int32 => (none, (w_X3 cI cL cC cM cS a t_kind r.1 t_bay t_likes t_who t_lamp t_due r.2.1 t_count r.2.2.1 r.2.2.2 t_draw))) (w_X3 cI cL cC cM cS a t_kind t_used t_bay t_likes t_who t_lamp t_due t_gain t_count t_day t_dues t_draw) 67 [some (.ref (a 0)), some (.int x1)] [] (f_X3_passDay_c67 n t_kind t_used t_bay t_who t_lamp t_due t_gain t_count t_day t_dues x1) := by
  intro n
  induction n with
  | zero =>
    intro t_kind t_used t_bay t_who t_lamp t_due t_gain t_count t_day t_dues x1
    exact G.no
  | succ n ih =>
    intro t_kind t_used t_bay t_who t_lamp t_due t_gain t_count t_day t_dues x1
    rw [f_X3_passDay_c67]
    refine G.iload_n dX3_passDay_67 rfl ?_
    refine G.aload_n dX3_passDay_68 rfl ?_
    refine G.get fl_3_46 0 rfl rfl dX3_passDay_69 ?_
    refine G.icmp_ge 105 dX3_passDay_72 (by decide) (fun h72 => ?_) (fun h72 => ?_)
    · refine G.aload_n dX3_passDay_105 rfl ?_
      refine G.dup dX3_passDay_106 rfl ?_
      refine G.get fl_3_49 0 rfl rfl dX3_passDay_107 ?_
      refine G.iconst 1 dX3_passDay_110 (by decide) ?_
      refine G.iadd dX3_passDay_111 ?_
      refine G.put (w' := (w_X3 cI cL cC cM cS a t_kind t_used t_bay t_likes t_who t_lamp t_due t_gain t_count (t_day + 1) t_dues t_draw)) fp_3_49 0 rfl (Nat.le_of_ble_eq_true rfl) rfl rfl rfl dX3_passDay_112 ?_
      exact G.vret rfl rfl dX3_passDay_115
    · refine G.aload_n dX3_passDay_75 rfl ?_
      refine G.get fl_3_15 0 rfl rfl dX3_passDay_76 ?_
      refine G.iload_n dX3_passDay_79 rfl ?_
      refine G.bipush 99 dX3_passDay_80 (by decide) ?_
      refine G.aload_n dX3_passDay_82 rfl ?_
      refine G.get fl_3_15 0 rfl rfl dX3_passDay_83 ?_
      refine G.iload_n dX3_passDay_86 rfl ?_
      refine G.chk (fun h87 => ?_)
      refine G.iaload 2 0 rfl rfl x1.toNatClampNeg rfl h87 dX3_passDay_87 ?_
      refine G.topi (fun v87 => ?_)
      refine G.aload_n dX3_passDay_88 rfl ?_
      refine G.get fl_3_33 0 rfl rfl dX3_passDay_89 ?_
      refine G.iload_n dX3_passDay_92 rfl ?_
      refine G.iaload 8 0 rfl rfl x1.toNatClampNeg rfl h87 dX3_passDay_93 ?_
      refine G.topi (fun v93 => ?_)
      refine G.iadd dX3_passDay_94 ?_
      refine G.mmin lk_3_76 mst_min mini mcd_min (by decide) (Nat.le_of_ble_eq_true rfl) dX3_passDay_95 ?_
      refine G.topi (fun v95 => ?_)
      refine G.iastore (w' := (w_X3 cI cL cC cM cS a t_kind (upd t_used x1.toNatClampNeg v95) t_bay t_likes t_who t_lamp t_due t_gain t_count t_day t_dues t_draw)) 2 0 rfl rfl x1.toNatClampNeg rfl h87 rfl dX3_passDay_98 ?_
      refine G.iinc 1 (lv' := [some (.ref (a 0)), some (.int (x1 + 1))]) dX3_passDay_99 rfl (by decide) (by decide) (Nat.le_of_ble_eq_true rfl) rfl rfl ?_
      refine G.goto 67 dX3_passDay_102 (by decide) ?_
      exact ih t_kind (upd t_used x1.toNatClampNeg v95) t_bay t_who t_lamp t_due t_gain t_count t_day t_dues (x1 + 1)
set_option maxHeartbeats 4000000 in
set_option maxRecDepth 100000 in
theorem g_X3_passDay_c59 (l : Launch) (D : va_G) (ks : Nat × Nat) (cI cL cC cM cS : ClassId) (a : Nat → Nat) (t_likes : Nat → Int32) (t_draw : Int32) (k2 : (Nat → Int32) → (Nat → Int32) → (Nat → Int32) → (Nat → Int32) → (Nat → Int32) → (Nat → Int32) → (Nat → Int32) → Int32 → Int32 → Int32 → Int32 → (Option ((Nat → Int32) × (Nat → Int32) × Int32 × Int32))) (hk2 : ∀ (t_kind t_used t_bay t_who t_lamp t_due t_gain : Nat → Int32) (t_count t_day t_dues : Int32) (x1 : Int32), GJ l D ks (tyz cI cL cC cM cS) RX3 cX3_passDay 2 none { frames := 3, cells := 0, slots := 0, locals := 68 } (fun r : (Nat → Int32) × (Nat → Int32) × Int32 × Int32 => (none, (w_X3 cI cL cC cM cS a t_kind r.1 t_bay t_likes t_who t_lamp t_due r.2.1 t_count r.2.2.1 r.2.2.2 t_draw))) (w_X3 cI cL cC cM cS a t_kind t_used t_bay t_likes t_who t_lamp t_due t_gain t_count t_day t_dues t_draw) 2 [some (.ref (a 0)), some (.int x1)] [] (k2 t_kind t_used t_bay t_who t_lamp t_due t_gain t_count t_day t_dues x1)) (t_kind t_used t_bay t_who t_lamp t_due t_gain : Nat → Int32) (t_count t_day t_dues : Int32) (x1 : Int32) : GJ l D ks (tyz cI cL cC cM cS) RX3 cX3_passDay 2 none { frames := 3, cells := 0, slots := 0, locals := 68 } (fun r : (Nat → Int32) × (Nat → Int32) × Int32 × Int32 => (none, (w_X3 cI cL cC cM cS a t_kind r.1 t_bay t_likes t_who t_lamp t_due r.2.1 t_count r.2.2.1 r.2.2.2 t_draw))) (w_X3 cI cL cC cM cS a t_kind t_used t_bay t_likes t_who t_lamp t_due t_gain t_count t_day t_dues t_draw) 59 [some (.ref (a 0)), some (.int x1)] [] (f_X3_passDay_c59 k2 t_kind t_used t_bay t_who t_lamp t_due t_gain t_count t_day t_dues x1) := by
  unfold f_X3_passDay_c59
  refine G.iinc 1 (lv' := [some (.ref (a 0)), some (.int (x1 + 1))]) dX3_passDay_59 rfl (by decide) (by decide) (Nat.le_of_ble_eq_true rfl) rfl rfl ?_
  refine G.goto 2 dX3_passDay_62 (by decide) ?_
  exact hk2 t_kind t_used t_bay t_who t_lamp t_due t_gain t_count t_day t_dues (x1 + 1)
set_option maxHeartbeats 4000000 in
set_option maxRecDepth 100000 in
theorem g_X3_passDay_c2 (l : Launch) (D : va_G) (ks : Nat × Nat) (cI cL cC cM cS : ClassId) (a : Nat → Nat) (t_likes : Nat → Int32) (t_draw : Int32) : ∀ (n : Nat), ∀ (t_kind t_used t_bay t_who t_lamp t_due t_gain : Nat → Int32) (t_count t_day t_dues : Int32) (x1 : Int32), GJ l D ks (tyz cI cL cC cM cS) RX3 cX3_passDay 2 none { frames := 3, cells := 0, slots := 0, locals := 68 } (fun r : (Nat → Int32) × (Nat → Int32) × Int32 × Int32 => (none, (w_X3 cI cL cC cM cS a t_kind r.1 t_bay t_likes t_who t_lamp t_due r.2.1 t_count r.2.2.1 r.2.2.2 t_draw))) (w_X3 cI cL cC cM cS a t_kind t_used t_bay t_likes t_who t_lamp t_due t_gain t_count t_day t_dues t_draw) 2 [some (.ref (a 0)), some (.int x1)] [] (f_X3_passDay_c2 n t_kind t_used t_bay t_who t_lamp t_due t_gain t_count t_day t_dues x1) := by
  intro n
  induction n with
  | zero =>
    intro t_kind t_used t_bay t_who t_lamp t_due t_gain t_count t_day t_dues x1
    exact G.no
  | succ n ih =>
    intro t_kind t_used t_bay t_who t_lamp t_due t_gain t_count t_day t_dues x1
    rw [f_X3_passDay_c2]
    refine G.iload_n dX3_passDay_2 rfl ?_
    refine G.aload_n dX3_passDay_3 rfl ?_
    refine G.get fl_3_46 0 rfl rfl dX3_passDay_4 ?_
    refine G.icmp_ge 65 dX3_passDay_7 (by decide) (fun h7 => ?_) (fun h7 => ?_)
    · refine G.iconst 0 dX3_passDay_65 (by decide) ?_
      refine G.istore_n (lv' := [some (.ref (a 0)), some (.int 0)]) dX3_passDay_66 (by decide) (Nat.le_of_ble_eq_true rfl) rfl rfl ?_
      exact g_X3_passDay_c67 l D ks cI cL cC cM cS a t_likes t_draw fu t_kind t_used t_bay t_who t_lamp t_due t_gain t_count t_day t_dues 0
    · refine G.aload_n dX3_passDay_10 rfl ?_
      refine G.iload_n dX3_passDay_11 rfl ?_
      refine G.callV (st := []) (w' := fun r12 => (w_X3 cI cL cC cM cS a t_kind t_used t_bay t_likes t_who t_lamp t_due t_gain t_count t_day t_dues t_draw)) mv_X3_hasTaken lk_3_59 (c_X3_hasTaken l D ks cI cL cC cM cS a t_kind t_used t_bay t_likes t_who t_lamp t_due t_gain t_count t_day t_dues t_draw x1) [0, 1, 2, 3, 4, 5, 6, 7, 8] [] [0, 1, 2, 3, 4, 5, 6, 7, 8] rfl rfl rfl rfl (by decide +kernel) (fun _ => rfl) rfl (by decide) (Nat.le_of_ble_eq_true rfl) dX3_passDay_12 (fun r12 => [.int r12]) (fun _ => rfl) (fun r12 _ => ?_)
      refine G.if_eq 28 dX3_passDay_15 (by decide) (fun h15 => ?_) (fun h15 => ?_)
      · refine G.aload_n dX3_passDay_28 rfl ?_
        refine G.get fl_3_33 0 rfl rfl dX3_passDay_29 ?_
        refine G.iload_n dX3_passDay_32 rfl ?_
        refine G.aload_n dX3_passDay_33 rfl ?_
        refine G.iload_n dX3_passDay_34 rfl ?_
        refine G.callV (st := [.int x1, .ref (a 8)]) (w' := fun r35 => (w_X3 cI cL cC cM cS a t_kind t_used t_bay t_likes t_who t_lamp t_due t_gain t_count t_day t_dues t_draw)) mv_X3_gainOf lk_3_82 (c_X3_gainOf l D ks cI cL cC cM cS a t_kind t_used t_bay t_likes t_who t_lamp t_due t_gain t_count t_day t_dues t_draw x1) [0, 1, 2, 3, 4, 5, 6, 7, 8] [] [0, 1, 2, 3, 4, 5, 6, 7, 8] rfl rfl rfl rfl (by decide +kernel) (fun _ => rfl) rfl (by decide) (Nat.le_of_ble_eq_true rfl) dX3_passDay_35 (fun r35 => [.int r35, .int x1, .ref (a 8)]) (fun _ => rfl) (fun r35 _ => ?_)
        refine G.chk (fun h38 => ?_)
        refine G.iastore (w' := (w_X3 cI cL cC cM cS a t_kind t_used t_bay t_likes t_who t_lamp t_due (upd t_gain x1.toNatClampNeg r35) t_count t_day t_dues t_draw)) 8 0 rfl rfl x1.toNatClampNeg rfl h38 rfl dX3_passDay_38 ?_
        refine G.aload_n dX3_passDay_39 rfl ?_
        refine G.dup dX3_passDay_40 rfl ?_
        refine G.get fl_3_52 0 rfl rfl dX3_passDay_41 ?_
        refine G.aload_n dX3_passDay_44 rfl ?_
        refine G.get fl_3_30 0 rfl rfl dX3_passDay_45 ?_
        refine G.aload_n dX3_passDay_48 rfl ?_
        refine G.get fl_3_18 0 rfl rfl dX3_passDay_49 ?_
        refine G.iload_n dX3_passDay_52 rfl ?_
        refine G.iaload 3 0 rfl rfl x1.toNatClampNeg rfl h38 dX3_passDay_53 ?_
        refine G.topi (fun v53 => ?_)
        refine G.chk (fun h54 => ?_)
        refine G.iaload 7 0 rfl rfl v53.toNatClampNeg rfl h54 dX3_passDay_54 ?_
        refine G.topi (fun v54 => ?_)
        refine G.iadd dX3_passDay_55 ?_
        refine G.put (w' := (w_X3 cI cL cC cM cS a t_kind t_used t_bay t_likes t_who t_lamp t_due (upd t_gain x1.toNatClampNeg r35) t_count t_day (t_dues + v54) t_draw)) fp_3_52 0 rfl (Nat.le_of_ble_eq_true rfl) rfl rfl rfl dX3_passDay_56 ?_
        exact g_X3_passDay_c59 l D ks cI cL cC cM cS a t_likes t_draw (f_X3_passDay_c2 n) ih t_kind t_used t_bay t_who t_lamp t_due (upd t_gain x1.toNatClampNeg r35) t_count t_day (t_dues + v54) x1
      · refine G.aload_n dX3_passDay_18 rfl ?_
        refine G.get fl_3_33 0 rfl rfl dX3_passDay_19 ?_
        refine G.iload_n dX3_passDay_22 rfl ?_
        refine G.iconst 0 dX3_passDay_23 (by decide) ?_
        refine G.chk (fun h24 => ?_)
        refine G.iastore (w' := (w_X3 cI cL cC cM cS a t_kind t_used t_bay t_likes t_who t_lamp t_due (upd t_gain x1.toNatClampNeg 0) t_count t_day t_dues t_draw)) 8 0 rfl rfl x1.toNatClampNeg rfl h24 rfl dX3_passDay_24 ?_
        refine G.goto 59 dX3_passDay_25 (by decide) ?_
        exact g_X3_passDay_c59 l D ks cI cL cC cM cS a t_likes t_draw (f_X3_passDay_c2 n) ih t_kind t_used t_bay t_who t_lamp t_due (upd t_gain x1.toNatClampNeg 0) t_count t_day t_dues x1
set_option maxHeartbeats 4000000 in
set_option maxRecDepth 100000 in
theorem c_X3_passDay (l : Launch) (D : va_G) (ks : Nat × Nat) (cI cL cC cM cS : ClassId) (a : Nat → Nat) (t_kind t_used t_bay t_likes t_who t_lamp t_due t_gain : Nat → Int32) (t_count t_day t_dues t_draw : Int32) : MT l D ks (tyz cI cL cC cM cS) yX3_passDay cX3_passDay 2 none { frames := 3, cells := 0, slots := 0, locals := 68 } [.ref (a 0)] (w_X3 cI cL cC cM cS a t_kind t_used t_bay t_likes t_who t_lamp t_due t_gain t_count t_day t_dues t_draw) (fun r : (Nat → Int32) × (Nat → Int32) × Int32 × Int32 => (none, (w_X3 cI cL cC cM cS a t_kind r.1 t_bay t_likes t_who t_lamp t_due r.2.1 t_count r.2.2.1 r.2.2.2 t_draw))) (f_X3_passDay t_kind t_used t_bay t_who t_lamp t_due t_gain t_count t_day t_dues) := by
  refine MT.of 1 [some (.ref (a 0)), none] (by decide) (Nat.le_of_ble_eq_true rfl) rfl ?_
  unfold f_X3_passDay
  refine G.iconst 0 dX3_passDay_0 (by decide) ?_
  refine G.istore_n (lv' := [some (.ref (a 0)), some (.int 0)]) dX3_passDay_1 (by decide) (Nat.le_of_ble_eq_true rfl) rfl rfl ?_
  exact g_X3_passDay_c2 l D ks cI cL cC cM cS a t_likes t_draw fu t_kind t_used t_bay t_who t_lamp t_due t_gain t_count t_day t_dues 0
set_option maxHeartbeats 4000000 in
set_option maxRecDepth 100000 in
theorem g_X3_passDays_c2 (l : Launch) (D : va_G) (ks : Nat × Nat) (cI cL cC cM cS : ClassId) (a : Nat → Nat) (t_likes : Nat → Int32) (t_draw : Int32) : ∀ (n : Nat), ∀ (t_kind t_used t_bay t_who t_lamp t_due t_gain : Nat → Int32) (t_count t_day t_dues : Int32) (x1 : Int32) (x2 : Int32), GJ l D ks (tyz cI cL cC cM cS) RX3 cX3_passDays 3 none { frames := 4, cells := 0, slots := 0, locals := 89 } (fun r : (Nat → Int32) × (Nat → Int32) × Int32 × Int32 => (none, (w_X3 cI cL cC cM cS a t_kind r.1 t_bay t_likes t_who t_lamp t_due r.2.1 t_count r.2.2.1 r.2.2.2 t_draw))) (w_X3 cI cL cC cM cS a t_kind t_used t_bay t_likes t_who t_lamp t_due t_gain t_count t_day t_dues t_draw) 2 [some (.ref (a 0)), some (.int x1), some (.int x2)] [] (f_X3_passDays_c2 n t_kind t_used t_bay t_who t_lamp t_due t_gain t_count t_day t_dues x1 x2) := by
  intro n
  induction n with
  | zero =>
    intro t_kind t_used t_bay t_who t_lamp t_due t_gain t_count t_day t_dues x1 x2
    exact G.no
  | succ n ih =>
    intro t_kind t_used t_bay t_who t_lamp t_due t_gain t_count t_day t_dues x1 x2
    rw [f_X3_passDays_c2]
    refine G.iload_n dX3_passDays_2 rfl ?_
    refine G.iload_n dX3_passDays_3 rfl ?_
    refine G.icmp_ge 17 dX3_passDays_4 (by decide) (fun h4 => ?_) (fun h4 => ?_)
    · exact G.vret rfl rfl dX3_passDays_17
    · refine G.aload_n dX3_passDays_7 rfl ?_
      refine G.callV (st := []) (w' := fun r8 => (w_X3 cI cL cC cM cS a t_kind r8.1 t_bay t_likes t_who t_lamp t_due r8.2.1 t_count r8.2.2.1 r8.2.2.2 t_draw)) mv_X3_passDay lk_3_85 (c_X3_passDay l D ks cI cL cC cM cS a t_kind t_used t_bay t_likes t_who t_lamp t_due t_gain t_count t_day t_dues t_draw) [0, 1, 2, 3, 4, 5, 6, 7, 8] [] [0, 1, 2, 3, 4, 5, 6, 7, 8] rfl rfl rfl rfl (by decide +kernel) (fun _ => rfl) rfl (by decide) (Nat.le_of_ble_eq_true rfl) dX3_passDays_8 (fun r8 => []) (fun _ => rfl) (fun r8 _ => ?_)
      refine G.iinc 1 (lv' := [some (.ref (a 0)), some (.int x1), some (.int (x2 + 1))]) dX3_passDays_11 rfl (by decide) (by decide) (Nat.le_of_ble_eq_true rfl) rfl rfl ?_
      refine G.goto 2 dX3_passDays_14 (by decide) ?_
      exact ih t_kind r8.1 t_bay t_who t_lamp t_due r8.2.1 t_count r8.2.2.1 r8.2.2.2 x1 (x2 + 1)
set_option maxHeartbeats 4000000 in
set_option maxRecDepth 100000 in
theorem c_X3_passDays (l : Launch) (D : va_G) (ks : Nat × Nat) (cI cL cC cM cS : ClassId) (a : Nat → Nat) (t_kind t_used t_bay t_likes t_who t_lamp t_due t_gain : Nat → Int32) (t_count t_day t_dues t_draw : Int32) (x1 : Int32) : MT l D ks (tyz cI cL cC cM cS) yX3_passDays cX3_passDays 3 none { frames := 4, cells := 0, slots := 0, locals := 89 } [.ref (a 0), .int x1] (w_X3 cI cL cC cM cS a t_kind t_used t_bay t_likes t_who t_lamp t_due t_gain t_count t_day t_dues t_draw) (fun r : (Nat → Int32) × (Nat → Int32) × Int32 × Int32 => (none, (w_X3 cI cL cC cM cS a t_kind r.1 t_bay t_likes t_who t_lamp t_due r.2.1 t_count r.2.2.1 r.2.2.2 t_draw))) (f_X3_passDays t_kind t_used t_bay t_who t_lamp t_due t_gain t_count t_day t_dues x1) := by
  refine MT.of 1 [some (.ref (a 0)), some (.int x1), none] (by decide) (Nat.le_of_ble_eq_true rfl) rfl ?_
  unfold f_X3_passDays
  refine G.iconst 0 dX3_passDays_0 (by decide) ?_
  refine G.istore_n (lv' := [some (.ref (a 0)), some (.int x1), some (.int 0)]) dX3_passDays_1 (by decide) (Nat.le_of_ble_eq_true rfl) rfl rfl ?_
  exact g_X3_passDays_c2 l D ks cI cL cC cM cS a t_likes t_draw fu t_kind t_used t_bay t_who t_lamp t_due t_gain t_count t_day t_dues x1 0
set_option maxHeartbeats 4000000 in
set_option maxRecDepth 100000 in
theorem c_X3_swapBays (l : Launch) (D : va_G) (ks : Nat × Nat) (cI cL cC cM cS : ClassId) (a : Nat → Nat) (t_kind t_used t_bay t_likes t_who t_lamp t_due t_gain : Nat → Int32) (t_count t_day t_dues t_draw : Int32) (x1 : Int32) (x2 : Int32) : MT l D ks (tyz cI cL cC cM cS) yX3_swapBays cX3_swapBays 4 none { frames := 1, cells := 0, slots := 0, locals := 22 } [.ref (a 0), .int x1, .int x2] (w_X3 cI cL cC cM cS a t_kind t_used t_bay t_likes t_who t_lamp t_due t_gain t_count t_day t_dues t_draw) (fun r : (Nat → Int32) × (Nat → Int32) => (none, (w_X3 cI cL cC cM cS a t_kind t_used r.1 t_likes r.2 t_lamp t_due t_gain t_count t_day t_dues t_draw))) (f_X3_swapBays t_bay t_who x1 x2) := by
  refine MT.of 1 [some (.ref (a 0)), some (.int x1), some (.int x2), none] (by decide) (Nat.le_of_ble_eq_true rfl) rfl ?_
  unfold f_X3_swapBays
  refine G.aload_n dX3_swapBays_0 rfl ?_
  refine G.get fl_3_18 0 rfl rfl dX3_swapBays_1 ?_
  refine G.iload_n dX3_swapBays_4 rfl ?_
  refine G.chk (fun h5 => ?_)
  refine G.iaload 3 0 rfl rfl x1.toNatClampNeg rfl h5 dX3_swapBays_5 ?_
  refine G.topi (fun v5 => ?_)
  refine G.istore_n (lv' := [some (.ref (a 0)), some (.int x1), some (.int x2), some (.int v5)]) dX3_swapBays_6 (by decide) (Nat.le_of_ble_eq_true rfl) rfl rfl ?_
  refine G.aload_n dX3_swapBays_7 rfl ?_
  refine G.iload_n dX3_swapBays_8 rfl ?_
  refine G.aload_n dX3_swapBays_9 rfl ?_
  refine G.get fl_3_18 0 rfl rfl dX3_swapBays_10 ?_
  refine G.iload_n dX3_swapBays_13 rfl ?_
  refine G.chk (fun h14 => ?_)
  refine G.iaload 3 0 rfl rfl x2.toNatClampNeg rfl h14 dX3_swapBays_14 ?_
  refine G.topi (fun v14 => ?_)
  refine G.callV (st := []) (w' := fun r15 => (w_X3 cI cL cC cM cS a t_kind t_used r15.1 t_likes r15.2 t_lamp t_due t_gain t_count t_day t_dues t_draw)) mv_X3_seat lk_3_55 (c_X3_seat l D ks cI cL cC cM cS a t_kind t_used t_bay t_likes t_who t_lamp t_due t_gain t_count t_day t_dues t_draw x1 v14) [0, 1, 2, 3, 4, 5, 6, 7, 8] [] [0, 1, 2, 3, 4, 5, 6, 7, 8] rfl rfl rfl rfl (by decide +kernel) (fun _ => rfl) rfl (by decide) (Nat.le_of_ble_eq_true rfl) dX3_swapBays_15 (fun r15 => []) (fun _ => rfl) (fun r15 _ => ?_)
  refine G.aload_n dX3_swapBays_18 rfl ?_
  refine G.iload_n dX3_swapBays_19 rfl ?_
  refine G.iload_n dX3_swapBays_20 rfl ?_
  refine G.callV (st := []) (w' := fun r21 => (w_X3 cI cL cC cM cS a t_kind t_used r21.1 t_likes r21.2 t_lamp t_due t_gain t_count t_day t_dues t_draw)) mv_X3_seat lk_3_55 (c_X3_seat l D ks cI cL cC cM cS a t_kind t_used r15.1 t_likes r15.2 t_lamp t_due t_gain t_count t_day t_dues t_draw x2 v5) [0, 1, 2, 3, 4, 5, 6, 7, 8] [] [0, 1, 2, 3, 4, 5, 6, 7, 8] rfl rfl rfl rfl (by decide +kernel) (fun _ => rfl) rfl (by decide) (Nat.le_of_ble_eq_true rfl) dX3_swapBays_21 (fun r21 => []) (fun _ => rfl) (fun r21 _ => ?_)
  exact G.vret rfl rfl dX3_swapBays_24
set_option maxHeartbeats 4000000 in
set_option maxRecDepth 100000 in
theorem g_X3_takenSet_c26 (l : Launch) (D : va_G) (ks : Nat × Nat) (cI cL cC cM cS : ClassId) (a : Nat → Nat) (t_kind t_bay t_likes t_who t_lamp t_due t_gain : Nat → Int32) (t_day t_dues t_draw : Int32) (k4 : (Nat → Int32) → Int32 → Int32 → Int32 → Option (Int32)) (hk4 : ∀ (t_used : Nat → Int32) (t_count : Int32) (x1 : Int32) (x2 : Int32), GJ l D ks (tyz cI cL cC cM cS) RX3 cX3_takenSet 3 ((some .int)) { frames := 1, cells := 0, slots := 0, locals := 21 } (fun r : Int32 => (some (.int r), (w_X3 cI cL cC cM cS a t_kind t_used t_bay t_likes t_who t_lamp t_due t_gain t_count t_day t_dues t_draw))) (w_X3 cI cL cC cM cS a t_kind t_used t_bay t_likes t_who t_lamp t_due t_gain t_count t_day t_dues t_draw) 4 [some (.ref (a 0)), some (.int x1), some (.int x2)] [] (k4 t_used t_count x1 x2)) (t_used : Nat → Int32) (t_count : Int32) (x1 : Int32) (x2 : Int32) : GJ l D ks (tyz cI cL cC cM cS) RX3 cX3_takenSet 3 ((some .int)) { frames := 1, cells := 0, slots := 0, locals := 21 } (fun r : Int32 => (some (.int r), (w_X3 cI cL cC cM cS a t_kind t_used t_bay t_likes t_who t_lamp t_due t_gain t_count t_day t_dues t_draw))) (w_X3 cI cL cC cM cS a t_kind t_used t_bay t_likes t_who t_lamp t_due t_gain t_count t_day t_dues t_draw) 26 [some (.ref (a 0)), some (.int x1), some (.int x2)] [] (f_X3_takenSet_c26 k4 t_used t_count x1 x2) := by
  unfold f_X3_takenSet_c26
  refine G.iinc 1 (lv' := [some (.ref (a 0)), some (.int x1), some (.int (x2 + 1))]) dX3_takenSet_26 rfl (by decide) (by decide) (Nat.le_of_ble_eq_true rfl) rfl rfl ?_
  refine G.goto 4 dX3_takenSet_29 (by decide) ?_
  exact hk4 t_used t_count x1 (x2 + 1)
set_option maxHeartbeats 4000000 in
set_option maxRecDepth 100000 in
theorem g_X3_takenSet_c4 (l : Launch) (D : va_G) (ks : Nat × Nat) (cI cL cC cM cS : ClassId) (a : Nat → Nat) (t_kind t_bay t_likes t_who t_lamp t_due t_gain : Nat → Int32) (t_day t_dues t_draw : Int32) : ∀ (n : Nat), ∀ (t_used : Nat → Int32) (t_count : Int32) (x1 : Int32) (x2 : Int32), GJ l D ks (tyz cI cL cC cM cS) RX3 cX3_takenSet 3 ((some .int)) { frames := 1, cells := 0, slots := 0, locals := 21 } (fun r : Int32 => (some (.int r), (w_X3 cI cL cC cM cS a t_kind t_used t_bay t_likes t_who t_lamp t_due t_gain t_count t_day t_dues t_draw))) (w_X3 cI cL cC cM cS a t_kind t_used t_bay t_likes t_who t_lamp t_due t_gain t_count t_day t_dues t_draw) 4 [some (.ref (a 0)), some (.int x1), some (.int x2)] [] (f_X3_takenSet_c4 n t_used t_count x1 x2) := by
  intro n
  induction n with
  | zero =>
    intro t_used t_count x1 x2
    exact G.no
  | succ n ih =>
    intro t_used t_count x1 x2
    rw [f_X3_takenSet_c4]
    refine G.iload_n dX3_takenSet_4 rfl ?_
    refine G.aload_n dX3_takenSet_5 rfl ?_
    refine G.get fl_3_46 0 rfl rfl dX3_takenSet_6 ?_
    refine G.icmp_ge 32 dX3_takenSet_9 (by decide) (fun h9 => ?_) (fun h9 => ?_)
    · refine G.iload_n dX3_takenSet_32 rfl ?_
      exact G.iret rfl rfl dX3_takenSet_33
    · refine G.aload_n dX3_takenSet_12 rfl ?_
      refine G.iload_n dX3_takenSet_13 rfl ?_
      refine G.callV (st := []) (w' := fun r14 => (w_X3 cI cL cC cM cS a t_kind t_used t_bay t_likes t_who t_lamp t_due t_gain t_count t_day t_dues t_draw)) mv_X3_hasTaken lk_3_59 (c_X3_hasTaken l D ks cI cL cC cM cS a t_kind t_used t_bay t_likes t_who t_lamp t_due t_gain t_count t_day t_dues t_draw x2) [0, 1, 2, 3, 4, 5, 6, 7, 8] [] [0, 1, 2, 3, 4, 5, 6, 7, 8] rfl rfl rfl rfl (by decide +kernel) (fun _ => rfl) rfl (by decide) (Nat.le_of_ble_eq_true rfl) dX3_takenSet_14 (fun r14 => [.int r14]) (fun _ => rfl) (fun r14 _ => ?_)
      refine G.if_eq 26 dX3_takenSet_17 (by decide) (fun h17 => ?_) (fun h17 => ?_)
      · exact g_X3_takenSet_c26 l D ks cI cL cC cM cS a t_kind t_bay t_likes t_who t_lamp t_due t_gain t_day t_dues t_draw (f_X3_takenSet_c4 n) ih t_used t_count x1 x2
      · refine G.iload_n dX3_takenSet_20 rfl ?_
        refine G.iconst 1 dX3_takenSet_21 (by decide) ?_
        refine G.iload_n dX3_takenSet_22 rfl ?_
        refine G.ishl dX3_takenSet_23 ?_
        refine G.ior dX3_takenSet_24 ?_
        refine G.istore_n (lv' := [some (.ref (a 0)), some (.int (x1 ||| (1 <<< (x2 &&& 31)))), some (.int x2)]) dX3_takenSet_25 (by decide) (Nat.le_of_ble_eq_true rfl) rfl rfl ?_
        exact g_X3_takenSet_c26 l D ks cI cL cC cM cS a t_kind t_bay t_likes t_who t_lamp t_due t_gain t_day t_dues t_draw (f_X3_takenSet_c4 n) ih t_used t_count (x1 ||| (1 <<< (x2 &&& 31))) x2
set_option maxHeartbeats 4000000 in
set_option maxRecDepth 100000 in
theorem c_X3_takenSet (l : Launch) (D : va_G) (ks : Nat × Nat) (cI cL cC cM cS : ClassId) (a : Nat → Nat) (t_kind t_used t_bay t_likes t_who t_lamp t_due t_gain : Nat → Int32) (t_count t_day t_dues t_draw : Int32) : MT l D ks (tyz cI cL cC cM cS) yX3_takenSet cX3_takenSet 3 ((some .int)) { frames := 1, cells := 0, slots := 0, locals := 21 } [.ref (a 0)] (w_X3 cI cL cC cM cS a t_kind t_used t_bay t_likes t_who t_lamp t_due t_gain t_count t_day t_dues t_draw) (fun r : Int32 => (some (.int r), (w_X3 cI cL cC cM cS a t_kind t_used t_bay t_likes t_who t_lamp t_due t_gain t_count t_day t_dues t_draw))) (f_X3_takenSet t_used t_count) := by
  refine MT.of 2 [some (.ref (a 0)), none, none] (by decide) (Nat.le_of_ble_eq_true rfl) rfl ?_
  unfold f_X3_takenSet
  refine G.iconst 0 dX3_takenSet_0 (by decide) ?_
  refine G.istore_n (lv' := [some (.ref (a 0)), some (.int 0), none]) dX3_takenSet_1 (by decide) (Nat.le_of_ble_eq_true rfl) rfl rfl ?_
  refine G.iconst 0 dX3_takenSet_2 (by decide) ?_
  refine G.istore_n (lv' := [some (.ref (a 0)), some (.int 0), some (.int 0)]) dX3_takenSet_3 (by decide) (Nat.le_of_ble_eq_true rfl) rfl rfl ?_
  exact g_X3_takenSet_c4 l D ks cI cL cC cM cS a t_kind t_bay t_likes t_who t_lamp t_due t_gain t_day t_dues t_draw fu t_used t_count 0 0
set_option maxHeartbeats 4000000 in
set_option maxRecDepth 100000 in
theorem c_X3_usedAtLeast (l : Launch) (D : va_G) (ks : Nat × Nat) (cI cL cC cM cS : ClassId) (a : Nat → Nat) (t_kind t_used t_bay t_likes t_who t_lamp t_due t_gain : Nat → Int32) (t_count t_day t_dues t_draw : Int32) (x1 : Int32) (x2 : Int32) : MT l D ks (tyz cI cL cC cM cS) yX3_usedAtLeast cX3_usedAtLeast 3 ((some .int)) { frames := 3, cells := 0, slots := 0, locals := 68 } [.ref (a 0), .int x1, .int x2] (w_X3 cI cL cC cM cS a t_kind t_used t_bay t_likes t_who t_lamp t_due t_gain t_count t_day t_dues t_draw) (fun r : Int32 => (some (.int r), (w_X3 cI cL cC cM cS a t_kind t_used t_bay t_likes t_who t_lamp t_due t_gain t_count t_day t_dues t_draw))) (f_X3_usedAtLeast t_kind t_used t_bay t_who t_lamp x1 x2) := by
  refine MT.of 0 [some (.ref (a 0)), some (.int x1), some (.int x2)] (by decide) (Nat.le_of_ble_eq_true rfl) rfl ?_
  unfold f_X3_usedAtLeast
  refine G.aload_n dX3_usedAtLeast_0 rfl ?_
  refine G.iload_n dX3_usedAtLeast_1 rfl ?_
  refine G.callV (st := []) (w' := fun r2 => (w_X3 cI cL cC cM cS a t_kind t_used t_bay t_likes t_who t_lamp t_due t_gain t_count t_day t_dues t_draw)) mv_X3_hasTaken lk_3_59 (c_X3_hasTaken l D ks cI cL cC cM cS a t_kind t_used t_bay t_likes t_who t_lamp t_due t_gain t_count t_day t_dues t_draw x1) [0, 1, 2, 3, 4, 5, 6, 7, 8] [] [0, 1, 2, 3, 4, 5, 6, 7, 8] rfl rfl rfl rfl (by decide +kernel) (fun _ => rfl) rfl (by decide) (Nat.le_of_ble_eq_true rfl) dX3_usedAtLeast_2 (fun r2 => [.int r2]) (fun _ => rfl) (fun r2 _ => ?_)
  refine G.if_eq 13 dX3_usedAtLeast_5 (by decide) (fun h5 => ?_) (fun h5 => ?_)
  · refine G.bipush 99 dX3_usedAtLeast_13 (by decide) ?_
    refine G.aload_n dX3_usedAtLeast_15 rfl ?_
    refine G.get fl_3_15 0 rfl rfl dX3_usedAtLeast_16 ?_
    refine G.iload_n dX3_usedAtLeast_19 rfl ?_
    refine G.chk (fun h20 => ?_)
    refine G.iaload 2 0 rfl rfl x1.toNatClampNeg rfl h20 dX3_usedAtLeast_20 ?_
    refine G.topi (fun v20 => ?_)
    refine G.iload_n dX3_usedAtLeast_21 rfl ?_
    refine G.aload_n dX3_usedAtLeast_22 rfl ?_
    refine G.iload_n dX3_usedAtLeast_23 rfl ?_
    refine G.callV (st := [.int x2, .int v20, .int 99]) (w' := fun r24 => (w_X3 cI cL cC cM cS a t_kind t_used t_bay t_likes t_who t_lamp t_due t_gain t_count t_day t_dues t_draw)) mv_X3_gainOf lk_3_82 (c_X3_gainOf l D ks cI cL cC cM cS a t_kind t_used t_bay t_likes t_who t_lamp t_due t_gain t_count t_day t_dues t_draw x1) [0, 1, 2, 3, 4, 5, 6, 7, 8] [] [0, 1, 2, 3, 4, 5, 6, 7, 8] rfl rfl rfl rfl (by decide +kernel) (fun _ => rfl) rfl (by decide) (Nat.le_of_ble_eq_true rfl) dX3_usedAtLeast_24 (fun r24 => [.int r24, .int x2, .int v20, .int 99]) (fun _ => rfl) (fun r24 _ => ?_)
    refine G.imul dX3_usedAtLeast_27 ?_
    refine G.iadd dX3_usedAtLeast_28 ?_
    refine G.mmin lk_3_76 mst_min mini mcd_min (by decide) (Nat.le_of_ble_eq_true rfl) dX3_usedAtLeast_29 ?_
    refine G.topi (fun v29 => ?_)
    exact G.iret rfl rfl dX3_usedAtLeast_32
  · refine G.bipush 99 dX3_usedAtLeast_8 (by decide) ?_
    refine G.goto 32 dX3_usedAtLeast_10 (by decide) ?_
    exact G.iret rfl rfl dX3_usedAtLeast_32
set_option maxHeartbeats 4000000 in
set_option maxRecDepth 100000 in
theorem g_X3_usedTogether_c4 (l : Launch) (D : va_G) (ks : Nat × Nat) (cI cL cC cM cS : ClassId) (a : Nat → Nat) (t_kind t_bay t_likes t_who t_lamp t_due t_gain : Nat → Int32) (t_day t_dues t_draw : Int32) : ∀ (n : Nat), ∀ (t_used : Nat → Int32) (t_count : Int32) (x1 : Int32) (x2 : Int32), GJ l D ks (tyz cI cL cC cM cS) RX3 cX3_usedTogether 3 ((some .int)) { frames := 0, cells := 0, slots := 0, locals := 0 } (fun r : Int32 => (some (.int r), (w_X3 cI cL cC cM cS a t_kind t_used t_bay t_likes t_who t_lamp t_due t_gain t_count t_day t_dues t_draw))) (w_X3 cI cL cC cM cS a t_kind t_used t_bay t_likes t_who t_lamp t_due t_gain t_count t_day t_dues t_draw) 4 [some (.ref (a 0)), some (.int x1), some (.int x2)] [] (f_X3_usedTogether_c4 n t_used t_count x1 x2) := by
  intro n
  induction n with
  | zero =>
    intro t_used t_count x1 x2
    exact G.no
  | succ n ih =>
    intro t_used t_count x1 x2
    rw [f_X3_usedTogether_c4]
    refine G.iload_n dX3_usedTogether_4 rfl ?_
    refine G.aload_n dX3_usedTogether_5 rfl ?_
    refine G.get fl_3_46 0 rfl rfl dX3_usedTogether_6 ?_
    refine G.icmp_ge 27 dX3_usedTogether_9 (by decide) (fun h9 => ?_) (fun h9 => ?_)
    · refine G.iload_n dX3_usedTogether_27 rfl ?_
      exact G.iret rfl rfl dX3_usedTogether_28
    · refine G.iload_n dX3_usedTogether_12 rfl ?_
      refine G.aload_n dX3_usedTogether_13 rfl ?_
      refine G.get fl_3_15 0 rfl rfl dX3_usedTogether_14 ?_
      refine G.iload_n dX3_usedTogether_17 rfl ?_
      refine G.chk (fun h18 => ?_)
      refine G.iaload 2 0 rfl rfl x2.toNatClampNeg rfl h18 dX3_usedTogether_18 ?_
      refine G.topi (fun v18 => ?_)
      refine G.iadd dX3_usedTogether_19 ?_
      refine G.istore_n (lv' := [some (.ref (a 0)), some (.int (x1 + v18)), some (.int x2)]) dX3_usedTogether_20 (by decide) (Nat.le_of_ble_eq_true rfl) rfl rfl ?_
      refine G.iinc 1 (lv' := [some (.ref (a 0)), some (.int (x1 + v18)), some (.int (x2 + 1))]) dX3_usedTogether_21 rfl (by decide) (by decide) (Nat.le_of_ble_eq_true rfl) rfl rfl ?_
      refine G.goto 4 dX3_usedTogether_24 (by decide) ?_
      exact ih t_used t_count (x1 + v18) (x2 + 1)
set_option maxHeartbeats 4000000 in
set_option maxRecDepth 100000 in
theorem c_X3_usedTogether (l : Launch) (D : va_G) (ks : Nat × Nat) (cI cL cC cM cS : ClassId) (a : Nat → Nat) (t_kind t_used t_bay t_likes t_who t_lamp t_due t_gain : Nat → Int32) (t_count t_day t_dues t_draw : Int32) : MT l D ks (tyz cI cL cC cM cS) yX3_usedTogether cX3_usedTogether 3 ((some .int)) { frames := 0, cells := 0, slots := 0, locals := 0 } [.ref (a 0)] (w_X3 cI cL cC cM cS a t_kind t_used t_bay t_likes t_who t_lamp t_due t_gain t_count t_day t_dues t_draw) (fun r : Int32 => (some (.int r), (w_X3 cI cL cC cM cS a t_kind t_used t_bay t_likes t_who t_lamp t_due t_gain t_count t_day t_dues t_draw))) (f_X3_usedTogether t_used t_count) := by
  refine MT.of 2 [some (.ref (a 0)), none, none] (by decide) (Nat.le_of_ble_eq_true rfl) rfl ?_
  unfold f_X3_usedTogether
  refine G.iconst 0 dX3_usedTogether_0 (by decide) ?_
  refine G.istore_n (lv' := [some (.ref (a 0)), some (.int 0), none]) dX3_usedTogether_1 (by decide) (Nat.le_of_ble_eq_true rfl) rfl rfl ?_
  refine G.iconst 0 dX3_usedTogether_2 (by decide) ?_
  refine G.istore_n (lv' := [some (.ref (a 0)), some (.int 0), some (.int 0)]) dX3_usedTogether_3 (by decide) (Nat.le_of_ble_eq_true rfl) rfl rfl ?_
  exact g_X3_usedTogether_c4 l D ks cI cL cC cM cS a t_kind t_bay t_likes t_who t_lamp t_due t_gain t_day t_dues t_draw fu t_used t_count 0 0
set_option maxHeartbeats 4000000 in
set_option maxRecDepth 100000 in
theorem c_X4_cut (l : Launch) (D : va_G) (ks : Nat × Nat) (cI cL cC cM cS : ClassId) (a : Nat → Nat) (t_items : Nat → Int64) (t_lane t_size : Int32) (x1 : Int64) : MT l D ks (tyz cI cL cC cM cS) yX4_cut cX4_cut 3 ((some .long)) { frames := 0, cells := 0, slots := 0, locals := 0 } [.ref (a 0), .long x1] (w_X4 cI cL cC cM cS a t_items t_lane t_size) (fun r : Int64 => (some (.long r), (w_X4 cI cL cC cM cS a t_items t_lane t_size))) (f_X4_cut t_lane x1) := by
  refine MT.of 0 [some (.ref (a 0)), some (.long x1), none] (by decide) (Nat.le_of_ble_eq_true rfl) rfl ?_
  unfold f_X4_cut
  refine G.aload_n dX4_cut_0 rfl ?_
  refine G.get fl_4_19 0 rfl rfl dX4_cut_1 ?_
  by_cases h4_0 : t_lane = 0
  · rw [if_pos h4_0]
    refine G.tin (off := 28) 0 32 h4_0 dX4_cut_4 (by decide) (by decide) (by decide) (by decide) ?_
    refine G.lload_n dX4_cut_32 rfl ?_
    refine G.l2i dX4_cut_33 ?_
    refine G.i2b dX4_cut_34 ?_
    refine G.i2l dX4_cut_35 ?_
    exact G.lret rfl rfl dX4_cut_36
  rw [if_neg h4_0]
  by_cases h4_1 : t_lane = 1
  · rw [if_pos h4_1]
    refine G.tin (off := 33) 1 37 h4_1 dX4_cut_4 (by decide) (by decide) (by decide) (by decide) ?_
    refine G.lload_n dX4_cut_37 rfl ?_
    refine G.l2i dX4_cut_38 ?_
    refine G.i2s dX4_cut_39 ?_
    refine G.i2l dX4_cut_40 ?_
    exact G.lret rfl rfl dX4_cut_41
  rw [if_neg h4_1]
  by_cases h4_2 : t_lane = 2
  · rw [if_pos h4_2]
    refine G.tin (off := 38) 2 42 h4_2 dX4_cut_4 (by decide) (by decide) (by decide) (by decide) ?_
    refine G.lload_n dX4_cut_42 rfl ?_
    refine G.l2i dX4_cut_43 ?_
    refine G.i2l dX4_cut_44 ?_
    exact G.lret rfl rfl dX4_cut_45
  rw [if_neg h4_2]
  refine G.tout 46 (g_o3 h4_0 h4_1 h4_2) dX4_cut_4 (by decide) ?_
  refine G.lload_n dX4_cut_46 rfl ?_
  exact G.lret rfl rfl dX4_cut_47
set_option maxHeartbeats 4000000 in
set_option maxRecDepth 100000 in
theorem c_X4_isMissing (l : Launch) (D : va_G) (ks : Nat × Nat) (cI cL cC cM cS : ClassId) (a : Nat → Nat) (t_items : Nat → Int64) (t_lane t_size : Int32) : MT l D ks (tyz cI cL cC cM cS) yX4_isMissing cX4_isMissing 1 ((some .boolean)) { frames := 0, cells := 0, slots := 0, locals := 0 } [.ref (a 0)] (w_X4 cI cL cC cM cS a t_items t_lane t_size) (fun r : Int32 => (some (.int r), (w_X4 cI cL cC cM cS a t_items t_lane t_size))) (f_X4_isMissing t_size) := by
  refine MT.of 0 [some (.ref (a 0))] (by decide) (Nat.le_of_ble_eq_true rfl) rfl ?_
  unfold f_X4_isMissing
  refine G.aload_n dX4_isMissing_0 rfl ?_
  refine G.get fl_4_15 0 rfl rfl dX4_isMissing_1 ?_
  refine G.join (st := []) Value.int 12 (fun v12 => ?_) (fun hJ => ?_)
  · refine G.chk (fun h12 => ?_)
    exact G.zret rfl rfl (isb_n h12) dX4_isMissing_12
  · refine G.ite ?_
    refine G.if_ge 11 dX4_isMissing_4 (by decide) (fun _ => ?_) (fun _ => ?_)
    · refine G.iconst 0 dX4_isMissing_11 (by decide) ?_
      exact hJ _
    · refine G.iconst 1 dX4_isMissing_7 (by decide) ?_
      refine G.goto 12 dX4_isMissing_8 (by decide) ?_
      exact hJ _
set_option maxHeartbeats 4000000 in
set_option maxRecDepth 100000 in
theorem g_X4_lay_c12 (l : Launch) (D : va_G) (ks : Nat × Nat) (cI cL cC cM cS : ClassId) (a : Nat → Nat) : ∀ (n : Nat), ∀ (t_items : Nat → Int64) (t_lane t_size : Int32) (x3 : Int32), GJ l D ks (tyz cI cL cC cM cS) RX4 cX4_lay 4 none { frames := 0, cells := 0, slots := 0, locals := 0 } (fun r : (Nat → Int64) × Int32 × Int32 => (none, (w_X4 cI cL cC cM cS a r.1 r.2.1 r.2.2))) (w_X4 cI cL cC cM cS a t_items t_lane t_size) 12 [some (.ref (a 0)), none, none, some (.int x3)] [] (f_X4_lay_c12 n t_items t_lane t_size x3) := by
  intro n
  induction n with
  | zero =>
    intro t_items t_lane t_size x3
    exact G.no
  | succ n ih =>
    intro t_items t_lane t_size x3
    rw [f_X4_lay_c12]
    refine G.iload_n dX4_lay_12 rfl ?_
    refine G.bipush 24 dX4_lay_13 (by decide) ?_
    refine G.icmp_ge 31 dX4_lay_15 (by decide) (fun h15 => ?_) (fun h15 => ?_)
    · exact G.vret rfl rfl dX4_lay_31
    · refine G.aload_n dX4_lay_18 rfl ?_
      refine G.get fl_4_9 0 rfl rfl dX4_lay_19 ?_
      refine G.iload_n dX4_lay_22 rfl ?_
      refine G.lconst 0 dX4_lay_23 (by decide) ?_
      refine G.chk (fun h24 => ?_)
      refine G.lastore (w' := (w_X4 cI cL cC cM cS a (vp_updL t_items x3.toNatClampNeg 0) t_lane t_size)) 1 1 rfl rfl x3.toNatClampNeg rfl h24 rfl dX4_lay_24 ?_
      refine G.iinc 1 (lv' := [some (.ref (a 0)), none, none, some (.int (x3 + 1))]) dX4_lay_25 rfl (by decide) (by decide) (Nat.le_of_ble_eq_true rfl) rfl rfl ?_
      refine G.goto 12 dX4_lay_28 (by decide) ?_
      exact ih (vp_updL t_items x3.toNatClampNeg 0) t_lane t_size (x3 + 1)
set_option maxHeartbeats 4000000 in
set_option maxRecDepth 100000 in
theorem c_X4_lay (l : Launch) (D : va_G) (ks : Nat × Nat) (cI cL cC cM cS : ClassId) (a : Nat → Nat) (t_items : Nat → Int64) (t_lane t_size : Int32) (x1 : Int32) (x2 : Int32) : MT l D ks (tyz cI cL cC cM cS) yX4_lay cX4_lay 4 none { frames := 0, cells := 0, slots := 0, locals := 0 } [.ref (a 0), .int x1, .int x2] (w_X4 cI cL cC cM cS a t_items t_lane t_size) (fun r : (Nat → Int64) × Int32 × Int32 => (none, (w_X4 cI cL cC cM cS a r.1 r.2.1 r.2.2))) (f_X4_lay t_items t_lane t_size x1 x2) := by
  refine MT.of 1 [some (.ref (a 0)), some (.int x1), some (.int x2), none] (by decide) (Nat.le_of_ble_eq_true rfl) rfl ?_
  unfold f_X4_lay
  refine G.aload_n dX4_lay_0 rfl ?_
  refine G.iload_n dX4_lay_1 rfl ?_
  refine G.put (w' := (w_X4 cI cL cC cM cS a t_items x1 t_size)) fp_4_19 0 rfl (Nat.le_of_ble_eq_true rfl) rfl rfl rfl dX4_lay_2 ?_
  refine G.aload_n dX4_lay_5 rfl ?_
  refine G.iload_n dX4_lay_6 rfl ?_
  refine G.put (w' := (w_X4 cI cL cC cM cS a t_items x1 x2)) fp_4_15 0 rfl (Nat.le_of_ble_eq_true rfl) rfl rfl rfl dX4_lay_7 ?_
  refine G.iconst 0 dX4_lay_10 (by decide) ?_
  refine G.istore_n (lv' := [some (.ref (a 0)), some (.int x1), some (.int x2), some (.int 0)]) dX4_lay_11 (by decide) (Nat.le_of_ble_eq_true rfl) rfl rfl ?_
  refine G.mask (lv' := [some (.ref (a 0)), none, none, some (.int 0)]) [true, false, false, true] rfl ?_
  exact g_X4_lay_c12 l D ks cI cL cC cM cS a fu t_items x1 x2 0
set_option maxHeartbeats 4000000 in
set_option maxRecDepth 100000 in
theorem c_X4_put (l : Launch) (D : va_G) (ks : Nat × Nat) (cI cL cC cM cS : ClassId) (a : Nat → Nat) (t_items : Nat → Int64) (t_lane t_size : Int32) (x1 : Int32) (x2 : Int64) : MT l D ks (tyz cI cL cC cM cS) yX4_put cX4_put 4 none { frames := 1, cells := 0, slots := 0, locals := 22 } [.ref (a 0), .int x1, .long x2] (w_X4 cI cL cC cM cS a t_items t_lane t_size) (fun r : (Nat → Int64) => (none, (w_X4 cI cL cC cM cS a r t_lane t_size))) (f_X4_put t_items t_lane x1 x2) := by
  refine MT.of 0 [some (.ref (a 0)), some (.int x1), some (.long x2), none] (by decide) (Nat.le_of_ble_eq_true rfl) rfl ?_
  unfold f_X4_put
  refine G.aload_n dX4_put_0 rfl ?_
  refine G.get fl_4_9 0 rfl rfl dX4_put_1 ?_
  refine G.iload_n dX4_put_4 rfl ?_
  refine G.aload_n dX4_put_5 rfl ?_
  refine G.lload_n dX4_put_6 rfl ?_
  refine G.callV (st := [.int x1, .ref (a 1)]) (w' := fun r7 => (w_X4 cI cL cC cM cS a t_items t_lane t_size)) mv_X4_cut lk_4_26 (c_X4_cut l D ks cI cL cC cM cS a t_items t_lane t_size x2) [0, 1] [] [0, 1] rfl rfl rfl rfl (by decide +kernel) (fun _ => rfl) rfl (by decide) (Nat.le_of_ble_eq_true rfl) dX4_put_7 (fun r7 => [.long r7, .int x1, .ref (a 1)]) (fun _ => rfl) (fun r7 _ => ?_)
  refine G.chk (fun h10 => ?_)
  refine G.lastore (w' := (w_X4 cI cL cC cM cS a (vp_updL t_items x1.toNatClampNeg r7) t_lane t_size)) 1 1 rfl rfl x1.toNatClampNeg rfl h10 rfl dX4_put_10 ?_
  exact G.vret rfl rfl dX4_put_11
set_option maxHeartbeats 4000000 in
set_option maxRecDepth 100000 in
theorem c_X4_refusal (l : Launch) (D : va_G) (ks : Nat × Nat) (cI cL cC cM cS : ClassId) (a : Nat → Nat) (t_items : Nat → Int64) (t_lane t_size : Int32) (x1 : Int32) (x2 : Int32) (x3 : Int32) : MT l D ks (tyz cI cL cC cM cS) yX4_refusal cX4_refusal 4 ((some .int)) { frames := 1, cells := 0, slots := 0, locals := 20 } [.ref (a 0), .int x1, .int x2, .int x3] (w_X4 cI cL cC cM cS a t_items t_lane t_size) (fun r : Int32 => (some (.int r), (w_X4 cI cL cC cM cS a t_items t_lane t_size))) (f_X4_refusal t_lane t_size x1 x2 x3) := by
  refine MT.of 0 [some (.ref (a 0)), some (.int x1), some (.int x2), some (.int x3)] (by decide) (Nat.le_of_ble_eq_true rfl) rfl ?_
  unfold f_X4_refusal
  refine G.aload_n dX4_refusal_0 rfl ?_
  refine G.callV (st := []) (w' := fun r1 => (w_X4 cI cL cC cM cS a t_items t_lane t_size)) mv_X4_isMissing lk_4_22 (c_X4_isMissing l D ks cI cL cC cM cS a t_items t_lane t_size) [0, 1] [] [0, 1] rfl rfl rfl rfl (by decide +kernel) (fun _ => rfl) rfl (by decide) (Nat.le_of_ble_eq_true rfl) dX4_refusal_1 (fun r1 => [.int r1]) (fun _ => rfl) (fun r1 _ => ?_)
  refine G.if_eq 10 dX4_refusal_4 (by decide) (fun h4 => ?_) (fun h4 => ?_)
  · refine G.aload_n dX4_refusal_10 rfl ?_
    refine G.get fl_4_19 0 rfl rfl dX4_refusal_11 ?_
    refine G.iload_n dX4_refusal_14 rfl ?_
    refine G.icmp_eq 21 dX4_refusal_15 (by decide) (fun h15 => ?_) (fun h15 => ?_)
    · refine G.iload_n dX4_refusal_21 rfl ?_
      refine G.join (st := []) Value.int 45 (fun v45 => ?_) (fun hJ => ?_)
      · exact G.iret rfl rfl dX4_refusal_45
      · refine G.ite ?_
        refine G.if_lt 39 dX4_refusal_22 (by decide) (fun _ => ?_) (fun _ => ?_)
        · refine G.bipush (-13) dX4_refusal_39 (by decide) ?_
          refine G.goto 45 dX4_refusal_41 (by decide) ?_
          exact hJ _
        · refine G.iload_n dX4_refusal_25 rfl ?_
          refine G.ite ?_
          refine G.if_lt 39 dX4_refusal_26 (by decide) (fun _ => ?_) (fun _ => ?_)
          · refine G.bipush (-13) dX4_refusal_39 (by decide) ?_
            refine G.goto 45 dX4_refusal_41 (by decide) ?_
            exact hJ _
          · refine G.iload_n dX4_refusal_29 rfl ?_
            refine G.aload_n dX4_refusal_30 rfl ?_
            refine G.get fl_4_15 0 rfl rfl dX4_refusal_31 ?_
            refine G.iload_n dX4_refusal_34 rfl ?_
            refine G.isub dX4_refusal_35 ?_
            refine G.ite ?_
            refine G.icmp_le 44 dX4_refusal_36 (by decide) (fun _ => ?_) (fun _ => ?_)
            · refine G.iconst 0 dX4_refusal_44 (by decide) ?_
              exact hJ _
            · refine G.bipush (-13) dX4_refusal_39 (by decide) ?_
              refine G.goto 45 dX4_refusal_41 (by decide) ?_
              exact hJ _
    · refine G.bipush (-12) dX4_refusal_18 (by decide) ?_
      exact G.iret rfl rfl dX4_refusal_20
  · refine G.bipush (-11) dX4_refusal_7 (by decide) ?_
    exact G.iret rfl rfl dX4_refusal_9
set_option maxHeartbeats 4000000 in
set_option maxRecDepth 100000 in
theorem c_X4_takeAway (l : Launch) (D : va_G) (ks : Nat × Nat) (cI cL cC cM cS : ClassId) (a : Nat → Nat) (t_items : Nat → Int64) (t_lane t_size : Int32) : MT l D ks (tyz cI cL cC cM cS) yX4_takeAway cX4_takeAway 2 ((some .int)) { frames := 0, cells := 0, slots := 0, locals := 0 } [.ref (a 0)] (w_X4 cI cL cC cM cS a t_items t_lane t_size) (fun r : Int32 × Int32 => (some (.int r.1), (w_X4 cI cL cC cM cS a t_items t_lane r.2))) (f_X4_takeAway t_size) := by
  refine MT.of 1 [some (.ref (a 0)), none] (by decide) (Nat.le_of_ble_eq_true rfl) rfl ?_
  unfold f_X4_takeAway
  refine G.aload_n dX4_takeAway_0 rfl ?_
  refine G.get fl_4_15 0 rfl rfl dX4_takeAway_1 ?_
  refine G.istore_n (lv' := [some (.ref (a 0)), some (.int t_size)]) dX4_takeAway_4 (by decide) (Nat.le_of_ble_eq_true rfl) rfl rfl ?_
  refine G.aload_n dX4_takeAway_5 rfl ?_
  refine G.iconst (-1) dX4_takeAway_6 (by decide) ?_
  refine G.put (w' := (w_X4 cI cL cC cM cS a t_items t_lane (-1))) fp_4_15 0 rfl (Nat.le_of_ble_eq_true rfl) rfl rfl rfl dX4_takeAway_7 ?_
  refine G.iload_n dX4_takeAway_10 rfl ?_
  exact G.iret rfl rfl dX4_takeAway_11
set_option maxHeartbeats 4000000 in
set_option maxRecDepth 100000 in
theorem c_X5_clear (l : Launch) (D : va_G) (ks : Nat × Nat) (cI cL cC cM cS : ClassId) (a : Nat → Nat) (t_letters : Nat → Int32) (t_length t_place : Int32) : MT l D ks (tyz cI cL cC cM cS) yX5_clear cX5_clear 1 none { frames := 0, cells := 0, slots := 0, locals := 0 } [.ref (a 0)] (w_X5 cI cL cC cM cS a t_letters t_length t_place) (fun r : Int32 => (none, (w_X5 cI cL cC cM cS a t_letters r t_place))) (f_X5_clear t_length) := by
  refine MT.of 0 [some (.ref (a 0))] (by decide) (Nat.le_of_ble_eq_true rfl) rfl ?_
  unfold f_X5_clear
  refine G.aload_n dX5_clear_0 rfl ?_
  refine G.iconst 0 dX5_clear_1 (by decide) ?_
  refine G.put (w' := (w_X5 cI cL cC cM cS a t_letters 0 t_place)) fp_5_15 0 rfl (Nat.le_of_ble_eq_true rfl) rfl rfl rfl dX5_clear_2 ?_
  exact G.vret rfl rfl dX5_clear_5
set_option maxHeartbeats 4000000 in
set_option maxRecDepth 100000 in
theorem g_X5_digitHere_c27 (l : Launch) (D : va_G) (ks : Nat × Nat) (cI cL cC cM cS : ClassId) (a : Nat → Nat) (t_letters : Nat → Int32) (t_length t_place : Int32) (x1 : Int32) (s0 : Int32) : GJ l D ks (tyz cI cL cC cM cS) RX5 cX5_digitHere 3 ((some .int)) { frames := 0, cells := 0, slots := 0, locals := 0 } (fun r : Int32 => (some (.int r), (w_X5 cI cL cC cM cS a t_letters t_length t_place))) (w_X5 cI cL cC cM cS a t_letters t_length t_place) 27 [none, some (.int x1), none] [.int s0] (f_X5_digitHere_c27 t_letters t_length t_place x1 s0) := by
  unfold f_X5_digitHere_c27
  refine G.istore_n (lv' := [none, some (.int x1), some (.int s0)]) dX5_digitHere_27 (by decide) (Nat.le_of_ble_eq_true rfl) rfl rfl ?_
  refine G.iload_n dX5_digitHere_28 rfl ?_
  refine G.join (st := []) Value.int 42 (fun v42 => ?_) (fun hJ => ?_)
  · exact G.iret rfl rfl dX5_digitHere_42
  · refine G.ite ?_
    refine G.if_lt 41 dX5_digitHere_29 (by decide) (fun _ => ?_) (fun _ => ?_)
    · refine G.iconst (-1) dX5_digitHere_41 (by decide) ?_
      exact hJ _
    · refine G.iload_n dX5_digitHere_32 rfl ?_
      refine G.iload_n dX5_digitHere_33 rfl ?_
      refine G.ite ?_
      refine G.icmp_gt 41 dX5_digitHere_34 (by decide) (fun _ => ?_) (fun _ => ?_)
      · refine G.iconst (-1) dX5_digitHere_41 (by decide) ?_
        exact hJ _
      · refine G.iload_n dX5_digitHere_37 rfl ?_
        refine G.goto 42 dX5_digitHere_38 (by decide) ?_
        exact hJ _
set_option maxHeartbeats 4000000 in
set_option maxRecDepth 100000 in
theorem c_X5_digitHere (l : Launch) (D : va_G) (ks : Nat × Nat) (cI cL cC cM cS : ClassId) (a : Nat → Nat) (t_letters : Nat → Int32) (t_length t_place : Int32) (x1 : Int32) : MT l D ks (tyz cI cL cC cM cS) yX5_digitHere cX5_digitHere 3 ((some .int)) { frames := 0, cells := 0, slots := 0, locals := 0 } [.ref (a 0), .int x1] (w_X5 cI cL cC cM cS a t_letters t_length t_place) (fun r : Int32 => (some (.int r), (w_X5 cI cL cC cM cS a t_letters t_length t_place))) (f_X5_digitHere t_letters t_length t_place x1) := by
  refine MT.of 1 [some (.ref (a 0)), some (.int x1), none] (by decide) (Nat.le_of_ble_eq_true rfl) rfl ?_
  unfold f_X5_digitHere
  refine G.aload_n dX5_digitHere_0 rfl ?_
  refine G.get fl_5_19 0 rfl rfl dX5_digitHere_1 ?_
  refine G.aload_n dX5_digitHere_4 rfl ?_
  refine G.get fl_5_15 0 rfl rfl dX5_digitHere_5 ?_
  refine G.icmp_ge 26 dX5_digitHere_8 (by decide) (fun h8 => ?_) (fun h8 => ?_)
  · refine G.iconst (-1) dX5_digitHere_26 (by decide) ?_
    refine G.mask (lv' := [none, some (.int x1), none]) [false, true, false] rfl ?_
    exact g_X5_digitHere_c27 l D ks cI cL cC cM cS a t_letters t_length t_place x1 (-1)
  · refine G.aload_n dX5_digitHere_11 rfl ?_
    refine G.get fl_5_9 0 rfl rfl dX5_digitHere_12 ?_
    refine G.aload_n dX5_digitHere_15 rfl ?_
    refine G.get fl_5_19 0 rfl rfl dX5_digitHere_16 ?_
    refine G.chk (fun h19 => ?_)
    refine G.caload 1 2 rfl rfl t_place.toNatClampNeg rfl h19 dX5_digitHere_19 ?_
    refine G.topi (fun v19 => ?_)
    refine G.bipush 48 dX5_digitHere_20 (by decide) ?_
    refine G.isub dX5_digitHere_22 ?_
    refine G.goto 27 dX5_digitHere_23 (by decide) ?_
    refine G.mask (lv' := [none, some (.int x1), none]) [false, true, false] rfl ?_
    exact g_X5_digitHere_c27 l D ks cI cL cC cM cS a t_letters t_length t_place x1 (v19 - 48)
set_option maxHeartbeats 4000000 in
set_option maxRecDepth 100000 in
theorem g_X5_skipBlanks_c0 (l : Launch) (D : va_G) (ks : Nat × Nat) (cI cL cC cM cS : ClassId) (a : Nat → Nat) : ∀ (n : Nat), ∀ (t_letters : Nat → Int32) (t_length t_place : Int32), GJ l D ks (tyz cI cL cC cM cS) RX5 cX5_skipBlanks 1 none { frames := 0, cells := 0, slots := 0, locals := 0 } (fun r : Int32 => (none, (w_X5 cI cL cC cM cS a t_letters t_length r))) (w_X5 cI cL cC cM cS a t_letters t_length t_place) 0 [some (.ref (a 0))] [] (f_X5_skipBlanks_c0 n t_letters t_length t_place) := by
  intro n
  induction n with
  | zero =>
    intro t_letters t_length t_place
    exact G.no
  | succ n ih =>
    intro t_letters t_length t_place
    rw [f_X5_skipBlanks_c0]
    refine G.aload_n dX5_skipBlanks_0 rfl ?_
    refine G.get fl_5_19 0 rfl rfl dX5_skipBlanks_1 ?_
    refine G.aload_n dX5_skipBlanks_4 rfl ?_
    refine G.get fl_5_15 0 rfl rfl dX5_skipBlanks_5 ?_
    refine G.icmp_ge 38 dX5_skipBlanks_8 (by decide) (fun h8 => ?_) (fun h8 => ?_)
    · exact G.vret rfl rfl dX5_skipBlanks_38
    · refine G.aload_n dX5_skipBlanks_11 rfl ?_
      refine G.get fl_5_9 0 rfl rfl dX5_skipBlanks_12 ?_
      refine G.aload_n dX5_skipBlanks_15 rfl ?_
      refine G.get fl_5_19 0 rfl rfl dX5_skipBlanks_16 ?_
      refine G.chk (fun h19 => ?_)
      refine G.caload 1 2 rfl rfl t_place.toNatClampNeg rfl h19 dX5_skipBlanks_19 ?_
      refine G.topi (fun v19 => ?_)
      refine G.bipush 32 dX5_skipBlanks_20 (by decide) ?_
      refine G.icmp_ne 38 dX5_skipBlanks_22 (by decide) (fun h22 => ?_) (fun h22 => ?_)
      · exact G.vret rfl rfl dX5_skipBlanks_38
      · refine G.aload_n dX5_skipBlanks_25 rfl ?_
        refine G.dup dX5_skipBlanks_26 rfl ?_
        refine G.get fl_5_19 0 rfl rfl dX5_skipBlanks_27 ?_
        refine G.iconst 1 dX5_skipBlanks_30 (by decide) ?_
        refine G.iadd dX5_skipBlanks_31 ?_
        refine G.put (w' := (w_X5 cI cL cC cM cS a t_letters t_length (t_place + 1))) fp_5_19 0 rfl (Nat.le_of_ble_eq_true rfl) rfl rfl rfl dX5_skipBlanks_32 ?_
        refine G.goto 0 dX5_skipBlanks_35 (by decide) ?_
        exact ih t_letters t_length (t_place + 1)
set_option maxHeartbeats 4000000 in
set_option maxRecDepth 100000 in
theorem c_X5_skipBlanks (l : Launch) (D : va_G) (ks : Nat × Nat) (cI cL cC cM cS : ClassId) (a : Nat → Nat) (t_letters : Nat → Int32) (t_length t_place : Int32) : MT l D ks (tyz cI cL cC cM cS) yX5_skipBlanks cX5_skipBlanks 1 none { frames := 0, cells := 0, slots := 0, locals := 0 } [.ref (a 0)] (w_X5 cI cL cC cM cS a t_letters t_length t_place) (fun r : Int32 => (none, (w_X5 cI cL cC cM cS a t_letters t_length r))) (f_X5_skipBlanks t_letters t_length t_place) := by
  refine MT.of 0 [some (.ref (a 0))] (by decide) (Nat.le_of_ble_eq_true rfl) rfl ?_
  unfold f_X5_skipBlanks
  exact g_X5_skipBlanks_c0 l D ks cI cL cC cM cS a fu t_letters t_length t_place
set_option maxHeartbeats 4000000 in
set_option maxRecDepth 100000 in
theorem c_X5_readDigit (l : Launch) (D : va_G) (ks : Nat × Nat) (cI cL cC cM cS : ClassId) (a : Nat → Nat) (t_letters : Nat → Int32) (t_length t_place : Int32) (x1 : Int32) : MT l D ks (tyz cI cL cC cM cS) yX5_readDigit cX5_readDigit 3 ((some .int)) { frames := 1, cells := 0, slots := 0, locals := 22 } [.ref (a 0), .int x1] (w_X5 cI cL cC cM cS a t_letters t_length t_place) (fun r : Int32 × Int32 => (some (.int r.1), (w_X5 cI cL cC cM cS a t_letters t_length r.2))) (f_X5_readDigit t_letters t_length t_place x1) := by
  refine MT.of 1 [some (.ref (a 0)), some (.int x1), none] (by decide) (Nat.le_of_ble_eq_true rfl) rfl ?_
  unfold f_X5_readDigit
  refine G.aload_n dX5_readDigit_0 rfl ?_
  refine G.callV (st := []) (w' := fun r1 => (w_X5 cI cL cC cM cS a t_letters t_length r1)) mv_X5_skipBlanks lk_5_33 (c_X5_skipBlanks l D ks cI cL cC cM cS a t_letters t_length t_place) [0, 1] [] [0, 1] rfl rfl rfl rfl (by decide +kernel) (fun _ => rfl) rfl (by decide) (Nat.le_of_ble_eq_true rfl) dX5_readDigit_1 (fun r1 => []) (fun _ => rfl) (fun r1 _ => ?_)
  refine G.aload_n dX5_readDigit_4 rfl ?_
  refine G.iload_n dX5_readDigit_5 rfl ?_
  refine G.callV (st := []) (w' := fun r6 => (w_X5 cI cL cC cM cS a t_letters t_length r1)) mv_X5_digitHere lk_5_71 (c_X5_digitHere l D ks cI cL cC cM cS a t_letters t_length r1 x1) [0, 1] [] [0, 1] rfl rfl rfl rfl (by decide +kernel) (fun _ => rfl) rfl (by decide) (Nat.le_of_ble_eq_true rfl) dX5_readDigit_6 (fun r6 => [.int r6]) (fun _ => rfl) (fun r6 _ => ?_)
  refine G.istore_n (lv' := [some (.ref (a 0)), some (.int x1), some (.int r6)]) dX5_readDigit_9 (by decide) (Nat.le_of_ble_eq_true rfl) rfl rfl ?_
  refine G.iload_n dX5_readDigit_10 rfl ?_
  refine G.if_lt 24 dX5_readDigit_11 (by decide) (fun h11 => ?_) (fun h11 => ?_)
  · refine G.iload_n dX5_readDigit_24 rfl ?_
    exact G.iret rfl rfl dX5_readDigit_25
  · refine G.aload_n dX5_readDigit_14 rfl ?_
    refine G.dup dX5_readDigit_15 rfl ?_
    refine G.get fl_5_19 0 rfl rfl dX5_readDigit_16 ?_
    refine G.iconst 1 dX5_readDigit_19 (by decide) ?_
    refine G.iadd dX5_readDigit_20 ?_
    refine G.put (w' := (w_X5 cI cL cC cM cS a t_letters t_length (r1 + 1))) fp_5_19 0 rfl (Nat.le_of_ble_eq_true rfl) rfl rfl rfl dX5_readDigit_21 ?_
    refine G.iload_n dX5_readDigit_24 rfl ?_
    exact G.iret rfl rfl dX5_readDigit_25
set_option maxHeartbeats 4000000 in
set_option maxRecDepth 100000 in
theorem c_X5_readFreeBay (l : Launch) (D : va_G) (ks : Nat × Nat) (cI cL cC cM cS : ClassId) (a b : Nat → Nat) (t_letters : Nat → Int32) (t_length t_place : Int32) (u_kind u_used u_bay u_likes u_who u_lamp u_due u_gain : Nat → Int32) (u_count u_day u_dues u_draw : Int32) : MT l D ks (tyz cI cL cC cM cS) yX5_readFreeBay cX5_readFreeBay 3 ((some .int)) { frames := 1, cells := 0, slots := 0, locals := 22 } [.ref (a 0), .ref (b 0)] (w_X5_X3 cI cL cC cM cS a b t_letters t_length t_place u_kind u_used u_bay u_likes u_who u_lamp u_due u_gain u_count u_day u_dues u_draw) (fun r : Int32 × Int32 => (some (.int r.1), (w_X5_X3 cI cL cC cM cS a b t_letters t_length r.2 u_kind u_used u_bay u_likes u_who u_lamp u_due u_gain u_count u_day u_dues u_draw))) (f_X5_readFreeBay t_letters t_length t_place u_who) := by
  refine MT.of 1 [some (.ref (a 0)), some (.ref (b 0)), none] (by decide) (Nat.le_of_ble_eq_true rfl) rfl ?_
  unfold f_X5_readFreeBay
  refine G.aload_n dX5_readFreeBay_0 rfl ?_
  refine G.callV (st := []) (w' := fun r1 => (w_X5_X3 cI cL cC cM cS a b t_letters t_length r1 u_kind u_used u_bay u_likes u_who u_lamp u_due u_gain u_count u_day u_dues u_draw)) mv_X5_skipBlanks lk_5_33 (c_X5_skipBlanks l D ks cI cL cC cM cS a t_letters t_length t_place) [0, 1] [2, 3, 4, 5, 6, 7, 8, 9, 10] [9, 10, 0, 1, 2, 3, 4, 5, 6, 7, 8] rfl rfl rfl rfl (by decide +kernel) (fun _ => rfl) rfl (by decide) (Nat.le_of_ble_eq_true rfl) dX5_readFreeBay_1 (fun r1 => []) (fun _ => rfl) (fun r1 _ => ?_)
  refine G.aload_n dX5_readFreeBay_4 rfl ?_
  refine G.iconst 5 dX5_readFreeBay_5 (by decide) ?_
  refine G.callV (st := []) (w' := fun r6 => (w_X5_X3 cI cL cC cM cS a b t_letters t_length r1 u_kind u_used u_bay u_likes u_who u_lamp u_due u_gain u_count u_day u_dues u_draw)) mv_X5_digitHere lk_5_71 (c_X5_digitHere l D ks cI cL cC cM cS a t_letters t_length r1 5) [0, 1] [2, 3, 4, 5, 6, 7, 8, 9, 10] [9, 10, 0, 1, 2, 3, 4, 5, 6, 7, 8] rfl rfl rfl rfl (by decide +kernel) (fun _ => rfl) rfl (by decide) (Nat.le_of_ble_eq_true rfl) dX5_readFreeBay_6 (fun r6 => [.int r6]) (fun _ => rfl) (fun r6 _ => ?_)
  refine G.istore_n (lv' := [some (.ref (a 0)), some (.ref (b 0)), some (.int r6)]) dX5_readFreeBay_9 (by decide) (Nat.le_of_ble_eq_true rfl) rfl rfl ?_
  refine G.iload_n dX5_readFreeBay_10 rfl ?_
  refine G.if_lt 23 dX5_readFreeBay_11 (by decide) (fun h11 => ?_) (fun h11 => ?_)
  · refine G.iconst (-1) dX5_readFreeBay_23 (by decide) ?_
    exact G.iret rfl rfl dX5_readFreeBay_24
  · refine G.aload_n dX5_readFreeBay_14 rfl ?_
    refine G.iload_n dX5_readFreeBay_15 rfl ?_
    refine G.callV (st := []) (w' := fun r16 => (w_X5_X3 cI cL cC cM cS a b t_letters t_length r1 u_kind u_used u_bay u_likes u_who u_lamp u_due u_gain u_count u_day u_dues u_draw)) mv_X3_whoIn lk_5_74 (c_X3_whoIn l D ks cI cL cC cM cS b u_kind u_used u_bay u_likes u_who u_lamp u_due u_gain u_count u_day u_dues u_draw r6) [2, 3, 4, 5, 6, 7, 8, 9, 10] [0, 1] [0, 1, 2, 3, 4, 5, 6, 7, 8, 9, 10] rfl rfl rfl rfl (by decide +kernel) (fun _ => rfl) rfl (by decide) (Nat.le_of_ble_eq_true rfl) dX5_readFreeBay_16 (fun r16 => [.int r16]) (fun _ => rfl) (fun r16 _ => ?_)
    refine G.iconst (-1) dX5_readFreeBay_19 (by decide) ?_
    refine G.icmp_eq 25 dX5_readFreeBay_20 (by decide) (fun h20 => ?_) (fun h20 => ?_)
    · refine G.aload_n dX5_readFreeBay_25 rfl ?_
      refine G.dup dX5_readFreeBay_26 rfl ?_
      refine G.get fl_5_19 0 rfl rfl dX5_readFreeBay_27 ?_
      refine G.iconst 1 dX5_readFreeBay_30 (by decide) ?_
      refine G.iadd dX5_readFreeBay_31 ?_
      refine G.put (w' := (w_X5_X3 cI cL cC cM cS a b t_letters t_length (r1 + 1) u_kind u_used u_bay u_likes u_who u_lamp u_due u_gain u_count u_day u_dues u_draw)) fp_5_19 0 rfl (Nat.le_of_ble_eq_true rfl) rfl rfl rfl dX5_readFreeBay_32 ?_
      refine G.iload_n dX5_readFreeBay_35 rfl ?_
      exact G.iret rfl rfl dX5_readFreeBay_36
    · refine G.iconst (-1) dX5_readFreeBay_23 (by decide) ?_
      exact G.iret rfl rfl dX5_readFreeBay_24
set_option maxHeartbeats 4000000 in
set_option maxRecDepth 100000 in
theorem c_X5_readNumber (l : Launch) (D : va_G) (ks : Nat × Nat) (cI cL cC cM cS : ClassId) (a : Nat → Nat) (t_letters : Nat → Int32) (t_length t_place : Int32) : MT l D ks (tyz cI cL cC cM cS) yX5_readNumber cX5_readNumber 2 ((some .int)) { frames := 2, cells := 0, slots := 0, locals := 44 } [.ref (a 0)] (w_X5 cI cL cC cM cS a t_letters t_length t_place) (fun r : Int32 × Int32 => (some (.int r.1), (w_X5 cI cL cC cM cS a t_letters t_length r.2))) (f_X5_readNumber t_letters t_length t_place) := by
  refine MT.of 1 [some (.ref (a 0)), none] (by decide) (Nat.le_of_ble_eq_true rfl) rfl ?_
  unfold f_X5_readNumber
  refine G.aload_n dX5_readNumber_0 rfl ?_
  refine G.bipush 9 dX5_readNumber_1 (by decide) ?_
  refine G.callV (st := []) (w' := fun r3 => (w_X5 cI cL cC cM cS a t_letters t_length r3.2)) mv_X5_readDigit lk_5_36 (c_X5_readDigit l D ks cI cL cC cM cS a t_letters t_length t_place 9) [0, 1] [] [0, 1] rfl rfl rfl rfl (by decide +kernel) (fun _ => rfl) rfl (by decide) (Nat.le_of_ble_eq_true rfl) dX5_readNumber_3 (fun r3 => [.int r3.1]) (fun _ => rfl) (fun r3 _ => ?_)
  refine G.istore_n (lv' := [some (.ref (a 0)), some (.int r3.1)]) dX5_readNumber_6 (by decide) (Nat.le_of_ble_eq_true rfl) rfl rfl ?_
  refine G.iload_n dX5_readNumber_7 rfl ?_
  refine G.if_lt 42 dX5_readNumber_8 (by decide) (fun h8 => ?_) (fun h8 => ?_)
  · refine G.iload_n dX5_readNumber_42 rfl ?_
    exact G.iret rfl rfl dX5_readNumber_43
  · refine G.aload_n dX5_readNumber_11 rfl ?_
    refine G.bipush 9 dX5_readNumber_12 (by decide) ?_
    refine G.callV (st := []) (w' := fun r14 => (w_X5 cI cL cC cM cS a t_letters t_length r3.2)) mv_X5_digitHere lk_5_71 (c_X5_digitHere l D ks cI cL cC cM cS a t_letters t_length r3.2 9) [0, 1] [] [0, 1] rfl rfl rfl rfl (by decide +kernel) (fun _ => rfl) rfl (by decide) (Nat.le_of_ble_eq_true rfl) dX5_readNumber_14 (fun r14 => [.int r14]) (fun _ => rfl) (fun r14 _ => ?_)
    refine G.if_lt 42 dX5_readNumber_17 (by decide) (fun h17 => ?_) (fun h17 => ?_)
    · refine G.iload_n dX5_readNumber_42 rfl ?_
      exact G.iret rfl rfl dX5_readNumber_43
    · refine G.bipush 10 dX5_readNumber_20 (by decide) ?_
      refine G.iload_n dX5_readNumber_22 rfl ?_
      refine G.imul dX5_readNumber_23 ?_
      refine G.aload_n dX5_readNumber_24 rfl ?_
      refine G.bipush 9 dX5_readNumber_25 (by decide) ?_
      refine G.callV (st := [.int (10 * r3.1)]) (w' := fun r27 => (w_X5 cI cL cC cM cS a t_letters t_length r3.2)) mv_X5_digitHere lk_5_71 (c_X5_digitHere l D ks cI cL cC cM cS a t_letters t_length r3.2 9) [0, 1] [] [0, 1] rfl rfl rfl rfl (by decide +kernel) (fun _ => rfl) rfl (by decide) (Nat.le_of_ble_eq_true rfl) dX5_readNumber_27 (fun r27 => [.int r27, .int (10 * r3.1)]) (fun _ => rfl) (fun r27 _ => ?_)
      refine G.iadd dX5_readNumber_30 ?_
      refine G.istore_n (lv' := [some (.ref (a 0)), some (.int ((10 * r3.1) + r27))]) dX5_readNumber_31 (by decide) (Nat.le_of_ble_eq_true rfl) rfl rfl ?_
      refine G.aload_n dX5_readNumber_32 rfl ?_
      refine G.dup dX5_readNumber_33 rfl ?_
      refine G.get fl_5_19 0 rfl rfl dX5_readNumber_34 ?_
      refine G.iconst 1 dX5_readNumber_37 (by decide) ?_
      refine G.iadd dX5_readNumber_38 ?_
      refine G.put (w' := (w_X5 cI cL cC cM cS a t_letters t_length (r3.2 + 1))) fp_5_19 0 rfl (Nat.le_of_ble_eq_true rfl) rfl rfl rfl dX5_readNumber_39 ?_
      refine G.iload_n dX5_readNumber_42 rfl ?_
      exact G.iret rfl rfl dX5_readNumber_43
set_option maxHeartbeats 4000000 in
set_option maxRecDepth 100000 in
theorem c_X5_takesSign (l : Launch) (D : va_G) (ks : Nat × Nat) (cI cL cC cM cS : ClassId) (a : Nat → Nat) (t_letters : Nat → Int32) (t_length t_place : Int32) (x1 : Int32) : MT l D ks (tyz cI cL cC cM cS) yX5_takesSign cX5_takesSign 2 ((some .boolean)) { frames := 1, cells := 0, slots := 0, locals := 20 } [.ref (a 0), .int x1] (w_X5 cI cL cC cM cS a t_letters t_length t_place) (fun r : Int32 × Int32 => (some (.int r.1), (w_X5 cI cL cC cM cS a t_letters t_length r.2))) (f_X5_takesSign t_letters t_length t_place x1) := by
  refine MT.of 0 [some (.ref (a 0)), some (.int x1)] (by decide) (Nat.le_of_ble_eq_true rfl) rfl ?_
  unfold f_X5_takesSign
  refine G.aload_n dX5_takesSign_0 rfl ?_
  refine G.callV (st := []) (w' := fun r1 => (w_X5 cI cL cC cM cS a t_letters t_length r1)) mv_X5_skipBlanks lk_5_33 (c_X5_skipBlanks l D ks cI cL cC cM cS a t_letters t_length t_place) [0, 1] [] [0, 1] rfl rfl rfl rfl (by decide +kernel) (fun _ => rfl) rfl (by decide) (Nat.le_of_ble_eq_true rfl) dX5_takesSign_1 (fun r1 => []) (fun _ => rfl) (fun r1 _ => ?_)
  refine G.aload_n dX5_takesSign_4 rfl ?_
  refine G.get fl_5_19 0 rfl rfl dX5_takesSign_5 ?_
  refine G.aload_n dX5_takesSign_8 rfl ?_
  refine G.get fl_5_15 0 rfl rfl dX5_takesSign_9 ?_
  refine G.icmp_ge 40 dX5_takesSign_12 (by decide) (fun h12 => ?_) (fun h12 => ?_)
  · refine G.iconst 0 dX5_takesSign_40 (by decide) ?_
    exact G.zret rfl rfl rfl dX5_takesSign_41
  · refine G.aload_n dX5_takesSign_15 rfl ?_
    refine G.get fl_5_9 0 rfl rfl dX5_takesSign_16 ?_
    refine G.aload_n dX5_takesSign_19 rfl ?_
    refine G.get fl_5_19 0 rfl rfl dX5_takesSign_20 ?_
    refine G.chk (fun h23 => ?_)
    refine G.caload 1 2 rfl rfl r1.toNatClampNeg rfl h23 dX5_takesSign_23 ?_
    refine G.topi (fun v23 => ?_)
    refine G.iload_n dX5_takesSign_24 rfl ?_
    refine G.icmp_ne 40 dX5_takesSign_25 (by decide) (fun h25 => ?_) (fun h25 => ?_)
    · refine G.iconst 0 dX5_takesSign_40 (by decide) ?_
      exact G.zret rfl rfl rfl dX5_takesSign_41
    · refine G.aload_n dX5_takesSign_28 rfl ?_
      refine G.dup dX5_takesSign_29 rfl ?_
      refine G.get fl_5_19 0 rfl rfl dX5_takesSign_30 ?_
      refine G.iconst 1 dX5_takesSign_33 (by decide) ?_
      refine G.iadd dX5_takesSign_34 ?_
      refine G.put (w' := (w_X5 cI cL cC cM cS a t_letters t_length (r1 + 1))) fp_5_19 0 rfl (Nat.le_of_ble_eq_true rfl) rfl rfl rfl dX5_takesSign_35 ?_
      refine G.iconst 1 dX5_takesSign_38 (by decide) ?_
      exact G.zret rfl rfl rfl dX5_takesSign_39
set_option maxHeartbeats 4000000 in
set_option maxRecDepth 100000 in
theorem g_X5_readLamps_c2 (l : Launch) (D : va_G) (ks : Nat × Nat) (cI cL cC cM cS : ClassId) (a b : Nat → Nat) (u_kind u_used u_bay u_likes u_who u_due u_gain : Nat → Int32) (u_count u_day u_dues u_draw : Int32) : ∀ (n : Nat), ∀ (t_letters : Nat → Int32) (t_length t_place : Int32) (u_lamp : Nat → Int32) (x2 : Int32), GJ l D ks (tyz cI cL cC cM cS) RX5 cX5_readLamps 4 ((some .boolean)) { frames := 2, cells := 0, slots := 0, locals := 44 } (fun r : Int32 × Int32 × (Nat → Int32) => (some (.int r.1), (w_X5_X3 cI cL cC cM cS a b t_letters t_length r.2.1 u_kind u_used u_bay u_likes u_who r.2.2 u_due u_gain u_count u_day u_dues u_draw))) (w_X5_X3 cI cL cC cM cS a b t_letters t_length t_place u_kind u_used u_bay u_likes u_who u_lamp u_due u_gain u_count u_day u_dues u_draw) 2 [some (.ref (a 0)), some (.ref (b 0)), some (.int x2), none] [] (f_X5_readLamps_c2 n t_letters t_length t_place u_lamp x2) := by
  intro n
  induction n with
  | zero =>
    intro t_letters t_length t_place u_lamp x2
    exact G.no
  | succ n ih =>
    intro t_letters t_length t_place u_lamp x2
    rw [f_X5_readLamps_c2]
    refine G.iload_n dX5_readLamps_2 rfl ?_
    refine G.bipush 6 dX5_readLamps_3 (by decide) ?_
    refine G.icmp_ge 34 dX5_readLamps_5 (by decide) (fun h5 => ?_) (fun h5 => ?_)
    · refine G.iconst 1 dX5_readLamps_34 (by decide) ?_
      exact G.zret rfl rfl rfl dX5_readLamps_35
    · refine G.aload_n dX5_readLamps_8 rfl ?_
      refine G.bipush 9 dX5_readLamps_9 (by decide) ?_
      refine G.callV (st := []) (w' := fun r11 => (w_X5_X3 cI cL cC cM cS a b t_letters t_length r11.2 u_kind u_used u_bay u_likes u_who u_lamp u_due u_gain u_count u_day u_dues u_draw)) mv_X5_readDigit lk_5_36 (c_X5_readDigit l D ks cI cL cC cM cS a t_letters t_length t_place 9) [0, 1] [2, 3, 4, 5, 6, 7, 8, 9, 10] [9, 10, 0, 1, 2, 3, 4, 5, 6, 7, 8] rfl rfl rfl rfl (by decide +kernel) (fun _ => rfl) rfl (by decide) (Nat.le_of_ble_eq_true rfl) dX5_readLamps_11 (fun r11 => [.int r11.1]) (fun _ => rfl) (fun r11 _ => ?_)
      refine G.istore_n (lv' := [some (.ref (a 0)), some (.ref (b 0)), some (.int x2), some (.int r11.1)]) dX5_readLamps_14 (by decide) (Nat.le_of_ble_eq_true rfl) rfl rfl ?_
      refine G.iload_n dX5_readLamps_15 rfl ?_
      refine G.if_ge 21 dX5_readLamps_16 (by decide) (fun h16 => ?_) (fun h16 => ?_)
      · refine G.aload_n dX5_readLamps_21 rfl ?_
        refine G.get fl_5_40 2 rfl rfl dX5_readLamps_22 ?_
        refine G.iload_n dX5_readLamps_25 rfl ?_
        refine G.iload_n dX5_readLamps_26 rfl ?_
        refine G.chk (fun h27 => ?_)
        refine G.iastore (w' := (w_X5_X3 cI cL cC cM cS a b t_letters t_length r11.2 u_kind u_used u_bay u_likes u_who (upd u_lamp x2.toNatClampNeg r11.1) u_due u_gain u_count u_day u_dues u_draw)) 8 0 rfl rfl x2.toNatClampNeg rfl h27 rfl dX5_readLamps_27 ?_
        refine G.iinc 1 (lv' := [some (.ref (a 0)), some (.ref (b 0)), some (.int (x2 + 1)), some (.int r11.1)]) dX5_readLamps_28 rfl (by decide) (by decide) (Nat.le_of_ble_eq_true rfl) rfl rfl ?_
        refine G.goto 2 dX5_readLamps_31 (by decide) ?_
        refine G.mask (lv' := [some (.ref (a 0)), some (.ref (b 0)), some (.int (x2 + 1)), none]) [true, true, true, false] rfl ?_
        exact ih t_letters t_length r11.2 (upd u_lamp x2.toNatClampNeg r11.1) (x2 + 1)
      · refine G.iconst 0 dX5_readLamps_19 (by decide) ?_
        exact G.zret rfl rfl rfl dX5_readLamps_20
set_option maxHeartbeats 4000000 in
set_option maxRecDepth 100000 in
theorem c_X5_readLamps (l : Launch) (D : va_G) (ks : Nat × Nat) (cI cL cC cM cS : ClassId) (a b : Nat → Nat) (t_letters : Nat → Int32) (t_length t_place : Int32) (u_kind u_used u_bay u_likes u_who u_lamp u_due u_gain : Nat → Int32) (u_count u_day u_dues u_draw : Int32) : MT l D ks (tyz cI cL cC cM cS) yX5_readLamps cX5_readLamps 4 ((some .boolean)) { frames := 2, cells := 0, slots := 0, locals := 44 } [.ref (a 0), .ref (b 0)] (w_X5_X3 cI cL cC cM cS a b t_letters t_length t_place u_kind u_used u_bay u_likes u_who u_lamp u_due u_gain u_count u_day u_dues u_draw) (fun r : Int32 × Int32 × (Nat → Int32) => (some (.int r.1), (w_X5_X3 cI cL cC cM cS a b t_letters t_length r.2.1 u_kind u_used u_bay u_likes u_who r.2.2 u_due u_gain u_count u_day u_dues u_draw))) (f_X5_readLamps t_letters t_length t_place u_lamp) := by
  refine MT.of 2 [some (.ref (a 0)), some (.ref (b 0)), none, none] (by decide) (Nat.le_of_ble_eq_true rfl) rfl ?_
  unfold f_X5_readLamps
  refine G.iconst 0 dX5_readLamps_0 (by decide) ?_
  refine G.istore_n (lv' := [some (.ref (a 0)), some (.ref (b 0)), some (.int 0), none]) dX5_readLamps_1 (by decide) (Nat.le_of_ble_eq_true rfl) rfl rfl ?_
  exact g_X5_readLamps_c2 l D ks cI cL cC cM cS a b u_kind u_used u_bay u_likes u_who u_due u_gain u_count u_day u_dues u_draw fu t_letters t_length t_place u_lamp 0
set_option maxHeartbeats 4000000 in
set_option maxRecDepth 100000 in
theorem c_X5_write (l : Launch) (D : va_G) (ks : Nat × Nat) (cI cL cC cM cS : ClassId) (a : Nat → Nat) (t_letters : Nat → Int32) (t_length t_place : Int32) (x1 : Int32) : MT l D ks (tyz cI cL cC cM cS) yX5_write cX5_write 2 ((some .boolean)) { frames := 0, cells := 0, slots := 0, locals := 0 } [.ref (a 0), .int x1] (w_X5 cI cL cC cM cS a t_letters t_length t_place) (fun r : Int32 × (Nat → Int32) × Int32 => (some (.int r.1), (w_X5 cI cL cC cM cS a r.2.1 r.2.2 t_place))) (f_X5_write t_letters t_length x1) := by
  refine MT.of 0 [some (.ref (a 0)), some (.int x1)] (by decide) (Nat.le_of_ble_eq_true rfl) rfl ?_
  unfold f_X5_write
  refine G.aload_n dX5_write_0 rfl ?_
  refine G.get fl_5_15 0 rfl rfl dX5_write_1 ?_
  refine G.bipush 80 dX5_write_4 (by decide) ?_
  refine G.icmp_lt 11 dX5_write_6 (by decide) (fun h6 => ?_) (fun h6 => ?_)
  · refine G.aload_n dX5_write_11 rfl ?_
    refine G.get fl_5_9 0 rfl rfl dX5_write_12 ?_
    refine G.aload_n dX5_write_15 rfl ?_
    refine G.get fl_5_15 0 rfl rfl dX5_write_16 ?_
    refine G.iload_n dX5_write_19 rfl ?_
    refine G.chk (fun h20 => ?_)
    refine G.castore (w' := (w_X5 cI cL cC cM cS a (upd t_letters t_length.toNatClampNeg (vp_nar .char x1)) t_length t_place)) 1 2 rfl rfl t_length.toNatClampNeg rfl h20 rfl dX5_write_20 ?_
    refine G.aload_n dX5_write_21 rfl ?_
    refine G.dup dX5_write_22 rfl ?_
    refine G.get fl_5_15 0 rfl rfl dX5_write_23 ?_
    refine G.iconst 1 dX5_write_26 (by decide) ?_
    refine G.iadd dX5_write_27 ?_
    refine G.put (w' := (w_X5 cI cL cC cM cS a (upd t_letters t_length.toNatClampNeg (vp_nar .char x1)) (t_length + 1) t_place)) fp_5_15 0 rfl (Nat.le_of_ble_eq_true rfl) rfl rfl rfl dX5_write_28 ?_
    refine G.iconst 1 dX5_write_31 (by decide) ?_
    exact G.zret rfl rfl rfl dX5_write_32
  · refine G.iconst 0 dX5_write_9 (by decide) ?_
    exact G.zret rfl rfl rfl dX5_write_10
