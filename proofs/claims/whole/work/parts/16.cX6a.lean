/-! the class: the contracts -/
set_option maxHeartbeats 4000000 in
set_option maxRecDepth 100000 in
theorem c_X6_within (l : Launch) (D : va_G) (ks : Nat × Nat) (cI cL cC cM cS : ClassId) (x0 : Int32) (x1 : Int32) (x2 : Int32) : MT l D ks (tyz cI cL cC cM cS) yX6_within cX6_within 3 ((some .boolean)) { frames := 0, cells := 0, slots := 0, locals := 0 } [.int x0, .int x1, .int x2] (w_0 cI cL cC cM cS  ) (fun r : Int32 => (some (.int r), (w_0 cI cL cC cM cS  ))) (f_X6_within x0 x1 x2) := by
  refine MT.of 0 [some (.int x0), some (.int x1), some (.int x2)] (by decide) (Nat.le_of_ble_eq_true rfl) rfl ?_
  unfold f_X6_within
  refine G.iload_n dX6_within_0 rfl ?_
  refine G.iload_n dX6_within_1 rfl ?_
  refine G.join (st := []) Value.int 15 (fun v15 => ?_) (fun hJ => ?_)
  · refine G.chk (fun h15 => ?_)
    exact G.zret rfl rfl (isb_n h15) dX6_within_15
  · refine G.ite ?_
    refine G.icmp_lt 14 dX6_within_2 (by decide) (fun _ => ?_) (fun _ => ?_)
    · refine G.iconst 0 dX6_within_14 (by decide) ?_
      exact hJ _
    · refine G.iload_n dX6_within_5 rfl ?_
      refine G.iload_n dX6_within_6 rfl ?_
      refine G.ite ?_
      refine G.icmp_gt 14 dX6_within_7 (by decide) (fun _ => ?_) (fun _ => ?_)
      · refine G.iconst 0 dX6_within_14 (by decide) ?_
        exact hJ _
      · refine G.iconst 1 dX6_within_10 (by decide) ?_
        refine G.goto 15 dX6_within_11 (by decide) ?_
        exact hJ _
set_option maxHeartbeats 4000000 in
set_option maxRecDepth 100000 in
theorem c_X6_foresee (l : Launch) (D : va_G) (ks : Nat × Nat) (cI cL cC cM cS : ClassId) (a : Nat → Nat) (t_now_kind t_now_used t_now_bay t_now_likes t_now_who t_now_lamp t_now_due t_now_gain : Nat → Int32) (t_now_count t_now_day t_now_dues t_now_draw : Int32) (t_foreseen_kind t_foreseen_used t_foreseen_bay t_foreseen_likes t_foreseen_who t_foreseen_lamp t_foreseen_due t_foreseen_gain : Nat → Int32) (t_foreseen_count t_foreseen_day t_foreseen_dues t_foreseen_draw t_hasImage : Int32) (x1 : Int32) : MT l D ks (tyz cI cL cC cM cS) yX6_foresee cX6_foresee 2 none { frames := 5, cells := 0, slots := 0, locals := 111 } [.ref (a 0), .int x1] (w_X6nf cI cL cC cM cS a t_now_kind t_now_used t_now_bay t_now_likes t_now_who t_now_lamp t_now_due t_now_gain t_now_count t_now_day t_now_dues t_now_draw t_foreseen_kind t_foreseen_used t_foreseen_bay t_foreseen_likes t_foreseen_who t_foreseen_lamp t_foreseen_due t_foreseen_gain t_foreseen_count t_foreseen_day t_foreseen_dues t_foreseen_draw t_hasImage) (fun r : (Nat → Int32) × (Nat → Int32) × (Nat → Int32) × (Nat → Int32) × (Nat → Int32) × (Nat → Int32) × (Nat → Int32) × (Nat → Int32) × Int32 × Int32 × Int32 × Int32 => (none, (w_X6nf cI cL cC cM cS a t_now_kind t_now_used t_now_bay t_now_likes t_now_who t_now_lamp t_now_due t_now_gain t_now_count t_now_day t_now_dues t_now_draw r.1 r.2.1 r.2.2.1 r.2.2.2.1 r.2.2.2.2.1 r.2.2.2.2.2.1 r.2.2.2.2.2.2.1 r.2.2.2.2.2.2.2.1 r.2.2.2.2.2.2.2.2.1 r.2.2.2.2.2.2.2.2.2.1 r.2.2.2.2.2.2.2.2.2.2.1 r.2.2.2.2.2.2.2.2.2.2.2 t_hasImage))) (f_X6_foresee t_now_kind t_now_used t_now_bay t_now_likes t_now_who t_now_lamp t_now_due t_now_count t_now_day t_now_dues t_now_draw t_foreseen_kind t_foreseen_used t_foreseen_bay t_foreseen_likes t_foreseen_who t_foreseen_lamp t_foreseen_due t_foreseen_gain t_foreseen_count t_foreseen_day t_foreseen_dues t_foreseen_draw x1) := by
  refine MT.of 0 [some (.ref (a 0)), some (.int x1)] (by decide) (Nat.le_of_ble_eq_true rfl) rfl ?_
  unfold f_X6_foresee
  refine G.aload_n dX6_foresee_0 rfl ?_
  refine G.get fl_6_23 0 rfl rfl dX6_foresee_1 ?_
  refine G.aload_n dX6_foresee_4 rfl ?_
  refine G.get fl_6_10 0 rfl rfl dX6_foresee_5 ?_
  refine G.callV (st := []) (w' := fun r8 => (w_X6nf cI cL cC cM cS a t_now_kind t_now_used t_now_bay t_now_likes t_now_who t_now_lamp t_now_due t_now_gain t_now_count t_now_day t_now_dues t_now_draw r8.1 r8.2.1 r8.2.2.1 r8.2.2.2.1 r8.2.2.2.2.1 r8.2.2.2.2.2.1 r8.2.2.2.2.2.2.1 t_foreseen_gain r8.2.2.2.2.2.2.2.1 r8.2.2.2.2.2.2.2.2.1 r8.2.2.2.2.2.2.2.2.2.1 r8.2.2.2.2.2.2.2.2.2.2 t_hasImage)) mv_X3_become lk_6_122 (c_X3_become l D ks cI cL cC cM cS (fun k => a (36 + k)) (fun k => a (1 + k)) t_foreseen_kind t_foreseen_used t_foreseen_bay t_foreseen_likes t_foreseen_who t_foreseen_lamp t_foreseen_due t_foreseen_gain t_foreseen_count t_foreseen_day t_foreseen_dues t_foreseen_draw t_now_kind t_now_used t_now_bay t_now_likes t_now_who t_now_lamp t_now_due t_now_gain t_now_count t_now_day t_now_dues t_now_draw) [10, 11, 12, 13, 14, 15, 16, 17, 18, 1, 2, 3, 4, 5, 6, 7, 8, 9] [0] [0, 10, 11, 12, 13, 14, 15, 16, 17, 18, 1, 2, 3, 4, 5, 6, 7, 8, 9] rfl rfl rfl rfl (by decide +kernel) (fun _ => rfl) rfl (by decide) (Nat.le_of_ble_eq_true rfl) dX6_foresee_8 (fun r8 => []) (fun _ => rfl) (fun r8 _ => ?_)
  refine G.aload_n dX6_foresee_11 rfl ?_
  refine G.get fl_6_23 0 rfl rfl dX6_foresee_12 ?_
  refine G.iload_n dX6_foresee_15 rfl ?_
  refine G.callV (st := []) (w' := fun r16 => (w_X6nf cI cL cC cM cS a t_now_kind t_now_used t_now_bay t_now_likes t_now_who t_now_lamp t_now_due t_now_gain t_now_count t_now_day t_now_dues t_now_draw r8.1 r16.1 r8.2.2.1 r8.2.2.2.1 r8.2.2.2.2.1 r8.2.2.2.2.2.1 r8.2.2.2.2.2.2.1 r16.2.1 r8.2.2.2.2.2.2.2.1 r16.2.2.1 r16.2.2.2 r8.2.2.2.2.2.2.2.2.2.2 t_hasImage)) mv_X3_passDays lk_6_209 (c_X3_passDays l D ks cI cL cC cM cS (fun k => a (36 + k)) r8.1 r8.2.1 r8.2.2.1 r8.2.2.2.1 r8.2.2.2.2.1 r8.2.2.2.2.2.1 r8.2.2.2.2.2.2.1 t_foreseen_gain r8.2.2.2.2.2.2.2.1 r8.2.2.2.2.2.2.2.2.1 r8.2.2.2.2.2.2.2.2.2.1 r8.2.2.2.2.2.2.2.2.2.2 x1) [10, 11, 12, 13, 14, 15, 16, 17, 18] [0, 1, 2, 3, 4, 5, 6, 7, 8, 9] [0, 1, 2, 3, 4, 5, 6, 7, 8, 9, 10, 11, 12, 13, 14, 15, 16, 17, 18] rfl rfl rfl rfl (by decide +kernel) (fun _ => rfl) rfl (by decide) (Nat.le_of_ble_eq_true rfl) dX6_foresee_16 (fun r16 => []) (fun _ => rfl) (fun r16 _ => ?_)
  exact G.vret rfl rfl dX6_foresee_19
set_option maxHeartbeats 4000000 in
set_option maxRecDepth 100000 in
theorem c_X6_ahead (l : Launch) (D : va_G) (ks : Nat × Nat) (cI cL cC cM cS : ClassId) (a : Nat → Nat) (t_now_kind t_now_used t_now_bay t_now_likes t_now_who t_now_lamp t_now_due t_now_gain : Nat → Int32) (t_now_count t_now_day t_now_dues t_now_draw : Int32) (t_foreseen_kind t_foreseen_used t_foreseen_bay t_foreseen_likes t_foreseen_who t_foreseen_lamp t_foreseen_due t_foreseen_gain : Nat → Int32) (t_foreseen_count t_foreseen_day t_foreseen_dues t_foreseen_draw t_hasImage : Int32) (x1 : Int32) (x2 : Int32) : MT l D ks (tyz cI cL cC cM cS) yX6_ahead cX6_ahead 3 ((some .int)) { frames := 6, cells := 0, slots := 0, locals := 132 } [.ref (a 0), .int x1, .int x2] (w_X6nf cI cL cC cM cS a t_now_kind t_now_used t_now_bay t_now_likes t_now_who t_now_lamp t_now_due t_now_gain t_now_count t_now_day t_now_dues t_now_draw t_foreseen_kind t_foreseen_used t_foreseen_bay t_foreseen_likes t_foreseen_who t_foreseen_lamp t_foreseen_due t_foreseen_gain t_foreseen_count t_foreseen_day t_foreseen_dues t_foreseen_draw t_hasImage) (fun r : Int32 × (Nat → Int32) × (Nat → Int32) × (Nat → Int32) × (Nat → Int32) × (Nat → Int32) × (Nat → Int32) × (Nat → Int32) × (Nat → Int32) × Int32 × Int32 × Int32 × Int32 => (some (.int r.1), (w_X6nf cI cL cC cM cS a t_now_kind t_now_used t_now_bay t_now_likes t_now_who t_now_lamp t_now_due t_now_gain t_now_count t_now_day t_now_dues t_now_draw r.2.1 r.2.2.1 r.2.2.2.1 r.2.2.2.2.1 r.2.2.2.2.2.1 r.2.2.2.2.2.2.1 r.2.2.2.2.2.2.2.1 r.2.2.2.2.2.2.2.2.1 r.2.2.2.2.2.2.2.2.2.1 r.2.2.2.2.2.2.2.2.2.2.1 r.2.2.2.2.2.2.2.2.2.2.2.1 r.2.2.2.2.2.2.2.2.2.2.2.2 t_hasImage))) (f_X6_ahead t_now_kind t_now_used t_now_bay t_now_likes t_now_who t_now_lamp t_now_due t_now_count t_now_day t_now_dues t_now_draw t_foreseen_kind t_foreseen_used t_foreseen_bay t_foreseen_likes t_foreseen_who t_foreseen_lamp t_foreseen_due t_foreseen_gain t_foreseen_count t_foreseen_day t_foreseen_dues t_foreseen_draw x1 x2) := by
  refine MT.of 0 [some (.ref (a 0)), some (.int x1), some (.int x2)] (by decide) (Nat.le_of_ble_eq_true rfl) rfl ?_
  unfold f_X6_ahead
  refine G.aload_n dX6_ahead_0 rfl ?_
  refine G.get fl_6_10 0 rfl rfl dX6_ahead_1 ?_
  refine G.iload_n dX6_ahead_4 rfl ?_
  refine G.callV (st := []) (w' := fun r5 => (w_X6nf cI cL cC cM cS a t_now_kind t_now_used t_now_bay t_now_likes t_now_who t_now_lamp t_now_due t_now_gain t_now_count t_now_day t_now_dues t_now_draw t_foreseen_kind t_foreseen_used t_foreseen_bay t_foreseen_likes t_foreseen_who t_foreseen_lamp t_foreseen_due t_foreseen_gain t_foreseen_count t_foreseen_day t_foreseen_dues t_foreseen_draw t_hasImage)) mv_X3_has lk_6_83 (c_X3_has l D ks cI cL cC cM cS (fun k => a (1 + k)) t_now_kind t_now_used t_now_bay t_now_likes t_now_who t_now_lamp t_now_due t_now_gain t_now_count t_now_day t_now_dues t_now_draw x1) [1, 2, 3, 4, 5, 6, 7, 8, 9] [0, 10, 11, 12, 13, 14, 15, 16, 17, 18] [0, 10, 11, 12, 13, 14, 15, 16, 17, 18, 1, 2, 3, 4, 5, 6, 7, 8, 9] rfl rfl rfl rfl (by decide +kernel) (fun _ => rfl) rfl (by decide) (Nat.le_of_ble_eq_true rfl) dX6_ahead_5 (fun r5 => [.int r5]) (fun _ => rfl) (fun r5 _ => ?_)
  refine G.if_eq 21 dX6_ahead_8 (by decide) (fun h8 => ?_) (fun h8 => ?_)
  · refine G.iconst (-1) dX6_ahead_21 (by decide) ?_
    exact G.iret rfl rfl dX6_ahead_22
  · refine G.iload_n dX6_ahead_11 rfl ?_
    refine G.iconst 0 dX6_ahead_12 (by decide) ?_
    refine G.bipush 99 dX6_ahead_13 (by decide) ?_
    refine G.callS (st := []) (w' := fun r15 => (w_X6nf cI cL cC cM cS a t_now_kind t_now_used t_now_bay t_now_likes t_now_who t_now_lamp t_now_due t_now_gain t_now_count t_now_day t_now_dues t_now_draw t_foreseen_kind t_foreseen_used t_foreseen_bay t_foreseen_likes t_foreseen_who t_foreseen_lamp t_foreseen_due t_foreseen_gain t_foreseen_count t_foreseen_day t_foreseen_dues t_foreseen_draw t_hasImage)) ms_X6_within lk_6_53 (c_X6_within l D ks cI cL cC cM cS x2 0 99) [] [0, 1, 2, 3, 4, 5, 6, 7, 8, 9, 10, 11, 12, 13, 14, 15, 16, 17, 18] [0, 1, 2, 3, 4, 5, 6, 7, 8, 9, 10, 11, 12, 13, 14, 15, 16, 17, 18] rfl rfl rfl rfl (by decide +kernel) (fun _ => rfl) (by decide) (Nat.le_of_ble_eq_true rfl) dX6_ahead_15 (fun r15 => [.int r15]) (fun _ => rfl) (fun r15 _ => ?_)
    refine G.if_ne 23 dX6_ahead_18 (by decide) (fun h18 => ?_) (fun h18 => ?_)
    · refine G.aload_n dX6_ahead_23 rfl ?_
      refine G.iload_n dX6_ahead_24 rfl ?_
      refine G.callV (st := []) (w' := fun r25 => (w_X6nf cI cL cC cM cS a t_now_kind t_now_used t_now_bay t_now_likes t_now_who t_now_lamp t_now_due t_now_gain t_now_count t_now_day t_now_dues t_now_draw r25.1 r25.2.1 r25.2.2.1 r25.2.2.2.1 r25.2.2.2.2.1 r25.2.2.2.2.2.1 r25.2.2.2.2.2.2.1 r25.2.2.2.2.2.2.2.1 r25.2.2.2.2.2.2.2.2.1 r25.2.2.2.2.2.2.2.2.2.1 r25.2.2.2.2.2.2.2.2.2.2.1 r25.2.2.2.2.2.2.2.2.2.2.2 t_hasImage)) mv_X6_foresee lk_6_179 (c_X6_foresee l D ks cI cL cC cM cS a t_now_kind t_now_used t_now_bay t_now_likes t_now_who t_now_lamp t_now_due t_now_gain t_now_count t_now_day t_now_dues t_now_draw t_foreseen_kind t_foreseen_used t_foreseen_bay t_foreseen_likes t_foreseen_who t_foreseen_lamp t_foreseen_due t_foreseen_gain t_foreseen_count t_foreseen_day t_foreseen_dues t_foreseen_draw t_hasImage x2) [0, 1, 2, 3, 4, 5, 6, 7, 8, 9, 10, 11, 12, 13, 14, 15, 16, 17, 18] [] [0, 1, 2, 3, 4, 5, 6, 7, 8, 9, 10, 11, 12, 13, 14, 15, 16, 17, 18] rfl rfl rfl rfl (by decide +kernel) (fun _ => rfl) rfl (by decide) (Nat.le_of_ble_eq_true rfl) dX6_ahead_25 (fun r25 => []) (fun _ => rfl) (fun r25 _ => ?_)
      refine G.aload_n dX6_ahead_28 rfl ?_
      refine G.get fl_6_23 0 rfl rfl dX6_ahead_29 ?_
      refine G.get fl_6_89 10 rfl rfl dX6_ahead_32 ?_
      refine G.iload_n dX6_ahead_35 rfl ?_
      refine G.chk (fun h36 => ?_)
      refine G.iaload 12 0 rfl rfl x1.toNatClampNeg rfl h36 dX6_ahead_36 ?_
      refine G.topi (fun v36 => ?_)
      exact G.iret rfl rfl dX6_ahead_37
    · refine G.iconst (-1) dX6_ahead_21 (by decide) ?_
      exact G.iret rfl rfl dX6_ahead_22
set_option maxHeartbeats 4000000 in
set_option maxRecDepth 100000 in
theorem c_X6_isBay (l : Launch) (D : va_G) (ks : Nat × Nat) (cI cL cC cM cS : ClassId) (x0 : Int32) : MT l D ks (tyz cI cL cC cM cS) yX6_isBay cX6_isBay 1 ((some .boolean)) { frames := 1, cells := 0, slots := 0, locals := 22 } [.int x0] (w_0 cI cL cC cM cS  ) (fun r : Int32 => (some (.int r), (w_0 cI cL cC cM cS  ))) (f_X6_isBay x0) := by
  refine MT.of 0 [some (.int x0)] (by decide) (Nat.le_of_ble_eq_true rfl) rfl ?_
  unfold f_X6_isBay
  refine G.iload_n dX6_isBay_0 rfl ?_
  refine G.iconst 0 dX6_isBay_1 (by decide) ?_
  refine G.iconst 5 dX6_isBay_2 (by decide) ?_
  refine G.callS (st := []) (w' := fun r3 => (w_0 cI cL cC cM cS  )) ms_X6_within lk_6_53 (c_X6_within l D ks cI cL cC cM cS x0 0 5) [] [] [] rfl rfl rfl rfl (by decide +kernel) (fun _ => rfl) (by decide) (Nat.le_of_ble_eq_true rfl) dX6_isBay_3 (fun r3 => [.int r3]) (fun _ => rfl) (fun r3 _ => ?_)
  refine G.chk (fun h6 => ?_)
  exact G.zret rfl rfl (isb_n h6) dX6_isBay_6
set_option maxHeartbeats 4000000 in
set_option maxRecDepth 100000 in
theorem c_X6_at (l : Launch) (D : va_G) (ks : Nat × Nat) (cI cL cC cM cS : ClassId) (a : Nat → Nat) (t_now_kind t_now_used t_now_bay t_now_likes t_now_who t_now_lamp t_now_due t_now_gain : Nat → Int32) (t_now_count t_now_day t_now_dues t_now_draw t_hasImage : Int32) (x1 : Int32) (x2 : Int32) : MT l D ks (tyz cI cL cC cM cS) yX6_at cX6_at 3 ((some .int)) { frames := 2, cells := 0, slots := 0, locals := 42 } [.ref (a 0), .int x1, .int x2] (w_X6n cI cL cC cM cS a t_now_kind t_now_used t_now_bay t_now_likes t_now_who t_now_lamp t_now_due t_now_gain t_now_count t_now_day t_now_dues t_now_draw t_hasImage) (fun r : Int32 => (some (.int r), (w_X6n cI cL cC cM cS a t_now_kind t_now_used t_now_bay t_now_likes t_now_who t_now_lamp t_now_due t_now_gain t_now_count t_now_day t_now_dues t_now_draw t_hasImage))) (f_X6_at t_now_who t_now_lamp t_now_due x1 x2) := by
  refine MT.of 0 [some (.ref (a 0)), some (.int x1), some (.int x2)] (by decide) (Nat.le_of_ble_eq_true rfl) rfl ?_
  unfold f_X6_at
  refine G.iload_n dX6_at_0 rfl ?_
  refine G.callS (st := []) (w' := fun r1 => (w_X6n cI cL cC cM cS a t_now_kind t_now_used t_now_bay t_now_likes t_now_who t_now_lamp t_now_due t_now_gain t_now_count t_now_day t_now_dues t_now_draw t_hasImage)) ms_X6_isBay lk_6_57 (c_X6_isBay l D ks cI cL cC cM cS x1) [] [0, 1, 2, 3, 4, 5, 6, 7, 8, 9] [0, 1, 2, 3, 4, 5, 6, 7, 8, 9] rfl rfl rfl rfl (by decide +kernel) (fun _ => rfl) (by decide) (Nat.le_of_ble_eq_true rfl) dX6_at_1 (fun r1 => [.int r1]) (fun _ => rfl) (fun r1 _ => ?_)
  refine G.if_ne 9 dX6_at_4 (by decide) (fun h4 => ?_) (fun h4 => ?_)
  · refine G.iload_n dX6_at_9 rfl ?_
    by_cases h10_0 : x2 = 0
    · rw [if_pos h10_0]
      refine G.tin (off := 26) 0 36 h10_0 dX6_at_10 (by decide) (by decide) (by decide) (by decide) ?_
      refine G.aload_n dX6_at_36 rfl ?_
      refine G.get fl_6_10 0 rfl rfl dX6_at_37 ?_
      refine G.get fl_6_76 1 rfl rfl dX6_at_40 ?_
      refine G.iload_n dX6_at_43 rfl ?_
      refine G.chk (fun h44 => ?_)
      refine G.iaload 7 0 rfl rfl x1.toNatClampNeg rfl h44 dX6_at_44 ?_
      refine G.topi (fun v44 => ?_)
      exact G.iret rfl rfl dX6_at_45
    rw [if_neg h10_0]
    by_cases h10_1 : x2 = 1
    · rw [if_pos h10_1]
      refine G.tin (off := 36) 1 46 h10_1 dX6_at_10 (by decide) (by decide) (by decide) (by decide) ?_
      refine G.aload_n dX6_at_46 rfl ?_
      refine G.get fl_6_10 0 rfl rfl dX6_at_47 ?_
      refine G.get fl_6_80 1 rfl rfl dX6_at_50 ?_
      refine G.iload_n dX6_at_53 rfl ?_
      refine G.chk (fun h54 => ?_)
      refine G.iaload 8 0 rfl rfl x1.toNatClampNeg rfl h54 dX6_at_54 ?_
      refine G.topi (fun v54 => ?_)
      exact G.iret rfl rfl dX6_at_55
    rw [if_neg h10_1]
    by_cases h10_2 : x2 = 2
    · rw [if_pos h10_2]
      refine G.tin (off := 46) 2 56 h10_2 dX6_at_10 (by decide) (by decide) (by decide) (by decide) ?_
      refine G.aload_n dX6_at_56 rfl ?_
      refine G.get fl_6_10 0 rfl rfl dX6_at_57 ?_
      refine G.get fl_6_112 1 rfl rfl dX6_at_60 ?_
      refine G.iload_n dX6_at_63 rfl ?_
      refine G.chk (fun h64 => ?_)
      refine G.iaload 6 0 rfl rfl x1.toNatClampNeg rfl h64 dX6_at_64 ?_
      refine G.topi (fun v64 => ?_)
      refine G.iconst (-1) dX6_at_65 (by decide) ?_
      refine G.join (st := []) Value.int 83 (fun v83 => ?_) (fun hJ => ?_)
      · exact G.iret rfl rfl dX6_at_83
      · refine G.ite ?_
        refine G.icmp_ne 74 dX6_at_66 (by decide) (fun _ => ?_) (fun _ => ?_)
        · refine G.aload_n dX6_at_74 rfl ?_
          refine G.get fl_6_10 0 rfl rfl dX6_at_75 ?_
          refine G.get fl_6_112 1 rfl rfl dX6_at_78 ?_
          refine G.iload_n dX6_at_81 rfl ?_
          refine G.iaload 6 0 rfl rfl x1.toNatClampNeg rfl h64 dX6_at_82 ?_
          exact hJ _
        · refine G.bipush (-4) dX6_at_69 (by decide) ?_
          refine G.goto 83 dX6_at_71 (by decide) ?_
          exact hJ _
    rw [if_neg h10_2]
    refine G.tout 84 (g_o3 h10_0 h10_1 h10_2) dX6_at_10 (by decide) ?_
    refine G.iconst (-1) dX6_at_84 (by decide) ?_
    exact G.iret rfl rfl dX6_at_85
  · refine G.iconst (-1) dX6_at_7 (by decide) ?_
    exact G.iret rfl rfl dX6_at_8
set_option maxHeartbeats 4000000 in
set_option maxRecDepth 100000 in
theorem g_X6_commonDivisor_c2 (l : Launch) (D : va_G) (ks : Nat × Nat) (cI cL cC cM cS : ClassId) : ∀ (n : Nat), ∀ (x0 : Int32) (x1 : Int32) (x2 : Int32), GJ l D ks (tyz cI cL cC cM cS) RX6 cX6_commonDivisor 4 ((some .int)) { frames := 0, cells := 0, slots := 0, locals := 0 } (fun r : Int32 => (some (.int r), (w_0 cI cL cC cM cS  ))) (w_0 cI cL cC cM cS  ) 2 [some (.int x0), some (.int x1), some (.int x2), none] [] (f_X6_commonDivisor_c2 n x0 x1 x2) := by
  intro n
  induction n with
  | zero =>
    intro x0 x1 x2
    exact G.no
  | succ n ih =>
    intro x0 x1 x2
    rw [f_X6_commonDivisor_c2]
    refine G.iload_n dX6_commonDivisor_2 rfl ?_
    refine G.bipush 64 dX6_commonDivisor_3 (by decide) ?_
    refine G.icmp_ge 26 dX6_commonDivisor_5 (by decide) (fun h5 => ?_) (fun h5 => ?_)
    · refine G.iload_n dX6_commonDivisor_26 rfl ?_
      exact G.iret rfl rfl dX6_commonDivisor_27
    · refine G.iload_n dX6_commonDivisor_8 rfl ?_
      refine G.if_eq 26 dX6_commonDivisor_9 (by decide) (fun h9 => ?_) (fun h9 => ?_)
      · refine G.iload_n dX6_commonDivisor_26 rfl ?_
        exact G.iret rfl rfl dX6_commonDivisor_27
      · refine G.iload_n dX6_commonDivisor_12 rfl ?_
        refine G.iload_n dX6_commonDivisor_13 rfl ?_
        refine G.nz (fun h14 => ?_)
        refine G.irem dX6_commonDivisor_14 h14 ?_
        refine G.istore_n (lv' := [some (.int x0), some (.int x1), some (.int x2), some (.int (x0 - x0 / x1 * x1))]) dX6_commonDivisor_15 (by decide) (Nat.le_of_ble_eq_true rfl) rfl rfl ?_
        refine G.iload_n dX6_commonDivisor_16 rfl ?_
        refine G.istore_n (lv' := [some (.int x1), some (.int x1), some (.int x2), some (.int (x0 - x0 / x1 * x1))]) dX6_commonDivisor_17 (by decide) (Nat.le_of_ble_eq_true rfl) rfl rfl ?_
        refine G.iload_n dX6_commonDivisor_18 rfl ?_
        refine G.istore_n (lv' := [some (.int x1), some (.int (x0 - x0 / x1 * x1)), some (.int x2), some (.int (x0 - x0 / x1 * x1))]) dX6_commonDivisor_19 (by decide) (Nat.le_of_ble_eq_true rfl) rfl rfl ?_
        refine G.iinc 1 (lv' := [some (.int x1), some (.int (x0 - x0 / x1 * x1)), some (.int (x2 + 1)), some (.int (x0 - x0 / x1 * x1))]) dX6_commonDivisor_20 rfl (by decide) (by decide) (Nat.le_of_ble_eq_true rfl) rfl rfl ?_
        refine G.goto 2 dX6_commonDivisor_23 (by decide) ?_
        refine G.mask (lv' := [some (.int x1), some (.int (x0 - x0 / x1 * x1)), some (.int (x2 + 1)), none]) [true, true, true, false] rfl ?_
        exact ih x1 (x0 - x0 / x1 * x1) (x2 + 1)
set_option maxHeartbeats 4000000 in
set_option maxRecDepth 100000 in
theorem c_X6_commonDivisor (l : Launch) (D : va_G) (ks : Nat × Nat) (cI cL cC cM cS : ClassId) (x0 : Int32) (x1 : Int32) : MT l D ks (tyz cI cL cC cM cS) yX6_commonDivisor cX6_commonDivisor 4 ((some .int)) { frames := 0, cells := 0, slots := 0, locals := 0 } [.int x0, .int x1] (w_0 cI cL cC cM cS  ) (fun r : Int32 => (some (.int r), (w_0 cI cL cC cM cS  ))) (f_X6_commonDivisor x0 x1) := by
  refine MT.of 2 [some (.int x0), some (.int x1), none, none] (by decide) (Nat.le_of_ble_eq_true rfl) rfl ?_
  unfold f_X6_commonDivisor
  refine G.iconst 0 dX6_commonDivisor_0 (by decide) ?_
  refine G.istore_n (lv' := [some (.int x0), some (.int x1), some (.int 0), none]) dX6_commonDivisor_1 (by decide) (Nat.le_of_ble_eq_true rfl) rfl rfl ?_
  exact g_X6_commonDivisor_c2 l D ks cI cL cC cM cS fu x0 x1 0
set_option maxHeartbeats 4000000 in
set_option maxRecDepth 100000 in
theorem g_X6_dealNearest_c89 (l : Launch) (D : va_G) (ks : Nat × Nat) (cI cL cC cM cS : ClassId) (a : Nat → Nat) (t_now_kind t_now_used t_now_bay t_now_who t_now_lamp t_now_due t_now_gain : Nat → Int32) (t_now_day t_now_dues t_now_draw t_hasImage : Int32) (k18 : (Nat → Int32) → Int32 → (Nat → Int32) → (Nat → Int32) → Int32 → Int32 → Int32 → Int32 → (Option ((Nat → Int32) × (Nat → Int32) × Int32 × Int32 × Int32))) (hk18 : ∀ (t_now_likes : Nat → Int32) (t_now_count : Int32) (t_deal_bay t_deal_best : Nat → Int32) (t_deal_worth t_deal_free t_deal_count : Int32) (x1 : Int32), GJ l D ks (tyz cI cL cC cM cS) RX6 cX6_dealNearest 4 none { frames := 3, cells := 0, slots := 0, locals := 67 } (fun r : (Nat → Int32) × (Nat → Int32) × Int32 × Int32 × Int32 => (none, (w_X6nd cI cL cC cM cS a t_now_kind t_now_used t_now_bay t_now_likes t_now_who t_now_lamp t_now_due t_now_gain t_now_count t_now_day t_now_dues t_now_draw t_hasImage r.1 r.2.1 r.2.2.1 r.2.2.2.1 r.2.2.2.2))) (w_X6nd cI cL cC cM cS a t_now_kind t_now_used t_now_bay t_now_likes t_now_who t_now_lamp t_now_due t_now_gain t_now_count t_now_day t_now_dues t_now_draw t_hasImage t_deal_bay t_deal_best t_deal_worth t_deal_free t_deal_count) 18 [some (.ref (a 0)), some (.int x1), none, none] [] (k18 t_now_likes t_now_count t_deal_bay t_deal_best t_deal_worth t_deal_free t_deal_count x1)) (t_now_likes : Nat → Int32) (t_now_count : Int32) (t_deal_bay t_deal_best : Nat → Int32) (t_deal_worth t_deal_free t_deal_count : Int32) (x1 : Int32) : GJ l D ks (tyz cI cL cC cM cS) RX6 cX6_dealNearest 4 none { frames := 3, cells := 0, slots := 0, locals := 67 } (fun r : (Nat → Int32) × (Nat → Int32) × Int32 × Int32 × Int32 => (none, (w_X6nd cI cL cC cM cS a t_now_kind t_now_used t_now_bay t_now_likes t_now_who t_now_lamp t_now_due t_now_gain t_now_count t_now_day t_now_dues t_now_draw t_hasImage r.1 r.2.1 r.2.2.1 r.2.2.2.1 r.2.2.2.2))) (w_X6nd cI cL cC cM cS a t_now_kind t_now_used t_now_bay t_now_likes t_now_who t_now_lamp t_now_due t_now_gain t_now_count t_now_day t_now_dues t_now_draw t_hasImage t_deal_bay t_deal_best t_deal_worth t_deal_free t_deal_count) 89 [some (.ref (a 0)), some (.int x1), none, none] [] (f_X6_dealNearest_c89 k18 t_now_likes t_now_count t_deal_bay t_deal_best t_deal_worth t_deal_free t_deal_count x1) := by
  unfold f_X6_dealNearest_c89
  refine G.aload_n dX6_dealNearest_89 rfl ?_
  refine G.get fl_6_35 0 rfl rfl dX6_dealNearest_90 ?_
  refine G.callV (st := []) (w' := fun r93 => (w_X6nd cI cL cC cM cS a t_now_kind t_now_used t_now_bay t_now_likes t_now_who t_now_lamp t_now_due t_now_gain t_now_count t_now_day t_now_dues t_now_draw t_hasImage r93.2.1 t_deal_best t_deal_worth r93.2.2 t_deal_count)) mv_X0_next lk_6_288 (c_X0_next l D ks cI cL cC cM cS (fun k => a (80 + k)) t_deal_bay t_deal_best t_deal_worth t_deal_free t_deal_count) [10, 11, 12] [0, 1, 2, 3, 4, 5, 6, 7, 8, 9] [0, 1, 2, 3, 4, 5, 6, 7, 8, 9, 10, 11, 12] rfl rfl rfl rfl (by decide +kernel) (fun _ => rfl) rfl (by decide) (Nat.le_of_ble_eq_true rfl) dX6_dealNearest_93 (fun r93 => [.int r93.1]) (fun _ => rfl) (fun r93 _ => ?_)
  refine G.if_ne 102 dX6_dealNearest_96 (by decide) (fun h96 => ?_) (fun h96 => ?_)
  · refine G.iinc 1 (lv' := [some (.ref (a 0)), some (.int (x1 + 1)), none, none]) dX6_dealNearest_102 rfl (by decide) (by decide) (Nat.le_of_ble_eq_true rfl) rfl rfl ?_
    refine G.goto 18 dX6_dealNearest_105 (by decide) ?_
    exact hk18 t_now_likes t_now_count r93.2.1 t_deal_best t_deal_worth r93.2.2 t_deal_count (x1 + 1)
  · refine G.goto 108 dX6_dealNearest_99 (by decide) ?_
    exact G.vret rfl rfl dX6_dealNearest_108
set_option maxHeartbeats 4000000 in
set_option maxRecDepth 100000 in
theorem g_X6_dealNearest_c81 (l : Launch) (D : va_G) (ks : Nat × Nat) (cI cL cC cM cS : ClassId) (a : Nat → Nat) (t_now_kind t_now_used t_now_bay t_now_who t_now_lamp t_now_due t_now_gain : Nat → Int32) (t_now_day t_now_dues t_now_draw t_hasImage : Int32) (k18 : (Nat → Int32) → Int32 → (Nat → Int32) → (Nat → Int32) → Int32 → Int32 → Int32 → Int32 → (Option ((Nat → Int32) × (Nat → Int32) × Int32 × Int32 × Int32))) (hk18 : ∀ (t_now_likes : Nat → Int32) (t_now_count : Int32) (t_deal_bay t_deal_best : Nat → Int32) (t_deal_worth t_deal_free t_deal_count : Int32) (x1 : Int32), GJ l D ks (tyz cI cL cC cM cS) RX6 cX6_dealNearest 4 none { frames := 3, cells := 0, slots := 0, locals := 67 } (fun r : (Nat → Int32) × (Nat → Int32) × Int32 × Int32 × Int32 => (none, (w_X6nd cI cL cC cM cS a t_now_kind t_now_used t_now_bay t_now_likes t_now_who t_now_lamp t_now_due t_now_gain t_now_count t_now_day t_now_dues t_now_draw t_hasImage r.1 r.2.1 r.2.2.1 r.2.2.2.1 r.2.2.2.2))) (w_X6nd cI cL cC cM cS a t_now_kind t_now_used t_now_bay t_now_likes t_now_who t_now_lamp t_now_due t_now_gain t_now_count t_now_day t_now_dues t_now_draw t_hasImage t_deal_bay t_deal_best t_deal_worth t_deal_free t_deal_count) 18 [some (.ref (a 0)), some (.int x1), none, none] [] (k18 t_now_likes t_now_count t_deal_bay t_deal_best t_deal_worth t_deal_free t_deal_count x1)) (t_now_likes : Nat → Int32) (t_now_count : Int32) (t_deal_bay t_deal_best : Nat → Int32) (t_deal_worth t_deal_free t_deal_count : Int32) (x1 : Int32) (x2 : Int32) : GJ l D ks (tyz cI cL cC cM cS) RX6 cX6_dealNearest 4 none { frames := 3, cells := 0, slots := 0, locals := 67 } (fun r : (Nat → Int32) × (Nat → Int32) × Int32 × Int32 × Int32 => (none, (w_X6nd cI cL cC cM cS a t_now_kind t_now_used t_now_bay t_now_likes t_now_who t_now_lamp t_now_due t_now_gain t_now_count t_now_day t_now_dues t_now_draw t_hasImage r.1 r.2.1 r.2.2.1 r.2.2.2.1 r.2.2.2.2))) (w_X6nd cI cL cC cM cS a t_now_kind t_now_used t_now_bay t_now_likes t_now_who t_now_lamp t_now_due t_now_gain t_now_count t_now_day t_now_dues t_now_draw t_hasImage t_deal_bay t_deal_best t_deal_worth t_deal_free t_deal_count) 81 [some (.ref (a 0)), some (.int x1), some (.int x2), none] [] (f_X6_dealNearest_c81 k18 t_now_likes t_now_count t_deal_bay t_deal_best t_deal_worth t_deal_free t_deal_count x1 x2) := by
  unfold f_X6_dealNearest_c81
  refine G.aload_n dX6_dealNearest_81 rfl ?_
  refine G.get fl_6_35 0 rfl rfl dX6_dealNearest_82 ?_
  refine G.iload_n dX6_dealNearest_85 rfl ?_
  refine G.callV (st := []) (w' := fun r86 => (w_X6nd cI cL cC cM cS a t_now_kind t_now_used t_now_bay t_now_likes t_now_who t_now_lamp t_now_due t_now_gain t_now_count t_now_day t_now_dues t_now_draw t_hasImage t_deal_bay r86.1 r86.2 t_deal_free t_deal_count)) mv_X0_keep lk_6_286 (c_X0_keep l D ks cI cL cC cM cS (fun k => a (80 + k)) t_deal_bay t_deal_best t_deal_worth t_deal_free t_deal_count x2) [10, 11, 12] [0, 1, 2, 3, 4, 5, 6, 7, 8, 9] [0, 1, 2, 3, 4, 5, 6, 7, 8, 9, 10, 11, 12] rfl rfl rfl rfl (by decide +kernel) (fun _ => rfl) rfl (by decide) (Nat.le_of_ble_eq_true rfl) dX6_dealNearest_86 (fun r86 => []) (fun _ => rfl) (fun r86 _ => ?_)
  refine G.mask (lv' := [some (.ref (a 0)), some (.int x1), none, none]) [true, true, false, false] rfl ?_
  exact g_X6_dealNearest_c89 l D ks cI cL cC cM cS a t_now_kind t_now_used t_now_bay t_now_who t_now_lamp t_now_due t_now_gain t_now_day t_now_dues t_now_draw t_hasImage k18 hk18 t_now_likes t_now_count t_deal_bay r86.1 r86.2 t_deal_free t_deal_count x1
set_option maxHeartbeats 4000000 in
set_option maxRecDepth 100000 in
theorem g_X6_dealNearest_c29 (l : Launch) (D : va_G) (ks : Nat × Nat) (cI cL cC cM cS : ClassId) (a : Nat → Nat) (t_now_kind t_now_used t_now_bay t_now_who t_now_lamp t_now_due t_now_gain : Nat → Int32) (t_now_day t_now_dues t_now_draw t_hasImage : Int32) (k18 : (Nat → Int32) → Int32 → (Nat → Int32) → (Nat → Int32) → Int32 → Int32 → Int32 → Int32 → (Option ((Nat → Int32) × (Nat → Int32) × Int32 × Int32 × Int32))) (hk18 : ∀ (t_now_likes : Nat → Int32) (t_now_count : Int32) (t_deal_bay t_deal_best : Nat → Int32) (t_deal_worth t_deal_free t_deal_count : Int32) (x1 : Int32), GJ l D ks (tyz cI cL cC cM cS) RX6 cX6_dealNearest 4 none { frames := 3, cells := 0, slots := 0, locals := 67 } (fun r : (Nat → Int32) × (Nat → Int32) × Int32 × Int32 × Int32 => (none, (w_X6nd cI cL cC cM cS a t_now_kind t_now_used t_now_bay t_now_likes t_now_who t_now_lamp t_now_due t_now_gain t_now_count t_now_day t_now_dues t_now_draw t_hasImage r.1 r.2.1 r.2.2.1 r.2.2.2.1 r.2.2.2.2))) (w_X6nd cI cL cC cM cS a t_now_kind t_now_used t_now_bay t_now_likes t_now_who t_now_lamp t_now_due t_now_gain t_now_count t_now_day t_now_dues t_now_draw t_hasImage t_deal_bay t_deal_best t_deal_worth t_deal_free t_deal_count) 18 [some (.ref (a 0)), some (.int x1), none, none] [] (k18 t_now_likes t_now_count t_deal_bay t_deal_best t_deal_worth t_deal_free t_deal_count x1)) : ∀ (n : Nat), ∀ (t_now_likes : Nat → Int32) (t_now_count : Int32) (t_deal_bay t_deal_best : Nat → Int32) (t_deal_worth t_deal_free t_deal_count : Int32) (x1 : Int32) (x2 : Int32) (x3 : Int32), GJ l D ks (tyz cI cL cC cM cS) RX6 cX6_dealNearest 4 none { frames := 3, cells := 0, slots := 0, locals := 67 } (fun r : (Nat → Int32) × (Nat → Int32) × Int32 × Int32 × Int32 => (none, (w_X6nd cI cL cC cM cS a t_now_kind t_now_used t_now_bay t_now_likes t_now_who t_now_lamp t_now_due t_now_gain t_now_count t_now_day t_now_dues t_now_draw t_hasImage r.1 r.2.1 r.2.2.1 r.2.2.2.1 r.2.2.2.2))) (w_X6nd cI cL cC cM cS a t_now_kind t_now_used t_now_bay t_now_likes t_now_who t_now_lamp t_now_due t_now_gain t_now_count t_now_day t_now_dues t_now_draw t_hasImage t_deal_bay t_deal_best t_deal_worth t_deal_free t_deal_count) 29 [some (.ref (a 0)), some (.int x1), some (.int x2), some (.int x3)] [] (f_X6_dealNearest_c29 k18 n t_now_likes t_now_count t_deal_bay t_deal_best t_deal_worth t_deal_free t_deal_count x1 x2 x3) := by
  intro n
  induction n with
  | zero =>
    intro t_now_likes t_now_count t_deal_bay t_deal_best t_deal_worth t_deal_free t_deal_count x1 x2 x3
    exact G.no
  | succ n ih =>
    intro t_now_likes t_now_count t_deal_bay t_deal_best t_deal_worth t_deal_free t_deal_count x1 x2 x3
    rw [f_X6_dealNearest_c29]
    refine G.iload_n dX6_dealNearest_29 rfl ?_
    refine G.aload_n dX6_dealNearest_30 rfl ?_
    refine G.get fl_6_10 0 rfl rfl dX6_dealNearest_31 ?_
    refine G.get fl_6_72 1 rfl rfl dX6_dealNearest_34 ?_
    refine G.icmp_ge 66 dX6_dealNearest_37 (by decide) (fun h37 => ?_) (fun h37 => ?_)
    · refine G.iload_n dX6_dealNearest_66 rfl ?_
      refine G.if_eq 81 dX6_dealNearest_67 (by decide) (fun h67 => ?_) (fun h67 => ?_)
      · refine G.mask (lv' := [some (.ref (a 0)), some (.int x1), some (.int x2), none]) [true, true, true, false] rfl ?_
        exact g_X6_dealNearest_c81 l D ks cI cL cC cM cS a t_now_kind t_now_used t_now_bay t_now_who t_now_lamp t_now_due t_now_gain t_now_day t_now_dues t_now_draw t_hasImage k18 hk18 t_now_likes t_now_count t_deal_bay t_deal_best t_deal_worth t_deal_free t_deal_count x1 x2
      · refine G.iload_n dX6_dealNearest_70 rfl ?_
        refine G.aload_n dX6_dealNearest_71 rfl ?_
        refine G.get fl_6_35 0 rfl rfl dX6_dealNearest_72 ?_
        refine G.get fl_6_283 10 rfl rfl dX6_dealNearest_75 ?_
        refine G.icmp_ge 89 dX6_dealNearest_78 (by decide) (fun h78 => ?_) (fun h78 => ?_)
        · refine G.mask (lv' := [some (.ref (a 0)), some (.int x1), none, none]) [true, true, false, false] rfl ?_
          exact g_X6_dealNearest_c89 l D ks cI cL cC cM cS a t_now_kind t_now_used t_now_bay t_now_who t_now_lamp t_now_due t_now_gain t_now_day t_now_dues t_now_draw t_hasImage k18 hk18 t_now_likes t_now_count t_deal_bay t_deal_best t_deal_worth t_deal_free t_deal_count x1
        · refine G.mask (lv' := [some (.ref (a 0)), some (.int x1), some (.int x2), none]) [true, true, true, false] rfl ?_
          exact g_X6_dealNearest_c81 l D ks cI cL cC cM cS a t_now_kind t_now_used t_now_bay t_now_who t_now_lamp t_now_due t_now_gain t_now_day t_now_dues t_now_draw t_hasImage k18 hk18 t_now_likes t_now_count t_deal_bay t_deal_best t_deal_worth t_deal_free t_deal_count x1 x2
    · refine G.iload_n dX6_dealNearest_40 rfl ?_
      refine G.aload_n dX6_dealNearest_41 rfl ?_
      refine G.get fl_6_10 0 rfl rfl dX6_dealNearest_42 ?_
      refine G.iload_n dX6_dealNearest_45 rfl ?_
      refine G.aload_n dX6_dealNearest_46 rfl ?_
      refine G.get fl_6_35 0 rfl rfl dX6_dealNearest_47 ?_
      refine G.get fl_6_282 10 rfl rfl dX6_dealNearest_50 ?_
      refine G.iload_n dX6_dealNearest_53 rfl ?_
      refine G.chk (fun h54 => ?_)
      refine G.iaload 11 0 rfl rfl x3.toNatClampNeg rfl h54 dX6_dealNearest_54 ?_
      refine G.topi (fun v54 => ?_)
      refine G.callV (st := [.int x2]) (w' := fun r55 => (w_X6nd cI cL cC cM cS a t_now_kind t_now_used t_now_bay t_now_likes t_now_who t_now_lamp t_now_due t_now_gain t_now_count t_now_day t_now_dues t_now_draw t_hasImage t_deal_bay t_deal_best t_deal_worth t_deal_free t_deal_count)) mv_X3_farFrom lk_6_108 (c_X3_farFrom l D ks cI cL cC cM cS (fun k => a (1 + k)) t_now_kind t_now_used t_now_bay t_now_likes t_now_who t_now_lamp t_now_due t_now_gain t_now_count t_now_day t_now_dues t_now_draw x3 v54) [1, 2, 3, 4, 5, 6, 7, 8, 9] [0, 10, 11, 12] [0, 4, 5, 6, 7, 8, 9, 10, 11, 12, 1, 2, 3] rfl rfl rfl rfl (by decide +kernel) (fun _ => rfl) rfl (by decide) (Nat.le_of_ble_eq_true rfl) dX6_dealNearest_55 (fun r55 => [.int r55, .int x2]) (fun _ => rfl) (fun r55 _ => ?_)
      refine G.iadd dX6_dealNearest_58 ?_
      refine G.istore_n (lv' := [some (.ref (a 0)), some (.int x1), some (.int (x2 + r55)), some (.int x3)]) dX6_dealNearest_59 (by decide) (Nat.le_of_ble_eq_true rfl) rfl rfl ?_
      refine G.iinc 1 (lv' := [some (.ref (a 0)), some (.int x1), some (.int (x2 + r55)), some (.int (x3 + 1))]) dX6_dealNearest_60 rfl (by decide) (by decide) (Nat.le_of_ble_eq_true rfl) rfl rfl ?_
      refine G.goto 29 dX6_dealNearest_63 (by decide) ?_
      exact ih t_now_likes t_now_count t_deal_bay t_deal_best t_deal_worth t_deal_free t_deal_count x1 (x2 + r55) (x3 + 1)
set_option maxHeartbeats 4000000 in
set_option maxRecDepth 100000 in
theorem g_X6_dealNearest_c18 (l : Launch) (D : va_G) (ks : Nat × Nat) (cI cL cC cM cS : ClassId) (a : Nat → Nat) (t_now_kind t_now_used t_now_bay t_now_who t_now_lamp t_now_due t_now_gain : Nat → Int32) (t_now_day t_now_dues t_now_draw t_hasImage : Int32) : ∀ (n : Nat), ∀ (t_now_likes : Nat → Int32) (t_now_count : Int32) (t_deal_bay t_deal_best : Nat → Int32) (t_deal_worth t_deal_free t_deal_count : Int32) (x1 : Int32), GJ l D ks (tyz cI cL cC cM cS) RX6 cX6_dealNearest 4 none { frames := 3, cells := 0, slots := 0, locals := 67 } (fun r : (Nat → Int32) × (Nat → Int32) × Int32 × Int32 × Int32 => (none, (w_X6nd cI cL cC cM cS a t_now_kind t_now_used t_now_bay t_now_likes t_now_who t_now_lamp t_now_due t_now_gain t_now_count t_now_day t_now_dues t_now_draw t_hasImage r.1 r.2.1 r.2.2.1 r.2.2.2.1 r.2.2.2.2))) (w_X6nd cI cL cC cM cS a t_now_kind t_now_used t_now_bay t_now_likes t_now_who t_now_lamp t_now_due t_now_gain t_now_count t_now_day t_now_dues t_now_draw t_hasImage t_deal_bay t_deal_best t_deal_worth t_deal_free t_deal_count) 18 [some (.ref (a 0)), some (.int x1), none, none] [] (f_X6_dealNearest_c18 n t_now_likes t_now_count t_deal_bay t_deal_best t_deal_worth t_deal_free t_deal_count x1) := by
  intro n
  induction n with
  | zero =>
    intro t_now_likes t_now_count t_deal_bay t_deal_best t_deal_worth t_deal_free t_deal_count x1
    exact G.no
  | succ n ih =>
    intro t_now_likes t_now_count t_deal_bay t_deal_best t_deal_worth t_deal_free t_deal_count x1
    rw [f_X6_dealNearest_c18]
    refine G.iload_n dX6_dealNearest_18 rfl ?_
    refine G.sipush 720 dX6_dealNearest_19 (by decide) ?_
    refine G.icmp_ge 108 dX6_dealNearest_22 (by decide) (fun h22 => ?_) (fun h22 => ?_)
    · exact G.vret rfl rfl dX6_dealNearest_108
    · refine G.iconst 0 dX6_dealNearest_25 (by decide) ?_
      refine G.istore_n (lv' := [some (.ref (a 0)), some (.int x1), some (.int 0), none]) dX6_dealNearest_26 (by decide) (Nat.le_of_ble_eq_true rfl) rfl rfl ?_
      refine G.iconst 0 dX6_dealNearest_27 (by decide) ?_
      refine G.istore_n (lv' := [some (.ref (a 0)), some (.int x1), some (.int 0), some (.int 0)]) dX6_dealNearest_28 (by decide) (Nat.le_of_ble_eq_true rfl) rfl rfl ?_
      exact g_X6_dealNearest_c29 l D ks cI cL cC cM cS a t_now_kind t_now_used t_now_bay t_now_who t_now_lamp t_now_due t_now_gain t_now_day t_now_dues t_now_draw t_hasImage (f_X6_dealNearest_c18 n) ih fu t_now_likes t_now_count t_deal_bay t_deal_best t_deal_worth t_deal_free t_deal_count x1 0 0
set_option maxHeartbeats 4000000 in
set_option maxRecDepth 100000 in
theorem c_X6_dealNearest (l : Launch) (D : va_G) (ks : Nat × Nat) (cI cL cC cM cS : ClassId) (a : Nat → Nat) (t_now_kind t_now_used t_now_bay t_now_likes t_now_who t_now_lamp t_now_due t_now_gain : Nat → Int32) (t_now_count t_now_day t_now_dues t_now_draw t_hasImage : Int32) (t_deal_bay t_deal_best : Nat → Int32) (t_deal_worth t_deal_free t_deal_count : Int32) : MT l D ks (tyz cI cL cC cM cS) yX6_dealNearest cX6_dealNearest 4 none { frames := 3, cells := 0, slots := 0, locals := 67 } [.ref (a 0)] (w_X6nd cI cL cC cM cS a t_now_kind t_now_used t_now_bay t_now_likes t_now_who t_now_lamp t_now_due t_now_gain t_now_count t_now_day t_now_dues t_now_draw t_hasImage t_deal_bay t_deal_best t_deal_worth t_deal_free t_deal_count) (fun r : (Nat → Int32) × (Nat → Int32) × Int32 × Int32 × Int32 => (none, (w_X6nd cI cL cC cM cS a t_now_kind t_now_used t_now_bay t_now_likes t_now_who t_now_lamp t_now_due t_now_gain t_now_count t_now_day t_now_dues t_now_draw t_hasImage r.1 r.2.1 r.2.2.1 r.2.2.2.1 r.2.2.2.2))) (f_X6_dealNearest t_now_likes t_now_count t_deal_bay t_deal_best t_deal_worth t_deal_free t_deal_count) := by
  refine MT.of 3 [some (.ref (a 0)), none, none, none] (by decide) (Nat.le_of_ble_eq_true rfl) rfl ?_
  unfold f_X6_dealNearest
  refine G.aload_n dX6_dealNearest_0 rfl ?_
  refine G.get fl_6_35 0 rfl rfl dX6_dealNearest_1 ?_
  refine G.aload_n dX6_dealNearest_4 rfl ?_
  refine G.get fl_6_10 0 rfl rfl dX6_dealNearest_5 ?_
  refine G.get fl_6_72 1 rfl rfl dX6_dealNearest_8 ?_
  refine G.bipush 63 dX6_dealNearest_11 (by decide) ?_
  refine G.callV (st := []) (w' := fun r13 => (w_X6nd cI cL cC cM cS a t_now_kind t_now_used t_now_bay t_now_likes t_now_who t_now_lamp t_now_due t_now_gain t_now_count t_now_day t_now_dues t_now_draw t_hasImage r13.1 t_deal_best t_deal_worth r13.2.1 r13.2.2)) mv_X0_begin lk_6_279 (c_X0_begin l D ks cI cL cC cM cS (fun k => a (80 + k)) t_deal_bay t_deal_best t_deal_worth t_deal_free t_deal_count t_now_count 63) [10, 11, 12] [0, 1, 2, 3, 4, 5, 6, 7, 8, 9] [0, 1, 2, 3, 4, 5, 6, 7, 8, 9, 10, 11, 12] rfl rfl rfl rfl (by decide +kernel) (fun _ => rfl) rfl (by decide) (Nat.le_of_ble_eq_true rfl) dX6_dealNearest_13 (fun r13 => []) (fun _ => rfl) (fun r13 _ => ?_)
  refine G.iconst 0 dX6_dealNearest_16 (by decide) ?_
  refine G.istore_n (lv' := [some (.ref (a 0)), some (.int 0), none, none]) dX6_dealNearest_17 (by decide) (Nat.le_of_ble_eq_true rfl) rfl rfl ?_
  exact g_X6_dealNearest_c18 l D ks cI cL cC cM cS a t_now_kind t_now_used t_now_bay t_now_who t_now_lamp t_now_due t_now_gain t_now_day t_now_dues t_now_draw t_hasImage fu t_now_likes t_now_count r13.1 t_deal_best t_deal_worth r13.2.1 r13.2.2 0
set_option maxHeartbeats 4000000 in
set_option maxRecDepth 100000 in
theorem c_X6_content (l : Launch) (D : va_G) (ks : Nat × Nat) (cI cL cC cM cS : ClassId) (a : Nat → Nat) (t_now_kind t_now_used t_now_bay t_now_likes t_now_who t_now_lamp t_now_due t_now_gain : Nat → Int32) (t_now_count t_now_day t_now_dues t_now_draw t_hasImage : Int32) (t_deal_bay t_deal_best : Nat → Int32) (t_deal_worth t_deal_free t_deal_count : Int32) (x1 : Int32) : MT l D ks (tyz cI cL cC cM cS) yX6_content cX6_content 2 ((some .int)) { frames := 4, cells := 0, slots := 0, locals := 90 } [.ref (a 0), .int x1] (w_X6nd cI cL cC cM cS a t_now_kind t_now_used t_now_bay t_now_likes t_now_who t_now_lamp t_now_due t_now_gain t_now_count t_now_day t_now_dues t_now_draw t_hasImage t_deal_bay t_deal_best t_deal_worth t_deal_free t_deal_count) (fun r : Int32 × (Nat → Int32) × (Nat → Int32) × Int32 × Int32 × Int32 => (some (.int r.1), (w_X6nd cI cL cC cM cS a t_now_kind t_now_used t_now_bay t_now_likes t_now_who t_now_lamp t_now_due t_now_gain t_now_count t_now_day t_now_dues t_now_draw t_hasImage r.2.1 r.2.2.1 r.2.2.2.1 r.2.2.2.2.1 r.2.2.2.2.2))) (f_X6_content t_now_likes t_now_count t_deal_bay t_deal_best t_deal_worth t_deal_free t_deal_count x1) := by
  refine MT.of 0 [some (.ref (a 0)), some (.int x1)] (by decide) (Nat.le_of_ble_eq_true rfl) rfl ?_
  unfold f_X6_content
  refine G.iload_n dX6_content_0 rfl ?_
  refine G.iconst (-1) dX6_content_1 (by decide) ?_
  refine G.icmp_ge 7 dX6_content_2 (by decide) (fun h2 => ?_) (fun h2 => ?_)
  · refine G.iload_n dX6_content_7 rfl ?_
    refine G.aload_n dX6_content_8 rfl ?_
    refine G.get fl_6_10 0 rfl rfl dX6_content_9 ?_
    refine G.get fl_6_72 1 rfl rfl dX6_content_12 ?_
    refine G.icmp_lt 21 dX6_content_15 (by decide) (fun h15 => ?_) (fun h15 => ?_)
    · refine G.aload_n dX6_content_21 rfl ?_
      refine G.callV (st := []) (w' := fun r22 => (w_X6nd cI cL cC cM cS a t_now_kind t_now_used t_now_bay t_now_likes t_now_who t_now_lamp t_now_due t_now_gain t_now_count t_now_day t_now_dues t_now_draw t_hasImage r22.1 r22.2.1 r22.2.2.1 r22.2.2.2.1 r22.2.2.2.2)) mv_X6_dealNearest lk_6_188 (c_X6_dealNearest l D ks cI cL cC cM cS a t_now_kind t_now_used t_now_bay t_now_likes t_now_who t_now_lamp t_now_due t_now_gain t_now_count t_now_day t_now_dues t_now_draw t_hasImage t_deal_bay t_deal_best t_deal_worth t_deal_free t_deal_count) [0, 1, 2, 3, 4, 5, 6, 7, 8, 9, 10, 11, 12] [] [0, 1, 2, 3, 4, 5, 6, 7, 8, 9, 10, 11, 12] rfl rfl rfl rfl (by decide +kernel) (fun _ => rfl) rfl (by decide) (Nat.le_of_ble_eq_true rfl) dX6_content_22 (fun r22 => []) (fun _ => rfl) (fun r22 _ => ?_)
      refine G.aload_n dX6_content_25 rfl ?_
      refine G.get fl_6_35 0 rfl rfl dX6_content_26 ?_
      refine G.iload_n dX6_content_29 rfl ?_
      refine G.callV (st := []) (w' := fun r30 => (w_X6nd cI cL cC cM cS a t_now_kind t_now_used t_now_bay t_now_likes t_now_who t_now_lamp t_now_due t_now_gain t_now_count t_now_day t_now_dues t_now_draw t_hasImage r22.1 r22.2.1 r22.2.2.1 r22.2.2.2.1 r22.2.2.2.2)) mv_X0_answer lk_6_191 (c_X0_answer l D ks cI cL cC cM cS (fun k => a (80 + k)) r22.1 r22.2.1 r22.2.2.1 r22.2.2.2.1 r22.2.2.2.2 x1) [10, 11, 12] [0, 1, 2, 3, 4, 5, 6, 7, 8, 9] [0, 1, 2, 3, 4, 5, 6, 7, 8, 9, 10, 11, 12] rfl rfl rfl rfl (by decide +kernel) (fun _ => rfl) rfl (by decide) (Nat.le_of_ble_eq_true rfl) dX6_content_30 (fun r30 => [.int r30]) (fun _ => rfl) (fun r30 _ => ?_)
      exact G.iret rfl rfl dX6_content_33
    · refine G.bipush (-4) dX6_content_18 (by decide) ?_
      exact G.iret rfl rfl dX6_content_20
  · refine G.iconst (-1) dX6_content_5 (by decide) ?_
    exact G.iret rfl rfl dX6_content_6
set_option maxHeartbeats 4000000 in
set_option maxRecDepth 100000 in
theorem c_X6_isSheet (l : Launch) (D : va_G) (ks : Nat × Nat) (cI cL cC cM cS : ClassId) (x0 : Int32) : MT l D ks (tyz cI cL cC cM cS) yX6_isSheet cX6_isSheet 1 ((some .boolean)) { frames := 1, cells := 0, slots := 0, locals := 22 } [.int x0] (w_0 cI cL cC cM cS  ) (fun r : Int32 => (some (.int r), (w_0 cI cL cC cM cS  ))) (f_X6_isSheet x0) := by
  refine MT.of 0 [some (.int x0)] (by decide) (Nat.le_of_ble_eq_true rfl) rfl ?_
  unfold f_X6_isSheet
  refine G.iload_n dX6_isSheet_0 rfl ?_
  refine G.iconst 0 dX6_isSheet_1 (by decide) ?_
  refine G.iconst 3 dX6_isSheet_2 (by decide) ?_
  refine G.callS (st := []) (w' := fun r3 => (w_0 cI cL cC cM cS  )) ms_X6_within lk_6_53 (c_X6_within l D ks cI cL cC cM cS x0 0 3) [] [] [] rfl rfl rfl rfl (by decide +kernel) (fun _ => rfl) (by decide) (Nat.le_of_ble_eq_true rfl) dX6_isSheet_3 (fun r3 => [.int r3]) (fun _ => rfl) (fun r3 _ => ?_)
  refine G.chk (fun h6 => ?_)
  exact G.zret rfl rfl (isb_n h6) dX6_isSheet_6
set_option maxHeartbeats 4000000 in
set_option maxRecDepth 100000 in
theorem c_X6_copy (l : Launch) (D : va_G) (ks : Nat × Nat) (cI cL cC cM cS : ClassId) (a : Nat → Nat) (t_hasImage : Int32) (t_sheets_items : Nat → Nat → Int64) (t_sheets_lane t_sheets_size : Nat → Int32) (x1 : Int32) (x2 : Int32) (x3 : Int32) (x4 : Int32) (x5 : Int32) : MT l D ks (tyz cI cL cC cM cS) yX6_copy cX6_copy 9 ((some .int)) { frames := 2, cells := 0, slots := 0, locals := 43 } [.ref (a 0), .int x1, .int x2, .int x3, .int x4, .int x5] (w_X6s cI cL cC cM cS a t_hasImage t_sheets_items t_sheets_lane t_sheets_size) (fun r : Int32 × (Nat → Nat → Int64) => (some (.int r.1), (w_X6s cI cL cC cM cS a t_hasImage r.2 t_sheets_lane t_sheets_size))) (f_X6_copy t_sheets_items t_sheets_lane t_sheets_size x1 x2 x3 x4 x5) := by
  refine MT.of 3 [some (.ref (a 0)), some (.int x1), some (.int x2), some (.int x3), some (.int x4), some (.int x5), none, none, none] (by decide) (Nat.le_of_ble_eq_true rfl) rfl ?_
  unfold f_X6_copy
  refine G.iload_n dX6_copy_0 rfl ?_
  refine G.callS (st := []) (w' := fun r1 => (w_X6s cI cL cC cM cS a t_hasImage t_sheets_items t_sheets_lane t_sheets_size)) ms_X6_isSheet lk_6_231 (c_X6_isSheet l D ks cI cL cC cM cS x1) [] [0, 1, 2, 3, 4, 5, 6, 7, 8, 9] [0, 1, 2, 3, 4, 5, 6, 7, 8, 9] rfl rfl rfl rfl (by decide +kernel) (fun _ => rfl) (by decide) (Nat.le_of_ble_eq_true rfl) dX6_copy_1 (fun r1 => [.int r1]) (fun _ => rfl) (fun r1 _ => ?_)
  refine G.if_eq 14 dX6_copy_4 (by decide) (fun h4 => ?_) (fun h4 => ?_)
  · refine G.iconst (-1) dX6_copy_14 (by decide) ?_
    exact G.iret rfl rfl dX6_copy_15
  · refine G.iload_n dX6_copy_7 rfl ?_
    refine G.callS (st := []) (w' := fun r8 => (w_X6s cI cL cC cM cS a t_hasImage t_sheets_items t_sheets_lane t_sheets_size)) ms_X6_isSheet lk_6_231 (c_X6_isSheet l D ks cI cL cC cM cS x3) [] [0, 1, 2, 3, 4, 5, 6, 7, 8, 9] [0, 1, 2, 3, 4, 5, 6, 7, 8, 9] rfl rfl rfl rfl (by decide +kernel) (fun _ => rfl) (by decide) (Nat.le_of_ble_eq_true rfl) dX6_copy_8 (fun r8 => [.int r8]) (fun _ => rfl) (fun r8 _ => ?_)
    refine G.if_ne 16 dX6_copy_11 (by decide) (fun h11 => ?_) (fun h11 => ?_)
    · refine G.aload_n dX6_copy_16 rfl ?_
      refine G.get fl_6_48 0 rfl rfl dX6_copy_17 ?_
      refine G.iload_n dX6_copy_20 rfl ?_
      refine G.chk (fun h21 => ?_)
      have hl21 := inb_lt h21
      generalize hj21 : x1.toNatClampNeg = j21 at hl21 ⊢
      rcases g_or4 hl21 with rfl | rfl | rfl | rfl
      · refine G.aaload 1 4 rfl rfl h21 (by rw [hj21]) dX6_copy_21 ?_
        refine G.astore (lv' := [some (.ref (a 0)), some (.int x1), some (.int x2), some (.int x3), some (.int x4), some (.int x5), some (.ref (a 86)), none, none]) dX6_copy_22 (by decide) (Nat.le_of_ble_eq_true rfl) rfl rfl ?_
        refine G.aload_n dX6_copy_24 rfl ?_
        refine G.get fl_6_48 0 rfl rfl dX6_copy_25 ?_
        refine G.iload_n dX6_copy_28 rfl ?_
        refine G.chk (fun h29 => ?_)
        have hl29 := inb_lt h29
        generalize hj29 : x3.toNatClampNeg = j29 at hl29 ⊢
        rcases g_or4 hl29 with rfl | rfl | rfl | rfl
        · refine G.aaload 1 4 rfl rfl h29 (by rw [hj29]) dX6_copy_29 ?_
          refine G.astore (lv' := [some (.ref (a 0)), some (.int x1), some (.int x2), some (.int x3), some (.int x4), some (.int x5), some (.ref (a 86)), some (.ref (a 86)), none]) dX6_copy_30 (by decide) (Nat.le_of_ble_eq_true rfl) rfl rfl ?_
          refine G.aload dX6_copy_32 rfl ?_
          refine G.callV (st := []) (w' := fun r34 => (w_X6s cI cL cC cM cS a t_hasImage t_sheets_items t_sheets_lane t_sheets_size)) mv_X4_isMissing lk_6_256 (c_X4_isMissing l D ks cI cL cC cM cS (fun k => a (86 + k)) (t_sheets_items 0) (t_sheets_lane 0) (t_sheets_size 0)) [2, 3] [0, 1, 4, 5, 6, 7, 8, 9] [0, 1, 8, 9, 2, 3, 4, 5, 6, 7] rfl rfl rfl rfl (by decide +kernel) (fun _ => rfl) rfl (by decide) (Nat.le_of_ble_eq_true rfl) dX6_copy_34 (fun r34 => [.int r34]) (fun _ => rfl) (fun r34 _ => ?_)
          refine G.if_ne 48 dX6_copy_37 (by decide) (fun h37 => ?_) (fun h37 => ?_)
          · refine G.bipush (-11) dX6_copy_48 (by decide) ?_
            exact G.iret rfl rfl dX6_copy_50
          · refine G.aload dX6_copy_40 rfl ?_
            refine G.callV (st := []) (w' := fun r42 => (w_X6s cI cL cC cM cS a t_hasImage t_sheets_items t_sheets_lane t_sheets_size)) mv_X4_isMissing lk_6_256 (c_X4_isMissing l D ks cI cL cC cM cS (fun k => a (86 + k)) (t_sheets_items 0) (t_sheets_lane 0) (t_sheets_size 0)) [2, 3] [0, 1, 4, 5, 6, 7, 8, 9] [0, 1, 8, 9, 2, 3, 4, 5, 6, 7] rfl rfl rfl rfl (by decide +kernel) (fun _ => rfl) rfl (by decide) (Nat.le_of_ble_eq_true rfl) dX6_copy_42 (fun r42 => [.int r42]) (fun _ => rfl) (fun r42 _ => ?_)
            refine G.if_eq 51 dX6_copy_45 (by decide) (fun h45 => ?_) (fun h45 => ?_)
            · refine G.aload dX6_copy_51 rfl ?_
              refine G.aload dX6_copy_53 rfl ?_
              refine G.get fl_6_263 2 rfl rfl dX6_copy_55 ?_
              refine G.iload_n dX6_copy_58 rfl ?_
              refine G.iload dX6_copy_59 rfl ?_
              refine G.callV (st := []) (w' := fun r61 => (w_X6s cI cL cC cM cS a t_hasImage t_sheets_items t_sheets_lane t_sheets_size)) mv_X4_refusal lk_6_237 (c_X4_refusal l D ks cI cL cC cM cS (fun k => a (86 + k)) (t_sheets_items 0) (t_sheets_lane 0) (t_sheets_size 0) (t_sheets_lane 0) x2 x5) [2, 3] [0, 1, 4, 5, 6, 7, 8, 9] [0, 1, 8, 9, 2, 3, 4, 5, 6, 7] rfl rfl rfl rfl (by decide +kernel) (fun _ => rfl) rfl (by decide) (Nat.le_of_ble_eq_true rfl) dX6_copy_61 (fun r61 => [.int r61]) (fun _ => rfl) (fun r61 _ => ?_)
              refine G.istore (lv' := [some (.ref (a 0)), some (.int x1), some (.int x2), some (.int x3), some (.int x4), some (.int x5), some (.ref (a 86)), some (.ref (a 86)), some (.int r61)]) dX6_copy_64 (by decide) (Nat.le_of_ble_eq_true rfl) rfl rfl ?_
              refine G.iload dX6_copy_66 rfl ?_
              refine G.if_ne 87 dX6_copy_68 (by decide) (fun h68 => ?_) (fun h68 => ?_)
              · refine G.iload dX6_copy_87 rfl ?_
                refine G.if_ge 95 dX6_copy_89 (by decide) (fun h89 => ?_) (fun h89 => ?_)
                · refine G.aload dX6_copy_95 rfl ?_
                  refine G.get fl_6_266 2 rfl rfl dX6_copy_97 ?_
                  refine G.iload_n dX6_copy_100 rfl ?_
                  refine G.aload dX6_copy_101 rfl ?_
                  refine G.get fl_6_266 2 rfl rfl dX6_copy_103 ?_
                  refine G.iload dX6_copy_106 rfl ?_
                  refine G.iload dX6_copy_108 rfl ?_
                  refine G.chk (fun h110 => ?_)
                  refine G.copyl (w' := (w_X6s cI cL cC cM cS a t_hasImage (va_up t_sheets_items 0 (va_cpy (t_sheets_items 0) (t_sheets_items 0) x2.toNatClampNeg x4.toNatClampNeg x5.toNatClampNeg)) t_sheets_lane t_sheets_size)) 3 3 1 1 lk_6_270 acn acs aci rfl rfl rfl rfl (cpok_1 h110) (cpok_2 h110) (cpok_3 h110) (cpok_4 h110) (cpok_5 h110) (by decide) (Nat.le_of_ble_eq_true rfl) rfl dX6_copy_110 ?_
                  refine G.iload dX6_copy_113 rfl ?_
                  exact G.iret rfl rfl dX6_copy_115
                · refine G.iload dX6_copy_92 rfl ?_
                  exact G.iret rfl rfl dX6_copy_94
              · refine G.aload dX6_copy_71 rfl ?_
                refine G.aload dX6_copy_73 rfl ?_
                refine G.get fl_6_263 2 rfl rfl dX6_copy_75 ?_
                refine G.iload dX6_copy_78 rfl ?_
                refine G.iload dX6_copy_80 rfl ?_
                refine G.callV (st := []) (w' := fun r82 => (w_X6s cI cL cC cM cS a t_hasImage t_sheets_items t_sheets_lane t_sheets_size)) mv_X4_refusal lk_6_237 (c_X4_refusal l D ks cI cL cC cM cS (fun k => a (86 + k)) (t_sheets_items 0) (t_sheets_lane 0) (t_sheets_size 0) (t_sheets_lane 0) x4 x5) [2, 3] [0, 1, 4, 5, 6, 7, 8, 9] [0, 1, 8, 9, 2, 3, 4, 5, 6, 7] rfl rfl rfl rfl (by decide +kernel) (fun _ => rfl) rfl (by decide) (Nat.le_of_ble_eq_true rfl) dX6_copy_82 (fun r82 => [.int r82]) (fun _ => rfl) (fun r82 _ => ?_)
                refine G.istore (lv' := [some (.ref (a 0)), some (.int x1), some (.int x2), some (.int x3), some (.int x4), some (.int x5), some (.ref (a 86)), some (.ref (a 86)), some (.int r82)]) dX6_copy_85 (by decide) (Nat.le_of_ble_eq_true rfl) rfl rfl ?_
                refine G.iload dX6_copy_87 rfl ?_
                refine G.if_ge 95 dX6_copy_89 (by decide) (fun h89 => ?_) (fun h89 => ?_)
                · refine G.aload dX6_copy_95 rfl ?_
                  refine G.get fl_6_266 2 rfl rfl dX6_copy_97 ?_
                  refine G.iload_n dX6_copy_100 rfl ?_
                  refine G.aload dX6_copy_101 rfl ?_
                  refine G.get fl_6_266 2 rfl rfl dX6_copy_103 ?_
                  refine G.iload dX6_copy_106 rfl ?_
                  refine G.iload dX6_copy_108 rfl ?_
                  refine G.chk (fun h110 => ?_)
                  refine G.copyl (w' := (w_X6s cI cL cC cM cS a t_hasImage (va_up t_sheets_items 0 (va_cpy (t_sheets_items 0) (t_sheets_items 0) x2.toNatClampNeg x4.toNatClampNeg x5.toNatClampNeg)) t_sheets_lane t_sheets_size)) 3 3 1 1 lk_6_270 acn acs aci rfl rfl rfl rfl (cpok_1 h110) (cpok_2 h110) (cpok_3 h110) (cpok_4 h110) (cpok_5 h110) (by decide) (Nat.le_of_ble_eq_true rfl) rfl dX6_copy_110 ?_
                  refine G.iload dX6_copy_113 rfl ?_
                  exact G.iret rfl rfl dX6_copy_115
                · refine G.iload dX6_copy_92 rfl ?_
                  exact G.iret rfl rfl dX6_copy_94
            · refine G.bipush (-11) dX6_copy_48 (by decide) ?_
              exact G.iret rfl rfl dX6_copy_50
        · refine G.aaload 1 4 rfl rfl h29 (by rw [hj29]) dX6_copy_29 ?_
          refine G.astore (lv' := [some (.ref (a 0)), some (.int x1), some (.int x2), some (.int x3), some (.int x4), some (.int x5), some (.ref (a 86)), some (.ref (a 88)), none]) dX6_copy_30 (by decide) (Nat.le_of_ble_eq_true rfl) rfl rfl ?_
          refine G.aload dX6_copy_32 rfl ?_
          refine G.callV (st := []) (w' := fun r34 => (w_X6s cI cL cC cM cS a t_hasImage t_sheets_items t_sheets_lane t_sheets_size)) mv_X4_isMissing lk_6_256 (c_X4_isMissing l D ks cI cL cC cM cS (fun k => a (86 + k)) (t_sheets_items 0) (t_sheets_lane 0) (t_sheets_size 0)) [2, 3] [0, 1, 4, 5, 6, 7, 8, 9] [0, 1, 8, 9, 2, 3, 4, 5, 6, 7] rfl rfl rfl rfl (by decide +kernel) (fun _ => rfl) rfl (by decide) (Nat.le_of_ble_eq_true rfl) dX6_copy_34 (fun r34 => [.int r34]) (fun _ => rfl) (fun r34 _ => ?_)
          refine G.if_ne 48 dX6_copy_37 (by decide) (fun h37 => ?_) (fun h37 => ?_)
          · refine G.bipush (-11) dX6_copy_48 (by decide) ?_
            exact G.iret rfl rfl dX6_copy_50
          · refine G.aload dX6_copy_40 rfl ?_
            refine G.callV (st := []) (w' := fun r42 => (w_X6s cI cL cC cM cS a t_hasImage t_sheets_items t_sheets_lane t_sheets_size)) mv_X4_isMissing lk_6_256 (c_X4_isMissing l D ks cI cL cC cM cS (fun k => a (88 + k)) (t_sheets_items 1) (t_sheets_lane 1) (t_sheets_size 1)) [4, 5] [0, 1, 2, 3, 6, 7, 8, 9] [0, 1, 2, 3, 8, 9, 4, 5, 6, 7] rfl rfl rfl rfl (by decide +kernel) (fun _ => rfl) rfl (by decide) (Nat.le_of_ble_eq_true rfl) dX6_copy_42 (fun r42 => [.int r42]) (fun _ => rfl) (fun r42 _ => ?_)
            refine G.if_eq 51 dX6_copy_45 (by decide) (fun h45 => ?_) (fun h45 => ?_)
            · refine G.aload dX6_copy_51 rfl ?_
              refine G.aload dX6_copy_53 rfl ?_
              refine G.get fl_6_263 4 rfl rfl dX6_copy_55 ?_
              refine G.iload_n dX6_copy_58 rfl ?_
              refine G.iload dX6_copy_59 rfl ?_
              refine G.callV (st := []) (w' := fun r61 => (w_X6s cI cL cC cM cS a t_hasImage t_sheets_items t_sheets_lane t_sheets_size)) mv_X4_refusal lk_6_237 (c_X4_refusal l D ks cI cL cC cM cS (fun k => a (86 + k)) (t_sheets_items 0) (t_sheets_lane 0) (t_sheets_size 0) (t_sheets_lane 1) x2 x5) [2, 3] [0, 1, 4, 5, 6, 7, 8, 9] [0, 1, 8, 9, 2, 3, 4, 5, 6, 7] rfl rfl rfl rfl (by decide +kernel) (fun _ => rfl) rfl (by decide) (Nat.le_of_ble_eq_true rfl) dX6_copy_61 (fun r61 => [.int r61]) (fun _ => rfl) (fun r61 _ => ?_)
              refine G.istore (lv' := [some (.ref (a 0)), some (.int x1), some (.int x2), some (.int x3), some (.int x4), some (.int x5), some (.ref (a 86)), some (.ref (a 88)), some (.int r61)]) dX6_copy_64 (by decide) (Nat.le_of_ble_eq_true rfl) rfl rfl ?_
              refine G.iload dX6_copy_66 rfl ?_
              refine G.if_ne 87 dX6_copy_68 (by decide) (fun h68 => ?_) (fun h68 => ?_)
              · refine G.iload dX6_copy_87 rfl ?_
                refine G.if_ge 95 dX6_copy_89 (by decide) (fun h89 => ?_) (fun h89 => ?_)
                · refine G.aload dX6_copy_95 rfl ?_
                  refine G.get fl_6_266 2 rfl rfl dX6_copy_97 ?_
                  refine G.iload_n dX6_copy_100 rfl ?_
                  refine G.aload dX6_copy_101 rfl ?_
                  refine G.get fl_6_266 4 rfl rfl dX6_copy_103 ?_
                  refine G.iload dX6_copy_106 rfl ?_
                  refine G.iload dX6_copy_108 rfl ?_
                  refine G.chk (fun h110 => ?_)
                  refine G.copyl (w' := (w_X6s cI cL cC cM cS a t_hasImage (va_up t_sheets_items 1 (va_cpy (t_sheets_items 0) (t_sheets_items 1) x2.toNatClampNeg x4.toNatClampNeg x5.toNatClampNeg)) t_sheets_lane t_sheets_size)) 3 5 1 1 lk_6_270 acn acs aci rfl rfl rfl rfl (cpok_1 h110) (cpok_2 h110) (cpok_3 h110) (cpok_4 h110) (cpok_5 h110) (by decide) (Nat.le_of_ble_eq_true rfl) rfl dX6_copy_110 ?_
                  refine G.iload dX6_copy_113 rfl ?_
                  exact G.iret rfl rfl dX6_copy_115
                · refine G.iload dX6_copy_92 rfl ?_
                  exact G.iret rfl rfl dX6_copy_94
              · refine G.aload dX6_copy_71 rfl ?_
                refine G.aload dX6_copy_73 rfl ?_
                refine G.get fl_6_263 2 rfl rfl dX6_copy_75 ?_
                refine G.iload dX6_copy_78 rfl ?_
                refine G.iload dX6_copy_80 rfl ?_
                refine G.callV (st := []) (w' := fun r82 => (w_X6s cI cL cC cM cS a t_hasImage t_sheets_items t_sheets_lane t_sheets_size)) mv_X4_refusal lk_6_237 (c_X4_refusal l D ks cI cL cC cM cS (fun k => a (88 + k)) (t_sheets_items 1) (t_sheets_lane 1) (t_sheets_size 1) (t_sheets_lane 0) x4 x5) [4, 5] [0, 1, 2, 3, 6, 7, 8, 9] [0, 1, 2, 3, 8, 9, 4, 5, 6, 7] rfl rfl rfl rfl (by decide +kernel) (fun _ => rfl) rfl (by decide) (Nat.le_of_ble_eq_true rfl) dX6_copy_82 (fun r82 => [.int r82]) (fun _ => rfl) (fun r82 _ => ?_)
                refine G.istore (lv' := [some (.ref (a 0)), some (.int x1), some (.int x2), some (.int x3), some (.int x4), some (.int x5), some (.ref (a 86)), some (.ref (a 88)), some (.int r82)]) dX6_copy_85 (by decide) (Nat.le_of_ble_eq_true rfl) rfl rfl ?_
                refine G.iload dX6_copy_87 rfl ?_
                refine G.if_ge 95 dX6_copy_89 (by decide) (fun h89 => ?_) (fun h89 => ?_)
                · refine G.aload dX6_copy_95 rfl ?_
                  refine G.get fl_6_266 2 rfl rfl dX6_copy_97 ?_
                  refine G.iload_n dX6_copy_100 rfl ?_
                  refine G.aload dX6_copy_101 rfl ?_
                  refine G.get fl_6_266 4 rfl rfl dX6_copy_103 ?_
                  refine G.iload dX6_copy_106 rfl ?_
                  refine G.iload dX6_copy_108 rfl ?_
                  refine G.chk (fun h110 => ?_)
                  refine G.copyl (w' := (w_X6s cI cL cC cM cS a t_hasImage (va_up t_sheets_items 1 (va_cpy (t_sheets_items 0) (t_sheets_items 1) x2.toNatClampNeg x4.toNatClampNeg x5.toNatClampNeg)) t_sheets_lane t_sheets_size)) 3 5 1 1 lk_6_270 acn acs aci rfl rfl rfl rfl (cpok_1 h110) (cpok_2 h110) (cpok_3 h110) (cpok_4 h110) (cpok_5 h110) (by decide) (Nat.le_of_ble_eq_true rfl) rfl dX6_copy_110 ?_
                  refine G.iload dX6_copy_113 rfl ?_
                  exact G.iret rfl rfl dX6_copy_115
                · refine G.iload dX6_copy_92 rfl ?_
                  exact G.iret rfl rfl dX6_copy_94
            · refine G.bipush (-11) dX6_copy_48 (by decide) ?_
              exact G.iret rfl rfl dX6_copy_50
        · refine G.aaload 1 4 rfl rfl h29 (by rw [hj29]) dX6_copy_29 ?_
          refine G.astore (lv' := [some (.ref (a 0)), some (.int x1), some (.int x2), some (.int x3), some (.int x4), some (.int x5), some (.ref (a 86)), some (.ref (a 90)), none]) dX6_copy_30 (by decide) (Nat.le_of_ble_eq_true rfl) rfl rfl ?_
          refine G.aload dX6_copy_32 rfl ?_
          refine G.callV (st := []) (w' := fun r34 => (w_X6s cI cL cC cM cS a t_hasImage t_sheets_items t_sheets_lane t_sheets_size)) mv_X4_isMissing lk_6_256 (c_X4_isMissing l D ks cI cL cC cM cS (fun k => a (86 + k)) (t_sheets_items 0) (t_sheets_lane 0) (t_sheets_size 0)) [2, 3] [0, 1, 4, 5, 6, 7, 8, 9] [0, 1, 8, 9, 2, 3, 4, 5, 6, 7] rfl rfl rfl rfl (by decide +kernel) (fun _ => rfl) rfl (by decide) (Nat.le_of_ble_eq_true rfl) dX6_copy_34 (fun r34 => [.int r34]) (fun _ => rfl) (fun r34 _ => ?_)
          refine G.if_ne 48 dX6_copy_37 (by decide) (fun h37 => ?_) (fun h37 => ?_)
          · refine G.bipush (-11) dX6_copy_48 (by decide) ?_
            exact G.iret rfl rfl dX6_copy_50
          · refine G.aload dX6_copy_40 rfl ?_
            refine G.callV (st := []) (w' := fun r42 => (w_X6s cI cL cC cM cS a t_hasImage t_sheets_items t_sheets_lane t_sheets_size)) mv_X4_isMissing lk_6_256 (c_X4_isMissing l D ks cI cL cC cM cS (fun k => a (90 + k)) (t_sheets_items 2) (t_sheets_lane 2) (t_sheets_size 2)) [6, 7] [0, 1, 2, 3, 4, 5, 8, 9] [0, 1, 2, 3, 4, 5, 8, 9, 6, 7] rfl rfl rfl rfl (by decide +kernel) (fun _ => rfl) rfl (by decide) (Nat.le_of_ble_eq_true rfl) dX6_copy_42 (fun r42 => [.int r42]) (fun _ => rfl) (fun r42 _ => ?_)
            refine G.if_eq 51 dX6_copy_45 (by decide) (fun h45 => ?_) (fun h45 => ?_)
            · refine G.aload dX6_copy_51 rfl ?_
              refine G.aload dX6_copy_53 rfl ?_
              refine G.get fl_6_263 6 rfl rfl dX6_copy_55 ?_
              refine G.iload_n dX6_copy_58 rfl ?_
              refine G.iload dX6_copy_59 rfl ?_
              refine G.callV (st := []) (w' := fun r61 => (w_X6s cI cL cC cM cS a t_hasImage t_sheets_items t_sheets_lane t_sheets_size)) mv_X4_refusal lk_6_237 (c_X4_refusal l D ks cI cL cC cM cS (fun k => a (86 + k)) (t_sheets_items 0) (t_sheets_lane 0) (t_sheets_size 0) (t_sheets_lane 2) x2 x5) [2, 3] [0, 1, 4, 5, 6, 7, 8, 9] [0, 1, 8, 9, 2, 3, 4, 5, 6, 7] rfl rfl rfl rfl (by decide +kernel) (fun _ => rfl) rfl (by decide) (Nat.le_of_ble_eq_true rfl) dX6_copy_61 (fun r61 => [.int r61]) (fun _ => rfl) (fun r61 _ => ?_)
              refine G.istore (lv' := [some (.ref (a 0)), some (.int x1), some (.int x2), some (.int x3), some (.int x4), some (.int x5), some (.ref (a 86)), some (.ref (a 90)), some (.int r61)]) dX6_copy_64 (by decide) (Nat.le_of_ble_eq_true rfl) rfl rfl ?_
              refine G.iload dX6_copy_66 rfl ?_
              refine G.if_ne 87 dX6_copy_68 (by decide) (fun h68 => ?_) (fun h68 => ?_)
              · refine G.iload dX6_copy_87 rfl ?_
                refine G.if_ge 95 dX6_copy_89 (by decide) (fun h89 => ?_) (fun h89 => ?_)
                · refine G.aload dX6_copy_95 rfl ?_
                  refine G.get fl_6_266 2 rfl rfl dX6_copy_97 ?_
                  refine G.iload_n dX6_copy_100 rfl ?_
                  refine G.aload dX6_copy_101 rfl ?_
                  refine G.get fl_6_266 6 rfl rfl dX6_copy_103 ?_
                  refine G.iload dX6_copy_106 rfl ?_
                  refine G.iload dX6_copy_108 rfl ?_
                  refine G.chk (fun h110 => ?_)
                  refine G.copyl (w' := (w_X6s cI cL cC cM cS a t_hasImage (va_up t_sheets_items 2 (va_cpy (t_sheets_items 0) (t_sheets_items 2) x2.toNatClampNeg x4.toNatClampNeg x5.toNatClampNeg)) t_sheets_lane t_sheets_size)) 3 7 1 1 lk_6_270 acn acs aci rfl rfl rfl rfl (cpok_1 h110) (cpok_2 h110) (cpok_3 h110) (cpok_4 h110) (cpok_5 h110) (by decide) (Nat.le_of_ble_eq_true rfl) rfl dX6_copy_110 ?_
                  refine G.iload dX6_copy_113 rfl ?_
                  exact G.iret rfl rfl dX6_copy_115
                · refine G.iload dX6_copy_92 rfl ?_
                  exact G.iret rfl rfl dX6_copy_94
              · refine G.aload dX6_copy_71 rfl ?_
                refine G.aload dX6_copy_73 rfl ?_
                refine G.get fl_6_263 2 rfl rfl dX6_copy_75 ?_
                refine G.iload dX6_copy_78 rfl ?_
                refine G.iload dX6_copy_80 rfl ?_
                refine G.callV (st := []) (w' := fun r82 => (w_X6s cI cL cC cM cS a t_hasImage t_sheets_items t_sheets_lane t_sheets_size)) mv_X4_refusal lk_6_237 (c_X4_refusal l D ks cI cL cC cM cS (fun k => a (90 + k)) (t_sheets_items 2) (t_sheets_lane 2) (t_sheets_size 2) (t_sheets_lane 0) x4 x5) [6, 7] [0, 1, 2, 3, 4, 5, 8, 9] [0, 1, 2, 3, 4, 5, 8, 9, 6, 7] rfl rfl rfl rfl (by decide +kernel) (fun _ => rfl) rfl (by decide) (Nat.le_of_ble_eq_true rfl) dX6_copy_82 (fun r82 => [.int r82]) (fun _ => rfl) (fun r82 _ => ?_)
                refine G.istore (lv' := [some (.ref (a 0)), some (.int x1), some (.int x2), some (.int x3), some (.int x4), some (.int x5), some (.ref (a 86)), some (.ref (a 90)), some (.int r82)]) dX6_copy_85 (by decide) (Nat.le_of_ble_eq_true rfl) rfl rfl ?_
                refine G.iload dX6_copy_87 rfl ?_
                refine G.if_ge 95 dX6_copy_89 (by decide) (fun h89 => ?_) (fun h89 => ?_)
                · refine G.aload dX6_copy_95 rfl ?_
                  refine G.get fl_6_266 2 rfl rfl dX6_copy_97 ?_
                  refine G.iload_n dX6_copy_100 rfl ?_
                  refine G.aload dX6_copy_101 rfl ?_
                  refine G.get fl_6_266 6 rfl rfl dX6_copy_103 ?_
                  refine G.iload dX6_copy_106 rfl ?_
                  refine G.iload dX6_copy_108 rfl ?_
                  refine G.chk (fun h110 => ?_)
                  refine G.copyl (w' := (w_X6s cI cL cC cM cS a t_hasImage (va_up t_sheets_items 2 (va_cpy (t_sheets_items 0) (t_sheets_items 2) x2.toNatClampNeg x4.toNatClampNeg x5.toNatClampNeg)) t_sheets_lane t_sheets_size)) 3 7 1 1 lk_6_270 acn acs aci rfl rfl rfl rfl (cpok_1 h110) (cpok_2 h110) (cpok_3 h110) (cpok_4 h110) (cpok_5 h110) (by decide) (Nat.le_of_ble_eq_true rfl) rfl dX6_copy_110 ?_
                  refine G.iload dX6_copy_113 rfl ?_
                  exact G.iret rfl rfl dX6_copy_115
                · refine G.iload dX6_copy_92 rfl ?_
                  exact G.iret rfl rfl dX6_copy_94
            · refine G.bipush (-11) dX6_copy_48 (by decide) ?_
              exact G.iret rfl rfl dX6_copy_50
        · refine G.aaload 1 4 rfl rfl h29 (by rw [hj29]) dX6_copy_29 ?_
          refine G.astore (lv' := [some (.ref (a 0)), some (.int x1), some (.int x2), some (.int x3), some (.int x4), some (.int x5), some (.ref (a 86)), some (.ref (a 92)), none]) dX6_copy_30 (by decide) (Nat.le_of_ble_eq_true rfl) rfl rfl ?_
          refine G.aload dX6_copy_32 rfl ?_
          refine G.callV (st := []) (w' := fun r34 => (w_X6s cI cL cC cM cS a t_hasImage t_sheets_items t_sheets_lane t_sheets_size)) mv_X4_isMissing lk_6_256 (c_X4_isMissing l D ks cI cL cC cM cS (fun k => a (86 + k)) (t_sheets_items 0) (t_sheets_lane 0) (t_sheets_size 0)) [2, 3] [0, 1, 4, 5, 6, 7, 8, 9] [0, 1, 8, 9, 2, 3, 4, 5, 6, 7] rfl rfl rfl rfl (by decide +kernel) (fun _ => rfl) rfl (by decide) (Nat.le_of_ble_eq_true rfl) dX6_copy_34 (fun r34 => [.int r34]) (fun _ => rfl) (fun r34 _ => ?_)
          refine G.if_ne 48 dX6_copy_37 (by decide) (fun h37 => ?_) (fun h37 => ?_)
          · refine G.bipush (-11) dX6_copy_48 (by decide) ?_
            exact G.iret rfl rfl dX6_copy_50
          · refine G.aload dX6_copy_40 rfl ?_
            refine G.callV (st := []) (w' := fun r42 => (w_X6s cI cL cC cM cS a t_hasImage t_sheets_items t_sheets_lane t_sheets_size)) mv_X4_isMissing lk_6_256 (c_X4_isMissing l D ks cI cL cC cM cS (fun k => a (92 + k)) (t_sheets_items 3) (t_sheets_lane 3) (t_sheets_size 3)) [8, 9] [0, 1, 2, 3, 4, 5, 6, 7] [0, 1, 2, 3, 4, 5, 6, 7, 8, 9] rfl rfl rfl rfl (by decide +kernel) (fun _ => rfl) rfl (by decide) (Nat.le_of_ble_eq_true rfl) dX6_copy_42 (fun r42 => [.int r42]) (fun _ => rfl) (fun r42 _ => ?_)
            refine G.if_eq 51 dX6_copy_45 (by decide) (fun h45 => ?_) (fun h45 => ?_)
            · refine G.aload dX6_copy_51 rfl ?_
              refine G.aload dX6_copy_53 rfl ?_
              refine G.get fl_6_263 8 rfl rfl dX6_copy_55 ?_
              refine G.iload_n dX6_copy_58 rfl ?_
              refine G.iload dX6_copy_59 rfl ?_
              refine G.callV (st := []) (w' := fun r61 => (w_X6s cI cL cC cM cS a t_hasImage t_sheets_items t_sheets_lane t_sheets_size)) mv_X4_refusal lk_6_237 (c_X4_refusal l D ks cI cL cC cM cS (fun k => a (86 + k)) (t_sheets_items 0) (t_sheets_lane 0) (t_sheets_size 0) (t_sheets_lane 3) x2 x5) [2, 3] [0, 1, 4, 5, 6, 7, 8, 9] [0, 1, 8, 9, 2, 3, 4, 5, 6, 7] rfl rfl rfl rfl (by decide +kernel) (fun _ => rfl) rfl (by decide) (Nat.le_of_ble_eq_true rfl) dX6_copy_61 (fun r61 => [.int r61]) (fun _ => rfl) (fun r61 _ => ?_)
              refine G.istore (lv' := [some (.ref (a 0)), some (.int x1), some (.int x2), some (.int x3), some (.int x4), some (.int x5), some (.ref (a 86)), some (.ref (a 92)), some (.int r61)]) dX6_copy_64 (by decide) (Nat.le_of_ble_eq_true rfl) rfl rfl ?_
              refine G.iload dX6_copy_66 rfl ?_
              refine G.if_ne 87 dX6_copy_68 (by decide) (fun h68 => ?_) (fun h68 => ?_)
              · refine G.iload dX6_copy_87 rfl ?_
                refine G.if_ge 95 dX6_copy_89 (by decide) (fun h89 => ?_) (fun h89 => ?_)
                · refine G.aload dX6_copy_95 rfl ?_
                  refine G.get fl_6_266 2 rfl rfl dX6_copy_97 ?_
                  refine G.iload_n dX6_copy_100 rfl ?_
                  refine G.aload dX6_copy_101 rfl ?_
                  refine G.get fl_6_266 8 rfl rfl dX6_copy_103 ?_
                  refine G.iload dX6_copy_106 rfl ?_
                  refine G.iload dX6_copy_108 rfl ?_
                  refine G.chk (fun h110 => ?_)
                  refine G.copyl (w' := (w_X6s cI cL cC cM cS a t_hasImage (va_up t_sheets_items 3 (va_cpy (t_sheets_items 0) (t_sheets_items 3) x2.toNatClampNeg x4.toNatClampNeg x5.toNatClampNeg)) t_sheets_lane t_sheets_size)) 3 9 1 1 lk_6_270 acn acs aci rfl rfl rfl rfl (cpok_1 h110) (cpok_2 h110) (cpok_3 h110) (cpok_4 h110) (cpok_5 h110) (by decide) (Nat.le_of_ble_eq_true rfl) rfl dX6_copy_110 ?_
                  refine G.iload dX6_copy_113 rfl ?_
                  exact G.iret rfl rfl dX6_copy_115
                · refine G.iload dX6_copy_92 rfl ?_
                  exact G.iret rfl rfl dX6_copy_94
              · refine G.aload dX6_copy_71 rfl ?_
                refine G.aload dX6_copy_73 rfl ?_
                refine G.get fl_6_263 2 rfl rfl dX6_copy_75 ?_
                refine G.iload dX6_copy_78 rfl ?_
                refine G.iload dX6_copy_80 rfl ?_
                refine G.callV (st := []) (w' := fun r82 => (w_X6s cI cL cC cM cS a t_hasImage t_sheets_items t_sheets_lane t_sheets_size)) mv_X4_refusal lk_6_237 (c_X4_refusal l D ks cI cL cC cM cS (fun k => a (92 + k)) (t_sheets_items 3) (t_sheets_lane 3) (t_sheets_size 3) (t_sheets_lane 0) x4 x5) [8, 9] [0, 1, 2, 3, 4, 5, 6, 7] [0, 1, 2, 3, 4, 5, 6, 7, 8, 9] rfl rfl rfl rfl (by decide +kernel) (fun _ => rfl) rfl (by decide) (Nat.le_of_ble_eq_true rfl) dX6_copy_82 (fun r82 => [.int r82]) (fun _ => rfl) (fun r82 _ => ?_)
                refine G.istore (lv' := [some (.ref (a 0)), some (.int x1), some (.int x2), some (.int x3), some (.int x4), some (.int x5), some (.ref (a 86)), some (.ref (a 92)), some (.int r82)]) dX6_copy_85 (by decide) (Nat.le_of_ble_eq_true rfl) rfl rfl ?_
                refine G.iload dX6_copy_87 rfl ?_
                refine G.if_ge 95 dX6_copy_89 (by decide) (fun h89 => ?_) (fun h89 => ?_)
                · refine G.aload dX6_copy_95 rfl ?_
                  refine G.get fl_6_266 2 rfl rfl dX6_copy_97 ?_
                  refine G.iload_n dX6_copy_100 rfl ?_
                  refine G.aload dX6_copy_101 rfl ?_
                  refine G.get fl_6_266 8 rfl rfl dX6_copy_103 ?_
                  refine G.iload dX6_copy_106 rfl ?_
                  refine G.iload dX6_copy_108 rfl ?_
                  refine G.chk (fun h110 => ?_)
                  refine G.copyl (w' := (w_X6s cI cL cC cM cS a t_hasImage (va_up t_sheets_items 3 (va_cpy (t_sheets_items 0) (t_sheets_items 3) x2.toNatClampNeg x4.toNatClampNeg x5.toNatClampNeg)) t_sheets_lane t_sheets_size)) 3 9 1 1 lk_6_270 acn acs aci rfl rfl rfl rfl (cpok_1 h110) (cpok_2 h110) (cpok_3 h110) (cpok_4 h110) (cpok_5 h110) (by decide) (Nat.le_of_ble_eq_true rfl) rfl dX6_copy_110 ?_
                  refine G.iload dX6_copy_113 rfl ?_
                  exact G.iret rfl rfl dX6_copy_115
                · refine G.iload dX6_copy_92 rfl ?_
                  exact G.iret rfl rfl dX6_copy_94
            · refine G.bipush (-11) dX6_copy_48 (by decide) ?_
              exact G.iret rfl rfl dX6_copy_50
      · refine G.aaload 1 4 rfl rfl h21 (by rw [hj21]) dX6_copy_21 ?_
        refine G.astore (lv' := [some (.ref (a 0)), some (.int x1), some (.int x2), some (.int x3), some (.int x4), some (.int x5), some (.ref (a 88)), none, none]) dX6_copy_22 (by decide) (Nat.le_of_ble_eq_true rfl) rfl rfl ?_
        refine G.aload_n dX6_copy_24 rfl ?_
        refine G.get fl_6_48 0 rfl rfl dX6_copy_25 ?_
        refine G.iload_n dX6_copy_28 rfl ?_
        refine G.chk (fun h29 => ?_)
        have hl29 := inb_lt h29
        generalize hj29 : x3.toNatClampNeg = j29 at hl29 ⊢
        rcases g_or4 hl29 with rfl | rfl | rfl | rfl
        · refine G.aaload 1 4 rfl rfl h29 (by rw [hj29]) dX6_copy_29 ?_
          refine G.astore (lv' := [some (.ref (a 0)), some (.int x1), some (.int x2), some (.int x3), some (.int x4), some (.int x5), some (.ref (a 88)), some (.ref (a 86)), none]) dX6_copy_30 (by decide) (Nat.le_of_ble_eq_true rfl) rfl rfl ?_
          refine G.aload dX6_copy_32 rfl ?_
          refine G.callV (st := []) (w' := fun r34 => (w_X6s cI cL cC cM cS a t_hasImage t_sheets_items t_sheets_lane t_sheets_size)) mv_X4_isMissing lk_6_256 (c_X4_isMissing l D ks cI cL cC cM cS (fun k => a (88 + k)) (t_sheets_items 1) (t_sheets_lane 1) (t_sheets_size 1)) [4, 5] [0, 1, 2, 3, 6, 7, 8, 9] [0, 1, 2, 3, 8, 9, 4, 5, 6, 7] rfl rfl rfl rfl (by decide +kernel) (fun _ => rfl) rfl (by decide) (Nat.le_of_ble_eq_true rfl) dX6_copy_34 (fun r34 => [.int r34]) (fun _ => rfl) (fun r34 _ => ?_)
          refine G.if_ne 48 dX6_copy_37 (by decide) (fun h37 => ?_) (fun h37 => ?_)
          · refine G.bipush (-11) dX6_copy_48 (by decide) ?_
            exact G.iret rfl rfl dX6_copy_50
          · refine G.aload dX6_copy_40 rfl ?_
            refine G.callV (st := []) (w' := fun r42 => (w_X6s cI cL cC cM cS a t_hasImage t_sheets_items t_sheets_lane t_sheets_size)) mv_X4_isMissing lk_6_256 (c_X4_isMissing l D ks cI cL cC cM cS (fun k => a (86 + k)) (t_sheets_items 0) (t_sheets_lane 0) (t_sheets_size 0)) [2, 3] [0, 1, 4, 5, 6, 7, 8, 9] [0, 1, 8, 9, 2, 3, 4, 5, 6, 7] rfl rfl rfl rfl (by decide +kernel) (fun _ => rfl) rfl (by decide) (Nat.le_of_ble_eq_true rfl) dX6_copy_42 (fun r42 => [.int r42]) (fun _ => rfl) (fun r42 _ => ?_)
            refine G.if_eq 51 dX6_copy_45 (by decide) (fun h45 => ?_) (fun h45 => ?_)
            · refine G.aload dX6_copy_51 rfl ?_
              refine G.aload dX6_copy_53 rfl ?_
              refine G.get fl_6_263 2 rfl rfl dX6_copy_55 ?_
              refine G.iload_n dX6_copy_58 rfl ?_
              refine G.iload dX6_copy_59 rfl ?_
              refine G.callV (st := []) (w' := fun r61 => (w_X6s cI cL cC cM cS a t_hasImage t_sheets_items t_sheets_lane t_sheets_size)) mv_X4_refusal lk_6_237 (c_X4_refusal l D ks cI cL cC cM cS (fun k => a (88 + k)) (t_sheets_items 1) (t_sheets_lane 1) (t_sheets_size 1) (t_sheets_lane 0) x2 x5) [4, 5] [0, 1, 2, 3, 6, 7, 8, 9] [0, 1, 2, 3, 8, 9, 4, 5, 6, 7] rfl rfl rfl rfl (by decide +kernel) (fun _ => rfl) rfl (by decide) (Nat.le_of_ble_eq_true rfl) dX6_copy_61 (fun r61 => [.int r61]) (fun _ => rfl) (fun r61 _ => ?_)
              refine G.istore (lv' := [some (.ref (a 0)), some (.int x1), some (.int x2), some (.int x3), some (.int x4), some (.int x5), some (.ref (a 88)), some (.ref (a 86)), some (.int r61)]) dX6_copy_64 (by decide) (Nat.le_of_ble_eq_true rfl) rfl rfl ?_
              refine G.iload dX6_copy_66 rfl ?_
              refine G.if_ne 87 dX6_copy_68 (by decide) (fun h68 => ?_) (fun h68 => ?_)
              · refine G.iload dX6_copy_87 rfl ?_
                refine G.if_ge 95 dX6_copy_89 (by decide) (fun h89 => ?_) (fun h89 => ?_)
                · refine G.aload dX6_copy_95 rfl ?_
                  refine G.get fl_6_266 4 rfl rfl dX6_copy_97 ?_
                  refine G.iload_n dX6_copy_100 rfl ?_
                  refine G.aload dX6_copy_101 rfl ?_
                  refine G.get fl_6_266 2 rfl rfl dX6_copy_103 ?_
                  refine G.iload dX6_copy_106 rfl ?_
                  refine G.iload dX6_copy_108 rfl ?_
                  refine G.chk (fun h110 => ?_)
                  refine G.copyl (w' := (w_X6s cI cL cC cM cS a t_hasImage (va_up t_sheets_items 0 (va_cpy (t_sheets_items 1) (t_sheets_items 0) x2.toNatClampNeg x4.toNatClampNeg x5.toNatClampNeg)) t_sheets_lane t_sheets_size)) 5 3 1 1 lk_6_270 acn acs aci rfl rfl rfl rfl (cpok_1 h110) (cpok_2 h110) (cpok_3 h110) (cpok_4 h110) (cpok_5 h110) (by decide) (Nat.le_of_ble_eq_true rfl) rfl dX6_copy_110 ?_
                  refine G.iload dX6_copy_113 rfl ?_
                  exact G.iret rfl rfl dX6_copy_115
                · refine G.iload dX6_copy_92 rfl ?_
                  exact G.iret rfl rfl dX6_copy_94
              · refine G.aload dX6_copy_71 rfl ?_
                refine G.aload dX6_copy_73 rfl ?_
                refine G.get fl_6_263 4 rfl rfl dX6_copy_75 ?_
                refine G.iload dX6_copy_78 rfl ?_
                refine G.iload dX6_copy_80 rfl ?_
                refine G.callV (st := []) (w' := fun r82 => (w_X6s cI cL cC cM cS a t_hasImage t_sheets_items t_sheets_lane t_sheets_size)) mv_X4_refusal lk_6_237 (c_X4_refusal l D ks cI cL cC cM cS (fun k => a (86 + k)) (t_sheets_items 0) (t_sheets_lane 0) (t_sheets_size 0) (t_sheets_lane 1) x4 x5) [2, 3] [0, 1, 4, 5, 6, 7, 8, 9] [0, 1, 8, 9, 2, 3, 4, 5, 6, 7] rfl rfl rfl rfl (by decide +kernel) (fun _ => rfl) rfl (by decide) (Nat.le_of_ble_eq_true rfl) dX6_copy_82 (fun r82 => [.int r82]) (fun _ => rfl) (fun r82 _ => ?_)
                refine G.istore (lv' := [some (.ref (a 0)), some (.int x1), some (.int x2), some (.int x3), some (.int x4), some (.int x5), some (.ref (a 88)), some (.ref (a 86)), some (.int r82)]) dX6_copy_85 (by decide) (Nat.le_of_ble_eq_true rfl) rfl rfl ?_
                refine G.iload dX6_copy_87 rfl ?_
                refine G.if_ge 95 dX6_copy_89 (by decide) (fun h89 => ?_) (fun h89 => ?_)
                · refine G.aload dX6_copy_95 rfl ?_
                  refine G.get fl_6_266 4 rfl rfl dX6_copy_97 ?_
                  refine G.iload_n dX6_copy_100 rfl ?_
                  refine G.aload dX6_copy_101 rfl ?_
                  refine G.get fl_6_266 2 rfl rfl dX6_copy_103 ?_
                  refine G.iload dX6_copy_106 rfl ?_
                  refine G.iload dX6_copy_108 rfl ?_
                  refine G.chk (fun h110 => ?_)
                  refine G.copyl (w' := (w_X6s cI cL cC cM cS a t_hasImage (va_up t_sheets_items 0 (va_cpy (t_sheets_items 1) (t_sheets_items 0) x2.toNatClampNeg x4.toNatClampNeg x5.toNatClampNeg)) t_sheets_lane t_sheets_size)) 5 3 1 1 lk_6_270 acn acs aci rfl rfl rfl rfl (cpok_1 h110) (cpok_2 h110) (cpok_3 h110) (cpok_4 h110) (cpok_5 h110) (by decide) (Nat.le_of_ble_eq_true rfl) rfl dX6_copy_110 ?_
                  refine G.iload dX6_copy_113 rfl ?_
                  exact G.iret rfl rfl dX6_copy_115
                · refine G.iload dX6_copy_92 rfl ?_
                  exact G.iret rfl rfl dX6_copy_94
            · refine G.bipush (-11) dX6_copy_48 (by decide) ?_
              exact G.iret rfl rfl dX6_copy_50
        · refine G.aaload 1 4 rfl rfl h29 (by rw [hj29]) dX6_copy_29 ?_
          refine G.astore (lv' := [some (.ref (a 0)), some (.int x1), some (.int x2), some (.int x3), some (.int x4), some (.int x5), some (.ref (a 88)), some (.ref (a 88)), none]) dX6_copy_30 (by decide) (Nat.le_of_ble_eq_true rfl) rfl rfl ?_
          refine G.aload dX6_copy_32 rfl ?_
          refine G.callV (st := []) (w' := fun r34 => (w_X6s cI cL cC cM cS a t_hasImage t_sheets_items t_sheets_lane t_sheets_size)) mv_X4_isMissing lk_6_256 (c_X4_isMissing l D ks cI cL cC cM cS (fun k => a (88 + k)) (t_sheets_items 1) (t_sheets_lane 1) (t_sheets_size 1)) [4, 5] [0, 1, 2, 3, 6, 7, 8, 9] [0, 1, 2, 3, 8, 9, 4, 5, 6, 7] rfl rfl rfl rfl (by decide +kernel) (fun _ => rfl) rfl (by decide) (Nat.le_of_ble_eq_true rfl) dX6_copy_34 (fun r34 => [.int r34]) (fun _ => rfl) (fun r34 _ => ?_)
          refine G.if_ne 48 dX6_copy_37 (by decide) (fun h37 => ?_) (fun h37 => ?_)
          · refine G.bipush (-11) dX6_copy_48 (by decide) ?_
            exact G.iret rfl rfl dX6_copy_50
          · refine G.aload dX6_copy_40 rfl ?_
            refine G.callV (st := []) (w' := fun r42 => (w_X6s cI cL cC cM cS a t_hasImage t_sheets_items t_sheets_lane t_sheets_size)) mv_X4_isMissing lk_6_256 (c_X4_isMissing l D ks cI cL cC cM cS (fun k => a (88 + k)) (t_sheets_items 1) (t_sheets_lane 1) (t_sheets_size 1)) [4, 5] [0, 1, 2, 3, 6, 7, 8, 9] [0, 1, 2, 3, 8, 9, 4, 5, 6, 7] rfl rfl rfl rfl (by decide +kernel) (fun _ => rfl) rfl (by decide) (Nat.le_of_ble_eq_true rfl) dX6_copy_42 (fun r42 => [.int r42]) (fun _ => rfl) (fun r42 _ => ?_)
            refine G.if_eq 51 dX6_copy_45 (by decide) (fun h45 => ?_) (fun h45 => ?_)
            · refine G.aload dX6_copy_51 rfl ?_
              refine G.aload dX6_copy_53 rfl ?_
              refine G.get fl_6_263 4 rfl rfl dX6_copy_55 ?_
              refine G.iload_n dX6_copy_58 rfl ?_
              refine G.iload dX6_copy_59 rfl ?_
              refine G.callV (st := []) (w' := fun r61 => (w_X6s cI cL cC cM cS a t_hasImage t_sheets_items t_sheets_lane t_sheets_size)) mv_X4_refusal lk_6_237 (c_X4_refusal l D ks cI cL cC cM cS (fun k => a (88 + k)) (t_sheets_items 1) (t_sheets_lane 1) (t_sheets_size 1) (t_sheets_lane 1) x2 x5) [4, 5] [0, 1, 2, 3, 6, 7, 8, 9] [0, 1, 2, 3, 8, 9, 4, 5, 6, 7] rfl rfl rfl rfl (by decide +kernel) (fun _ => rfl) rfl (by decide) (Nat.le_of_ble_eq_true rfl) dX6_copy_61 (fun r61 => [.int r61]) (fun _ => rfl) (fun r61 _ => ?_)
              refine G.istore (lv' := [some (.ref (a 0)), some (.int x1), some (.int x2), some (.int x3), some (.int x4), some (.int x5), some (.ref (a 88)), some (.ref (a 88)), some (.int r61)]) dX6_copy_64 (by decide) (Nat.le_of_ble_eq_true rfl) rfl rfl ?_
              refine G.iload dX6_copy_66 rfl ?_
              refine G.if_ne 87 dX6_copy_68 (by decide) (fun h68 => ?_) (fun h68 => ?_)
              · refine G.iload dX6_copy_87 rfl ?_
                refine G.if_ge 95 dX6_copy_89 (by decide) (fun h89 => ?_) (fun h89 => ?_)
                · refine G.aload dX6_copy_95 rfl ?_
                  refine G.get fl_6_266 4 rfl rfl dX6_copy_97 ?_
                  refine G.iload_n dX6_copy_100 rfl ?_
                  refine G.aload dX6_copy_101 rfl ?_
                  refine G.get fl_6_266 4 rfl rfl dX6_copy_103 ?_
                  refine G.iload dX6_copy_106 rfl ?_
                  refine G.iload dX6_copy_108 rfl ?_
                  refine G.chk (fun h110 => ?_)
                  refine G.copyl (w' := (w_X6s cI cL cC cM cS a t_hasImage (va_up t_sheets_items 1 (va_cpy (t_sheets_items 1) (t_sheets_items 1) x2.toNatClampNeg x4.toNatClampNeg x5.toNatClampNeg)) t_sheets_lane t_sheets_size)) 5 5 1 1 lk_6_270 acn acs aci rfl rfl rfl rfl (cpok_1 h110) (cpok_2 h110) (cpok_3 h110) (cpok_4 h110) (cpok_5 h110) (by decide) (Nat.le_of_ble_eq_true rfl) rfl dX6_copy_110 ?_
                  refine G.iload dX6_copy_113 rfl ?_
                  exact G.iret rfl rfl dX6_copy_115
                · refine G.iload dX6_copy_92 rfl ?_
                  exact G.iret rfl rfl dX6_copy_94
              · refine G.aload dX6_copy_71 rfl ?_
                refine G.aload dX6_copy_73 rfl ?_
                refine G.get fl_6_263 4 rfl rfl dX6_copy_75 ?_
                refine G.iload dX6_copy_78 rfl ?_
                refine G.iload dX6_copy_80 rfl ?_
                refine G.callV (st := []) (w' := fun r82 => (w_X6s cI cL cC cM cS a t_hasImage t_sheets_items t_sheets_lane t_sheets_size)) mv_X4_refusal lk_6_237 (c_X4_refusal l D ks cI cL cC cM cS (fun k => a (88 + k)) (t_sheets_items 1) (t_sheets_lane 1) (t_sheets_size 1) (t_sheets_lane 1) x4 x5) [4, 5] [0, 1, 2, 3, 6, 7, 8, 9] [0, 1, 2, 3, 8, 9, 4, 5, 6, 7] rfl rfl rfl rfl (by decide +kernel) (fun _ => rfl) rfl (by decide) (Nat.le_of_ble_eq_true rfl) dX6_copy_82 (fun r82 => [.int r82]) (fun _ => rfl) (fun r82 _ => ?_)
                refine G.istore (lv' := [some (.ref (a 0)), some (.int x1), some (.int x2), some (.int x3), some (.int x4), some (.int x5), some (.ref (a 88)), some (.ref (a 88)), some (.int r82)]) dX6_copy_85 (by decide) (Nat.le_of_ble_eq_true rfl) rfl rfl ?_
                refine G.iload dX6_copy_87 rfl ?_
                refine G.if_ge 95 dX6_copy_89 (by decide) (fun h89 => ?_) (fun h89 => ?_)
                · refine G.aload dX6_copy_95 rfl ?_
                  refine G.get fl_6_266 4 rfl rfl dX6_copy_97 ?_
                  refine G.iload_n dX6_copy_100 rfl ?_
                  refine G.aload dX6_copy_101 rfl ?_
                  refine G.get fl_6_266 4 rfl rfl dX6_copy_103 ?_
                  refine G.iload dX6_copy_106 rfl ?_
                  refine G.iload dX6_copy_108 rfl ?_
                  refine G.chk (fun h110 => ?_)
                  refine G.copyl (w' := (w_X6s cI cL cC cM cS a t_hasImage (va_up t_sheets_items 1 (va_cpy (t_sheets_items 1) (t_sheets_items 1) x2.toNatClampNeg x4.toNatClampNeg x5.toNatClampNeg)) t_sheets_lane t_sheets_size)) 5 5 1 1 lk_6_270 acn acs aci rfl rfl rfl rfl (cpok_1 h110) (cpok_2 h110) (cpok_3 h110) (cpok_4 h110) (cpok_5 h110) (by decide) (Nat.le_of_ble_eq_true rfl) rfl dX6_copy_110 ?_
                  refine G.iload dX6_copy_113 rfl ?_
                  exact G.iret rfl rfl dX6_copy_115
                · refine G.iload dX6_copy_92 rfl ?_
                  exact G.iret rfl rfl dX6_copy_94
            · refine G.bipush (-11) dX6_copy_48 (by decide) ?_
              exact G.iret rfl rfl dX6_copy_50
        · refine G.aaload 1 4 rfl rfl h29 (by rw [hj29]) dX6_copy_29 ?_
          refine G.astore (lv' := [some (.ref (a 0)), some (.int x1), some (.int x2), some (.int x3), some (.int x4), some (.int x5), some (.ref (a 88)), some (.ref (a 90)), none]) dX6_copy_30 (by decide) (Nat.le_of_ble_eq_true rfl) rfl rfl ?_
          refine G.aload dX6_copy_32 rfl ?_
          refine G.callV (st := []) (w' := fun r34 => (w_X6s cI cL cC cM cS a t_hasImage t_sheets_items t_sheets_lane t_sheets_size)) mv_X4_isMissing lk_6_256 (c_X4_isMissing l D ks cI cL cC cM cS (fun k => a (88 + k)) (t_sheets_items 1) (t_sheets_lane 1) (t_sheets_size 1)) [4, 5] [0, 1, 2, 3, 6, 7, 8, 9] [0, 1, 2, 3, 8, 9, 4, 5, 6, 7] rfl rfl rfl rfl (by decide +kernel) (fun _ => rfl) rfl (by decide) (Nat.le_of_ble_eq_true rfl) dX6_copy_34 (fun r34 => [.int r34]) (fun _ => rfl) (fun r34 _ => ?_)
          refine G.if_ne 48 dX6_copy_37 (by decide) (fun h37 => ?_) (fun h37 => ?_)
          · refine G.bipush (-11) dX6_copy_48 (by decide) ?_
            exact G.iret rfl rfl dX6_copy_50
          · refine G.aload dX6_copy_40 rfl ?_
            refine G.callV (st := []) (w' := fun r42 => (w_X6s cI cL cC cM cS a t_hasImage t_sheets_items t_sheets_lane t_sheets_size)) mv_X4_isMissing lk_6_256 (c_X4_isMissing l D ks cI cL cC cM cS (fun k => a (90 + k)) (t_sheets_items 2) (t_sheets_lane 2) (t_sheets_size 2)) [6, 7] [0, 1, 2, 3, 4, 5, 8, 9] [0, 1, 2, 3, 4, 5, 8, 9, 6, 7] rfl rfl rfl rfl (by decide +kernel) (fun _ => rfl) rfl (by decide) (Nat.le_of_ble_eq_true rfl) dX6_copy_42 (fun r42 => [.int r42]) (fun _ => rfl) (fun r42 _ => ?_)
            refine G.if_eq 51 dX6_copy_45 (by decide) (fun h45 => ?_) (fun h45 => ?_)
            · refine G.aload dX6_copy_51 rfl ?_
              refine G.aload dX6_copy_53 rfl ?_
              refine G.get fl_6_263 6 rfl rfl dX6_copy_55 ?_
              refine G.iload_n dX6_copy_58 rfl ?_
              refine G.iload dX6_copy_59 rfl ?_
              refine G.callV (st := []) (w' := fun r61 => (w_X6s cI cL cC cM cS a t_hasImage t_sheets_items t_sheets_lane t_sheets_size)) mv_X4_refusal lk_6_237 (c_X4_refusal l D ks cI cL cC cM cS (fun k => a (88 + k)) (t_sheets_items 1) (t_sheets_lane 1) (t_sheets_size 1) (t_sheets_lane 2) x2 x5) [4, 5] [0, 1, 2, 3, 6, 7, 8, 9] [0, 1, 2, 3, 8, 9, 4, 5, 6, 7] rfl rfl rfl rfl (by decide +kernel) (fun _ => rfl) rfl (by decide) (Nat.le_of_ble_eq_true rfl) dX6_copy_61 (fun r61 => [.int r61]) (fun _ => rfl) (fun r61 _ => ?_)
              refine G.istore (lv' := [some (.ref (a 0)), some (.int x1), some (.int x2), some (.int x3), some (.int x4), some (.int x5), some (.ref (a 88)), some (.ref (a 90)), some (.int r61)]) dX6_copy_64 (by decide) (Nat.le_of_ble_eq_true rfl) rfl rfl ?_
              refine G.iload dX6_copy_66 rfl ?_
              refine G.if_ne 87 dX6_copy_68 (by decide) (fun h68 => ?_) (fun h68 => ?_)
              · refine G.iload dX6_copy_87 rfl ?_
                refine G.if_ge 95 dX6_copy_89 (by decide) (fun h89 => ?_) (fun h89 => ?_)
                · refine G.aload dX6_copy_95 rfl ?_
                  refine G.get fl_6_266 4 rfl rfl dX6_copy_97 ?_
                  refine G.iload_n dX6_copy_100 rfl ?_
                  refine G.aload dX6_copy_101 rfl ?_
                  refine G.get fl_6_266 6 rfl rfl dX6_copy_103 ?_
                  refine G.iload dX6_copy_106 rfl ?_
                  refine G.iload dX6_copy_108 rfl ?_
                  refine G.chk (fun h110 => ?_)
                  refine G.copyl (w' := (w_X6s cI cL cC cM cS a t_hasImage (va_up t_sheets_items 2 (va_cpy (t_sheets_items 1) (t_sheets_items 2) x2.toNatClampNeg x4.toNatClampNeg x5.toNatClampNeg)) t_sheets_lane t_sheets_size)) 5 7 1 1 lk_6_270 acn acs aci rfl rfl rfl rfl (cpok_1 h110) (cpok_2 h110) (cpok_3 h110) (cpok_4 h110) (cpok_5 h110) (by decide) (Nat.le_of_ble_eq_true rfl) rfl dX6_copy_110 ?_
                  refine G.iload dX6_copy_113 rfl ?_
                  exact G.iret rfl rfl dX6_copy_115
                · refine G.iload dX6_copy_92 rfl ?_
                  exact G.iret rfl rfl dX6_copy_94
              · refine G.aload dX6_copy_71 rfl ?_
                refine G.aload dX6_copy_73 rfl ?_
                refine G.get fl_6_263 4 rfl rfl dX6_copy_75 ?_
                refine G.iload dX6_copy_78 rfl ?_
                refine G.iload dX6_copy_80 rfl ?_
                refine G.callV (st := []) (w' := fun r82 => (w_X6s cI cL cC cM cS a t_hasImage t_sheets_items t_sheets_lane t_sheets_size)) mv_X4_refusal lk_6_237 (c_X4_refusal l D ks cI cL cC cM cS (fun k => a (90 + k)) (t_sheets_items 2) (t_sheets_lane 2) (t_sheets_size 2) (t_sheets_lane 1) x4 x5) [6, 7] [0, 1, 2, 3, 4, 5, 8, 9] [0, 1, 2, 3, 4, 5, 8, 9, 6, 7] rfl rfl rfl rfl (by decide +kernel) (fun _ => rfl) rfl (by decide) (Nat.le_of_ble_eq_true rfl) dX6_copy_82 (fun r82 => [.int r82]) (fun _ => rfl) (fun r82 _ => ?_)
                refine G.istore (lv' := [some (.ref (a 0)), some (.int x1), some (.int x2), some (.int x3), some (.int x4), some (.int x5), some (.ref (a 88)), some (.ref (a 90)), some (.int r82)]) dX6_copy_85 (by decide) (Nat.le_of_ble_eq_true rfl) rfl rfl ?_
                refine G.iload dX6_copy_87 rfl ?_
                refine G.if_ge 95 dX6_copy_89 (by decide) (fun h89 => ?_) (fun h89 => ?_)
                · refine G.aload dX6_copy_95 rfl ?_
                  refine G.get fl_6_266 4 rfl rfl dX6_copy_97 ?_
                  refine G.iload_n dX6_copy_100 rfl ?_
                  refine G.aload dX6_copy_101 rfl ?_
                  refine G.get fl_6_266 6 rfl rfl dX6_copy_103 ?_
                  refine G.iload dX6_copy_106 rfl ?_
                  refine G.iload dX6_copy_108 rfl ?_
                  refine G.chk (fun h110 => ?_)
                  refine G.copyl (w' := (w_X6s cI cL cC cM cS a t_hasImage (va_up t_sheets_items 2 (va_cpy (t_sheets_items 1) (t_sheets_items 2) x2.toNatClampNeg x4.toNatClampNeg x5.toNatClampNeg)) t_sheets_lane t_sheets_size)) 5 7 1 1 lk_6_270 acn acs aci rfl rfl rfl rfl (cpok_1 h110) (cpok_2 h110) (cpok_3 h110) (cpok_4 h110) (cpok_5 h110) (by decide) (Nat.le_of_ble_eq_true rfl) rfl dX6_copy_110 ?_
                  refine G.iload dX6_copy_113 rfl ?_
                  exact G.iret rfl rfl dX6_copy_115
                · refine G.iload dX6_copy_92 rfl ?_
                  exact G.iret rfl rfl dX6_copy_94
            · refine G.bipush (-11) dX6_copy_48 (by decide) ?_
              exact G.iret rfl rfl dX6_copy_50
        · refine G.aaload 1 4 rfl rfl h29 (by rw [hj29]) dX6_copy_29 ?_
          refine G.astore (lv' := [some (.ref (a 0)), some (.int x1), some (.int x2), some (.int x3), some (.int x4), some (.int x5), some (.ref (a 88)), some (.ref (a 92)), none]) dX6_copy_30 (by decide) (Nat.le_of_ble_eq_true rfl) rfl rfl ?_
          refine G.aload dX6_copy_32 rfl ?_
          refine G.callV (st := []) (w' := fun r34 => (w_X6s cI cL cC cM cS a t_hasImage t_sheets_items t_sheets_lane t_sheets_size)) mv_X4_isMissing lk_6_256 (c_X4_isMissing l D ks cI cL cC cM cS (fun k => a (88 + k)) (t_sheets_items 1) (t_sheets_lane 1) (t_sheets_size 1)) [4, 5] [0, 1, 2, 3, 6, 7, 8, 9] [0, 1, 2, 3, 8, 9, 4, 5, 6, 7] rfl rfl rfl rfl (by decide +kernel) (fun _ => rfl) rfl (by decide) (Nat.le_of_ble_eq_true rfl) dX6_copy_34 (fun r34 => [.int r34]) (fun _ => rfl) (fun r34 _ => ?_)
          refine G.if_ne 48 dX6_copy_37 (by decide) (fun h37 => ?_) (fun h37 => ?_)
          · refine G.bipush (-11) dX6_copy_48 (by decide) ?_
            exact G.iret rfl rfl dX6_copy_50
          · refine G.aload dX6_copy_40 rfl ?_
            refine G.callV (st := []) (w' := fun r42 => (w_X6s cI cL cC cM cS a t_hasImage t_sheets_items t_sheets_lane t_sheets_size)) mv_X4_isMissing lk_6_256 (c_X4_isMissing l D ks cI cL cC cM cS (fun k => a (92 + k)) (t_sheets_items 3) (t_sheets_lane 3) (t_sheets_size 3)) [8, 9] [0, 1, 2, 3, 4, 5, 6, 7] [0, 1, 2, 3, 4, 5, 6, 7, 8, 9] rfl rfl rfl rfl (by decide +kernel) (fun _ => rfl) rfl (by decide) (Nat.le_of_ble_eq_true rfl) dX6_copy_42 (fun r42 => [.int r42]) (fun _ => rfl) (fun r42 _ => ?_)
            refine G.if_eq 51 dX6_copy_45 (by decide) (fun h45 => ?_) (fun h45 => ?_)
            · refine G.aload dX6_copy_51 rfl ?_
              refine G.aload dX6_copy_53 rfl ?_
              refine G.get fl_6_263 8 rfl rfl dX6_copy_55 ?_
              refine G.iload_n dX6_copy_58 rfl ?_
              refine G.iload dX6_copy_59 rfl ?_
              refine G.callV (st := []) (w' := fun r61 => (w_X6s cI cL cC cM cS a t_hasImage t_sheets_items t_sheets_lane t_sheets_size)) mv_X4_refusal lk_6_237 (c_X4_refusal l D ks cI cL cC cM cS (fun k => a (88 + k)) (t_sheets_items 1) (t_sheets_lane 1) (t_sheets_size 1) (t_sheets_lane 3) x2 x5) [4, 5] [0, 1, 2, 3, 6, 7, 8, 9] [0, 1, 2, 3, 8, 9, 4, 5, 6, 7] rfl rfl rfl rfl (by decide +kernel) (fun _ => rfl) rfl (by decide) (Nat.le_of_ble_eq_true rfl) dX6_copy_61 (fun r61 => [.int r61]) (fun _ => rfl) (fun r61 _ => ?_)
              refine G.istore (lv' := [some (.ref (a 0)), some (.int x1), some (.int x2), some (.int x3), some (.int x4), some (.int x5), some (.ref (a 88)), some (.ref (a 92)), some (.int r61)]) dX6_copy_64 (by decide) (Nat.le_of_ble_eq_true rfl) rfl rfl ?_
              refine G.iload dX6_copy_66 rfl ?_
              refine G.if_ne 87 dX6_copy_68 (by decide) (fun h68 => ?_) (fun h68 => ?_)
              · refine G.iload dX6_copy_87 rfl ?_
                refine G.if_ge 95 dX6_copy_89 (by decide) (fun h89 => ?_) (fun h89 => ?_)
                · refine G.aload dX6_copy_95 rfl ?_
                  refine G.get fl_6_266 4 rfl rfl dX6_copy_97 ?_
                  refine G.iload_n dX6_copy_100 rfl ?_
                  refine G.aload dX6_copy_101 rfl ?_
                  refine G.get fl_6_266 8 rfl rfl dX6_copy_103 ?_
                  refine G.iload dX6_copy_106 rfl ?_
                  refine G.iload dX6_copy_108 rfl ?_
                  refine G.chk (fun h110 => ?_)
                  refine G.copyl (w' := (w_X6s cI cL cC cM cS a t_hasImage (va_up t_sheets_items 3 (va_cpy (t_sheets_items 1) (t_sheets_items 3) x2.toNatClampNeg x4.toNatClampNeg x5.toNatClampNeg)) t_sheets_lane t_sheets_size)) 5 9 1 1 lk_6_270 acn acs aci rfl rfl rfl rfl (cpok_1 h110) (cpok_2 h110) (cpok_3 h110) (cpok_4 h110) (cpok_5 h110) (by decide) (Nat.le_of_ble_eq_true rfl) rfl dX6_copy_110 ?_
                  refine G.iload dX6_copy_113 rfl ?_
                  exact G.iret rfl rfl dX6_copy_115
                · refine G.iload dX6_copy_92 rfl ?_
                  exact G.iret rfl rfl dX6_copy_94
              · refine G.aload dX6_copy_71 rfl ?_
                refine G.aload dX6_copy_73 rfl ?_
                refine G.get fl_6_263 4 rfl rfl dX6_copy_75 ?_
                refine G.iload dX6_copy_78 rfl ?_
                refine G.iload dX6_copy_80 rfl ?_
                refine G.callV (st := []) (w' := fun r82 => (w_X6s cI cL cC cM cS a t_hasImage t_sheets_items t_sheets_lane t_sheets_size)) mv_X4_refusal lk_6_237 (c_X4_refusal l D ks cI cL cC cM cS (fun k => a (92 + k)) (t_sheets_items 3) (t_sheets_lane 3) (t_sheets_size 3) (t_sheets_lane 1) x4 x5) [8, 9] [0, 1, 2, 3, 4, 5, 6, 7] [0, 1, 2, 3, 4, 5, 6, 7, 8, 9] rfl rfl rfl rfl (by decide +kernel) (fun _ => rfl) rfl (by decide) (Nat.le_of_ble_eq_true rfl) dX6_copy_82 (fun r82 => [.int r82]) (fun _ => rfl) (fun r82 _ => ?_)
                refine G.istore (lv' := [some (.ref (a 0)), some (.int x1), some (.int x2), some (.int x3), some (.int x4), some (.int x5), some (.ref (a 88)), some (.ref (a 92)), some (.int r82)]) dX6_copy_85 (by decide) (Nat.le_of_ble_eq_true rfl) rfl rfl ?_
                refine G.iload dX6_copy_87 rfl ?_
                refine G.if_ge 95 dX6_copy_89 (by decide) (fun h89 => ?_) (fun h89 => ?_)
                · refine G.aload dX6_copy_95 rfl ?_
                  refine G.get fl_6_266 4 rfl rfl dX6_copy_97 ?_
                  refine G.iload_n dX6_copy_100 rfl ?_
                  refine G.aload dX6_copy_101 rfl ?_
                  refine G.get fl_6_266 8 rfl rfl dX6_copy_103 ?_
                  refine G.iload dX6_copy_106 rfl ?_
                  refine G.iload dX6_copy_108 rfl ?_
                  refine G.chk (fun h110 => ?_)
                  refine G.copyl (w' := (w_X6s cI cL cC cM cS a t_hasImage (va_up t_sheets_items 3 (va_cpy (t_sheets_items 1) (t_sheets_items 3) x2.toNatClampNeg x4.toNatClampNeg x5.toNatClampNeg)) t_sheets_lane t_sheets_size)) 5 9 1 1 lk_6_270 acn acs aci rfl rfl rfl rfl (cpok_1 h110) (cpok_2 h110) (cpok_3 h110) (cpok_4 h110) (cpok_5 h110) (by decide) (Nat.le_of_ble_eq_true rfl) rfl dX6_copy_110 ?_
                  refine G.iload dX6_copy_113 rfl ?_
                  exact G.iret rfl rfl dX6_copy_115
                · refine G.iload dX6_copy_92 rfl ?_
                  exact G.iret rfl rfl dX6_copy_94
            · refine G.bipush (-11) dX6_copy_48 (by decide) ?_
              exact G.iret rfl rfl dX6_copy_50
      · refine G.aaload 1 4 rfl rfl h21 (by rw [hj21]) dX6_copy_21 ?_
        refine G.astore (lv' := [some (.ref (a 0)), some (.int x1), some (.int x2), some (.int x3), some (.int x4), some (.int x5), some (.ref (a 90)), none, none]) dX6_copy_22 (by decide) (Nat.le_of_ble_eq_true rfl) rfl rfl ?_
        refine G.aload_n dX6_copy_24 rfl ?_
        refine G.get fl_6_48 0 rfl rfl dX6_copy_25 ?_
        refine G.iload_n dX6_copy_28 rfl ?_
        refine G.chk (fun h29 => ?_)
        have hl29 := inb_lt h29
        generalize hj29 : x3.toNatClampNeg = j29 at hl29 ⊢
        rcases g_or4 hl29 with rfl | rfl | rfl | rfl
        · refine G.aaload 1 4 rfl rfl h29 (by rw [hj29]) dX6_copy_29 ?_
          refine G.astore (lv' := [some (.ref (a 0)), some (.int x1), some (.int x2), some (.int x3), some (.int x4), some (.int x5), some (.ref (a 90)), some (.ref (a 86)), none]) dX6_copy_30 (by decide) (Nat.le_of_ble_eq_true rfl) rfl rfl ?_
          refine G.aload dX6_copy_32 rfl ?_
          refine G.callV (st := []) (w' := fun r34 => (w_X6s cI cL cC cM cS a t_hasImage t_sheets_items t_sheets_lane t_sheets_size)) mv_X4_isMissing lk_6_256 (c_X4_isMissing l D ks cI cL cC cM cS (fun k => a (90 + k)) (t_sheets_items 2) (t_sheets_lane 2) (t_sheets_size 2)) [6, 7] [0, 1, 2, 3, 4, 5, 8, 9] [0, 1, 2, 3, 4, 5, 8, 9, 6, 7] rfl rfl rfl rfl (by decide +kernel) (fun _ => rfl) rfl (by decide) (Nat.le_of_ble_eq_true rfl) dX6_copy_34 (fun r34 => [.int r34]) (fun _ => rfl) (fun r34 _ => ?_)
          refine G.if_ne 48 dX6_copy_37 (by decide) (fun h37 => ?_) (fun h37 => ?_)
          · refine G.bipush (-11) dX6_copy_48 (by decide) ?_
            exact G.iret rfl rfl dX6_copy_50
          · refine G.aload dX6_copy_40 rfl ?_
            refine G.callV (st := []) (w' := fun r42 => (w_X6s cI cL cC cM cS a t_hasImage t_sheets_items t_sheets_lane t_sheets_size)) mv_X4_isMissing lk_6_256 (c_X4_isMissing l D ks cI cL cC cM cS (fun k => a (86 + k)) (t_sheets_items 0) (t_sheets_lane 0) (t_sheets_size 0)) [2, 3] [0, 1, 4, 5, 6, 7, 8, 9] [0, 1, 8, 9, 2, 3, 4, 5, 6, 7] rfl rfl rfl rfl (by decide +kernel) (fun _ => rfl) rfl (by decide) (Nat.le_of_ble_eq_true rfl) dX6_copy_42 (fun r42 => [.int r42]) (fun _ => rfl) (fun r42 _ => ?_)
            refine G.if_eq 51 dX6_copy_45 (by decide) (fun h45 => ?_) (fun h45 => ?_)
            · refine G.aload dX6_copy_51 rfl ?_
              refine G.aload dX6_copy_53 rfl ?_
              refine G.get fl_6_263 2 rfl rfl dX6_copy_55 ?_
              refine G.iload_n dX6_copy_58 rfl ?_
              refine G.iload dX6_copy_59 rfl ?_
              refine G.callV (st := []) (w' := fun r61 => (w_X6s cI cL cC cM cS a t_hasImage t_sheets_items t_sheets_lane t_sheets_size)) mv_X4_refusal lk_6_237 (c_X4_refusal l D ks cI cL cC cM cS (fun k => a (90 + k)) (t_sheets_items 2) (t_sheets_lane 2) (t_sheets_size 2) (t_sheets_lane 0) x2 x5) [6, 7] [0, 1, 2, 3, 4, 5, 8, 9] [0, 1, 2, 3, 4, 5, 8, 9, 6, 7] rfl rfl rfl rfl (by decide +kernel) (fun _ => rfl) rfl (by decide) (Nat.le_of_ble_eq_true rfl) dX6_copy_61 (fun r61 => [.int r61]) (fun _ => rfl) (fun r61 _ => ?_)
              refine G.istore (lv' := [some (.ref (a 0)), some (.int x1), some (.int x2), some (.int x3), some (.int x4), some (.int x5), some (.ref (a 90)), some (.ref (a 86)), some (.int r61)]) dX6_copy_64 (by decide) (Nat.le_of_ble_eq_true rfl) rfl rfl ?_
              refine G.iload dX6_copy_66 rfl ?_
              refine G.if_ne 87 dX6_copy_68 (by decide) (fun h68 => ?_) (fun h68 => ?_)
              · refine G.iload dX6_copy_87 rfl ?_
                refine G.if_ge 95 dX6_copy_89 (by decide) (fun h89 => ?_) (fun h89 => ?_)
                · refine G.aload dX6_copy_95 rfl ?_
                  refine G.get fl_6_266 6 rfl rfl dX6_copy_97 ?_
                  refine G.iload_n dX6_copy_100 rfl ?_
                  refine G.aload dX6_copy_101 rfl ?_
                  refine G.get fl_6_266 2 rfl rfl dX6_copy_103 ?_
                  refine G.iload dX6_copy_106 rfl ?_
                  refine G.iload dX6_copy_108 rfl ?_
                  refine G.chk (fun h110 => ?_)
                  refine G.copyl (w' := (w_X6s cI cL cC cM cS a t_hasImage (va_up t_sheets_items 0 (va_cpy (t_sheets_items 2) (t_sheets_items 0) x2.toNatClampNeg x4.toNatClampNeg x5.toNatClampNeg)) t_sheets_lane t_sheets_size)) 7 3 1 1 lk_6_270 acn acs aci rfl rfl rfl rfl (cpok_1 h110) (cpok_2 h110) (cpok_3 h110) (cpok_4 h110) (cpok_5 h110) (by decide) (Nat.le_of_ble_eq_true rfl) rfl dX6_copy_110 ?_
                  refine G.iload dX6_copy_113 rfl ?_
                  exact G.iret rfl rfl dX6_copy_115
                · refine G.iload dX6_copy_92 rfl ?_
                  exact G.iret rfl rfl dX6_copy_94
              · refine G.aload dX6_copy_71 rfl ?_
                refine G.aload dX6_copy_73 rfl ?_
                refine G.get fl_6_263 6 rfl rfl dX6_copy_75 ?_
                refine G.iload dX6_copy_78 rfl ?_
                refine G.iload dX6_copy_80 rfl ?_
                refine G.callV (st := []) (w' := fun r82 => (w_X6s cI cL cC cM cS a t_hasImage t_sheets_items t_sheets_lane t_sheets_size)) mv_X4_refusal lk_6_237 (c_X4_refusal l D ks cI cL cC cM cS (fun k => a (86 + k)) (t_sheets_items 0) (t_sheets_lane 0) (t_sheets_size 0) (t_sheets_lane 2) x4 x5) [2, 3] [0, 1, 4, 5, 6, 7, 8, 9] [0, 1, 8, 9, 2, 3, 4, 5, 6, 7] rfl rfl rfl rfl (by decide +kernel) (fun _ => rfl) rfl (by decide) (Nat.le_of_ble_eq_true rfl) dX6_copy_82 (fun r82 => [.int r82]) (fun _ => rfl) (fun r82 _ => ?_)
                refine G.istore (lv' := [some (.ref (a 0)), some (.int x1), some (.int x2), some (.int x3), some (.int x4), some (.int x5), some (.ref (a 90)), some (.ref (a 86)), some (.int r82)]) dX6_copy_85 (by decide) (Nat.le_of_ble_eq_true rfl) rfl rfl ?_
                refine G.iload dX6_copy_87 rfl ?_
                refine G.if_ge 95 dX6_copy_89 (by decide) (fun h89 => ?_) (fun h89 => ?_)
                · refine G.aload dX6_copy_95 rfl ?_
                  refine G.get fl_6_266 6 rfl rfl dX6_copy_97 ?_
                  refine G.iload_n dX6_copy_100 rfl ?_
                  refine G.aload dX6_copy_101 rfl ?_
                  refine G.get fl_6_266 2 rfl rfl dX6_copy_103 ?_
                  refine G.iload dX6_copy_106 rfl ?_
                  refine G.iload dX6_copy_108 rfl ?_
                  refine G.chk (fun h110 => ?_)
                  refine G.copyl (w' := (w_X6s cI cL cC cM cS a t_hasImage (va_up t_sheets_items 0 (va_cpy (t_sheets_items 2) (t_sheets_items 0) x2.toNatClampNeg x4.toNatClampNeg x5.toNatClampNeg)) t_sheets_lane t_sheets_size)) 7 3 1 1 lk_6_270 acn acs aci rfl rfl rfl rfl (cpok_1 h110) (cpok_2 h110) (cpok_3 h110) (cpok_4 h110) (cpok_5 h110) (by decide) (Nat.le_of_ble_eq_true rfl) rfl dX6_copy_110 ?_
                  refine G.iload dX6_copy_113 rfl ?_
                  exact G.iret rfl rfl dX6_copy_115
                · refine G.iload dX6_copy_92 rfl ?_
                  exact G.iret rfl rfl dX6_copy_94
            · refine G.bipush (-11) dX6_copy_48 (by decide) ?_
              exact G.iret rfl rfl dX6_copy_50
        · refine G.aaload 1 4 rfl rfl h29 (by rw [hj29]) dX6_copy_29 ?_
          refine G.astore (lv' := [some (.ref (a 0)), some (.int x1), some (.int x2), some (.int x3), some (.int x4), some (.int x5), some (.ref (a 90)), some (.ref (a 88)), none]) dX6_copy_30 (by decide) (Nat.le_of_ble_eq_true rfl) rfl rfl ?_
          refine G.aload dX6_copy_32 rfl ?_
          refine G.callV (st := []) (w' := fun r34 => (w_X6s cI cL cC cM cS a t_hasImage t_sheets_items t_sheets_lane t_sheets_size)) mv_X4_isMissing lk_6_256 (c_X4_isMissing l D ks cI cL cC cM cS (fun k => a (90 + k)) (t_sheets_items 2) (t_sheets_lane 2) (t_sheets_size 2)) [6, 7] [0, 1, 2, 3, 4, 5, 8, 9] [0, 1, 2, 3, 4, 5, 8, 9, 6, 7] rfl rfl rfl rfl (by decide +kernel) (fun _ => rfl) rfl (by decide) (Nat.le_of_ble_eq_true rfl) dX6_copy_34 (fun r34 => [.int r34]) (fun _ => rfl) (fun r34 _ => ?_)
          refine G.if_ne 48 dX6_copy_37 (by decide) (fun h37 => ?_) (fun h37 => ?_)
          · refine G.bipush (-11) dX6_copy_48 (by decide) ?_
            exact G.iret rfl rfl dX6_copy_50
          · refine G.aload dX6_copy_40 rfl ?_
            refine G.callV (st := []) (w' := fun r42 => (w_X6s cI cL cC cM cS a t_hasImage t_sheets_items t_sheets_lane t_sheets_size)) mv_X4_isMissing lk_6_256 (c_X4_isMissing l D ks cI cL cC cM cS (fun k => a (88 + k)) (t_sheets_items 1) (t_sheets_lane 1) (t_sheets_size 1)) [4, 5] [0, 1, 2, 3, 6, 7, 8, 9] [0, 1, 2, 3, 8, 9, 4, 5, 6, 7] rfl rfl rfl rfl (by decide +kernel) (fun _ => rfl) rfl (by decide) (Nat.le_of_ble_eq_true rfl) dX6_copy_42 (fun r42 => [.int r42]) (fun _ => rfl) (fun r42 _ => ?_)
            refine G.if_eq 51 dX6_copy_45 (by decide) (fun h45 => ?_) (fun h45 => ?_)
            · refine G.aload dX6_copy_51 rfl ?_
              refine G.aload dX6_copy_53 rfl ?_
              refine G.get fl_6_263 4 rfl rfl dX6_copy_55 ?_
              refine G.iload_n dX6_copy_58 rfl ?_
              refine G.iload dX6_copy_59 rfl ?_
              refine G.callV (st := []) (w' := fun r61 => (w_X6s cI cL cC cM cS a t_hasImage t_sheets_items t_sheets_lane t_sheets_size)) mv_X4_refusal lk_6_237 (c_X4_refusal l D ks cI cL cC cM cS (fun k => a (90 + k)) (t_sheets_items 2) (t_sheets_lane 2) (t_sheets_size 2) (t_sheets_lane 1) x2 x5) [6, 7] [0, 1, 2, 3, 4, 5, 8, 9] [0, 1, 2, 3, 4, 5, 8, 9, 6, 7] rfl rfl rfl rfl (by decide +kernel) (fun _ => rfl) rfl (by decide) (Nat.le_of_ble_eq_true rfl) dX6_copy_61 (fun r61 => [.int r61]) (fun _ => rfl) (fun r61 _ => ?_)
              refine G.istore (lv' := [some (.ref (a 0)), some (.int x1), some (.int x2), some (.int x3), some (.int x4), some (.int x5), some (.ref (a 90)), some (.ref (a 88)), some (.int r61)]) dX6_copy_64 (by decide) (Nat.le_of_ble_eq_true rfl) rfl rfl ?_
              refine G.iload dX6_copy_66 rfl ?_
              refine G.if_ne 87 dX6_copy_68 (by decide) (fun h68 => ?_) (fun h68 => ?_)
              · refine G.iload dX6_copy_87 rfl ?_
                refine G.if_ge 95 dX6_copy_89 (by decide) (fun h89 => ?_) (fun h89 => ?_)
                · refine G.aload dX6_copy_95 rfl ?_
                  refine G.get fl_6_266 6 rfl rfl dX6_copy_97 ?_
                  refine G.iload_n dX6_copy_100 rfl ?_
                  refine G.aload dX6_copy_101 rfl ?_
                  refine G.get fl_6_266 4 rfl rfl dX6_copy_103 ?_
                  refine G.iload dX6_copy_106 rfl ?_
                  refine G.iload dX6_copy_108 rfl ?_
                  refine G.chk (fun h110 => ?_)
                  refine G.copyl (w' := (w_X6s cI cL cC cM cS a t_hasImage (va_up t_sheets_items 1 (va_cpy (t_sheets_items 2) (t_sheets_items 1) x2.toNatClampNeg x4.toNatClampNeg x5.toNatClampNeg)) t_sheets_lane t_sheets_size)) 7 5 1 1 lk_6_270 acn acs aci rfl rfl rfl rfl (cpok_1 h110) (cpok_2 h110) (cpok_3 h110) (cpok_4 h110) (cpok_5 h110) (by decide) (Nat.le_of_ble_eq_true rfl) rfl dX6_copy_110 ?_
                  refine G.iload dX6_copy_113 rfl ?_
                  exact G.iret rfl rfl dX6_copy_115
                · refine G.iload dX6_copy_92 rfl ?_
                  exact G.iret rfl rfl dX6_copy_94
              · refine G.aload dX6_copy_71 rfl ?_
                refine G.aload dX6_copy_73 rfl ?_
                refine G.get fl_6_263 6 rfl rfl dX6_copy_75 ?_
                refine G.iload dX6_copy_78 rfl ?_
                refine G.iload dX6_copy_80 rfl ?_
                refine G.callV (st := []) (w' := fun r82 => (w_X6s cI cL cC cM cS a t_hasImage t_sheets_items t_sheets_lane t_sheets_size)) mv_X4_refusal lk_6_237 (c_X4_refusal l D ks cI cL cC cM cS (fun k => a (88 + k)) (t_sheets_items 1) (t_sheets_lane 1) (t_sheets_size 1) (t_sheets_lane 2) x4 x5) [4, 5] [0, 1, 2, 3, 6, 7, 8, 9] [0, 1, 2, 3, 8, 9, 4, 5, 6, 7] rfl rfl rfl rfl (by decide +kernel) (fun _ => rfl) rfl (by decide) (Nat.le_of_ble_eq_true rfl) dX6_copy_82 (fun r82 => [.int r82]) (fun _ => rfl) (fun r82 _ => ?_)
                refine G.istore (lv' := [some (.ref (a 0)), some (.int x1), some (.int x2), some (.int x3), some (.int x4), some (.int x5), some (.ref (a 90)), some (.ref (a 88)), some (.int r82)]) dX6_copy_85 (by decide) (Nat.le_of_ble_eq_true rfl) rfl rfl ?_
                refine G.iload dX6_copy_87 rfl ?_
                refine G.if_ge 95 dX6_copy_89 (by decide) (fun h89 => ?_) (fun h89 => ?_)
                · refine G.aload dX6_copy_95 rfl ?_
                  refine G.get fl_6_266 6 rfl rfl dX6_copy_97 ?_
                  refine G.iload_n dX6_copy_100 rfl ?_
                  refine G.aload dX6_copy_101 rfl ?_
                  refine G.get fl_6_266 4 rfl rfl dX6_copy_103 ?_
                  refine G.iload dX6_copy_106 rfl ?_
                  refine G.iload dX6_copy_108 rfl ?_
                  refine G.chk (fun h110 => ?_)
                  refine G.copyl (w' := (w_X6s cI cL cC cM cS a t_hasImage (va_up t_sheets_items 1 (va_cpy (t_sheets_items 2) (t_sheets_items 1) x2.toNatClampNeg x4.toNatClampNeg x5.toNatClampNeg)) t_sheets_lane t_sheets_size)) 7 5 1 1 lk_6_270 acn acs aci rfl rfl rfl rfl (cpok_1 h110) (cpok_2 h110) (cpok_3 h110) (cpok_4 h110) (cpok_5 h110) (by decide) (Nat.le_of_ble_eq_true rfl) rfl dX6_copy_110 ?_
                  refine G.iload dX6_copy_113 rfl ?_
                  exact G.iret rfl rfl dX6_copy_115
                · refine G.iload dX6_copy_92 rfl ?_
                  exact G.iret rfl rfl dX6_copy_94
            · refine G.bipush (-11) dX6_copy_48 (by decide) ?_
              exact G.iret rfl rfl dX6_copy_50
        · refine G.aaload 1 4 rfl rfl h29 (by rw [hj29]) dX6_copy_29 ?_
          refine G.astore (lv' := [some (.ref (a 0)), some (.int x1), some (.int x2), some (.int x3), some (.int x4), some (.int x5), some (.ref (a 90)), some (.ref (a 90)), none]) dX6_copy_30 (by decide) (Nat.le_of_ble_eq_true rfl) rfl rfl ?_
          refine G.aload dX6_copy_32 rfl ?_
          refine G.callV (st := []) (w' := fun r34 => (w_X6s cI cL cC cM cS a t_hasImage t_sheets_items t_sheets_lane t_sheets_size)) mv_X4_isMissing lk_6_256 (c_X4_isMissing l D ks cI cL cC cM cS (fun k => a (90 + k)) (t_sheets_items 2) (t_sheets_lane 2) (t_sheets_size 2)) [6, 7] [0, 1, 2, 3, 4, 5, 8, 9] [0, 1, 2, 3, 4, 5, 8, 9, 6, 7] rfl rfl rfl rfl (by decide +kernel) (fun _ => rfl) rfl (by decide) (Nat.le_of_ble_eq_true rfl) dX6_copy_34 (fun r34 => [.int r34]) (fun _ => rfl) (fun r34 _ => ?_)
          refine G.if_ne 48 dX6_copy_37 (by decide) (fun h37 => ?_) (fun h37 => ?_)
          · refine G.bipush (-11) dX6_copy_48 (by decide) ?_
            exact G.iret rfl rfl dX6_copy_50
          · refine G.aload dX6_copy_40 rfl ?_
            refine G.callV (st := []) (w' := fun r42 => (w_X6s cI cL cC cM cS a t_hasImage t_sheets_items t_sheets_lane t_sheets_size)) mv_X4_isMissing lk_6_256 (c_X4_isMissing l D ks cI cL cC cM cS (fun k => a (90 + k)) (t_sheets_items 2) (t_sheets_lane 2) (t_sheets_size 2)) [6, 7] [0, 1, 2, 3, 4, 5, 8, 9] [0, 1, 2, 3, 4, 5, 8, 9, 6, 7] rfl rfl rfl rfl (by decide +kernel) (fun _ => rfl) rfl (by decide) (Nat.le_of_ble_eq_true rfl) dX6_copy_42 (fun r42 => [.int r42]) (fun _ => rfl) (fun r42 _ => ?_)
            refine G.if_eq 51 dX6_copy_45 (by decide) (fun h45 => ?_) (fun h45 => ?_)
            · refine G.aload dX6_copy_51 rfl ?_
              refine G.aload dX6_copy_53 rfl ?_
              refine G.get fl_6_263 6 rfl rfl dX6_copy_55 ?_
              refine G.iload_n dX6_copy_58 rfl ?_
              refine G.iload dX6_copy_59 rfl ?_
              refine G.callV (st := []) (w' := fun r61 => (w_X6s cI cL cC cM cS a t_hasImage t_sheets_items t_sheets_lane t_sheets_size)) mv_X4_refusal lk_6_237 (c_X4_refusal l D ks cI cL cC cM cS (fun k => a (90 + k)) (t_sheets_items 2) (t_sheets_lane 2) (t_sheets_size 2) (t_sheets_lane 2) x2 x5) [6, 7] [0, 1, 2, 3, 4, 5, 8, 9] [0, 1, 2, 3, 4, 5, 8, 9, 6, 7] rfl rfl rfl rfl (by decide +kernel) (fun _ => rfl) rfl (by decide) (Nat.le_of_ble_eq_true rfl) dX6_copy_61 (fun r61 => [.int r61]) (fun _ => rfl) (fun r61 _ => ?_)
              refine G.istore (lv' := [some (.ref (a 0)), some (.int x1), some (.int x2), some (.int x3), some (.int x4), some (.int x5), some (.ref (a 90)), some (.ref (a 90)), some (.int r61)]) dX6_copy_64 (by decide) (Nat.le_of_ble_eq_true rfl) rfl rfl ?_
              refine G.iload dX6_copy_66 rfl ?_
              refine G.if_ne 87 dX6_copy_68 (by decide) (fun h68 => ?_) (fun h68 => ?_)
              · refine G.iload dX6_copy_87 rfl ?_
                refine G.if_ge 95 dX6_copy_89 (by decide) (fun h89 => ?_) (fun h89 => ?_)
                · refine G.aload dX6_copy_95 rfl ?_
                  refine G.get fl_6_266 6 rfl rfl dX6_copy_97 ?_
                  refine G.iload_n dX6_copy_100 rfl ?_
                  refine G.aload dX6_copy_101 rfl ?_
                  refine G.get fl_6_266 6 rfl rfl dX6_copy_103 ?_
                  refine G.iload dX6_copy_106 rfl ?_
                  refine G.iload dX6_copy_108 rfl ?_
                  refine G.chk (fun h110 => ?_)
                  refine G.copyl (w' := (w_X6s cI cL cC cM cS a t_hasImage (va_up t_sheets_items 2 (va_cpy (t_sheets_items 2) (t_sheets_items 2) x2.toNatClampNeg x4.toNatClampNeg x5.toNatClampNeg)) t_sheets_lane t_sheets_size)) 7 7 1 1 lk_6_270 acn acs aci rfl rfl rfl rfl (cpok_1 h110) (cpok_2 h110) (cpok_3 h110) (cpok_4 h110) (cpok_5 h110) (by decide) (Nat.le_of_ble_eq_true rfl) rfl dX6_copy_110 ?_
                  refine G.iload dX6_copy_113 rfl ?_
                  exact G.iret rfl rfl dX6_copy_115
                · refine G.iload dX6_copy_92 rfl ?_
                  exact G.iret rfl rfl dX6_copy_94
              · refine G.aload dX6_copy_71 rfl ?_
                refine G.aload dX6_copy_73 rfl ?_
                refine G.get fl_6_263 6 rfl rfl dX6_copy_75 ?_
                refine G.iload dX6_copy_78 rfl ?_
                refine G.iload dX6_copy_80 rfl ?_
                refine G.callV (st := []) (w' := fun r82 => (w_X6s cI cL cC cM cS a t_hasImage t_sheets_items t_sheets_lane t_sheets_size)) mv_X4_refusal lk_6_237 (c_X4_refusal l D ks cI cL cC cM cS (fun k => a (90 + k)) (t_sheets_items 2) (t_sheets_lane 2) (t_sheets_size 2) (t_sheets_lane 2) x4 x5) [6, 7] [0, 1, 2, 3, 4, 5, 8, 9] [0, 1, 2, 3, 4, 5, 8, 9, 6, 7] rfl rfl rfl rfl (by decide +kernel) (fun _ => rfl) rfl (by decide) (Nat.le_of_ble_eq_true rfl) dX6_copy_82 (fun r82 => [.int r82]) (fun _ => rfl) (fun r82 _ => ?_)
                refine G.istore (lv' := [some (.ref (a 0)), some (.int x1), some (.int x2), some (.int x3), some (.int x4), some (.int x5), some (.ref (a 90)), some (.ref (a 90)), some (.int r82)]) dX6_copy_85 (by decide) (Nat.le_of_ble_eq_true rfl) rfl rfl ?_
                refine G.iload dX6_copy_87 rfl ?_
                refine G.if_ge 95 dX6_copy_89 (by decide) (fun h89 => ?_) (fun h89 => ?_)
                · refine G.aload dX6_copy_95 rfl ?_
                  refine G.get fl_6_266 6 rfl rfl dX6_copy_97 ?_
                  refine G.iload_n dX6_copy_100 rfl ?_
                  refine G.aload dX6_copy_101 rfl ?_
                  refine G.get fl_6_266 6 rfl rfl dX6_copy_103 ?_
                  refine G.iload dX6_copy_106 rfl ?_
                  refine G.iload dX6_copy_108 rfl ?_
                  refine G.chk (fun h110 => ?_)
                  refine G.copyl (w' := (w_X6s cI cL cC cM cS a t_hasImage (va_up t_sheets_items 2 (va_cpy (t_sheets_items 2) (t_sheets_items 2) x2.toNatClampNeg x4.toNatClampNeg x5.toNatClampNeg)) t_sheets_lane t_sheets_size)) 7 7 1 1 lk_6_270 acn acs aci rfl rfl rfl rfl (cpok_1 h110) (cpok_2 h110) (cpok_3 h110) (cpok_4 h110) (cpok_5 h110) (by decide) (Nat.le_of_ble_eq_true rfl) rfl dX6_copy_110 ?_
                  refine G.iload dX6_copy_113 rfl ?_
                  exact G.iret rfl rfl dX6_copy_115
                · refine G.iload dX6_copy_92 rfl ?_
                  exact G.iret rfl rfl dX6_copy_94
            · refine G.bipush (-11) dX6_copy_48 (by decide) ?_
              exact G.iret rfl rfl dX6_copy_50
        · refine G.aaload 1 4 rfl rfl h29 (by rw [hj29]) dX6_copy_29 ?_
          refine G.astore (lv' := [some (.ref (a 0)), some (.int x1), some (.int x2), some (.int x3), some (.int x4), some (.int x5), some (.ref (a 90)), some (.ref (a 92)), none]) dX6_copy_30 (by decide) (Nat.le_of_ble_eq_true rfl) rfl rfl ?_
          refine G.aload dX6_copy_32 rfl ?_
          refine G.callV (st := []) (w' := fun r34 => (w_X6s cI cL cC cM cS a t_hasImage t_sheets_items t_sheets_lane t_sheets_size)) mv_X4_isMissing lk_6_256 (c_X4_isMissing l D ks cI cL cC cM cS (fun k => a (90 + k)) (t_sheets_items 2) (t_sheets_lane 2) (t_sheets_size 2)) [6, 7] [0, 1, 2, 3, 4, 5, 8, 9] [0, 1, 2, 3, 4, 5, 8, 9, 6, 7] rfl rfl rfl rfl (by decide +kernel) (fun _ => rfl) rfl (by decide) (Nat.le_of_ble_eq_true rfl) dX6_copy_34 (fun r34 => [.int r34]) (fun _ => rfl) (fun r34 _ => ?_)
          refine G.if_ne 48 dX6_copy_37 (by decide) (fun h37 => ?_) (fun h37 => ?_)
          · refine G.bipush (-11) dX6_copy_48 (by decide) ?_
            exact G.iret rfl rfl dX6_copy_50
          · refine G.aload dX6_copy_40 rfl ?_
            refine G.callV (st := []) (w' := fun r42 => (w_X6s cI cL cC cM cS a t_hasImage t_sheets_items t_sheets_lane t_sheets_size)) mv_X4_isMissing lk_6_256 (c_X4_isMissing l D ks cI cL cC cM cS (fun k => a (92 + k)) (t_sheets_items 3) (t_sheets_lane 3) (t_sheets_size 3)) [8, 9] [0, 1, 2, 3, 4, 5, 6, 7] [0, 1, 2, 3, 4, 5, 6, 7, 8, 9] rfl rfl rfl rfl (by decide +kernel) (fun _ => rfl) rfl (by decide) (Nat.le_of_ble_eq_true rfl) dX6_copy_42 (fun r42 => [.int r42]) (fun _ => rfl) (fun r42 _ => ?_)
            refine G.if_eq 51 dX6_copy_45 (by decide) (fun h45 => ?_) (fun h45 => ?_)
            · refine G.aload dX6_copy_51 rfl ?_
              refine G.aload dX6_copy_53 rfl ?_
              refine G.get fl_6_263 8 rfl rfl dX6_copy_55 ?_
              refine G.iload_n dX6_copy_58 rfl ?_
              refine G.iload dX6_copy_59 rfl ?_
              refine G.callV (st := []) (w' := fun r61 => (w_X6s cI cL cC cM cS a t_hasImage t_sheets_items t_sheets_lane t_sheets_size)) mv_X4_refusal lk_6_237 (c_X4_refusal l D ks cI cL cC cM cS (fun k => a (90 + k)) (t_sheets_items 2) (t_sheets_lane 2) (t_sheets_size 2) (t_sheets_lane 3) x2 x5) [6, 7] [0, 1, 2, 3, 4, 5, 8, 9] [0, 1, 2, 3, 4, 5, 8, 9, 6, 7] rfl rfl rfl rfl (by decide +kernel) (fun _ => rfl) rfl (by decide) (Nat.le_of_ble_eq_true rfl) dX6_copy_61 (fun r61 => [.int r61]) (fun _ => rfl) (fun r61 _ => ?_)
              refine G.istore (lv' := [some (.ref (a 0)), some (.int x1), some (.int x2), some (.int x3), some (.int x4), some (.int x5), some (.ref (a 90)), some (.ref (a 92)), some (.int r61)]) dX6_copy_64 (by decide) (Nat.le_of_ble_eq_true rfl) rfl rfl ?_
              refine G.iload dX6_copy_66 rfl ?_
              refine G.if_ne 87 dX6_copy_68 (by decide) (fun h68 => ?_) (fun h68 => ?_)
              · refine G.iload dX6_copy_87 rfl ?_
                refine G.if_ge 95 dX6_copy_89 (by decide) (fun h89 => ?_) (fun h89 => ?_)
                · refine G.aload dX6_copy_95 rfl ?_
                  refine G.get fl_6_266 6 rfl rfl dX6_copy_97 ?_
                  refine G.iload_n dX6_copy_100 rfl ?_
                  refine G.aload dX6_copy_101 rfl ?_
                  refine G.get fl_6_266 8 rfl rfl dX6_copy_103 ?_
                  refine G.iload dX6_copy_106 rfl ?_
                  refine G.iload dX6_copy_108 rfl ?_
                  refine G.chk (fun h110 => ?_)
                  refine G.copyl (w' := (w_X6s cI cL cC cM cS a t_hasImage (va_up t_sheets_items 3 (va_cpy (t_sheets_items 2) (t_sheets_items 3) x2.toNatClampNeg x4.toNatClampNeg x5.toNatClampNeg)) t_sheets_lane t_sheets_size)) 7 9 1 1 lk_6_270 acn acs aci rfl rfl rfl rfl (cpok_1 h110) (cpok_2 h110) (cpok_3 h110) (cpok_4 h110) (cpok_5 h110) (by decide) (Nat.le_of_ble_eq_true rfl) rfl dX6_copy_110 ?_
                  refine G.iload dX6_copy_113 rfl ?_
                  exact G.iret rfl rfl dX6_copy_115
                · refine G.iload dX6_copy_92 rfl ?_
                  exact G.iret rfl rfl dX6_copy_94
              · refine G.aload dX6_copy_71 rfl ?_
                refine G.aload dX6_copy_73 rfl ?_
                refine G.get fl_6_263 6 rfl rfl dX6_copy_75 ?_
                refine G.iload dX6_copy_78 rfl ?_
                refine G.iload dX6_copy_80 rfl ?_
                refine G.callV (st := []) (w' := fun r82 => (w_X6s cI cL cC cM cS a t_hasImage t_sheets_items t_sheets_lane t_sheets_size)) mv_X4_refusal lk_6_237 (c_X4_refusal l D ks cI cL cC cM cS (fun k => a (92 + k)) (t_sheets_items 3) (t_sheets_lane 3) (t_sheets_size 3) (t_sheets_lane 2) x4 x5) [8, 9] [0, 1, 2, 3, 4, 5, 6, 7] [0, 1, 2, 3, 4, 5, 6, 7, 8, 9] rfl rfl rfl rfl (by decide +kernel) (fun _ => rfl) rfl (by decide) (Nat.le_of_ble_eq_true rfl) dX6_copy_82 (fun r82 => [.int r82]) (fun _ => rfl) (fun r82 _ => ?_)
                refine G.istore (lv' := [some (.ref (a 0)), some (.int x1), some (.int x2), some (.int x3), some (.int x4), some (.int x5), some (.ref (a 90)), some (.ref (a 92)), some (.int r82)]) dX6_copy_85 (by decide) (Nat.le_of_ble_eq_true rfl) rfl rfl ?_
                refine G.iload dX6_copy_87 rfl ?_
                refine G.if_ge 95 dX6_copy_89 (by decide) (fun h89 => ?_) (fun h89 => ?_)
                · refine G.aload dX6_copy_95 rfl ?_
                  refine G.get fl_6_266 6 rfl rfl dX6_copy_97 ?_
                  refine G.iload_n dX6_copy_100 rfl ?_
                  refine G.aload dX6_copy_101 rfl ?_
                  refine G.get fl_6_266 8 rfl rfl dX6_copy_103 ?_
                  refine G.iload dX6_copy_106 rfl ?_
                  refine G.iload dX6_copy_108 rfl ?_
                  refine G.chk (fun h110 => ?_)
                  refine G.copyl (w' := (w_X6s cI cL cC cM cS a t_hasImage (va_up t_sheets_items 3 (va_cpy (t_sheets_items 2) (t_sheets_items 3) x2.toNatClampNeg x4.toNatClampNeg x5.toNatClampNeg)) t_sheets_lane t_sheets_size)) 7 9 1 1 lk_6_270 acn acs aci rfl rfl rfl rfl (cpok_1 h110) (cpok_2 h110) (cpok_3 h110) (cpok_4 h110) (cpok_5 h110) (by decide) (Nat.le_of_ble_eq_true rfl) rfl dX6_copy_110 ?_
                  refine G.iload dX6_copy_113 rfl ?_
                  exact G.iret rfl rfl dX6_copy_115
                · refine G.iload dX6_copy_92 rfl ?_
                  exact G.iret rfl rfl dX6_copy_94
            · refine G.bipush (-11) dX6_copy_48 (by decide) ?_
              exact G.iret rfl rfl dX6_copy_50
      · refine G.aaload 1 4 rfl rfl h21 (by rw [hj21]) dX6_copy_21 ?_
        refine G.astore (lv' := [some (.ref (a 0)), some (.int x1), some (.int x2), some (.int x3), some (.int x4), some (.int x5), some (.ref (a 92)), none, none]) dX6_copy_22 (by decide) (Nat.le_of_ble_eq_true rfl) rfl rfl ?_
        refine G.aload_n dX6_copy_24 rfl ?_
        refine G.get fl_6_48 0 rfl rfl dX6_copy_25 ?_
        refine G.iload_n dX6_copy_28 rfl ?_
        refine G.chk (fun h29 => ?_)
        have hl29 := inb_lt h29
        generalize hj29 : x3.toNatClampNeg = j29 at hl29 ⊢
        rcases g_or4 hl29 with rfl | rfl | rfl | rfl
        · refine G.aaload 1 4 rfl rfl h29 (by rw [hj29]) dX6_copy_29 ?_
          refine G.astore (lv' := [some (.ref (a 0)), some (.int x1), some (.int x2), some (.int x3), some (.int x4), some (.int x5), some (.ref (a 92)), some (.ref (a 86)), none]) dX6_copy_30 (by decide) (Nat.le_of_ble_eq_true rfl) rfl rfl ?_
          refine G.aload dX6_copy_32 rfl ?_
          refine G.callV (st := []) (w' := fun r34 => (w_X6s cI cL cC cM cS a t_hasImage t_sheets_items t_sheets_lane t_sheets_size)) mv_X4_isMissing lk_6_256 (c_X4_isMissing l D ks cI cL cC cM cS (fun k => a (92 + k)) (t_sheets_items 3) (t_sheets_lane 3) (t_sheets_size 3)) [8, 9] [0, 1, 2, 3, 4, 5, 6, 7] [0, 1, 2, 3, 4, 5, 6, 7, 8, 9] rfl rfl rfl rfl (by decide +kernel) (fun _ => rfl) rfl (by decide) (Nat.le_of_ble_eq_true rfl) dX6_copy_34 (fun r34 => [.int r34]) (fun _ => rfl) (fun r34 _ => ?_)
          refine G.if_ne 48 dX6_copy_37 (by decide) (fun h37 => ?_) (fun h37 => ?_)
          · refine G.bipush (-11) dX6_copy_48 (by decide) ?_
            exact G.iret rfl rfl dX6_copy_50
          · refine G.aload dX6_copy_40 rfl ?_
            refine G.callV (st := []) (w' := fun r42 => (w_X6s cI cL cC cM cS a t_hasImage t_sheets_items t_sheets_lane t_sheets_size)) mv_X4_isMissing lk_6_256 (c_X4_isMissing l D ks cI cL cC cM cS (fun k => a (86 + k)) (t_sheets_items 0) (t_sheets_lane 0) (t_sheets_size 0)) [2, 3] [0, 1, 4, 5, 6, 7, 8, 9] [0, 1, 8, 9, 2, 3, 4, 5, 6, 7] rfl rfl rfl rfl (by decide +kernel) (fun _ => rfl) rfl (by decide) (Nat.le_of_ble_eq_true rfl) dX6_copy_42 (fun r42 => [.int r42]) (fun _ => rfl) (fun r42 _ => ?_)
            refine G.if_eq 51 dX6_copy_45 (by decide) (fun h45 => ?_) (fun h45 => ?_)
            · refine G.aload dX6_copy_51 rfl ?_
              refine G.aload dX6_copy_53 rfl ?_
              refine G.get fl_6_263 2 rfl rfl dX6_copy_55 ?_
              refine G.iload_n dX6_copy_58 rfl ?_
              refine G.iload dX6_copy_59 rfl ?_
              refine G.callV (st := []) (w' := fun r61 => (w_X6s cI cL cC cM cS a t_hasImage t_sheets_items t_sheets_lane t_sheets_size)) mv_X4_refusal lk_6_237 (c_X4_refusal l D ks cI cL cC cM cS (fun k => a (92 + k)) (t_sheets_items 3) (t_sheets_lane 3) (t_sheets_size 3) (t_sheets_lane 0) x2 x5) [8, 9] [0, 1, 2, 3, 4, 5, 6, 7] [0, 1, 2, 3, 4, 5, 6, 7, 8, 9] rfl rfl rfl rfl (by decide +kernel) (fun _ => rfl) rfl (by decide) (Nat.le_of_ble_eq_true rfl) dX6_copy_61 (fun r61 => [.int r61]) (fun _ => rfl) (fun r61 _ => ?_)
              refine G.istore (lv' := [some (.ref (a 0)), some (.int x1), some (.int x2), some (.int x3), some (.int x4), some (.int x5), some (.ref (a 92)), some (.ref (a 86)), some (.int r61)]) dX6_copy_64 (by decide) (Nat.le_of_ble_eq_true rfl) rfl rfl ?_
              refine G.iload dX6_copy_66 rfl ?_
              refine G.if_ne 87 dX6_copy_68 (by decide) (fun h68 => ?_) (fun h68 => ?_)
              · refine G.iload dX6_copy_87 rfl ?_
                refine G.if_ge 95 dX6_copy_89 (by decide) (fun h89 => ?_) (fun h89 => ?_)
                · refine G.aload dX6_copy_95 rfl ?_
                  refine G.get fl_6_266 8 rfl rfl dX6_copy_97 ?_
                  refine G.iload_n dX6_copy_100 rfl ?_
                  refine G.aload dX6_copy_101 rfl ?_
                  refine G.get fl_6_266 2 rfl rfl dX6_copy_103 ?_
                  refine G.iload dX6_copy_106 rfl ?_
                  refine G.iload dX6_copy_108 rfl ?_
                  refine G.chk (fun h110 => ?_)
                  refine G.copyl (w' := (w_X6s cI cL cC cM cS a t_hasImage (va_up t_sheets_items 0 (va_cpy (t_sheets_items 3) (t_sheets_items 0) x2.toNatClampNeg x4.toNatClampNeg x5.toNatClampNeg)) t_sheets_lane t_sheets_size)) 9 3 1 1 lk_6_270 acn acs aci rfl rfl rfl rfl (cpok_1 h110) (cpok_2 h110) (cpok_3 h110) (cpok_4 h110) (cpok_5 h110) (by decide) (Nat.le_of_ble_eq_true rfl) rfl dX6_copy_110 ?_
                  refine G.iload dX6_copy_113 rfl ?_
                  exact G.iret rfl rfl dX6_copy_115
                · refine G.iload dX6_copy_92 rfl ?_
                  exact G.iret rfl rfl dX6_copy_94
              · refine G.aload dX6_copy_71 rfl ?_
                refine G.aload dX6_copy_73 rfl ?_
                refine G.get fl_6_263 8 rfl rfl dX6_copy_75 ?_
                refine G.iload dX6_copy_78 rfl ?_
                refine G.iload dX6_copy_80 rfl ?_
                refine G.callV (st := []) (w' := fun r82 => (w_X6s cI cL cC cM cS a t_hasImage t_sheets_items t_sheets_lane t_sheets_size)) mv_X4_refusal lk_6_237 (c_X4_refusal l D ks cI cL cC cM cS (fun k => a (86 + k)) (t_sheets_items 0) (t_sheets_lane 0) (t_sheets_size 0) (t_sheets_lane 3) x4 x5) [2, 3] [0, 1, 4, 5, 6, 7, 8, 9] [0, 1, 8, 9, 2, 3, 4, 5, 6, 7] rfl rfl rfl rfl (by decide +kernel) (fun _ => rfl) rfl (by decide) (Nat.le_of_ble_eq_true rfl) dX6_copy_82 (fun r82 => [.int r82]) (fun _ => rfl) (fun r82 _ => ?_)
                refine G.istore (lv' := [some (.ref (a 0)), some (.int x1), some (.int x2), some (.int x3), some (.int x4), some (.int x5), some (.ref (a 92)), some (.ref (a 86)), some (.int r82)]) dX6_copy_85 (by decide) (Nat.le_of_ble_eq_true rfl) rfl rfl ?_
                refine G.iload dX6_copy_87 rfl ?_
                refine G.if_ge 95 dX6_copy_89 (by decide) (fun h89 => ?_) (fun h89 => ?_)
                · refine G.aload dX6_copy_95 rfl ?_
                  refine G.get fl_6_266 8 rfl rfl dX6_copy_97 ?_
                  refine G.iload_n dX6_copy_100 rfl ?_
                  refine G.aload dX6_copy_101 rfl ?_
                  refine G.get fl_6_266 2 rfl rfl dX6_copy_103 ?_
                  refine G.iload dX6_copy_106 rfl ?_
                  refine G.iload dX6_copy_108 rfl ?_
                  refine G.chk (fun h110 => ?_)
                  refine G.copyl (w' := (w_X6s cI cL cC cM cS a t_hasImage (va_up t_sheets_items 0 (va_cpy (t_sheets_items 3) (t_sheets_items 0) x2.toNatClampNeg x4.toNatClampNeg x5.toNatClampNeg)) t_sheets_lane t_sheets_size)) 9 3 1 1 lk_6_270 acn acs aci rfl rfl rfl rfl (cpok_1 h110) (cpok_2 h110) (cpok_3 h110) (cpok_4 h110) (cpok_5 h110) (by decide) (Nat.le_of_ble_eq_true rfl) rfl dX6_copy_110 ?_
                  refine G.iload dX6_copy_113 rfl ?_
                  exact G.iret rfl rfl dX6_copy_115
                · refine G.iload dX6_copy_92 rfl ?_
                  exact G.iret rfl rfl dX6_copy_94
            · refine G.bipush (-11) dX6_copy_48 (by decide) ?_
              exact G.iret rfl rfl dX6_copy_50
        · refine G.aaload 1 4 rfl rfl h29 (by rw [hj29]) dX6_copy_29 ?_
          refine G.astore (lv' := [some (.ref (a 0)), some (.int x1), some (.int x2), some (.int x3), some (.int x4), some (.int x5), some (.ref (a 92)), some (.ref (a 88)), none]) dX6_copy_30 (by decide) (Nat.le_of_ble_eq_true rfl) rfl rfl ?_
          refine G.aload dX6_copy_32 rfl ?_
          refine G.callV (st := []) (w' := fun r34 => (w_X6s cI cL cC cM cS a t_hasImage t_sheets_items t_sheets_lane t_sheets_size)) mv_X4_isMissing lk_6_256 (c_X4_isMissing l D ks cI cL cC cM cS (fun k => a (92 + k)) (t_sheets_items 3) (t_sheets_lane 3) (t_sheets_size 3)) [8, 9] [0, 1, 2, 3, 4, 5, 6, 7] [0, 1, 2, 3, 4, 5, 6, 7, 8, 9] rfl rfl rfl rfl (by decide +kernel) (fun _ => rfl) rfl (by decide) (Nat.le_of_ble_eq_true rfl) dX6_copy_34 (fun r34 => [.int r34]) (fun _ => rfl) (fun r34 _ => ?_)
          refine G.if_ne 48 dX6_copy_37 (by decide) (fun h37 => ?_) (fun h37 => ?_)
          · refine G.bipush (-11) dX6_copy_48 (by decide) ?_
            exact G.iret rfl rfl dX6_copy_50
          · refine G.aload dX6_copy_40 rfl ?_
            refine G.callV (st := []) (w' := fun r42 => (w_X6s cI cL cC cM cS a t_hasImage t_sheets_items t_sheets_lane t_sheets_size)) mv_X4_isMissing lk_6_256 (c_X4_isMissing l D ks cI cL cC cM cS (fun k => a (88 + k)) (t_sheets_items 1) (t_sheets_lane 1) (t_sheets_size 1)) [4, 5] [0, 1, 2, 3, 6, 7, 8, 9] [0, 1, 2, 3, 8, 9, 4, 5, 6, 7] rfl rfl rfl rfl (by decide +kernel) (fun _ => rfl) rfl (by decide) (Nat.le_of_ble_eq_true rfl) dX6_copy_42 (fun r42 => [.int r42]) (fun _ => rfl) (fun r42 _ => ?_)
            refine G.if_eq 51 dX6_copy_45 (by decide) (fun h45 => ?_) (fun h45 => ?_)
            · refine G.aload dX6_copy_51 rfl ?_
              refine G.aload dX6_copy_53 rfl ?_
              refine G.get fl_6_263 4 rfl rfl dX6_copy_55 ?_
              refine G.iload_n dX6_copy_58 rfl ?_
              refine G.iload dX6_copy_59 rfl ?_
              refine G.callV (st := []) (w' := fun r61 => (w_X6s cI cL cC cM cS a t_hasImage t_sheets_items t_sheets_lane t_sheets_size)) mv_X4_refusal lk_6_237 (c_X4_refusal l D ks cI cL cC cM cS (fun k => a (92 + k)) (t_sheets_items 3) (t_sheets_lane 3) (t_sheets_size 3) (t_sheets_lane 1) x2 x5) [8, 9] [0, 1, 2, 3, 4, 5, 6, 7] [0, 1, 2, 3, 4, 5, 6, 7, 8, 9] rfl rfl rfl rfl (by decide +kernel) (fun _ => rfl) rfl (by decide) (Nat.le_of_ble_eq_true rfl) dX6_copy_61 (fun r61 => [.int r61]) (fun _ => rfl) (fun r61 _ => ?_)
              refine G.istore (lv' := [some (.ref (a 0)), some (.int x1), some (.int x2), some (.int x3), some (.int x4), some (.int x5), some (.ref (a 92)), some (.ref (a 88)), some (.int r61)]) dX6_copy_64 (by decide) (Nat.le_of_ble_eq_true rfl) rfl rfl ?_
              refine G.iload dX6_copy_66 rfl ?_
              refine G.if_ne 87 dX6_copy_68 (by decide) (fun h68 => ?_) (fun h68 => ?_)
              · refine G.iload dX6_copy_87 rfl ?_
                refine G.if_ge 95 dX6_copy_89 (by decide) (fun h89 => ?_) (fun h89 => ?_)
                · refine G.aload dX6_copy_95 rfl ?_
                  refine G.get fl_6_266 8 rfl rfl dX6_copy_97 ?_
                  refine G.iload_n dX6_copy_100 rfl ?_
                  refine G.aload dX6_copy_101 rfl ?_
                  refine G.get fl_6_266 4 rfl rfl dX6_copy_103 ?_
                  refine G.iload dX6_copy_106 rfl ?_
                  refine G.iload dX6_copy_108 rfl ?_
                  refine G.chk (fun h110 => ?_)
                  refine G.copyl (w' := (w_X6s cI cL cC cM cS a t_hasImage (va_up t_sheets_items 1 (va_cpy (t_sheets_items 3) (t_sheets_items 1) x2.toNatClampNeg x4.toNatClampNeg x5.toNatClampNeg)) t_sheets_lane t_sheets_size)) 9 5 1 1 lk_6_270 acn acs aci rfl rfl rfl rfl (cpok_1 h110) (cpok_2 h110) (cpok_3 h110) (cpok_4 h110) (cpok_5 h110) (by decide) (Nat.le_of_ble_eq_true rfl) rfl dX6_copy_110 ?_
                  refine G.iload dX6_copy_113 rfl ?_
                  exact G.iret rfl rfl dX6_copy_115
                · refine G.iload dX6_copy_92 rfl ?_
                  exact G.iret rfl rfl dX6_copy_94
              · refine G.aload dX6_copy_71 rfl ?_
                refine G.aload dX6_copy_73 rfl ?_
                refine G.get fl_6_263 8 rfl rfl dX6_copy_75 ?_
                refine G.iload dX6_copy_78 rfl ?_
                refine G.iload dX6_copy_80 rfl ?_
                refine G.callV (st := []) (w' := fun r82 => (w_X6s cI cL cC cM cS a t_hasImage t_sheets_items t_sheets_lane t_sheets_size)) mv_X4_refusal lk_6_237 (c_X4_refusal l D ks cI cL cC cM cS (fun k => a (88 + k)) (t_sheets_items 1) (t_sheets_lane 1) (t_sheets_size 1) (t_sheets_lane 3) x4 x5) [4, 5] [0, 1, 2, 3, 6, 7, 8, 9] [0, 1, 2, 3, 8, 9, 4, 5, 6, 7] rfl rfl rfl rfl (by decide +kernel) (fun _ => rfl) rfl (by decide) (Nat.le_of_ble_eq_true rfl) dX6_copy_82 (fun r82 => [.int r82]) (fun _ => rfl) (fun r82 _ => ?_)
                refine G.istore (lv' := [some (.ref (a 0)), some (.int x1), some (.int x2), some (.int x3), some (.int x4), some (.int x5), some (.ref (a 92)), some (.ref (a 88)), some (.int r82)]) dX6_copy_85 (by decide) (Nat.le_of_ble_eq_true rfl) rfl rfl ?_
                refine G.iload dX6_copy_87 rfl ?_
                refine G.if_ge 95 dX6_copy_89 (by decide) (fun h89 => ?_) (fun h89 => ?_)
                · refine G.aload dX6_copy_95 rfl ?_
                  refine G.get fl_6_266 8 rfl rfl dX6_copy_97 ?_
                  refine G.iload_n dX6_copy_100 rfl ?_
                  refine G.aload dX6_copy_101 rfl ?_
                  refine G.get fl_6_266 4 rfl rfl dX6_copy_103 ?_
                  refine G.iload dX6_copy_106 rfl ?_
                  refine G.iload dX6_copy_108 rfl ?_
                  refine G.chk (fun h110 => ?_)
                  refine G.copyl (w' := (w_X6s cI cL cC cM cS a t_hasImage (va_up t_sheets_items 1 (va_cpy (t_sheets_items 3) (t_sheets_items 1) x2.toNatClampNeg x4.toNatClampNeg x5.toNatClampNeg)) t_sheets_lane t_sheets_size)) 9 5 1 1 lk_6_270 acn acs aci rfl rfl rfl rfl (cpok_1 h110) (cpok_2 h110) (cpok_3 h110) (cpok_4 h110) (cpok_5 h110) (by decide) (Nat.le_of_ble_eq_true rfl) rfl dX6_copy_110 ?_
                  refine G.iload dX6_copy_113 rfl ?_
                  exact G.iret rfl rfl dX6_copy_115
                · refine G.iload dX6_copy_92 rfl ?_
                  exact G.iret rfl rfl dX6_copy_94
            · refine G.bipush (-11) dX6_copy_48 (by decide) ?_
              exact G.iret rfl rfl dX6_copy_50
        · refine G.aaload 1 4 rfl rfl h29 (by rw [hj29]) dX6_copy_29 ?_
          refine G.astore (lv' := [some (.ref (a 0)), some (.int x1), some (.int x2), some (.int x3), some (.int x4), some (.int x5), some (.ref (a 92)), some (.ref (a 90)), none]) dX6_copy_30 (by decide) (Nat.le_of_ble_eq_true rfl) rfl rfl ?_
          refine G.aload dX6_copy_32 rfl ?_
          refine G.callV (st := []) (w' := fun r34 => (w_X6s cI cL cC cM cS a t_hasImage t_sheets_items t_sheets_lane t_sheets_size)) mv_X4_isMissing lk_6_256 (c_X4_isMissing l D ks cI cL cC cM cS (fun k => a (92 + k)) (t_sheets_items 3) (t_sheets_lane 3) (t_sheets_size 3)) [8, 9] [0, 1, 2, 3, 4, 5, 6, 7] [0, 1, 2, 3, 4, 5, 6, 7, 8, 9] rfl rfl rfl rfl (by decide +kernel) (fun _ => rfl) rfl (by decide) (Nat.le_of_ble_eq_true rfl) dX6_copy_34 (fun r34 => [.int r34]) (fun _ => rfl) (fun r34 _ => ?_)
          refine G.if_ne 48 dX6_copy_37 (by decide) (fun h37 => ?_) (fun h37 => ?_)
          · refine G.bipush (-11) dX6_copy_48 (by decide) ?_
            exact G.iret rfl rfl dX6_copy_50
          · refine G.aload dX6_copy_40 rfl ?_
            refine G.callV (st := []) (w' := fun r42 => (w_X6s cI cL cC cM cS a t_hasImage t_sheets_items t_sheets_lane t_sheets_size)) mv_X4_isMissing lk_6_256 (c_X4_isMissing l D ks cI cL cC cM cS (fun k => a (90 + k)) (t_sheets_items 2) (t_sheets_lane 2) (t_sheets_size 2)) [6, 7] [0, 1, 2, 3, 4, 5, 8, 9] [0, 1, 2, 3, 4, 5, 8, 9, 6, 7] rfl rfl rfl rfl (by decide +kernel) (fun _ => rfl) rfl (by decide) (Nat.le_of_ble_eq_true rfl) dX6_copy_42 (fun r42 => [.int r42]) (fun _ => rfl) (fun r42 _ => ?_)
            refine G.if_eq 51 dX6_copy_45 (by decide) (fun h45 => ?_) (fun h45 => ?_)
            · refine G.aload dX6_copy_51 rfl ?_
              refine G.aload dX6_copy_53 rfl ?_
              refine G.get fl_6_263 6 rfl rfl dX6_copy_55 ?_
              refine G.iload_n dX6_copy_58 rfl ?_
              refine G.iload dX6_copy_59 rfl ?_
              refine G.callV (st := []) (w' := fun r61 => (w_X6s cI cL cC cM cS a t_hasImage t_sheets_items t_sheets_lane t_sheets_size)) mv_X4_refusal lk_6_237 (c_X4_refusal l D ks cI cL cC cM cS (fun k => a (92 + k)) (t_sheets_items 3) (t_sheets_lane 3) (t_sheets_size 3) (t_sheets_lane 2) x2 x5) [8, 9] [0, 1, 2, 3, 4, 5, 6, 7] [0, 1, 2, 3, 4, 5, 6, 7, 8, 9] rfl rfl rfl rfl (by decide +kernel) (fun _ => rfl) rfl (by decide) (Nat.le_of_ble_eq_true rfl) dX6_copy_61 (fun r61 => [.int r61]) (fun _ => rfl) (fun r61 _ => ?_)
              refine G.istore (lv' := [some (.ref (a 0)), some (.int x1), some (.int x2), some (.int x3), some (.int x4), some (.int x5), some (.ref (a 92)), some (.ref (a 90)), some (.int r61)]) dX6_copy_64 (by decide) (Nat.le_of_ble_eq_true rfl) rfl rfl ?_
              refine G.iload dX6_copy_66 rfl ?_
              refine G.if_ne 87 dX6_copy_68 (by decide) (fun h68 => ?_) (fun h68 => ?_)
              · refine G.iload dX6_copy_87 rfl ?_
                refine G.if_ge 95 dX6_copy_89 (by decide) (fun h89 => ?_) (fun h89 => ?_)
                · refine G.aload dX6_copy_95 rfl ?_
                  refine G.get fl_6_266 8 rfl rfl dX6_copy_97 ?_
                  refine G.iload_n dX6_copy_100 rfl ?_
                  refine G.aload dX6_copy_101 rfl ?_
                  refine G.get fl_6_266 6 rfl rfl dX6_copy_103 ?_
                  refine G.iload dX6_copy_106 rfl ?_
                  refine G.iload dX6_copy_108 rfl ?_
                  refine G.chk (fun h110 => ?_)
                  refine G.copyl (w' := (w_X6s cI cL cC cM cS a t_hasImage (va_up t_sheets_items 2 (va_cpy (t_sheets_items 3) (t_sheets_items 2) x2.toNatClampNeg x4.toNatClampNeg x5.toNatClampNeg)) t_sheets_lane t_sheets_size)) 9 7 1 1 lk_6_270 acn acs aci rfl rfl rfl rfl (cpok_1 h110) (cpok_2 h110) (cpok_3 h110) (cpok_4 h110) (cpok_5 h110) (by decide) (Nat.le_of_ble_eq_true rfl) rfl dX6_copy_110 ?_
                  refine G.iload dX6_copy_113 rfl ?_
                  exact G.iret rfl rfl dX6_copy_115
                · refine G.iload dX6_copy_92 rfl ?_
                  exact G.iret rfl rfl dX6_copy_94
              · refine G.aload dX6_copy_71 rfl ?_
                refine G.aload dX6_copy_73 rfl ?_
                refine G.get fl_6_263 8 rfl rfl dX6_copy_75 ?_
                refine G.iload dX6_copy_78 rfl ?_
                refine G.iload dX6_copy_80 rfl ?_
                refine G.callV (st := []) (w' := fun r82 => (w_X6s cI cL cC cM cS a t_hasImage t_sheets_items t_sheets_lane t_sheets_size)) mv_X4_refusal lk_6_237 (c_X4_refusal l D ks cI cL cC cM cS (fun k => a (90 + k)) (t_sheets_items 2) (t_sheets_lane 2) (t_sheets_size 2) (t_sheets_lane 3) x4 x5) [6, 7] [0, 1, 2, 3, 4, 5, 8, 9] [0, 1, 2, 3, 4, 5, 8, 9, 6, 7] rfl rfl rfl rfl (by decide +kernel) (fun _ => rfl) rfl (by decide) (Nat.le_of_ble_eq_true rfl) dX6_copy_82 (fun r82 => [.int r82]) (fun _ => rfl) (fun r82 _ => ?_)
                refine G.istore (lv' := [some (.ref (a 0)), some (.int x1), some (.int x2), some (.int x3), some (.int x4), some (.int x5), some (.ref (a 92)), some (.ref (a 90)), some (.int r82)]) dX6_copy_85 (by decide) (Nat.le_of_ble_eq_true rfl) rfl rfl ?_
                refine G.iload dX6_copy_87 rfl ?_
                refine G.if_ge 95 dX6_copy_89 (by decide) (fun h89 => ?_) (fun h89 => ?_)
                · refine G.aload dX6_copy_95 rfl ?_
                  refine G.get fl_6_266 8 rfl rfl dX6_copy_97 ?_
                  refine G.iload_n dX6_copy_100 rfl ?_
                  refine G.aload dX6_copy_101 rfl ?_
                  refine G.get fl_6_266 6 rfl rfl dX6_copy_103 ?_
                  refine G.iload dX6_copy_106 rfl ?_
                  refine G.iload dX6_copy_108 rfl ?_
                  refine G.chk (fun h110 => ?_)
                  refine G.copyl (w' := (w_X6s cI cL cC cM cS a t_hasImage (va_up t_sheets_items 2 (va_cpy (t_sheets_items 3) (t_sheets_items 2) x2.toNatClampNeg x4.toNatClampNeg x5.toNatClampNeg)) t_sheets_lane t_sheets_size)) 9 7 1 1 lk_6_270 acn acs aci rfl rfl rfl rfl (cpok_1 h110) (cpok_2 h110) (cpok_3 h110) (cpok_4 h110) (cpok_5 h110) (by decide) (Nat.le_of_ble_eq_true rfl) rfl dX6_copy_110 ?_
                  refine G.iload dX6_copy_113 rfl ?_
                  exact G.iret rfl rfl dX6_copy_115
                · refine G.iload dX6_copy_92 rfl ?_
                  exact G.iret rfl rfl dX6_copy_94
            · refine G.bipush (-11) dX6_copy_48 (by decide) ?_
              exact G.iret rfl rfl dX6_copy_50
        · refine G.aaload 1 4 rfl rfl h29 (by rw [hj29]) dX6_copy_29 ?_
          refine G.astore (lv' := [some (.ref (a 0)), some (.int x1), some (.int x2), some (.int x3), some (.int x4), some (.int x5), some (.ref (a 92)), some (.ref (a 92)), none]) dX6_copy_30 (by decide) (Nat.le_of_ble_eq_true rfl) rfl rfl ?_
          refine G.aload dX6_copy_32 rfl ?_
          refine G.callV (st := []) (w' := fun r34 => (w_X6s cI cL cC cM cS a t_hasImage t_sheets_items t_sheets_lane t_sheets_size)) mv_X4_isMissing lk_6_256 (c_X4_isMissing l D ks cI cL cC cM cS (fun k => a (92 + k)) (t_sheets_items 3) (t_sheets_lane 3) (t_sheets_size 3)) [8, 9] [0, 1, 2, 3, 4, 5, 6, 7] [0, 1, 2, 3, 4, 5, 6, 7, 8, 9] rfl rfl rfl rfl (by decide +kernel) (fun _ => rfl) rfl (by decide) (Nat.le_of_ble_eq_true rfl) dX6_copy_34 (fun r34 => [.int r34]) (fun _ => rfl) (fun r34 _ => ?_)
          refine G.if_ne 48 dX6_copy_37 (by decide) (fun h37 => ?_) (fun h37 => ?_)
          · refine G.bipush (-11) dX6_copy_48 (by decide) ?_
            exact G.iret rfl rfl dX6_copy_50
          · refine G.aload dX6_copy_40 rfl ?_
            refine G.callV (st := []) (w' := fun r42 => (w_X6s cI cL cC cM cS a t_hasImage t_sheets_items t_sheets_lane t_sheets_size)) mv_X4_isMissing lk_6_256 (c_X4_isMissing l D ks cI cL cC cM cS (fun k => a (92 + k)) (t_sheets_items 3) (t_sheets_lane 3) (t_sheets_size 3)) [8, 9] [0, 1, 2, 3, 4, 5, 6, 7] [0, 1, 2, 3, 4, 5, 6, 7, 8, 9] rfl rfl rfl rfl (by decide +kernel) (fun _ => rfl) rfl (by decide) (Nat.le_of_ble_eq_true rfl) dX6_copy_42 (fun r42 => [.int r42]) (fun _ => rfl) (fun r42 _ => ?_)
            refine G.if_eq 51 dX6_copy_45 (by decide) (fun h45 => ?_) (fun h45 => ?_)
            · refine G.aload dX6_copy_51 rfl ?_
              refine G.aload dX6_copy_53 rfl ?_
              refine G.get fl_6_263 8 rfl rfl dX6_copy_55 ?_
              refine G.iload_n dX6_copy_58 rfl ?_
              refine G.iload dX6_copy_59 rfl ?_
              refine G.callV (st := []) (w' := fun r61 => (w_X6s cI cL cC cM cS a t_hasImage t_sheets_items t_sheets_lane t_sheets_size)) mv_X4_refusal lk_6_237 (c_X4_refusal l D ks cI cL cC cM cS (fun k => a (92 + k)) (t_sheets_items 3) (t_sheets_lane 3) (t_sheets_size 3) (t_sheets_lane 3) x2 x5) [8, 9] [0, 1, 2, 3, 4, 5, 6, 7] [0, 1, 2, 3, 4, 5, 6, 7, 8, 9] rfl rfl rfl rfl (by decide +kernel) (fun _ => rfl) rfl (by decide) (Nat.le_of_ble_eq_true rfl) dX6_copy_61 (fun r61 => [.int r61]) (fun _ => rfl) (fun r61 _ => ?_)
              refine G.istore (lv' := [some (.ref (a 0)), some (.int x1), some (.int x2), some (.int x3), some (.int x4), some (.int x5), some (.ref (a 92)), some (.ref (a 92)), some (.int r61)]) dX6_copy_64 (by decide) (Nat.le_of_ble_eq_true rfl) rfl rfl ?_
              refine G.iload dX6_copy_66 rfl ?_
              refine G.if_ne 87 dX6_copy_68 (by decide) (fun h68 => ?_) (fun h68 => ?_)
              · refine G.iload dX6_copy_87 rfl ?_
                refine G.if_ge 95 dX6_copy_89 (by decide) (fun h89 => ?_) (fun h89 => ?_)
                · refine G.aload dX6_copy_95 rfl ?_
                  refine G.get fl_6_266 8 rfl rfl dX6_copy_97 ?_
                  refine G.iload_n dX6_copy_100 rfl ?_
                  refine G.aload dX6_copy_101 rfl ?_
                  refine G.get fl_6_266 8 rfl rfl dX6_copy_103 ?_
                  refine G.iload dX6_copy_106 rfl ?_
                  refine G.iload dX6_copy_108 rfl ?_
                  refine G.chk (fun h110 => ?_)
                  refine G.copyl (w' := (w_X6s cI cL cC cM cS a t_hasImage (va_up t_sheets_items 3 (va_cpy (t_sheets_items 3) (t_sheets_items 3) x2.toNatClampNeg x4.toNatClampNeg x5.toNatClampNeg)) t_sheets_lane t_sheets_size)) 9 9 1 1 lk_6_270 acn acs aci rfl rfl rfl rfl (cpok_1 h110) (cpok_2 h110) (cpok_3 h110) (cpok_4 h110) (cpok_5 h110) (by decide) (Nat.le_of_ble_eq_true rfl) rfl dX6_copy_110 ?_
                  refine G.iload dX6_copy_113 rfl ?_
                  exact G.iret rfl rfl dX6_copy_115
                · refine G.iload dX6_copy_92 rfl ?_
                  exact G.iret rfl rfl dX6_copy_94
              · refine G.aload dX6_copy_71 rfl ?_
                refine G.aload dX6_copy_73 rfl ?_
                refine G.get fl_6_263 8 rfl rfl dX6_copy_75 ?_
                refine G.iload dX6_copy_78 rfl ?_
                refine G.iload dX6_copy_80 rfl ?_
                refine G.callV (st := []) (w' := fun r82 => (w_X6s cI cL cC cM cS a t_hasImage t_sheets_items t_sheets_lane t_sheets_size)) mv_X4_refusal lk_6_237 (c_X4_refusal l D ks cI cL cC cM cS (fun k => a (92 + k)) (t_sheets_items 3) (t_sheets_lane 3) (t_sheets_size 3) (t_sheets_lane 3) x4 x5) [8, 9] [0, 1, 2, 3, 4, 5, 6, 7] [0, 1, 2, 3, 4, 5, 6, 7, 8, 9] rfl rfl rfl rfl (by decide +kernel) (fun _ => rfl) rfl (by decide) (Nat.le_of_ble_eq_true rfl) dX6_copy_82 (fun r82 => [.int r82]) (fun _ => rfl) (fun r82 _ => ?_)
                refine G.istore (lv' := [some (.ref (a 0)), some (.int x1), some (.int x2), some (.int x3), some (.int x4), some (.int x5), some (.ref (a 92)), some (.ref (a 92)), some (.int r82)]) dX6_copy_85 (by decide) (Nat.le_of_ble_eq_true rfl) rfl rfl ?_
                refine G.iload dX6_copy_87 rfl ?_
                refine G.if_ge 95 dX6_copy_89 (by decide) (fun h89 => ?_) (fun h89 => ?_)
                · refine G.aload dX6_copy_95 rfl ?_
                  refine G.get fl_6_266 8 rfl rfl dX6_copy_97 ?_
                  refine G.iload_n dX6_copy_100 rfl ?_
                  refine G.aload dX6_copy_101 rfl ?_
                  refine G.get fl_6_266 8 rfl rfl dX6_copy_103 ?_
                  refine G.iload dX6_copy_106 rfl ?_
                  refine G.iload dX6_copy_108 rfl ?_
                  refine G.chk (fun h110 => ?_)
                  refine G.copyl (w' := (w_X6s cI cL cC cM cS a t_hasImage (va_up t_sheets_items 3 (va_cpy (t_sheets_items 3) (t_sheets_items 3) x2.toNatClampNeg x4.toNatClampNeg x5.toNatClampNeg)) t_sheets_lane t_sheets_size)) 9 9 1 1 lk_6_270 acn acs aci rfl rfl rfl rfl (cpok_1 h110) (cpok_2 h110) (cpok_3 h110) (cpok_4 h110) (cpok_5 h110) (by decide) (Nat.le_of_ble_eq_true rfl) rfl dX6_copy_110 ?_
                  refine G.iload dX6_copy_113 rfl ?_
                  exact G.iret rfl rfl dX6_copy_115
                · refine G.iload dX6_copy_92 rfl ?_
                  exact G.iret rfl rfl dX6_copy_94
            · refine G.bipush (-11) dX6_copy_48 (by decide) ?_
              exact G.iret rfl rfl dX6_copy_50
    · refine G.iconst (-1) dX6_copy_14 (by decide) ?_
      exact G.iret rfl rfl dX6_copy_15
set_option maxHeartbeats 4000000 in
set_option maxRecDepth 100000 in
theorem g_X6_cough_c24 (l : Launch) (D : va_G) (ks : Nat × Nat) (cI cL cC cM cS : ClassId) (a : Nat → Nat) (t_now_gain : Nat → Int32) (t_hasImage : Int32) : ∀ (n : Nat), ∀ (t_now_kind t_now_used t_now_bay t_now_likes t_now_who t_now_lamp t_now_due : Nat → Int32) (t_now_count t_now_day t_now_dues t_now_draw : Int32) (t_foreseen_kind t_foreseen_used t_foreseen_bay t_foreseen_likes t_foreseen_who t_foreseen_lamp t_foreseen_due t_foreseen_gain : Nat → Int32) (t_foreseen_count t_foreseen_day t_foreseen_dues t_foreseen_draw : Int32) (x1 : Int32) (x2 : Int32), GJ l D ks (tyz cI cL cC cM cS) RX6 cX6_cough 4 ((some .int)) { frames := 4, cells := 0, slots := 0, locals := 89 } (fun r : Int32 × (Nat → Int32) × (Nat → Int32) × (Nat → Int32) × (Nat → Int32) × (Nat → Int32) × (Nat → Int32) × (Nat → Int32) × (Nat → Int32) × Int32 × Int32 × Int32 × Int32 => (some (.int r.1), (w_X6nf cI cL cC cM cS a t_now_kind t_now_used t_now_bay t_now_likes t_now_who t_now_lamp t_now_due t_now_gain t_now_count t_now_day t_now_dues t_now_draw r.2.1 r.2.2.1 r.2.2.2.1 r.2.2.2.2.1 r.2.2.2.2.2.1 r.2.2.2.2.2.2.1 r.2.2.2.2.2.2.2.1 r.2.2.2.2.2.2.2.2.1 r.2.2.2.2.2.2.2.2.2.1 r.2.2.2.2.2.2.2.2.2.2.1 r.2.2.2.2.2.2.2.2.2.2.2.1 r.2.2.2.2.2.2.2.2.2.2.2.2 t_hasImage))) (w_X6nf cI cL cC cM cS a t_now_kind t_now_used t_now_bay t_now_likes t_now_who t_now_lamp t_now_due t_now_gain t_now_count t_now_day t_now_dues t_now_draw t_foreseen_kind t_foreseen_used t_foreseen_bay t_foreseen_likes t_foreseen_who t_foreseen_lamp t_foreseen_due t_foreseen_gain t_foreseen_count t_foreseen_day t_foreseen_dues t_foreseen_draw t_hasImage) 24 [some (.ref (a 0)), some (.int x1), some (.int x2), none] [] (f_X6_cough_c24 n t_now_kind t_now_used t_now_bay t_now_likes t_now_who t_now_lamp t_now_due t_now_count t_now_day t_now_dues t_now_draw t_foreseen_kind t_foreseen_used t_foreseen_bay t_foreseen_likes t_foreseen_who t_foreseen_lamp t_foreseen_due t_foreseen_gain t_foreseen_count t_foreseen_day t_foreseen_dues t_foreseen_draw x1 x2) := by
  intro n
  induction n with
  | zero =>
    intro t_now_kind t_now_used t_now_bay t_now_likes t_now_who t_now_lamp t_now_due t_now_count t_now_day t_now_dues t_now_draw t_foreseen_kind t_foreseen_used t_foreseen_bay t_foreseen_likes t_foreseen_who t_foreseen_lamp t_foreseen_due t_foreseen_gain t_foreseen_count t_foreseen_day t_foreseen_dues t_foreseen_draw x1 x2
    exact G.no
  | succ n ih =>
    intro t_now_kind t_now_used t_now_bay t_now_likes t_now_who t_now_lamp t_now_due t_now_count t_now_day t_now_dues t_now_draw t_foreseen_kind t_foreseen_used t_foreseen_bay t_foreseen_likes t_foreseen_who t_foreseen_lamp t_foreseen_due t_foreseen_gain t_foreseen_count t_foreseen_day t_foreseen_dues t_foreseen_draw x1 x2
    rw [f_X6_cough_c24]
    refine G.iload_n dX6_cough_24 rfl ?_
    refine G.bipush 99 dX6_cough_25 (by decide) ?_
    refine G.icmp_gt 67 dX6_cough_27 (by decide) (fun h27 => ?_) (fun h27 => ?_)
    · refine G.bipush (-4) dX6_cough_67 (by decide) ?_
      exact G.iret rfl rfl dX6_cough_69
    · refine G.aload_n dX6_cough_30 rfl ?_
      refine G.get fl_6_23 0 rfl rfl dX6_cough_31 ?_
      refine G.callV (st := []) (w' := fun r34 => (w_X6nf cI cL cC cM cS a t_now_kind t_now_used t_now_bay t_now_likes t_now_who t_now_lamp t_now_due t_now_gain t_now_count t_now_day t_now_dues t_now_draw t_foreseen_kind t_foreseen_used t_foreseen_bay t_foreseen_likes t_foreseen_who t_foreseen_lamp t_foreseen_due t_foreseen_gain t_foreseen_count t_foreseen_day t_foreseen_dues t_foreseen_draw t_hasImage)) mv_X3_firstAlike lk_6_185 (c_X3_firstAlike l D ks cI cL cC cM cS (fun k => a (36 + k)) t_foreseen_kind t_foreseen_used t_foreseen_bay t_foreseen_likes t_foreseen_who t_foreseen_lamp t_foreseen_due t_foreseen_gain t_foreseen_count t_foreseen_day t_foreseen_dues t_foreseen_draw) [10, 11, 12, 13, 14, 15, 16, 17, 18] [0, 1, 2, 3, 4, 5, 6, 7, 8, 9] [0, 1, 2, 3, 4, 5, 6, 7, 8, 9, 10, 11, 12, 13, 14, 15, 16, 17, 18] rfl rfl rfl rfl (by decide +kernel) (fun _ => rfl) rfl (by decide) (Nat.le_of_ble_eq_true rfl) dX6_cough_34 (fun r34 => [.int r34]) (fun _ => rfl) (fun r34 _ => ?_)
      refine G.istore_n (lv' := [some (.ref (a 0)), some (.int x1), some (.int x2), some (.int r34)]) dX6_cough_37 (by decide) (Nat.le_of_ble_eq_true rfl) rfl rfl ?_
      refine G.iload_n dX6_cough_38 rfl ?_
      refine G.bipush (-4) dX6_cough_39 (by decide) ?_
      refine G.icmp_eq 54 dX6_cough_41 (by decide) (fun h41 => ?_) (fun h41 => ?_)
      · refine G.aload_n dX6_cough_54 rfl ?_
        refine G.get fl_6_23 0 rfl rfl dX6_cough_55 ?_
        refine G.callV (st := []) (w' := fun r58 => (w_X6nf cI cL cC cM cS a t_now_kind t_now_used t_now_bay t_now_likes t_now_who t_now_lamp t_now_due t_now_gain t_now_count t_now_day t_now_dues t_now_draw t_foreseen_kind r58.1 t_foreseen_bay t_foreseen_likes t_foreseen_who t_foreseen_lamp t_foreseen_due r58.2.1 t_foreseen_count r58.2.2.1 r58.2.2.2 t_foreseen_draw t_hasImage)) mv_X3_passDay lk_6_182 (c_X3_passDay l D ks cI cL cC cM cS (fun k => a (36 + k)) t_foreseen_kind t_foreseen_used t_foreseen_bay t_foreseen_likes t_foreseen_who t_foreseen_lamp t_foreseen_due t_foreseen_gain t_foreseen_count t_foreseen_day t_foreseen_dues t_foreseen_draw) [10, 11, 12, 13, 14, 15, 16, 17, 18] [0, 1, 2, 3, 4, 5, 6, 7, 8, 9] [0, 1, 2, 3, 4, 5, 6, 7, 8, 9, 10, 11, 12, 13, 14, 15, 16, 17, 18] rfl rfl rfl rfl (by decide +kernel) (fun _ => rfl) rfl (by decide) (Nat.le_of_ble_eq_true rfl) dX6_cough_58 (fun r58 => []) (fun _ => rfl) (fun r58 _ => ?_)
        refine G.iinc 1 (lv' := [some (.ref (a 0)), some (.int x1), some (.int (x2 + 1)), some (.int r34)]) dX6_cough_61 rfl (by decide) (by decide) (Nat.le_of_ble_eq_true rfl) rfl rfl ?_
        refine G.goto 24 dX6_cough_64 (by decide) ?_
        refine G.mask (lv' := [some (.ref (a 0)), some (.int x1), some (.int (x2 + 1)), none]) [true, true, true, false] rfl ?_
        exact ih t_now_kind t_now_used t_now_bay t_now_likes t_now_who t_now_lamp t_now_due t_now_count t_now_day t_now_dues t_now_draw t_foreseen_kind r58.1 t_foreseen_bay t_foreseen_likes t_foreseen_who t_foreseen_lamp t_foreseen_due r58.2.1 t_foreseen_count r58.2.2.1 r58.2.2.2 t_foreseen_draw x1 (x2 + 1)
      · refine G.iload_n dX6_cough_44 rfl ?_
        refine G.join (st := []) Value.int 53 (fun v53 => ?_) (fun hJ => ?_)
        · exact G.iret rfl rfl dX6_cough_53
        · refine G.ite ?_
          refine G.if_ne 52 dX6_cough_45 (by decide) (fun _ => ?_) (fun _ => ?_)
          · refine G.iload_n dX6_cough_52 rfl ?_
            exact hJ _
          · refine G.iload_n dX6_cough_48 rfl ?_
            refine G.goto 53 dX6_cough_49 (by decide) ?_
            exact hJ _
set_option maxHeartbeats 4000000 in
set_option maxRecDepth 100000 in
theorem c_X6_cough (l : Launch) (D : va_G) (ks : Nat × Nat) (cI cL cC cM cS : ClassId) (a : Nat → Nat) (t_now_kind t_now_used t_now_bay t_now_likes t_now_who t_now_lamp t_now_due t_now_gain : Nat → Int32) (t_now_count t_now_day t_now_dues t_now_draw : Int32) (t_foreseen_kind t_foreseen_used t_foreseen_bay t_foreseen_likes t_foreseen_who t_foreseen_lamp t_foreseen_due t_foreseen_gain : Nat → Int32) (t_foreseen_count t_foreseen_day t_foreseen_dues t_foreseen_draw t_hasImage : Int32) (x1 : Int32) : MT l D ks (tyz cI cL cC cM cS) yX6_cough cX6_cough 4 ((some .int)) { frames := 4, cells := 0, slots := 0, locals := 89 } [.ref (a 0), .int x1] (w_X6nf cI cL cC cM cS a t_now_kind t_now_used t_now_bay t_now_likes t_now_who t_now_lamp t_now_due t_now_gain t_now_count t_now_day t_now_dues t_now_draw t_foreseen_kind t_foreseen_used t_foreseen_bay t_foreseen_likes t_foreseen_who t_foreseen_lamp t_foreseen_due t_foreseen_gain t_foreseen_count t_foreseen_day t_foreseen_dues t_foreseen_draw t_hasImage) (fun r : Int32 × (Nat → Int32) × (Nat → Int32) × (Nat → Int32) × (Nat → Int32) × (Nat → Int32) × (Nat → Int32) × (Nat → Int32) × (Nat → Int32) × Int32 × Int32 × Int32 × Int32 => (some (.int r.1), (w_X6nf cI cL cC cM cS a t_now_kind t_now_used t_now_bay t_now_likes t_now_who t_now_lamp t_now_due t_now_gain t_now_count t_now_day t_now_dues t_now_draw r.2.1 r.2.2.1 r.2.2.2.1 r.2.2.2.2.1 r.2.2.2.2.2.1 r.2.2.2.2.2.2.1 r.2.2.2.2.2.2.2.1 r.2.2.2.2.2.2.2.2.1 r.2.2.2.2.2.2.2.2.2.1 r.2.2.2.2.2.2.2.2.2.2.1 r.2.2.2.2.2.2.2.2.2.2.2.1 r.2.2.2.2.2.2.2.2.2.2.2.2 t_hasImage))) (f_X6_cough t_now_kind t_now_used t_now_bay t_now_likes t_now_who t_now_lamp t_now_due t_now_count t_now_day t_now_dues t_now_draw t_foreseen_kind t_foreseen_used t_foreseen_bay t_foreseen_likes t_foreseen_who t_foreseen_lamp t_foreseen_due t_foreseen_gain t_foreseen_count t_foreseen_day t_foreseen_dues t_foreseen_draw x1) := by
  refine MT.of 2 [some (.ref (a 0)), some (.int x1), none, none] (by decide) (Nat.le_of_ble_eq_true rfl) rfl ?_
  unfold f_X6_cough
  refine G.iload_n dX6_cough_0 rfl ?_
  refine G.iconst 0 dX6_cough_1 (by decide) ?_
  refine G.iconst 1 dX6_cough_2 (by decide) ?_
  refine G.callS (st := []) (w' := fun r3 => (w_X6nf cI cL cC cM cS a t_now_kind t_now_used t_now_bay t_now_likes t_now_who t_now_lamp t_now_due t_now_gain t_now_count t_now_day t_now_dues t_now_draw t_foreseen_kind t_foreseen_used t_foreseen_bay t_foreseen_likes t_foreseen_who t_foreseen_lamp t_foreseen_due t_foreseen_gain t_foreseen_count t_foreseen_day t_foreseen_dues t_foreseen_draw t_hasImage)) ms_X6_within lk_6_53 (c_X6_within l D ks cI cL cC cM cS x1 0 1) [] [0, 1, 2, 3, 4, 5, 6, 7, 8, 9, 10, 11, 12, 13, 14, 15, 16, 17, 18] [0, 1, 2, 3, 4, 5, 6, 7, 8, 9, 10, 11, 12, 13, 14, 15, 16, 17, 18] rfl rfl rfl rfl (by decide +kernel) (fun _ => rfl) (by decide) (Nat.le_of_ble_eq_true rfl) dX6_cough_3 (fun r3 => [.int r3]) (fun _ => rfl) (fun r3 _ => ?_)
  refine G.if_ne 11 dX6_cough_6 (by decide) (fun h6 => ?_) (fun h6 => ?_)
  · refine G.aload_n dX6_cough_11 rfl ?_
    refine G.get fl_6_23 0 rfl rfl dX6_cough_12 ?_
    refine G.aload_n dX6_cough_15 rfl ?_
    refine G.get fl_6_10 0 rfl rfl dX6_cough_16 ?_
    refine G.callV (st := []) (w' := fun r19 => (w_X6nf cI cL cC cM cS a t_now_kind t_now_used t_now_bay t_now_likes t_now_who t_now_lamp t_now_due t_now_gain t_now_count t_now_day t_now_dues t_now_draw r19.1 r19.2.1 r19.2.2.1 r19.2.2.2.1 r19.2.2.2.2.1 r19.2.2.2.2.2.1 r19.2.2.2.2.2.2.1 t_foreseen_gain r19.2.2.2.2.2.2.2.1 r19.2.2.2.2.2.2.2.2.1 r19.2.2.2.2.2.2.2.2.2.1 r19.2.2.2.2.2.2.2.2.2.2 t_hasImage)) mv_X3_become lk_6_122 (c_X3_become l D ks cI cL cC cM cS (fun k => a (36 + k)) (fun k => a (1 + k)) t_foreseen_kind t_foreseen_used t_foreseen_bay t_foreseen_likes t_foreseen_who t_foreseen_lamp t_foreseen_due t_foreseen_gain t_foreseen_count t_foreseen_day t_foreseen_dues t_foreseen_draw t_now_kind t_now_used t_now_bay t_now_likes t_now_who t_now_lamp t_now_due t_now_gain t_now_count t_now_day t_now_dues t_now_draw) [10, 11, 12, 13, 14, 15, 16, 17, 18, 1, 2, 3, 4, 5, 6, 7, 8, 9] [0] [0, 10, 11, 12, 13, 14, 15, 16, 17, 18, 1, 2, 3, 4, 5, 6, 7, 8, 9] rfl rfl rfl rfl (by decide +kernel) (fun _ => rfl) rfl (by decide) (Nat.le_of_ble_eq_true rfl) dX6_cough_19 (fun r19 => []) (fun _ => rfl) (fun r19 _ => ?_)
    refine G.iconst 0 dX6_cough_22 (by decide) ?_
    refine G.istore_n (lv' := [some (.ref (a 0)), some (.int x1), some (.int 0), none]) dX6_cough_23 (by decide) (Nat.le_of_ble_eq_true rfl) rfl rfl ?_
    exact g_X6_cough_c24 l D ks cI cL cC cM cS a t_now_gain t_hasImage fu t_now_kind t_now_used t_now_bay t_now_likes t_now_who t_now_lamp t_now_due t_now_count t_now_day t_now_dues t_now_draw r19.1 r19.2.1 r19.2.2.1 r19.2.2.2.1 r19.2.2.2.2.1 r19.2.2.2.2.2.1 r19.2.2.2.2.2.2.1 t_foreseen_gain r19.2.2.2.2.2.2.2.1 r19.2.2.2.2.2.2.2.2.1 r19.2.2.2.2.2.2.2.2.2.1 r19.2.2.2.2.2.2.2.2.2.2 x1 0
  · refine G.iconst (-1) dX6_cough_9 (by decide) ?_
    exact G.iret rfl rfl dX6_cough_10
set_option maxHeartbeats 4000000 in
set_option maxRecDepth 100000 in
theorem g_X6_weightIfUsed_c80 (l : Launch) (D : va_G) (ks : Nat × Nat) (cI cL cC cM cS : ClassId) (a : Nat → Nat) (t_now_gain : Nat → Int32) (t_hasImage : Int32) (t_now_kind t_now_used t_now_bay t_now_likes t_now_who t_now_lamp t_now_due : Nat → Int32) (t_now_count t_now_day t_now_dues t_now_draw : Int32) (t_foreseen_kind t_foreseen_used t_foreseen_bay t_foreseen_likes t_foreseen_who t_foreseen_lamp t_foreseen_due t_foreseen_gain : Nat → Int32) (t_foreseen_count t_foreseen_day t_foreseen_dues t_foreseen_draw : Int32) (x1 : Int32) (x2 : Int32) (x6 : Int32) : GJ l D ks (tyz cI cL cC cM cS) RX6 cX6_weightIfUsed 8 ((some .int)) { frames := 4, cells := 0, slots := 0, locals := 89 } (fun r : Int32 × (Nat → Int32) × (Nat → Int32) × (Nat → Int32) × (Nat → Int32) × (Nat → Int32) × (Nat → Int32) × (Nat → Int32) × (Nat → Int32) × Int32 × Int32 × Int32 × Int32 => (some (.int r.1), (w_X6nf cI cL cC cM cS a t_now_kind t_now_used t_now_bay t_now_likes t_now_who t_now_lamp t_now_due t_now_gain t_now_count t_now_day t_now_dues t_now_draw r.2.1 r.2.2.1 r.2.2.2.1 r.2.2.2.2.1 r.2.2.2.2.2.1 r.2.2.2.2.2.2.1 r.2.2.2.2.2.2.2.1 r.2.2.2.2.2.2.2.2.1 r.2.2.2.2.2.2.2.2.2.1 r.2.2.2.2.2.2.2.2.2.2.1 r.2.2.2.2.2.2.2.2.2.2.2.1 r.2.2.2.2.2.2.2.2.2.2.2.2 t_hasImage))) (w_X6nf cI cL cC cM cS a t_now_kind t_now_used t_now_bay t_now_likes t_now_who t_now_lamp t_now_due t_now_gain t_now_count t_now_day t_now_dues t_now_draw t_foreseen_kind t_foreseen_used t_foreseen_bay t_foreseen_likes t_foreseen_who t_foreseen_lamp t_foreseen_due t_foreseen_gain t_foreseen_count t_foreseen_day t_foreseen_dues t_foreseen_draw t_hasImage) 80 [some (.ref (a 0)), some (.int x1), some (.int x2), none, none, none, some (.int x6), none] [] (f_X6_weightIfUsed_c80 t_now_kind t_now_used t_now_bay t_now_likes t_now_who t_now_lamp t_now_due t_now_count t_now_day t_now_dues t_now_draw t_foreseen_kind t_foreseen_used t_foreseen_bay t_foreseen_likes t_foreseen_who t_foreseen_lamp t_foreseen_due t_foreseen_gain t_foreseen_count t_foreseen_day t_foreseen_dues t_foreseen_draw x1 x2 x6) := by
  unfold f_X6_weightIfUsed_c80
  refine G.aload_n dX6_weightIfUsed_80 rfl ?_
  refine G.get fl_6_23 0 rfl rfl dX6_weightIfUsed_81 ?_
  refine G.get fl_6_89 10 rfl rfl dX6_weightIfUsed_84 ?_
  refine G.iload_n dX6_weightIfUsed_87 rfl ?_
  refine G.chk (fun h88 => ?_)
  refine G.iaload 12 0 rfl rfl x1.toNatClampNeg rfl h88 dX6_weightIfUsed_88 ?_
  refine G.topi (fun v88 => ?_)
  refine G.iload_n dX6_weightIfUsed_89 rfl ?_
  refine G.join (st := []) Value.int 99 (fun v99 => ?_) (fun hJ => ?_)
  · exact G.iret rfl rfl dX6_weightIfUsed_99
  · refine G.ite ?_
    refine G.icmp_lt 98 dX6_weightIfUsed_90 (by decide) (fun _ => ?_) (fun _ => ?_)
    · refine G.iconst 0 dX6_weightIfUsed_98 (by decide) ?_
      exact hJ _
    · refine G.iload dX6_weightIfUsed_93 rfl ?_
      refine G.goto 99 dX6_weightIfUsed_95 (by decide) ?_
      exact hJ _
set_option maxHeartbeats 4000000 in
set_option maxRecDepth 100000 in
theorem g_X6_weightIfUsed_c67 (l : Launch) (D : va_G) (ks : Nat × Nat) (cI cL cC cM cS : ClassId) (a : Nat → Nat) (t_now_gain : Nat → Int32) (t_hasImage : Int32) (k17 : (Nat → Int32) → (Nat → Int32) → (Nat → Int32) → (Nat → Int32) → (Nat → Int32) → (Nat → Int32) → (Nat → Int32) → Int32 → Int32 → Int32 → Int32 → (Nat → Int32) → (Nat → Int32) → (Nat → Int32) → (Nat → Int32) → (Nat → Int32) → (Nat → Int32) → (Nat → Int32) → (Nat → Int32) → Int32 → Int32 → Int32 → Int32 → Int32 → Int32 → Int32 → Int32 → Int32 → Int32 → Int32 → (Option (Int32 × (Nat → Int32) × (Nat → Int32) × (Nat → Int32) × (Nat → Int32) × (Nat → Int32) × (Nat → Int32) × (Nat → Int32) × (Nat → Int32) × Int32 × Int32 × Int32 × Int32))) (hk17 : ∀ (t_now_kind t_now_used t_now_bay t_now_likes t_now_who t_now_lamp t_now_due : Nat → Int32) (t_now_count t_now_day t_now_dues t_now_draw : Int32) (t_foreseen_kind t_foreseen_used t_foreseen_bay t_foreseen_likes t_foreseen_who t_foreseen_lamp t_foreseen_due t_foreseen_gain : Nat → Int32) (t_foreseen_count t_foreseen_day t_foreseen_dues t_foreseen_draw : Int32) (x1 : Int32) (x2 : Int32) (x3 : Int32) (x4 : Int32) (x5 : Int32) (x6 : Int32) (x7 : Int32), GJ l D ks (tyz cI cL cC cM cS) RX6 cX6_weightIfUsed 8 ((some .int)) { frames := 4, cells := 0, slots := 0, locals := 89 } (fun r : Int32 × (Nat → Int32) × (Nat → Int32) × (Nat → Int32) × (Nat → Int32) × (Nat → Int32) × (Nat → Int32) × (Nat → Int32) × (Nat → Int32) × Int32 × Int32 × Int32 × Int32 => (some (.int r.1), (w_X6nf cI cL cC cM cS a t_now_kind t_now_used t_now_bay t_now_likes t_now_who t_now_lamp t_now_due t_now_gain t_now_count t_now_day t_now_dues t_now_draw r.2.1 r.2.2.1 r.2.2.2.1 r.2.2.2.2.1 r.2.2.2.2.2.1 r.2.2.2.2.2.2.1 r.2.2.2.2.2.2.2.1 r.2.2.2.2.2.2.2.2.1 r.2.2.2.2.2.2.2.2.2.1 r.2.2.2.2.2.2.2.2.2.2.1 r.2.2.2.2.2.2.2.2.2.2.2.1 r.2.2.2.2.2.2.2.2.2.2.2.2 t_hasImage))) (w_X6nf cI cL cC cM cS a t_now_kind t_now_used t_now_bay t_now_likes t_now_who t_now_lamp t_now_due t_now_gain t_now_count t_now_day t_now_dues t_now_draw t_foreseen_kind t_foreseen_used t_foreseen_bay t_foreseen_likes t_foreseen_who t_foreseen_lamp t_foreseen_due t_foreseen_gain t_foreseen_count t_foreseen_day t_foreseen_dues t_foreseen_draw t_hasImage) 17 [some (.ref (a 0)), some (.int x1), some (.int x2), some (.int x3), some (.int x4), some (.int x5), some (.int x6), some (.int x7)] [] (k17 t_now_kind t_now_used t_now_bay t_now_likes t_now_who t_now_lamp t_now_due t_now_count t_now_day t_now_dues t_now_draw t_foreseen_kind t_foreseen_used t_foreseen_bay t_foreseen_likes t_foreseen_who t_foreseen_lamp t_foreseen_due t_foreseen_gain t_foreseen_count t_foreseen_day t_foreseen_dues t_foreseen_draw x1 x2 x3 x4 x5 x6 x7)) (t_now_kind t_now_used t_now_bay t_now_likes t_now_who t_now_lamp t_now_due : Nat → Int32) (t_now_count t_now_day t_now_dues t_now_draw : Int32) (t_foreseen_kind t_foreseen_used t_foreseen_bay t_foreseen_likes t_foreseen_who t_foreseen_lamp t_foreseen_due t_foreseen_gain : Nat → Int32) (t_foreseen_count t_foreseen_day t_foreseen_dues t_foreseen_draw : Int32) (x1 : Int32) (x2 : Int32) (x3 : Int32) (x4 : Int32) (x5 : Int32) (x6 : Int32) (x7 : Int32) : GJ l D ks (tyz cI cL cC cM cS) RX6 cX6_weightIfUsed 8 ((some .int)) { frames := 4, cells := 0, slots := 0, locals := 89 } (fun r : Int32 × (Nat → Int32) × (Nat → Int32) × (Nat → Int32) × (Nat → Int32) × (Nat → Int32) × (Nat → Int32) × (Nat → Int32) × (Nat → Int32) × Int32 × Int32 × Int32 × Int32 => (some (.int r.1), (w_X6nf cI cL cC cM cS a t_now_kind t_now_used t_now_bay t_now_likes t_now_who t_now_lamp t_now_due t_now_gain t_now_count t_now_day t_now_dues t_now_draw r.2.1 r.2.2.1 r.2.2.2.1 r.2.2.2.2.1 r.2.2.2.2.2.1 r.2.2.2.2.2.2.1 r.2.2.2.2.2.2.2.1 r.2.2.2.2.2.2.2.2.1 r.2.2.2.2.2.2.2.2.2.1 r.2.2.2.2.2.2.2.2.2.2.1 r.2.2.2.2.2.2.2.2.2.2.2.1 r.2.2.2.2.2.2.2.2.2.2.2.2 t_hasImage))) (w_X6nf cI cL cC cM cS a t_now_kind t_now_used t_now_bay t_now_likes t_now_who t_now_lamp t_now_due t_now_gain t_now_count t_now_day t_now_dues t_now_draw t_foreseen_kind t_foreseen_used t_foreseen_bay t_foreseen_likes t_foreseen_who t_foreseen_lamp t_foreseen_due t_foreseen_gain t_foreseen_count t_foreseen_day t_foreseen_dues t_foreseen_draw t_hasImage) 67 [some (.ref (a 0)), some (.int x1), some (.int x2), some (.int x3), some (.int x4), some (.int x5), some (.int x6), some (.int x7)] [] (f_X6_weightIfUsed_c67 k17 t_now_kind t_now_used t_now_bay t_now_likes t_now_who t_now_lamp t_now_due t_now_count t_now_day t_now_dues t_now_draw t_foreseen_kind t_foreseen_used t_foreseen_bay t_foreseen_likes t_foreseen_who t_foreseen_lamp t_foreseen_due t_foreseen_gain t_foreseen_count t_foreseen_day t_foreseen_dues t_foreseen_draw x1 x2 x3 x4 x5 x6 x7) := by
  unfold f_X6_weightIfUsed_c67
  refine G.aload_n dX6_weightIfUsed_67 rfl ?_
  refine G.get fl_6_23 0 rfl rfl dX6_weightIfUsed_68 ?_
  refine G.callV (st := []) (w' := fun r71 => (w_X6nf cI cL cC cM cS a t_now_kind t_now_used t_now_bay t_now_likes t_now_who t_now_lamp t_now_due t_now_gain t_now_count t_now_day t_now_dues t_now_draw t_foreseen_kind r71.1 t_foreseen_bay t_foreseen_likes t_foreseen_who t_foreseen_lamp t_foreseen_due r71.2.1 t_foreseen_count r71.2.2.1 r71.2.2.2 t_foreseen_draw t_hasImage)) mv_X3_passDay lk_6_182 (c_X3_passDay l D ks cI cL cC cM cS (fun k => a (36 + k)) t_foreseen_kind t_foreseen_used t_foreseen_bay t_foreseen_likes t_foreseen_who t_foreseen_lamp t_foreseen_due t_foreseen_gain t_foreseen_count t_foreseen_day t_foreseen_dues t_foreseen_draw) [10, 11, 12, 13, 14, 15, 16, 17, 18] [0, 1, 2, 3, 4, 5, 6, 7, 8, 9] [0, 1, 2, 3, 4, 5, 6, 7, 8, 9, 10, 11, 12, 13, 14, 15, 16, 17, 18] rfl rfl rfl rfl (by decide +kernel) (fun _ => rfl) rfl (by decide) (Nat.le_of_ble_eq_true rfl) dX6_weightIfUsed_71 (fun r71 => []) (fun _ => rfl) (fun r71 _ => ?_)
  refine G.iinc 1 (lv' := [some (.ref (a 0)), some (.int x1), some (.int x2), some (.int x3), some (.int x4), some (.int x5), some (.int x6), some (.int (x7 + 1))]) dX6_weightIfUsed_74 rfl (by decide) (by decide) (Nat.le_of_ble_eq_true rfl) rfl rfl ?_
  refine G.goto 17 dX6_weightIfUsed_77 (by decide) ?_
  exact hk17 t_now_kind t_now_used t_now_bay t_now_likes t_now_who t_now_lamp t_now_due t_now_count t_now_day t_now_dues t_now_draw t_foreseen_kind r71.1 t_foreseen_bay t_foreseen_likes t_foreseen_who t_foreseen_lamp t_foreseen_due r71.2.1 t_foreseen_count r71.2.2.1 r71.2.2.2 t_foreseen_draw x1 x2 x3 x4 x5 x6 (x7 + 1)
set_option maxHeartbeats 4000000 in
set_option maxRecDepth 100000 in
theorem g_X6_weightIfUsed_c17 (l : Launch) (D : va_G) (ks : Nat × Nat) (cI cL cC cM cS : ClassId) (a : Nat → Nat) (t_now_gain : Nat → Int32) (t_hasImage : Int32) : ∀ (n : Nat), ∀ (t_now_kind t_now_used t_now_bay t_now_likes t_now_who t_now_lamp t_now_due : Nat → Int32) (t_now_count t_now_day t_now_dues t_now_draw : Int32) (t_foreseen_kind t_foreseen_used t_foreseen_bay t_foreseen_likes t_foreseen_who t_foreseen_lamp t_foreseen_due t_foreseen_gain : Nat → Int32) (t_foreseen_count t_foreseen_day t_foreseen_dues t_foreseen_draw : Int32) (x1 : Int32) (x2 : Int32) (x3 : Int32) (x4 : Int32) (x5 : Int32) (x6 : Int32) (x7 : Int32), GJ l D ks (tyz cI cL cC cM cS) RX6 cX6_weightIfUsed 8 ((some .int)) { frames := 4, cells := 0, slots := 0, locals := 89 } (fun r : Int32 × (Nat → Int32) × (Nat → Int32) × (Nat → Int32) × (Nat → Int32) × (Nat → Int32) × (Nat → Int32) × (Nat → Int32) × (Nat → Int32) × Int32 × Int32 × Int32 × Int32 => (some (.int r.1), (w_X6nf cI cL cC cM cS a t_now_kind t_now_used t_now_bay t_now_likes t_now_who t_now_lamp t_now_due t_now_gain t_now_count t_now_day t_now_dues t_now_draw r.2.1 r.2.2.1 r.2.2.2.1 r.2.2.2.2.1 r.2.2.2.2.2.1 r.2.2.2.2.2.2.1 r.2.2.2.2.2.2.2.1 r.2.2.2.2.2.2.2.2.1 r.2.2.2.2.2.2.2.2.2.1 r.2.2.2.2.2.2.2.2.2.2.1 r.2.2.2.2.2.2.2.2.2.2.2.1 r.2.2.2.2.2.2.2.2.2.2.2.2 t_hasImage))) (w_X6nf cI cL cC cM cS a t_now_kind t_now_used t_now_bay t_now_likes t_now_who t_now_lamp t_now_due t_now_gain t_now_count t_now_day t_now_dues t_now_draw t_foreseen_kind t_foreseen_used t_foreseen_bay t_foreseen_likes t_foreseen_who t_foreseen_lamp t_foreseen_due t_foreseen_gain t_foreseen_count t_foreseen_day t_foreseen_dues t_foreseen_draw t_hasImage) 17 [some (.ref (a 0)), some (.int x1), some (.int x2), some (.int x3), some (.int x4), some (.int x5), some (.int x6), some (.int x7)] [] (f_X6_weightIfUsed_c17 n t_now_kind t_now_used t_now_bay t_now_likes t_now_who t_now_lamp t_now_due t_now_count t_now_day t_now_dues t_now_draw t_foreseen_kind t_foreseen_used t_foreseen_bay t_foreseen_likes t_foreseen_who t_foreseen_lamp t_foreseen_due t_foreseen_gain t_foreseen_count t_foreseen_day t_foreseen_dues t_foreseen_draw x1 x2 x3 x4 x5 x6 x7) := by
  intro n
  induction n with
  | zero =>
    intro t_now_kind t_now_used t_now_bay t_now_likes t_now_who t_now_lamp t_now_due t_now_count t_now_day t_now_dues t_now_draw t_foreseen_kind t_foreseen_used t_foreseen_bay t_foreseen_likes t_foreseen_who t_foreseen_lamp t_foreseen_due t_foreseen_gain t_foreseen_count t_foreseen_day t_foreseen_dues t_foreseen_draw x1 x2 x3 x4 x5 x6 x7
    exact G.no
  | succ n ih =>
    intro t_now_kind t_now_used t_now_bay t_now_likes t_now_who t_now_lamp t_now_due t_now_count t_now_day t_now_dues t_now_draw t_foreseen_kind t_foreseen_used t_foreseen_bay t_foreseen_likes t_foreseen_who t_foreseen_lamp t_foreseen_due t_foreseen_gain t_foreseen_count t_foreseen_day t_foreseen_dues t_foreseen_draw x1 x2 x3 x4 x5 x6 x7
    rw [f_X6_weightIfUsed_c17]
    refine G.iload dX6_weightIfUsed_17 rfl ?_
    refine G.iload_n dX6_weightIfUsed_19 rfl ?_
    refine G.icmp_ge 80 dX6_weightIfUsed_20 (by decide) (fun h20 => ?_) (fun h20 => ?_)
    · refine G.mask (lv' := [some (.ref (a 0)), some (.int x1), some (.int x2), none, none, none, some (.int x6), none]) [true, true, true, false, false, false, true, false] rfl ?_
      exact g_X6_weightIfUsed_c80 l D ks cI cL cC cM cS a t_now_gain t_hasImage t_now_kind t_now_used t_now_bay t_now_likes t_now_who t_now_lamp t_now_due t_now_count t_now_day t_now_dues t_now_draw t_foreseen_kind t_foreseen_used t_foreseen_bay t_foreseen_likes t_foreseen_who t_foreseen_lamp t_foreseen_due t_foreseen_gain t_foreseen_count t_foreseen_day t_foreseen_dues t_foreseen_draw x1 x2 x6
    · refine G.iload dX6_weightIfUsed_23 rfl ?_
      refine G.if_le 80 dX6_weightIfUsed_25 (by decide) (fun h25 => ?_) (fun h25 => ?_)
      · refine G.mask (lv' := [some (.ref (a 0)), some (.int x1), some (.int x2), none, none, none, some (.int x6), none]) [true, true, true, false, false, false, true, false] rfl ?_
        exact g_X6_weightIfUsed_c80 l D ks cI cL cC cM cS a t_now_gain t_hasImage t_now_kind t_now_used t_now_bay t_now_likes t_now_who t_now_lamp t_now_due t_now_count t_now_day t_now_dues t_now_draw t_foreseen_kind t_foreseen_used t_foreseen_bay t_foreseen_likes t_foreseen_who t_foreseen_lamp t_foreseen_due t_foreseen_gain t_foreseen_count t_foreseen_day t_foreseen_dues t_foreseen_draw x1 x2 x6
      · refine G.iload dX6_weightIfUsed_28 rfl ?_
        refine G.iload dX6_weightIfUsed_30 rfl ?_
        refine G.ishr dX6_weightIfUsed_32 ?_
        refine G.iconst 1 dX6_weightIfUsed_33 (by decide) ?_
        refine G.iand dX6_weightIfUsed_34 ?_
        refine G.iconst 1 dX6_weightIfUsed_35 (by decide) ?_
        refine G.icmp_ne 57 dX6_weightIfUsed_36 (by decide) (fun h36 => ?_) (fun h36 => ?_)
        · refine G.iload dX6_weightIfUsed_57 rfl ?_
          refine G.bipush 10 dX6_weightIfUsed_59 (by decide) ?_
          refine G.iload dX6_weightIfUsed_61 rfl ?_
          refine G.isub dX6_weightIfUsed_63 ?_
          refine G.imul dX6_weightIfUsed_64 ?_
          refine G.istore (lv' := [some (.ref (a 0)), some (.int x1), some (.int x2), some (.int x3), some (.int x4), some (.int x5), some (.int (x6 * (10 - x4))), some (.int x7)]) dX6_weightIfUsed_65 (by decide) (Nat.le_of_ble_eq_true rfl) rfl rfl ?_
          exact g_X6_weightIfUsed_c67 l D ks cI cL cC cM cS a t_now_gain t_hasImage (f_X6_weightIfUsed_c17 n) ih t_now_kind t_now_used t_now_bay t_now_likes t_now_who t_now_lamp t_now_due t_now_count t_now_day t_now_dues t_now_draw t_foreseen_kind t_foreseen_used t_foreseen_bay t_foreseen_likes t_foreseen_who t_foreseen_lamp t_foreseen_due t_foreseen_gain t_foreseen_count t_foreseen_day t_foreseen_dues t_foreseen_draw x1 x2 x3 x4 x5 (x6 * (10 - x4)) x7
        · refine G.iload dX6_weightIfUsed_39 rfl ?_
          refine G.iload dX6_weightIfUsed_41 rfl ?_
          refine G.imul dX6_weightIfUsed_43 ?_
          refine G.istore (lv' := [some (.ref (a 0)), some (.int x1), some (.int x2), some (.int x3), some (.int x4), some (.int x5), some (.int (x6 * x4)), some (.int x7)]) dX6_weightIfUsed_44 (by decide) (Nat.le_of_ble_eq_true rfl) rfl rfl ?_
          refine G.aload_n dX6_weightIfUsed_46 rfl ?_
          refine G.get fl_6_23 0 rfl rfl dX6_weightIfUsed_47 ?_
          refine G.iload_n dX6_weightIfUsed_50 rfl ?_
          refine G.callV (st := []) (w' := fun r51 => (w_X6nf cI cL cC cM cS a t_now_kind t_now_used t_now_bay t_now_likes t_now_who t_now_lamp t_now_due t_now_gain t_now_count t_now_day t_now_dues t_now_draw t_foreseen_kind r51 t_foreseen_bay t_foreseen_likes t_foreseen_who t_foreseen_lamp t_foreseen_due t_foreseen_gain t_foreseen_count t_foreseen_day t_foreseen_dues t_foreseen_draw t_hasImage)) mv_X3_talkTo lk_6_169 (c_X3_talkTo l D ks cI cL cC cM cS (fun k => a (36 + k)) t_foreseen_kind t_foreseen_used t_foreseen_bay t_foreseen_likes t_foreseen_who t_foreseen_lamp t_foreseen_due t_foreseen_gain t_foreseen_count t_foreseen_day t_foreseen_dues t_foreseen_draw x1) [10, 11, 12, 13, 14, 15, 16, 17, 18] [0, 1, 2, 3, 4, 5, 6, 7, 8, 9] [0, 1, 2, 3, 4, 5, 6, 7, 8, 9, 10, 11, 12, 13, 14, 15, 16, 17, 18] rfl rfl rfl rfl (by decide +kernel) (fun _ => rfl) rfl (by decide) (Nat.le_of_ble_eq_true rfl) dX6_weightIfUsed_51 (fun r51 => []) (fun _ => rfl) (fun r51 _ => ?_)
          refine G.goto 67 dX6_weightIfUsed_54 (by decide) ?_
          exact g_X6_weightIfUsed_c67 l D ks cI cL cC cM cS a t_now_gain t_hasImage (f_X6_weightIfUsed_c17 n) ih t_now_kind t_now_used t_now_bay t_now_likes t_now_who t_now_lamp t_now_due t_now_count t_now_day t_now_dues t_now_draw t_foreseen_kind r51 t_foreseen_bay t_foreseen_likes t_foreseen_who t_foreseen_lamp t_foreseen_due t_foreseen_gain t_foreseen_count t_foreseen_day t_foreseen_dues t_foreseen_draw x1 x2 x3 x4 x5 (x6 * x4) x7
set_option maxHeartbeats 4000000 in
set_option maxRecDepth 100000 in
theorem c_X6_weightIfUsed (l : Launch) (D : va_G) (ks : Nat × Nat) (cI cL cC cM cS : ClassId) (a : Nat → Nat) (t_now_kind t_now_used t_now_bay t_now_likes t_now_who t_now_lamp t_now_due t_now_gain : Nat → Int32) (t_now_count t_now_day t_now_dues t_now_draw : Int32) (t_foreseen_kind t_foreseen_used t_foreseen_bay t_foreseen_likes t_foreseen_who t_foreseen_lamp t_foreseen_due t_foreseen_gain : Nat → Int32) (t_foreseen_count t_foreseen_day t_foreseen_dues t_foreseen_draw t_hasImage : Int32) (x1 : Int32) (x2 : Int32) (x3 : Int32) (x4 : Int32) (x5 : Int32) : MT l D ks (tyz cI cL cC cM cS) yX6_weightIfUsed cX6_weightIfUsed 8 ((some .int)) { frames := 4, cells := 0, slots := 0, locals := 89 } [.ref (a 0), .int x1, .int x2, .int x3, .int x4, .int x5] (w_X6nf cI cL cC cM cS a t_now_kind t_now_used t_now_bay t_now_likes t_now_who t_now_lamp t_now_due t_now_gain t_now_count t_now_day t_now_dues t_now_draw t_foreseen_kind t_foreseen_used t_foreseen_bay t_foreseen_likes t_foreseen_who t_foreseen_lamp t_foreseen_due t_foreseen_gain t_foreseen_count t_foreseen_day t_foreseen_dues t_foreseen_draw t_hasImage) (fun r : Int32 × (Nat → Int32) × (Nat → Int32) × (Nat → Int32) × (Nat → Int32) × (Nat → Int32) × (Nat → Int32) × (Nat → Int32) × (Nat → Int32) × Int32 × Int32 × Int32 × Int32 => (some (.int r.1), (w_X6nf cI cL cC cM cS a t_now_kind t_now_used t_now_bay t_now_likes t_now_who t_now_lamp t_now_due t_now_gain t_now_count t_now_day t_now_dues t_now_draw r.2.1 r.2.2.1 r.2.2.2.1 r.2.2.2.2.1 r.2.2.2.2.2.1 r.2.2.2.2.2.2.1 r.2.2.2.2.2.2.2.1 r.2.2.2.2.2.2.2.2.1 r.2.2.2.2.2.2.2.2.2.1 r.2.2.2.2.2.2.2.2.2.2.1 r.2.2.2.2.2.2.2.2.2.2.2.1 r.2.2.2.2.2.2.2.2.2.2.2.2 t_hasImage))) (f_X6_weightIfUsed t_now_kind t_now_used t_now_bay t_now_likes t_now_who t_now_lamp t_now_due t_now_count t_now_day t_now_dues t_now_draw t_foreseen_kind t_foreseen_used t_foreseen_bay t_foreseen_likes t_foreseen_who t_foreseen_lamp t_foreseen_due t_foreseen_gain t_foreseen_count t_foreseen_day t_foreseen_dues t_foreseen_draw x1 x2 x3 x4 x5) := by
  refine MT.of 2 [some (.ref (a 0)), some (.int x1), some (.int x2), some (.int x3), some (.int x4), some (.int x5), none, none] (by decide) (Nat.le_of_ble_eq_true rfl) rfl ?_
  unfold f_X6_weightIfUsed
  refine G.aload_n dX6_weightIfUsed_0 rfl ?_
  refine G.get fl_6_23 0 rfl rfl dX6_weightIfUsed_1 ?_
  refine G.aload_n dX6_weightIfUsed_4 rfl ?_
  refine G.get fl_6_10 0 rfl rfl dX6_weightIfUsed_5 ?_
  refine G.callV (st := []) (w' := fun r8 => (w_X6nf cI cL cC cM cS a t_now_kind t_now_used t_now_bay t_now_likes t_now_who t_now_lamp t_now_due t_now_gain t_now_count t_now_day t_now_dues t_now_draw r8.1 r8.2.1 r8.2.2.1 r8.2.2.2.1 r8.2.2.2.2.1 r8.2.2.2.2.2.1 r8.2.2.2.2.2.2.1 t_foreseen_gain r8.2.2.2.2.2.2.2.1 r8.2.2.2.2.2.2.2.2.1 r8.2.2.2.2.2.2.2.2.2.1 r8.2.2.2.2.2.2.2.2.2.2 t_hasImage)) mv_X3_become lk_6_122 (c_X3_become l D ks cI cL cC cM cS (fun k => a (36 + k)) (fun k => a (1 + k)) t_foreseen_kind t_foreseen_used t_foreseen_bay t_foreseen_likes t_foreseen_who t_foreseen_lamp t_foreseen_due t_foreseen_gain t_foreseen_count t_foreseen_day t_foreseen_dues t_foreseen_draw t_now_kind t_now_used t_now_bay t_now_likes t_now_who t_now_lamp t_now_due t_now_gain t_now_count t_now_day t_now_dues t_now_draw) [10, 11, 12, 13, 14, 15, 16, 17, 18, 1, 2, 3, 4, 5, 6, 7, 8, 9] [0] [0, 10, 11, 12, 13, 14, 15, 16, 17, 18, 1, 2, 3, 4, 5, 6, 7, 8, 9] rfl rfl rfl rfl (by decide +kernel) (fun _ => rfl) rfl (by decide) (Nat.le_of_ble_eq_true rfl) dX6_weightIfUsed_8 (fun r8 => []) (fun _ => rfl) (fun r8 _ => ?_)
  refine G.iconst 1 dX6_weightIfUsed_11 (by decide) ?_
  refine G.istore (lv' := [some (.ref (a 0)), some (.int x1), some (.int x2), some (.int x3), some (.int x4), some (.int x5), some (.int 1), none]) dX6_weightIfUsed_12 (by decide) (Nat.le_of_ble_eq_true rfl) rfl rfl ?_
  refine G.iconst 0 dX6_weightIfUsed_14 (by decide) ?_
  refine G.istore (lv' := [some (.ref (a 0)), some (.int x1), some (.int x2), some (.int x3), some (.int x4), some (.int x5), some (.int 1), some (.int 0)]) dX6_weightIfUsed_15 (by decide) (Nat.le_of_ble_eq_true rfl) rfl rfl ?_
  exact g_X6_weightIfUsed_c17 l D ks cI cL cC cM cS a t_now_gain t_hasImage fu t_now_kind t_now_used t_now_bay t_now_likes t_now_who t_now_lamp t_now_due t_now_count t_now_day t_now_dues t_now_draw r8.1 r8.2.1 r8.2.2.1 r8.2.2.2.1 r8.2.2.2.2.1 r8.2.2.2.2.2.1 r8.2.2.2.2.2.2.1 t_foreseen_gain r8.2.2.2.2.2.2.2.1 r8.2.2.2.2.2.2.2.2.1 r8.2.2.2.2.2.2.2.2.2.1 r8.2.2.2.2.2.2.2.2.2.2 x1 x2 x3 x4 x5 1 0
set_option maxHeartbeats 4000000 in
set_option maxRecDepth 100000 in
theorem g_X6_coughs_c85 (l : Launch) (D : va_G) (ks : Nat × Nat) (cI cL cC cM cS : ClassId) (a : Nat → Nat) (t_now_gain : Nat → Int32) (t_hasImage : Int32) : ∀ (n : Nat), ∀ (t_now_kind t_now_used t_now_bay t_now_likes t_now_who t_now_lamp t_now_due : Nat → Int32) (t_now_count t_now_day t_now_dues t_now_draw : Int32) (t_foreseen_kind t_foreseen_used t_foreseen_bay t_foreseen_likes t_foreseen_who t_foreseen_lamp t_foreseen_due t_foreseen_gain : Nat → Int32) (t_foreseen_count t_foreseen_day t_foreseen_dues t_foreseen_draw : Int32) (x1 : Int32) (x2 : Int32) (x3 : Int32) (x4 : Int32) (x5 : Int32) (x6 : Int32) (x7 : Int32) (x8 : Int32), GJ l D ks (tyz cI cL cC cM cS) RX6 cX6_coughs 9 ((some .int)) { frames := 5, cells := 0, slots := 0, locals := 116 } (fun r : Int32 × (Nat → Int32) × (Nat → Int32) × (Nat → Int32) × (Nat → Int32) × (Nat → Int32) × (Nat → Int32) × (Nat → Int32) × (Nat → Int32) × Int32 × Int32 × Int32 × Int32 => (some (.int r.1), (w_X6nf cI cL cC cM cS a t_now_kind t_now_used t_now_bay t_now_likes t_now_who t_now_lamp t_now_due t_now_gain t_now_count t_now_day t_now_dues t_now_draw r.2.1 r.2.2.1 r.2.2.2.1 r.2.2.2.2.1 r.2.2.2.2.2.1 r.2.2.2.2.2.2.1 r.2.2.2.2.2.2.2.1 r.2.2.2.2.2.2.2.2.1 r.2.2.2.2.2.2.2.2.2.1 r.2.2.2.2.2.2.2.2.2.2.1 r.2.2.2.2.2.2.2.2.2.2.2.1 r.2.2.2.2.2.2.2.2.2.2.2.2 t_hasImage))) (w_X6nf cI cL cC cM cS a t_now_kind t_now_used t_now_bay t_now_likes t_now_who t_now_lamp t_now_due t_now_gain t_now_count t_now_day t_now_dues t_now_draw t_foreseen_kind t_foreseen_used t_foreseen_bay t_foreseen_likes t_foreseen_who t_foreseen_lamp t_foreseen_due t_foreseen_gain t_foreseen_count t_foreseen_day t_foreseen_dues t_foreseen_draw t_hasImage) 85 [some (.ref (a 0)), some (.int x1), some (.int x2), some (.int x3), some (.int x4), some (.int x5), some (.int x6), some (.int x7), some (.int x8)] [] (f_X6_coughs_c85 n t_now_kind t_now_used t_now_bay t_now_likes t_now_who t_now_lamp t_now_due t_now_count t_now_day t_now_dues t_now_draw t_foreseen_kind t_foreseen_used t_foreseen_bay t_foreseen_likes t_foreseen_who t_foreseen_lamp t_foreseen_due t_foreseen_gain t_foreseen_count t_foreseen_day t_foreseen_dues t_foreseen_draw x1 x2 x3 x4 x5 x6 x7 x8) := by
  intro n
  induction n with
  | zero =>
    intro t_now_kind t_now_used t_now_bay t_now_likes t_now_who t_now_lamp t_now_due t_now_count t_now_day t_now_dues t_now_draw t_foreseen_kind t_foreseen_used t_foreseen_bay t_foreseen_likes t_foreseen_who t_foreseen_lamp t_foreseen_due t_foreseen_gain t_foreseen_count t_foreseen_day t_foreseen_dues t_foreseen_draw x1 x2 x3 x4 x5 x6 x7 x8
    exact G.no
  | succ n ih =>
    intro t_now_kind t_now_used t_now_bay t_now_likes t_now_who t_now_lamp t_now_due t_now_count t_now_day t_now_dues t_now_draw t_foreseen_kind t_foreseen_used t_foreseen_bay t_foreseen_likes t_foreseen_who t_foreseen_lamp t_foreseen_due t_foreseen_gain t_foreseen_count t_foreseen_day t_foreseen_dues t_foreseen_draw x1 x2 x3 x4 x5 x6 x7 x8
    rw [f_X6_coughs_c85]
    refine G.iload dX6_coughs_85 rfl ?_
    refine G.iconst 1 dX6_coughs_87 (by decide) ?_
    refine G.iload_n dX6_coughs_88 rfl ?_
    refine G.ishl dX6_coughs_89 ?_
    refine G.icmp_ge 115 dX6_coughs_90 (by decide) (fun h90 => ?_) (fun h90 => ?_)
    · refine G.iconst 1 dX6_coughs_115 (by decide) ?_
      refine G.iload dX6_coughs_116 rfl ?_
      refine G.iload dX6_coughs_118 rfl ?_
      refine G.callS (st := [.int 1]) (w' := fun r120 => (w_X6nf cI cL cC cM cS a t_now_kind t_now_used t_now_bay t_now_likes t_now_who t_now_lamp t_now_due t_now_gain t_now_count t_now_day t_now_dues t_now_draw t_foreseen_kind t_foreseen_used t_foreseen_bay t_foreseen_likes t_foreseen_who t_foreseen_lamp t_foreseen_due t_foreseen_gain t_foreseen_count t_foreseen_day t_foreseen_dues t_foreseen_draw t_hasImage)) ms_X6_commonDivisor lk_6_216 (c_X6_commonDivisor l D ks cI cL cC cM cS x6 x7) [] [0, 1, 2, 3, 4, 5, 6, 7, 8, 9, 10, 11, 12, 13, 14, 15, 16, 17, 18] [0, 1, 2, 3, 4, 5, 6, 7, 8, 9, 10, 11, 12, 13, 14, 15, 16, 17, 18] rfl rfl rfl rfl (by decide +kernel) (fun _ => rfl) (by decide) (Nat.le_of_ble_eq_true rfl) dX6_coughs_120 (fun r120 => [.int r120, .int 1]) (fun _ => rfl) (fun r120 _ => ?_)
      refine G.mmax lk_6_219 mst_max mini mcd_max (by decide) (Nat.le_of_ble_eq_true rfl) dX6_coughs_123 ?_
      refine G.topi (fun v123 => ?_)
      refine G.istore (lv' := [some (.ref (a 0)), some (.int x1), some (.int x2), some (.int x3), some (.int x4), some (.int x5), some (.int x6), some (.int x7), some (.int v123)]) dX6_coughs_126 (by decide) (Nat.le_of_ble_eq_true rfl) rfl rfl ?_
      refine G.iload dX6_coughs_128 rfl ?_
      refine G.if_ne 141 dX6_coughs_130 (by decide) (fun h130 => ?_) (fun h130 => ?_)
      · refine G.iload dX6_coughs_141 rfl ?_
        refine G.iload dX6_coughs_143 rfl ?_
        refine G.nz (fun h145 => ?_)
        refine G.idiv dX6_coughs_145 h145 ?_
        exact G.iret rfl rfl dX6_coughs_146
      · refine G.iload dX6_coughs_133 rfl ?_
        refine G.iload dX6_coughs_135 rfl ?_
        refine G.nz (fun h137 => ?_)
        refine G.idiv dX6_coughs_137 h137 ?_
        refine G.goto 146 dX6_coughs_138 (by decide) ?_
        exact G.iret rfl rfl dX6_coughs_146
    · refine G.iload dX6_coughs_93 rfl ?_
      refine G.aload_n dX6_coughs_95 rfl ?_
      refine G.iload_n dX6_coughs_96 rfl ?_
      refine G.iload_n dX6_coughs_97 rfl ?_
      refine G.iload_n dX6_coughs_98 rfl ?_
      refine G.iload dX6_coughs_99 rfl ?_
      refine G.iload dX6_coughs_101 rfl ?_
      refine G.callV (st := [.int x7]) (w' := fun r103 => (w_X6nf cI cL cC cM cS a t_now_kind t_now_used t_now_bay t_now_likes t_now_who t_now_lamp t_now_due t_now_gain t_now_count t_now_day t_now_dues t_now_draw r103.2.1 r103.2.2.1 r103.2.2.2.1 r103.2.2.2.2.1 r103.2.2.2.2.2.1 r103.2.2.2.2.2.2.1 r103.2.2.2.2.2.2.2.1 r103.2.2.2.2.2.2.2.2.1 r103.2.2.2.2.2.2.2.2.2.1 r103.2.2.2.2.2.2.2.2.2.2.1 r103.2.2.2.2.2.2.2.2.2.2.2.1 r103.2.2.2.2.2.2.2.2.2.2.2.2 t_hasImage)) mv_X6_weightIfUsed lk_6_212 (c_X6_weightIfUsed l D ks cI cL cC cM cS a t_now_kind t_now_used t_now_bay t_now_likes t_now_who t_now_lamp t_now_due t_now_gain t_now_count t_now_day t_now_dues t_now_draw t_foreseen_kind t_foreseen_used t_foreseen_bay t_foreseen_likes t_foreseen_who t_foreseen_lamp t_foreseen_due t_foreseen_gain t_foreseen_count t_foreseen_day t_foreseen_dues t_foreseen_draw t_hasImage x1 x2 x3 x4 x8) [0, 1, 2, 3, 4, 5, 6, 7, 8, 9, 10, 11, 12, 13, 14, 15, 16, 17, 18] [] [0, 1, 2, 3, 4, 5, 6, 7, 8, 9, 10, 11, 12, 13, 14, 15, 16, 17, 18] rfl rfl rfl rfl (by decide +kernel) (fun _ => rfl) rfl (by decide) (Nat.le_of_ble_eq_true rfl) dX6_coughs_103 (fun r103 => [.int r103.1, .int x7]) (fun _ => rfl) (fun r103 _ => ?_)
      refine G.iadd dX6_coughs_106 ?_
      refine G.istore (lv' := [some (.ref (a 0)), some (.int x1), some (.int x2), some (.int x3), some (.int x4), some (.int x5), some (.int x6), some (.int (x7 + r103.1)), some (.int x8)]) dX6_coughs_107 (by decide) (Nat.le_of_ble_eq_true rfl) rfl rfl ?_
      refine G.iinc 1 (lv' := [some (.ref (a 0)), some (.int x1), some (.int x2), some (.int x3), some (.int x4), some (.int x5), some (.int x6), some (.int (x7 + r103.1)), some (.int (x8 + 1))]) dX6_coughs_109 rfl (by decide) (by decide) (Nat.le_of_ble_eq_true rfl) rfl rfl ?_
      refine G.goto 85 dX6_coughs_112 (by decide) ?_
      exact ih t_now_kind t_now_used t_now_bay t_now_likes t_now_who t_now_lamp t_now_due t_now_count t_now_day t_now_dues t_now_draw r103.2.1 r103.2.2.1 r103.2.2.2.1 r103.2.2.2.2.1 r103.2.2.2.2.2.1 r103.2.2.2.2.2.2.1 r103.2.2.2.2.2.2.2.1 r103.2.2.2.2.2.2.2.2.1 r103.2.2.2.2.2.2.2.2.2.1 r103.2.2.2.2.2.2.2.2.2.2.1 r103.2.2.2.2.2.2.2.2.2.2.2.1 r103.2.2.2.2.2.2.2.2.2.2.2.2 x1 x2 x3 x4 x5 x6 (x7 + r103.1) (x8 + 1)
set_option maxHeartbeats 4000000 in
set_option maxRecDepth 100000 in
theorem g_X6_coughs_c60 (l : Launch) (D : va_G) (ks : Nat × Nat) (cI cL cC cM cS : ClassId) (a : Nat → Nat) (t_now_gain : Nat → Int32) (t_hasImage : Int32) : ∀ (n : Nat), ∀ (t_now_kind t_now_used t_now_bay t_now_likes t_now_who t_now_lamp t_now_due : Nat → Int32) (t_now_count t_now_day t_now_dues t_now_draw : Int32) (t_foreseen_kind t_foreseen_used t_foreseen_bay t_foreseen_likes t_foreseen_who t_foreseen_lamp t_foreseen_due t_foreseen_gain : Nat → Int32) (t_foreseen_count t_foreseen_day t_foreseen_dues t_foreseen_draw : Int32) (x1 : Int32) (x2 : Int32) (x3 : Int32) (x4 : Int32) (x5 : Int32) (x6 : Int32) (x7 : Int32), GJ l D ks (tyz cI cL cC cM cS) RX6 cX6_coughs 9 ((some .int)) { frames := 5, cells := 0, slots := 0, locals := 116 } (fun r : Int32 × (Nat → Int32) × (Nat → Int32) × (Nat → Int32) × (Nat → Int32) × (Nat → Int32) × (Nat → Int32) × (Nat → Int32) × (Nat → Int32) × Int32 × Int32 × Int32 × Int32 => (some (.int r.1), (w_X6nf cI cL cC cM cS a t_now_kind t_now_used t_now_bay t_now_likes t_now_who t_now_lamp t_now_due t_now_gain t_now_count t_now_day t_now_dues t_now_draw r.2.1 r.2.2.1 r.2.2.2.1 r.2.2.2.2.1 r.2.2.2.2.2.1 r.2.2.2.2.2.2.1 r.2.2.2.2.2.2.2.1 r.2.2.2.2.2.2.2.2.1 r.2.2.2.2.2.2.2.2.2.1 r.2.2.2.2.2.2.2.2.2.2.1 r.2.2.2.2.2.2.2.2.2.2.2.1 r.2.2.2.2.2.2.2.2.2.2.2.2 t_hasImage))) (w_X6nf cI cL cC cM cS a t_now_kind t_now_used t_now_bay t_now_likes t_now_who t_now_lamp t_now_due t_now_gain t_now_count t_now_day t_now_dues t_now_draw t_foreseen_kind t_foreseen_used t_foreseen_bay t_foreseen_likes t_foreseen_who t_foreseen_lamp t_foreseen_due t_foreseen_gain t_foreseen_count t_foreseen_day t_foreseen_dues t_foreseen_draw t_hasImage) 60 [some (.ref (a 0)), some (.int x1), some (.int x2), some (.int x3), some (.int x4), some (.int x5), some (.int x6), some (.int x7), none] [] (f_X6_coughs_c60 n t_now_kind t_now_used t_now_bay t_now_likes t_now_who t_now_lamp t_now_due t_now_count t_now_day t_now_dues t_now_draw t_foreseen_kind t_foreseen_used t_foreseen_bay t_foreseen_likes t_foreseen_who t_foreseen_lamp t_foreseen_due t_foreseen_gain t_foreseen_count t_foreseen_day t_foreseen_dues t_foreseen_draw x1 x2 x3 x4 x5 x6 x7) := by
  intro n
  induction n with
  | zero =>
    intro t_now_kind t_now_used t_now_bay t_now_likes t_now_who t_now_lamp t_now_due t_now_count t_now_day t_now_dues t_now_draw t_foreseen_kind t_foreseen_used t_foreseen_bay t_foreseen_likes t_foreseen_who t_foreseen_lamp t_foreseen_due t_foreseen_gain t_foreseen_count t_foreseen_day t_foreseen_dues t_foreseen_draw x1 x2 x3 x4 x5 x6 x7
    exact G.no
  | succ n ih =>
    intro t_now_kind t_now_used t_now_bay t_now_likes t_now_who t_now_lamp t_now_due t_now_count t_now_day t_now_dues t_now_draw t_foreseen_kind t_foreseen_used t_foreseen_bay t_foreseen_likes t_foreseen_who t_foreseen_lamp t_foreseen_due t_foreseen_gain t_foreseen_count t_foreseen_day t_foreseen_dues t_foreseen_draw x1 x2 x3 x4 x5 x6 x7
    rw [f_X6_coughs_c60]
    refine G.iload dX6_coughs_60 rfl ?_
    refine G.iload_n dX6_coughs_62 rfl ?_
    refine G.icmp_ge 79 dX6_coughs_63 (by decide) (fun h63 => ?_) (fun h63 => ?_)
    · refine G.iconst 0 dX6_coughs_79 (by decide) ?_
      refine G.istore (lv' := [some (.ref (a 0)), some (.int x1), some (.int x2), some (.int x3), some (.int x4), some (.int x5), some (.int x6), some (.int 0), none]) dX6_coughs_80 (by decide) (Nat.le_of_ble_eq_true rfl) rfl rfl ?_
      refine G.iconst 0 dX6_coughs_82 (by decide) ?_
      refine G.istore (lv' := [some (.ref (a 0)), some (.int x1), some (.int x2), some (.int x3), some (.int x4), some (.int x5), some (.int x6), some (.int 0), some (.int 0)]) dX6_coughs_83 (by decide) (Nat.le_of_ble_eq_true rfl) rfl rfl ?_
      exact g_X6_coughs_c85 l D ks cI cL cC cM cS a t_now_gain t_hasImage fu t_now_kind t_now_used t_now_bay t_now_likes t_now_who t_now_lamp t_now_due t_now_count t_now_day t_now_dues t_now_draw t_foreseen_kind t_foreseen_used t_foreseen_bay t_foreseen_likes t_foreseen_who t_foreseen_lamp t_foreseen_due t_foreseen_gain t_foreseen_count t_foreseen_day t_foreseen_dues t_foreseen_draw x1 x2 x3 x4 x5 x6 0 0
    · refine G.iload dX6_coughs_66 rfl ?_
      refine G.bipush 10 dX6_coughs_68 (by decide) ?_
      refine G.imul dX6_coughs_70 ?_
      refine G.istore (lv' := [some (.ref (a 0)), some (.int x1), some (.int x2), some (.int x3), some (.int x4), some (.int x5), some (.int (x6 * 10)), some (.int x7), none]) dX6_coughs_71 (by decide) (Nat.le_of_ble_eq_true rfl) rfl rfl ?_
      refine G.iinc 1 (lv' := [some (.ref (a 0)), some (.int x1), some (.int x2), some (.int x3), some (.int x4), some (.int x5), some (.int (x6 * 10)), some (.int (x7 + 1)), none]) dX6_coughs_73 rfl (by decide) (by decide) (Nat.le_of_ble_eq_true rfl) rfl rfl ?_
      refine G.goto 60 dX6_coughs_76 (by decide) ?_
      exact ih t_now_kind t_now_used t_now_bay t_now_likes t_now_who t_now_lamp t_now_due t_now_count t_now_day t_now_dues t_now_draw t_foreseen_kind t_foreseen_used t_foreseen_bay t_foreseen_likes t_foreseen_who t_foreseen_lamp t_foreseen_due t_foreseen_gain t_foreseen_count t_foreseen_day t_foreseen_dues t_foreseen_draw x1 x2 x3 x4 x5 (x6 * 10) (x7 + 1)
set_option maxHeartbeats 4000000 in
set_option maxRecDepth 100000 in
theorem c_X6_coughs (l : Launch) (D : va_G) (ks : Nat × Nat) (cI cL cC cM cS : ClassId) (a : Nat → Nat) (t_now_kind t_now_used t_now_bay t_now_likes t_now_who t_now_lamp t_now_due t_now_gain : Nat → Int32) (t_now_count t_now_day t_now_dues t_now_draw : Int32) (t_foreseen_kind t_foreseen_used t_foreseen_bay t_foreseen_likes t_foreseen_who t_foreseen_lamp t_foreseen_due t_foreseen_gain : Nat → Int32) (t_foreseen_count t_foreseen_day t_foreseen_dues t_foreseen_draw t_hasImage : Int32) (x1 : Int32) (x2 : Int32) (x3 : Int32) (x4 : Int32) (x5 : Int32) : MT l D ks (tyz cI cL cC cM cS) yX6_coughs cX6_coughs 9 ((some .int)) { frames := 5, cells := 0, slots := 0, locals := 116 } [.ref (a 0), .int x1, .int x2, .int x3, .int x4, .int x5] (w_X6nf cI cL cC cM cS a t_now_kind t_now_used t_now_bay t_now_likes t_now_who t_now_lamp t_now_due t_now_gain t_now_count t_now_day t_now_dues t_now_draw t_foreseen_kind t_foreseen_used t_foreseen_bay t_foreseen_likes t_foreseen_who t_foreseen_lamp t_foreseen_due t_foreseen_gain t_foreseen_count t_foreseen_day t_foreseen_dues t_foreseen_draw t_hasImage) (fun r : Int32 × (Nat → Int32) × (Nat → Int32) × (Nat → Int32) × (Nat → Int32) × (Nat → Int32) × (Nat → Int32) × (Nat → Int32) × (Nat → Int32) × Int32 × Int32 × Int32 × Int32 => (some (.int r.1), (w_X6nf cI cL cC cM cS a t_now_kind t_now_used t_now_bay t_now_likes t_now_who t_now_lamp t_now_due t_now_gain t_now_count t_now_day t_now_dues t_now_draw r.2.1 r.2.2.1 r.2.2.2.1 r.2.2.2.2.1 r.2.2.2.2.2.1 r.2.2.2.2.2.2.1 r.2.2.2.2.2.2.2.1 r.2.2.2.2.2.2.2.2.1 r.2.2.2.2.2.2.2.2.2.1 r.2.2.2.2.2.2.2.2.2.2.1 r.2.2.2.2.2.2.2.2.2.2.2.1 r.2.2.2.2.2.2.2.2.2.2.2.2 t_hasImage))) (f_X6_coughs t_now_kind t_now_used t_now_bay t_now_likes t_now_who t_now_lamp t_now_due t_now_count t_now_day t_now_dues t_now_draw t_foreseen_kind t_foreseen_used t_foreseen_bay t_foreseen_likes t_foreseen_who t_foreseen_lamp t_foreseen_due t_foreseen_gain t_foreseen_count t_foreseen_day t_foreseen_dues t_foreseen_draw x1 x2 x3 x4 x5) := by
  refine MT.of 3 [some (.ref (a 0)), some (.int x1), some (.int x2), some (.int x3), some (.int x4), some (.int x5), none, none, none] (by decide) (Nat.le_of_ble_eq_true rfl) rfl ?_
  unfold f_X6_coughs
  refine G.aload_n dX6_coughs_0 rfl ?_
  refine G.get fl_6_10 0 rfl rfl dX6_coughs_1 ?_
  refine G.iload_n dX6_coughs_4 rfl ?_
  refine G.callV (st := []) (w' := fun r5 => (w_X6nf cI cL cC cM cS a t_now_kind t_now_used t_now_bay t_now_likes t_now_who t_now_lamp t_now_due t_now_gain t_now_count t_now_day t_now_dues t_now_draw t_foreseen_kind t_foreseen_used t_foreseen_bay t_foreseen_likes t_foreseen_who t_foreseen_lamp t_foreseen_due t_foreseen_gain t_foreseen_count t_foreseen_day t_foreseen_dues t_foreseen_draw t_hasImage)) mv_X3_has lk_6_83 (c_X3_has l D ks cI cL cC cM cS (fun k => a (1 + k)) t_now_kind t_now_used t_now_bay t_now_likes t_now_who t_now_lamp t_now_due t_now_gain t_now_count t_now_day t_now_dues t_now_draw x1) [1, 2, 3, 4, 5, 6, 7, 8, 9] [0, 10, 11, 12, 13, 14, 15, 16, 17, 18] [0, 10, 11, 12, 13, 14, 15, 16, 17, 18, 1, 2, 3, 4, 5, 6, 7, 8, 9] rfl rfl rfl rfl (by decide +kernel) (fun _ => rfl) rfl (by decide) (Nat.le_of_ble_eq_true rfl) dX6_coughs_5 (fun r5 => [.int r5]) (fun _ => rfl) (fun r5 _ => ?_)
  refine G.if_eq 52 dX6_coughs_8 (by decide) (fun h8 => ?_) (fun h8 => ?_)
  · refine G.iconst (-1) dX6_coughs_52 (by decide) ?_
    exact G.iret rfl rfl dX6_coughs_53
  · refine G.iload_n dX6_coughs_11 rfl ?_
    refine G.iconst 0 dX6_coughs_12 (by decide) ?_
    refine G.bipush 99 dX6_coughs_13 (by decide) ?_
    refine G.callS (st := []) (w' := fun r15 => (w_X6nf cI cL cC cM cS a t_now_kind t_now_used t_now_bay t_now_likes t_now_who t_now_lamp t_now_due t_now_gain t_now_count t_now_day t_now_dues t_now_draw t_foreseen_kind t_foreseen_used t_foreseen_bay t_foreseen_likes t_foreseen_who t_foreseen_lamp t_foreseen_due t_foreseen_gain t_foreseen_count t_foreseen_day t_foreseen_dues t_foreseen_draw t_hasImage)) ms_X6_within lk_6_53 (c_X6_within l D ks cI cL cC cM cS x2 0 99) [] [0, 1, 2, 3, 4, 5, 6, 7, 8, 9, 10, 11, 12, 13, 14, 15, 16, 17, 18] [0, 1, 2, 3, 4, 5, 6, 7, 8, 9, 10, 11, 12, 13, 14, 15, 16, 17, 18] rfl rfl rfl rfl (by decide +kernel) (fun _ => rfl) (by decide) (Nat.le_of_ble_eq_true rfl) dX6_coughs_15 (fun r15 => [.int r15]) (fun _ => rfl) (fun r15 _ => ?_)
    refine G.if_eq 52 dX6_coughs_18 (by decide) (fun h18 => ?_) (fun h18 => ?_)
    · refine G.iconst (-1) dX6_coughs_52 (by decide) ?_
      exact G.iret rfl rfl dX6_coughs_53
    · refine G.iload_n dX6_coughs_21 rfl ?_
      refine G.iconst 0 dX6_coughs_22 (by decide) ?_
      refine G.bipush 6 dX6_coughs_23 (by decide) ?_
      refine G.callS (st := []) (w' := fun r25 => (w_X6nf cI cL cC cM cS a t_now_kind t_now_used t_now_bay t_now_likes t_now_who t_now_lamp t_now_due t_now_gain t_now_count t_now_day t_now_dues t_now_draw t_foreseen_kind t_foreseen_used t_foreseen_bay t_foreseen_likes t_foreseen_who t_foreseen_lamp t_foreseen_due t_foreseen_gain t_foreseen_count t_foreseen_day t_foreseen_dues t_foreseen_draw t_hasImage)) ms_X6_within lk_6_53 (c_X6_within l D ks cI cL cC cM cS x3 0 6) [] [0, 1, 2, 3, 4, 5, 6, 7, 8, 9, 10, 11, 12, 13, 14, 15, 16, 17, 18] [0, 1, 2, 3, 4, 5, 6, 7, 8, 9, 10, 11, 12, 13, 14, 15, 16, 17, 18] rfl rfl rfl rfl (by decide +kernel) (fun _ => rfl) (by decide) (Nat.le_of_ble_eq_true rfl) dX6_coughs_25 (fun r25 => [.int r25]) (fun _ => rfl) (fun r25 _ => ?_)
      refine G.if_eq 52 dX6_coughs_28 (by decide) (fun h28 => ?_) (fun h28 => ?_)
      · refine G.iconst (-1) dX6_coughs_52 (by decide) ?_
        exact G.iret rfl rfl dX6_coughs_53
      · refine G.iload dX6_coughs_31 rfl ?_
        refine G.iconst 0 dX6_coughs_33 (by decide) ?_
        refine G.bipush 10 dX6_coughs_34 (by decide) ?_
        refine G.callS (st := []) (w' := fun r36 => (w_X6nf cI cL cC cM cS a t_now_kind t_now_used t_now_bay t_now_likes t_now_who t_now_lamp t_now_due t_now_gain t_now_count t_now_day t_now_dues t_now_draw t_foreseen_kind t_foreseen_used t_foreseen_bay t_foreseen_likes t_foreseen_who t_foreseen_lamp t_foreseen_due t_foreseen_gain t_foreseen_count t_foreseen_day t_foreseen_dues t_foreseen_draw t_hasImage)) ms_X6_within lk_6_53 (c_X6_within l D ks cI cL cC cM cS x4 0 10) [] [0, 1, 2, 3, 4, 5, 6, 7, 8, 9, 10, 11, 12, 13, 14, 15, 16, 17, 18] [0, 1, 2, 3, 4, 5, 6, 7, 8, 9, 10, 11, 12, 13, 14, 15, 16, 17, 18] rfl rfl rfl rfl (by decide +kernel) (fun _ => rfl) (by decide) (Nat.le_of_ble_eq_true rfl) dX6_coughs_36 (fun r36 => [.int r36]) (fun _ => rfl) (fun r36 _ => ?_)
        refine G.if_eq 52 dX6_coughs_39 (by decide) (fun h39 => ?_) (fun h39 => ?_)
        · refine G.iconst (-1) dX6_coughs_52 (by decide) ?_
          exact G.iret rfl rfl dX6_coughs_53
        · refine G.iload dX6_coughs_42 rfl ?_
          refine G.iconst 0 dX6_coughs_44 (by decide) ?_
          refine G.iconst 1 dX6_coughs_45 (by decide) ?_
          refine G.callS (st := []) (w' := fun r46 => (w_X6nf cI cL cC cM cS a t_now_kind t_now_used t_now_bay t_now_likes t_now_who t_now_lamp t_now_due t_now_gain t_now_count t_now_day t_now_dues t_now_draw t_foreseen_kind t_foreseen_used t_foreseen_bay t_foreseen_likes t_foreseen_who t_foreseen_lamp t_foreseen_due t_foreseen_gain t_foreseen_count t_foreseen_day t_foreseen_dues t_foreseen_draw t_hasImage)) ms_X6_within lk_6_53 (c_X6_within l D ks cI cL cC cM cS x5 0 1) [] [0, 1, 2, 3, 4, 5, 6, 7, 8, 9, 10, 11, 12, 13, 14, 15, 16, 17, 18] [0, 1, 2, 3, 4, 5, 6, 7, 8, 9, 10, 11, 12, 13, 14, 15, 16, 17, 18] rfl rfl rfl rfl (by decide +kernel) (fun _ => rfl) (by decide) (Nat.le_of_ble_eq_true rfl) dX6_coughs_46 (fun r46 => [.int r46]) (fun _ => rfl) (fun r46 _ => ?_)
          refine G.if_ne 54 dX6_coughs_49 (by decide) (fun h49 => ?_) (fun h49 => ?_)
          · refine G.iconst 1 dX6_coughs_54 (by decide) ?_
            refine G.istore (lv' := [some (.ref (a 0)), some (.int x1), some (.int x2), some (.int x3), some (.int x4), some (.int x5), some (.int 1), none, none]) dX6_coughs_55 (by decide) (Nat.le_of_ble_eq_true rfl) rfl rfl ?_
            refine G.iconst 0 dX6_coughs_57 (by decide) ?_
            refine G.istore (lv' := [some (.ref (a 0)), some (.int x1), some (.int x2), some (.int x3), some (.int x4), some (.int x5), some (.int 1), some (.int 0), none]) dX6_coughs_58 (by decide) (Nat.le_of_ble_eq_true rfl) rfl rfl ?_
            exact g_X6_coughs_c60 l D ks cI cL cC cM cS a t_now_gain t_hasImage fu t_now_kind t_now_used t_now_bay t_now_likes t_now_who t_now_lamp t_now_due t_now_count t_now_day t_now_dues t_now_draw t_foreseen_kind t_foreseen_used t_foreseen_bay t_foreseen_likes t_foreseen_who t_foreseen_lamp t_foreseen_due t_foreseen_gain t_foreseen_count t_foreseen_day t_foreseen_dues t_foreseen_draw x1 x2 x3 x4 x5 1 0
          · refine G.iconst (-1) dX6_coughs_52 (by decide) ?_
            exact G.iret rfl rfl dX6_coughs_53
set_option maxHeartbeats 4000000 in
set_option maxRecDepth 100000 in
theorem g_X6_dark_c26 (l : Launch) (D : va_G) (ks : Nat × Nat) (cI cL cC cM cS : ClassId) (a : Nat → Nat) (t_now_gain : Nat → Int32) (t_hasImage : Int32) : ∀ (n : Nat), ∀ (t_now_kind t_now_used t_now_bay t_now_likes t_now_who t_now_lamp t_now_due : Nat → Int32) (t_now_count t_now_day t_now_dues t_now_draw : Int32) (t_foreseen_kind t_foreseen_used t_foreseen_bay t_foreseen_likes t_foreseen_who t_foreseen_lamp t_foreseen_due t_foreseen_gain : Nat → Int32) (t_foreseen_count t_foreseen_day t_foreseen_dues t_foreseen_draw : Int32) (x1 : Int32) (x2 : Int32) (x3 : Int32), GJ l D ks (tyz cI cL cC cM cS) RX6 cX6_dark 4 ((some .int)) { frames := 5, cells := 0, slots := 0, locals := 111 } (fun r : Int32 × (Nat → Int32) × (Nat → Int32) × (Nat → Int32) × (Nat → Int32) × (Nat → Int32) × (Nat → Int32) × (Nat → Int32) × (Nat → Int32) × Int32 × Int32 × Int32 × Int32 => (some (.int r.1), (w_X6nf cI cL cC cM cS a t_now_kind t_now_used t_now_bay t_now_likes t_now_who t_now_lamp t_now_due t_now_gain t_now_count t_now_day t_now_dues t_now_draw r.2.1 r.2.2.1 r.2.2.2.1 r.2.2.2.2.1 r.2.2.2.2.2.1 r.2.2.2.2.2.2.1 r.2.2.2.2.2.2.2.1 r.2.2.2.2.2.2.2.2.1 r.2.2.2.2.2.2.2.2.2.1 r.2.2.2.2.2.2.2.2.2.2.1 r.2.2.2.2.2.2.2.2.2.2.2.1 r.2.2.2.2.2.2.2.2.2.2.2.2 t_hasImage))) (w_X6nf cI cL cC cM cS a t_now_kind t_now_used t_now_bay t_now_likes t_now_who t_now_lamp t_now_due t_now_gain t_now_count t_now_day t_now_dues t_now_draw t_foreseen_kind t_foreseen_used t_foreseen_bay t_foreseen_likes t_foreseen_who t_foreseen_lamp t_foreseen_due t_foreseen_gain t_foreseen_count t_foreseen_day t_foreseen_dues t_foreseen_draw t_hasImage) 26 [some (.ref (a 0)), some (.int x1), some (.int x2), some (.int x3)] [] (f_X6_dark_c26 n t_now_kind t_now_used t_now_bay t_now_likes t_now_who t_now_lamp t_now_due t_now_count t_now_day t_now_dues t_now_draw t_foreseen_kind t_foreseen_used t_foreseen_bay t_foreseen_likes t_foreseen_who t_foreseen_lamp t_foreseen_due t_foreseen_gain t_foreseen_count t_foreseen_day t_foreseen_dues t_foreseen_draw x1 x2 x3) := by
  intro n
  induction n with
  | zero =>
    intro t_now_kind t_now_used t_now_bay t_now_likes t_now_who t_now_lamp t_now_due t_now_count t_now_day t_now_dues t_now_draw t_foreseen_kind t_foreseen_used t_foreseen_bay t_foreseen_likes t_foreseen_who t_foreseen_lamp t_foreseen_due t_foreseen_gain t_foreseen_count t_foreseen_day t_foreseen_dues t_foreseen_draw x1 x2 x3
    exact G.no
  | succ n ih =>
    intro t_now_kind t_now_used t_now_bay t_now_likes t_now_who t_now_lamp t_now_due t_now_count t_now_day t_now_dues t_now_draw t_foreseen_kind t_foreseen_used t_foreseen_bay t_foreseen_likes t_foreseen_who t_foreseen_lamp t_foreseen_due t_foreseen_gain t_foreseen_count t_foreseen_day t_foreseen_dues t_foreseen_draw x1 x2 x3
    rw [f_X6_dark_c26]
    refine G.iload_n dX6_dark_26 rfl ?_
    refine G.if_lt 86 dX6_dark_27 (by decide) (fun h27 => ?_) (fun h27 => ?_)
    · refine G.bipush (-4) dX6_dark_86 (by decide) ?_
      exact G.iret rfl rfl dX6_dark_88
    · refine G.aload_n dX6_dark_30 rfl ?_
      refine G.get fl_6_23 0 rfl rfl dX6_dark_31 ?_
      refine G.aload_n dX6_dark_34 rfl ?_
      refine G.get fl_6_10 0 rfl rfl dX6_dark_35 ?_
      refine G.callV (st := []) (w' := fun r38 => (w_X6nf cI cL cC cM cS a t_now_kind t_now_used t_now_bay t_now_likes t_now_who t_now_lamp t_now_due t_now_gain t_now_count t_now_day t_now_dues t_now_draw r38.1 r38.2.1 r38.2.2.1 r38.2.2.2.1 r38.2.2.2.2.1 r38.2.2.2.2.2.1 r38.2.2.2.2.2.2.1 t_foreseen_gain r38.2.2.2.2.2.2.2.1 r38.2.2.2.2.2.2.2.2.1 r38.2.2.2.2.2.2.2.2.2.1 r38.2.2.2.2.2.2.2.2.2.2 t_hasImage)) mv_X3_become lk_6_122 (c_X3_become l D ks cI cL cC cM cS (fun k => a (36 + k)) (fun k => a (1 + k)) t_foreseen_kind t_foreseen_used t_foreseen_bay t_foreseen_likes t_foreseen_who t_foreseen_lamp t_foreseen_due t_foreseen_gain t_foreseen_count t_foreseen_day t_foreseen_dues t_foreseen_draw t_now_kind t_now_used t_now_bay t_now_likes t_now_who t_now_lamp t_now_due t_now_gain t_now_count t_now_day t_now_dues t_now_draw) [10, 11, 12, 13, 14, 15, 16, 17, 18, 1, 2, 3, 4, 5, 6, 7, 8, 9] [0] [0, 10, 11, 12, 13, 14, 15, 16, 17, 18, 1, 2, 3, 4, 5, 6, 7, 8, 9] rfl rfl rfl rfl (by decide +kernel) (fun _ => rfl) rfl (by decide) (Nat.le_of_ble_eq_true rfl) dX6_dark_38 (fun r38 => []) (fun _ => rfl) (fun r38 _ => ?_)
      refine G.aload_n dX6_dark_41 rfl ?_
      refine G.get fl_6_23 0 rfl rfl dX6_dark_42 ?_
      refine G.get fl_6_76 10 rfl rfl dX6_dark_45 ?_
      refine G.aload_n dX6_dark_48 rfl ?_
      refine G.get fl_6_10 0 rfl rfl dX6_dark_49 ?_
      refine G.get fl_6_92 1 rfl rfl dX6_dark_52 ?_
      refine G.iload_n dX6_dark_55 rfl ?_
      refine G.chk (fun h56 => ?_)
      refine G.iaload 4 0 rfl rfl x1.toNatClampNeg rfl h56 dX6_dark_56 ?_
      refine G.topi (fun v56 => ?_)
      refine G.iload_n dX6_dark_57 rfl ?_
      refine G.chk (fun h58 => ?_)
      refine G.iastore (w' := (w_X6nf cI cL cC cM cS a t_now_kind t_now_used t_now_bay t_now_likes t_now_who t_now_lamp t_now_due t_now_gain t_now_count t_now_day t_now_dues t_now_draw r38.1 r38.2.1 r38.2.2.1 r38.2.2.2.1 r38.2.2.2.2.1 (upd r38.2.2.2.2.2.1 v56.toNatClampNeg x3) r38.2.2.2.2.2.2.1 t_foreseen_gain r38.2.2.2.2.2.2.2.1 r38.2.2.2.2.2.2.2.2.1 r38.2.2.2.2.2.2.2.2.2.1 r38.2.2.2.2.2.2.2.2.2.2 t_hasImage)) 16 0 rfl rfl v56.toNatClampNeg rfl h58 rfl dX6_dark_58 ?_
      refine G.aload_n dX6_dark_59 rfl ?_
      refine G.get fl_6_23 0 rfl rfl dX6_dark_60 ?_
      refine G.iload_n dX6_dark_63 rfl ?_
      refine G.callV (st := []) (w' := fun r64 => (w_X6nf cI cL cC cM cS a t_now_kind t_now_used t_now_bay t_now_likes t_now_who t_now_lamp t_now_due t_now_gain t_now_count t_now_day t_now_dues t_now_draw r38.1 r64.1 r38.2.2.1 r38.2.2.2.1 r38.2.2.2.2.1 (upd r38.2.2.2.2.2.1 v56.toNatClampNeg x3) r38.2.2.2.2.2.2.1 r64.2.1 r38.2.2.2.2.2.2.2.1 r64.2.2.1 r64.2.2.2 r38.2.2.2.2.2.2.2.2.2.2 t_hasImage)) mv_X3_passDays lk_6_209 (c_X3_passDays l D ks cI cL cC cM cS (fun k => a (36 + k)) r38.1 r38.2.1 r38.2.2.1 r38.2.2.2.1 r38.2.2.2.2.1 (upd r38.2.2.2.2.2.1 v56.toNatClampNeg x3) r38.2.2.2.2.2.2.1 t_foreseen_gain r38.2.2.2.2.2.2.2.1 r38.2.2.2.2.2.2.2.2.1 r38.2.2.2.2.2.2.2.2.2.1 r38.2.2.2.2.2.2.2.2.2.2 x2) [10, 11, 12, 13, 14, 15, 16, 17, 18] [0, 1, 2, 3, 4, 5, 6, 7, 8, 9] [0, 1, 2, 3, 4, 5, 6, 7, 8, 9, 10, 11, 12, 13, 14, 15, 16, 17, 18] rfl rfl rfl rfl (by decide +kernel) (fun _ => rfl) rfl (by decide) (Nat.le_of_ble_eq_true rfl) dX6_dark_64 (fun r64 => []) (fun _ => rfl) (fun r64 _ => ?_)
      refine G.aload_n dX6_dark_67 rfl ?_
      refine G.get fl_6_23 0 rfl rfl dX6_dark_68 ?_
      refine G.iload_n dX6_dark_71 rfl ?_
      refine G.callV (st := []) (w' := fun r72 => (w_X6nf cI cL cC cM cS a t_now_kind t_now_used t_now_bay t_now_likes t_now_who t_now_lamp t_now_due t_now_gain t_now_count t_now_day t_now_dues t_now_draw r38.1 r64.1 r38.2.2.1 r38.2.2.2.1 r38.2.2.2.2.1 (upd r38.2.2.2.2.2.1 v56.toNatClampNeg x3) r38.2.2.2.2.2.2.1 r64.2.1 r38.2.2.2.2.2.2.2.1 r64.2.2.1 r64.2.2.2 r38.2.2.2.2.2.2.2.2.2.2 t_hasImage)) mv_X3_hasTaken lk_6_98 (c_X3_hasTaken l D ks cI cL cC cM cS (fun k => a (36 + k)) r38.1 r64.1 r38.2.2.1 r38.2.2.2.1 r38.2.2.2.2.1 (upd r38.2.2.2.2.2.1 v56.toNatClampNeg x3) r38.2.2.2.2.2.2.1 r64.2.1 r38.2.2.2.2.2.2.2.1 r64.2.2.1 r64.2.2.2 r38.2.2.2.2.2.2.2.2.2.2 x1) [10, 11, 12, 13, 14, 15, 16, 17, 18] [0, 1, 2, 3, 4, 5, 6, 7, 8, 9] [0, 1, 2, 3, 4, 5, 6, 7, 8, 9, 10, 11, 12, 13, 14, 15, 16, 17, 18] rfl rfl rfl rfl (by decide +kernel) (fun _ => rfl) rfl (by decide) (Nat.le_of_ble_eq_true rfl) dX6_dark_72 (fun r72 => [.int r72]) (fun _ => rfl) (fun r72 _ => ?_)
      refine G.if_eq 80 dX6_dark_75 (by decide) (fun h75 => ?_) (fun h75 => ?_)
      · refine G.iinc (-1) (lv' := [some (.ref (a 0)), some (.int x1), some (.int x2), some (.int (x3 + (-1)))]) dX6_dark_80 rfl (by decide) (by decide) (Nat.le_of_ble_eq_true rfl) rfl rfl ?_
        refine G.goto 26 dX6_dark_83 (by decide) ?_
        exact ih t_now_kind t_now_used t_now_bay t_now_likes t_now_who t_now_lamp t_now_due t_now_count t_now_day t_now_dues t_now_draw r38.1 r64.1 r38.2.2.1 r38.2.2.2.1 r38.2.2.2.2.1 (upd r38.2.2.2.2.2.1 v56.toNatClampNeg x3) r38.2.2.2.2.2.2.1 r64.2.1 r38.2.2.2.2.2.2.2.1 r64.2.2.1 r64.2.2.2 r38.2.2.2.2.2.2.2.2.2.2 x1 x2 (x3 + (-1))
      · refine G.iload_n dX6_dark_78 rfl ?_
        exact G.iret rfl rfl dX6_dark_79
set_option maxHeartbeats 4000000 in
set_option maxRecDepth 100000 in
theorem c_X6_dark (l : Launch) (D : va_G) (ks : Nat × Nat) (cI cL cC cM cS : ClassId) (a : Nat → Nat) (t_now_kind t_now_used t_now_bay t_now_likes t_now_who t_now_lamp t_now_due t_now_gain : Nat → Int32) (t_now_count t_now_day t_now_dues t_now_draw : Int32) (t_foreseen_kind t_foreseen_used t_foreseen_bay t_foreseen_likes t_foreseen_who t_foreseen_lamp t_foreseen_due t_foreseen_gain : Nat → Int32) (t_foreseen_count t_foreseen_day t_foreseen_dues t_foreseen_draw t_hasImage : Int32) (x1 : Int32) (x2 : Int32) : MT l D ks (tyz cI cL cC cM cS) yX6_dark cX6_dark 4 ((some .int)) { frames := 5, cells := 0, slots := 0, locals := 111 } [.ref (a 0), .int x1, .int x2] (w_X6nf cI cL cC cM cS a t_now_kind t_now_used t_now_bay t_now_likes t_now_who t_now_lamp t_now_due t_now_gain t_now_count t_now_day t_now_dues t_now_draw t_foreseen_kind t_foreseen_used t_foreseen_bay t_foreseen_likes t_foreseen_who t_foreseen_lamp t_foreseen_due t_foreseen_gain t_foreseen_count t_foreseen_day t_foreseen_dues t_foreseen_draw t_hasImage) (fun r : Int32 × (Nat → Int32) × (Nat → Int32) × (Nat → Int32) × (Nat → Int32) × (Nat → Int32) × (Nat → Int32) × (Nat → Int32) × (Nat → Int32) × Int32 × Int32 × Int32 × Int32 => (some (.int r.1), (w_X6nf cI cL cC cM cS a t_now_kind t_now_used t_now_bay t_now_likes t_now_who t_now_lamp t_now_due t_now_gain t_now_count t_now_day t_now_dues t_now_draw r.2.1 r.2.2.1 r.2.2.2.1 r.2.2.2.2.1 r.2.2.2.2.2.1 r.2.2.2.2.2.2.1 r.2.2.2.2.2.2.2.1 r.2.2.2.2.2.2.2.2.1 r.2.2.2.2.2.2.2.2.2.1 r.2.2.2.2.2.2.2.2.2.2.1 r.2.2.2.2.2.2.2.2.2.2.2.1 r.2.2.2.2.2.2.2.2.2.2.2.2 t_hasImage))) (f_X6_dark t_now_kind t_now_used t_now_bay t_now_likes t_now_who t_now_lamp t_now_due t_now_count t_now_day t_now_dues t_now_draw t_foreseen_kind t_foreseen_used t_foreseen_bay t_foreseen_likes t_foreseen_who t_foreseen_lamp t_foreseen_due t_foreseen_gain t_foreseen_count t_foreseen_day t_foreseen_dues t_foreseen_draw x1 x2) := by
  refine MT.of 1 [some (.ref (a 0)), some (.int x1), some (.int x2), none] (by decide) (Nat.le_of_ble_eq_true rfl) rfl ?_
  unfold f_X6_dark
  refine G.aload_n dX6_dark_0 rfl ?_
  refine G.get fl_6_10 0 rfl rfl dX6_dark_1 ?_
  refine G.iload_n dX6_dark_4 rfl ?_
  refine G.callV (st := []) (w' := fun r5 => (w_X6nf cI cL cC cM cS a t_now_kind t_now_used t_now_bay t_now_likes t_now_who t_now_lamp t_now_due t_now_gain t_now_count t_now_day t_now_dues t_now_draw t_foreseen_kind t_foreseen_used t_foreseen_bay t_foreseen_likes t_foreseen_who t_foreseen_lamp t_foreseen_due t_foreseen_gain t_foreseen_count t_foreseen_day t_foreseen_dues t_foreseen_draw t_hasImage)) mv_X3_has lk_6_83 (c_X3_has l D ks cI cL cC cM cS (fun k => a (1 + k)) t_now_kind t_now_used t_now_bay t_now_likes t_now_who t_now_lamp t_now_due t_now_gain t_now_count t_now_day t_now_dues t_now_draw x1) [1, 2, 3, 4, 5, 6, 7, 8, 9] [0, 10, 11, 12, 13, 14, 15, 16, 17, 18] [0, 10, 11, 12, 13, 14, 15, 16, 17, 18, 1, 2, 3, 4, 5, 6, 7, 8, 9] rfl rfl rfl rfl (by decide +kernel) (fun _ => rfl) rfl (by decide) (Nat.le_of_ble_eq_true rfl) dX6_dark_5 (fun r5 => [.int r5]) (fun _ => rfl) (fun r5 _ => ?_)
  refine G.if_eq 21 dX6_dark_8 (by decide) (fun h8 => ?_) (fun h8 => ?_)
  · refine G.iconst (-1) dX6_dark_21 (by decide) ?_
    exact G.iret rfl rfl dX6_dark_22
  · refine G.iload_n dX6_dark_11 rfl ?_
    refine G.iconst 1 dX6_dark_12 (by decide) ?_
    refine G.bipush 40 dX6_dark_13 (by decide) ?_
    refine G.callS (st := []) (w' := fun r15 => (w_X6nf cI cL cC cM cS a t_now_kind t_now_used t_now_bay t_now_likes t_now_who t_now_lamp t_now_due t_now_gain t_now_count t_now_day t_now_dues t_now_draw t_foreseen_kind t_foreseen_used t_foreseen_bay t_foreseen_likes t_foreseen_who t_foreseen_lamp t_foreseen_due t_foreseen_gain t_foreseen_count t_foreseen_day t_foreseen_dues t_foreseen_draw t_hasImage)) ms_X6_within lk_6_53 (c_X6_within l D ks cI cL cC cM cS x2 1 40) [] [0, 1, 2, 3, 4, 5, 6, 7, 8, 9, 10, 11, 12, 13, 14, 15, 16, 17, 18] [0, 1, 2, 3, 4, 5, 6, 7, 8, 9, 10, 11, 12, 13, 14, 15, 16, 17, 18] rfl rfl rfl rfl (by decide +kernel) (fun _ => rfl) (by decide) (Nat.le_of_ble_eq_true rfl) dX6_dark_15 (fun r15 => [.int r15]) (fun _ => rfl) (fun r15 _ => ?_)
    refine G.if_ne 23 dX6_dark_18 (by decide) (fun h18 => ?_) (fun h18 => ?_)
    · refine G.bipush 9 dX6_dark_23 (by decide) ?_
      refine G.istore_n (lv' := [some (.ref (a 0)), some (.int x1), some (.int x2), some (.int 9)]) dX6_dark_25 (by decide) (Nat.le_of_ble_eq_true rfl) rfl rfl ?_
      exact g_X6_dark_c26 l D ks cI cL cC cM cS a t_now_gain t_hasImage fu t_now_kind t_now_used t_now_bay t_now_likes t_now_who t_now_lamp t_now_due t_now_count t_now_day t_now_dues t_now_draw t_foreseen_kind t_foreseen_used t_foreseen_bay t_foreseen_likes t_foreseen_who t_foreseen_lamp t_foreseen_due t_foreseen_gain t_foreseen_count t_foreseen_day t_foreseen_dues t_foreseen_draw x1 x2 9
    · refine G.iconst (-1) dX6_dark_21 (by decide) ?_
      exact G.iret rfl rfl dX6_dark_22
set_option maxHeartbeats 4000000 in
set_option maxRecDepth 100000 in
theorem g_X6_usedIfDealt_c28 (l : Launch) (D : va_G) (ks : Nat × Nat) (cI cL cC cM cS : ClassId) (a : Nat → Nat) (t_now_gain : Nat → Int32) (t_hasImage : Int32) (t_deal_best : Nat → Int32) (t_deal_worth t_deal_free t_deal_count : Int32) : ∀ (n : Nat), ∀ (t_now_kind t_now_used t_now_bay t_now_likes t_now_who t_now_lamp t_now_due : Nat → Int32) (t_now_count t_now_day t_now_dues t_now_draw : Int32) (t_foreseen_kind t_foreseen_used t_foreseen_bay t_foreseen_likes t_foreseen_who t_foreseen_lamp t_foreseen_due t_foreseen_gain : Nat → Int32) (t_foreseen_count t_foreseen_day t_foreseen_dues t_foreseen_draw : Int32) (t_deal_bay : Nat → Int32) (x1 : Int32) (x3 : Int32) (x4 : Int32), GJ l D ks (tyz cI cL cC cM cS) RX6 cX6_usedIfDealt 6 ((some .int)) { frames := 4, cells := 0, slots := 0, locals := 90 } (fun r : Int32 × (Nat → Int32) × (Nat → Int32) × (Nat → Int32) × (Nat → Int32) × (Nat → Int32) × (Nat → Int32) × (Nat → Int32) × (Nat → Int32) × Int32 × Int32 × Int32 × Int32 => (some (.int r.1), (w_X6nfd cI cL cC cM cS a t_now_kind t_now_used t_now_bay t_now_likes t_now_who t_now_lamp t_now_due t_now_gain t_now_count t_now_day t_now_dues t_now_draw r.2.1 r.2.2.1 r.2.2.2.1 r.2.2.2.2.1 r.2.2.2.2.2.1 r.2.2.2.2.2.2.1 r.2.2.2.2.2.2.2.1 r.2.2.2.2.2.2.2.2.1 r.2.2.2.2.2.2.2.2.2.1 r.2.2.2.2.2.2.2.2.2.2.1 r.2.2.2.2.2.2.2.2.2.2.2.1 r.2.2.2.2.2.2.2.2.2.2.2.2 t_hasImage t_deal_bay t_deal_best t_deal_worth t_deal_free t_deal_count))) (w_X6nfd cI cL cC cM cS a t_now_kind t_now_used t_now_bay t_now_likes t_now_who t_now_lamp t_now_due t_now_gain t_now_count t_now_day t_now_dues t_now_draw t_foreseen_kind t_foreseen_used t_foreseen_bay t_foreseen_likes t_foreseen_who t_foreseen_lamp t_foreseen_due t_foreseen_gain t_foreseen_count t_foreseen_day t_foreseen_dues t_foreseen_draw t_hasImage t_deal_bay t_deal_best t_deal_worth t_deal_free t_deal_count) 28 [some (.ref (a 0)), some (.int x1), none, some (.int x3), some (.int x4), none] [] (f_X6_usedIfDealt_c28 n t_now_kind t_now_used t_now_bay t_now_likes t_now_who t_now_lamp t_now_due t_now_count t_now_day t_now_dues t_now_draw t_foreseen_kind t_foreseen_used t_foreseen_bay t_foreseen_likes t_foreseen_who t_foreseen_lamp t_foreseen_due t_foreseen_gain t_foreseen_count t_foreseen_day t_foreseen_dues t_foreseen_draw t_deal_bay x1 x3 x4) := by
  intro n
  induction n with
  | zero =>
    intro t_now_kind t_now_used t_now_bay t_now_likes t_now_who t_now_lamp t_now_due t_now_count t_now_day t_now_dues t_now_draw t_foreseen_kind t_foreseen_used t_foreseen_bay t_foreseen_likes t_foreseen_who t_foreseen_lamp t_foreseen_due t_foreseen_gain t_foreseen_count t_foreseen_day t_foreseen_dues t_foreseen_draw t_deal_bay x1 x3 x4
    exact G.no
  | succ n ih =>
    intro t_now_kind t_now_used t_now_bay t_now_likes t_now_who t_now_lamp t_now_due t_now_count t_now_day t_now_dues t_now_draw t_foreseen_kind t_foreseen_used t_foreseen_bay t_foreseen_likes t_foreseen_who t_foreseen_lamp t_foreseen_due t_foreseen_gain t_foreseen_count t_foreseen_day t_foreseen_dues t_foreseen_draw t_deal_bay x1 x3 x4
    rw [f_X6_usedIfDealt_c28]
    refine G.iload dX6_usedIfDealt_28 rfl ?_
    refine G.if_le 67 dX6_usedIfDealt_30 (by decide) (fun h30 => ?_) (fun h30 => ?_)
    · refine G.aload_n dX6_usedIfDealt_67 rfl ?_
      refine G.get fl_6_23 0 rfl rfl dX6_usedIfDealt_68 ?_
      refine G.get fl_6_89 10 rfl rfl dX6_usedIfDealt_71 ?_
      refine G.iload_n dX6_usedIfDealt_74 rfl ?_
      refine G.chk (fun h75 => ?_)
      refine G.iaload 12 0 rfl rfl x1.toNatClampNeg rfl h75 dX6_usedIfDealt_75 ?_
      refine G.topi (fun v75 => ?_)
      exact G.iret rfl rfl dX6_usedIfDealt_76
    · refine G.aload_n dX6_usedIfDealt_33 rfl ?_
      refine G.get fl_6_23 0 rfl rfl dX6_usedIfDealt_34 ?_
      refine G.iload_n dX6_usedIfDealt_37 rfl ?_
      refine G.iload dX6_usedIfDealt_38 rfl ?_
      refine G.callV (st := []) (w' := fun r40 => (w_X6nfd cI cL cC cM cS a t_now_kind t_now_used t_now_bay t_now_likes t_now_who t_now_lamp t_now_due t_now_gain t_now_count t_now_day t_now_dues t_now_draw t_foreseen_kind t_foreseen_used t_foreseen_bay t_foreseen_likes t_foreseen_who t_foreseen_lamp t_foreseen_due t_foreseen_gain t_foreseen_count t_foreseen_day t_foreseen_dues t_foreseen_draw t_hasImage t_deal_bay t_deal_best t_deal_worth t_deal_free t_deal_count)) mv_X3_usedAtLeast lk_6_301 (c_X3_usedAtLeast l D ks cI cL cC cM cS (fun k => a (36 + k)) t_foreseen_kind t_foreseen_used t_foreseen_bay t_foreseen_likes t_foreseen_who t_foreseen_lamp t_foreseen_due t_foreseen_gain t_foreseen_count t_foreseen_day t_foreseen_dues t_foreseen_draw x1 x4) [10, 11, 12, 13, 14, 15, 16, 17, 18] [0, 1, 2, 3, 4, 5, 6, 7, 8, 9, 19, 20, 21] [0, 1, 2, 3, 4, 5, 6, 7, 8, 9, 13, 14, 15, 16, 17, 18, 19, 20, 21, 10, 11, 12] rfl rfl rfl rfl (by decide +kernel) (fun _ => rfl) rfl (by decide) (Nat.le_of_ble_eq_true rfl) dX6_usedIfDealt_40 (fun r40 => [.int r40]) (fun _ => rfl) (fun r40 _ => ?_)
      refine G.istore (lv' := [some (.ref (a 0)), some (.int x1), none, some (.int x3), some (.int x4), some (.int r40)]) dX6_usedIfDealt_43 (by decide) (Nat.le_of_ble_eq_true rfl) rfl rfl ?_
      refine G.iload dX6_usedIfDealt_45 rfl ?_
      refine G.iload_n dX6_usedIfDealt_47 rfl ?_
      refine G.icmp_lt 54 dX6_usedIfDealt_48 (by decide) (fun h48 => ?_) (fun h48 => ?_)
      · refine G.aload_n dX6_usedIfDealt_54 rfl ?_
        refine G.get fl_6_23 0 rfl rfl dX6_usedIfDealt_55 ?_
        refine G.callV (st := []) (w' := fun r58 => (w_X6nfd cI cL cC cM cS a t_now_kind t_now_used t_now_bay t_now_likes t_now_who t_now_lamp t_now_due t_now_gain t_now_count t_now_day t_now_dues t_now_draw t_foreseen_kind r58.1 t_foreseen_bay t_foreseen_likes t_foreseen_who t_foreseen_lamp t_foreseen_due r58.2.1 t_foreseen_count r58.2.2.1 r58.2.2.2 t_foreseen_draw t_hasImage t_deal_bay t_deal_best t_deal_worth t_deal_free t_deal_count)) mv_X3_passDay lk_6_182 (c_X3_passDay l D ks cI cL cC cM cS (fun k => a (36 + k)) t_foreseen_kind t_foreseen_used t_foreseen_bay t_foreseen_likes t_foreseen_who t_foreseen_lamp t_foreseen_due t_foreseen_gain t_foreseen_count t_foreseen_day t_foreseen_dues t_foreseen_draw) [10, 11, 12, 13, 14, 15, 16, 17, 18] [0, 1, 2, 3, 4, 5, 6, 7, 8, 9, 19, 20, 21] [0, 1, 2, 3, 4, 5, 6, 7, 8, 9, 13, 14, 15, 16, 17, 18, 19, 20, 21, 10, 11, 12] rfl rfl rfl rfl (by decide +kernel) (fun _ => rfl) rfl (by decide) (Nat.le_of_ble_eq_true rfl) dX6_usedIfDealt_58 (fun r58 => []) (fun _ => rfl) (fun r58 _ => ?_)
        refine G.iinc (-1) (lv' := [some (.ref (a 0)), some (.int x1), none, some (.int x3), some (.int (x4 + (-1))), some (.int r40)]) dX6_usedIfDealt_61 rfl (by decide) (by decide) (Nat.le_of_ble_eq_true rfl) rfl rfl ?_
        refine G.goto 28 dX6_usedIfDealt_64 (by decide) ?_
        refine G.mask (lv' := [some (.ref (a 0)), some (.int x1), none, some (.int x3), some (.int (x4 + (-1))), none]) [true, true, false, true, true, false] rfl ?_
        exact ih t_now_kind t_now_used t_now_bay t_now_likes t_now_who t_now_lamp t_now_due t_now_count t_now_day t_now_dues t_now_draw t_foreseen_kind r58.1 t_foreseen_bay t_foreseen_likes t_foreseen_who t_foreseen_lamp t_foreseen_due r58.2.1 t_foreseen_count r58.2.2.1 r58.2.2.2 t_foreseen_draw t_deal_bay x1 x3 (x4 + (-1))
      · refine G.iload dX6_usedIfDealt_51 rfl ?_
        exact G.iret rfl rfl dX6_usedIfDealt_53
set_option maxHeartbeats 4000000 in
set_option maxRecDepth 100000 in
theorem c_X6_usedIfDealt (l : Launch) (D : va_G) (ks : Nat × Nat) (cI cL cC cM cS : ClassId) (a : Nat → Nat) (t_now_kind t_now_used t_now_bay t_now_likes t_now_who t_now_lamp t_now_due t_now_gain : Nat → Int32) (t_now_count t_now_day t_now_dues t_now_draw : Int32) (t_foreseen_kind t_foreseen_used t_foreseen_bay t_foreseen_likes t_foreseen_who t_foreseen_lamp t_foreseen_due t_foreseen_gain : Nat → Int32) (t_foreseen_count t_foreseen_day t_foreseen_dues t_foreseen_draw t_hasImage : Int32) (t_deal_bay t_deal_best : Nat → Int32) (t_deal_worth t_deal_free t_deal_count : Int32) (x1 : Int32) (x2 : Int32) (x3 : Int32) : MT l D ks (tyz cI cL cC cM cS) yX6_usedIfDealt cX6_usedIfDealt 6 ((some .int)) { frames := 4, cells := 0, slots := 0, locals := 90 } [.ref (a 0), .int x1, .int x2, .int x3] (w_X6nfd cI cL cC cM cS a t_now_kind t_now_used t_now_bay t_now_likes t_now_who t_now_lamp t_now_due t_now_gain t_now_count t_now_day t_now_dues t_now_draw t_foreseen_kind t_foreseen_used t_foreseen_bay t_foreseen_likes t_foreseen_who t_foreseen_lamp t_foreseen_due t_foreseen_gain t_foreseen_count t_foreseen_day t_foreseen_dues t_foreseen_draw t_hasImage t_deal_bay t_deal_best t_deal_worth t_deal_free t_deal_count) (fun r : Int32 × (Nat → Int32) × (Nat → Int32) × (Nat → Int32) × (Nat → Int32) × (Nat → Int32) × (Nat → Int32) × (Nat → Int32) × (Nat → Int32) × Int32 × Int32 × Int32 × Int32 => (some (.int r.1), (w_X6nfd cI cL cC cM cS a t_now_kind t_now_used t_now_bay t_now_likes t_now_who t_now_lamp t_now_due t_now_gain t_now_count t_now_day t_now_dues t_now_draw r.2.1 r.2.2.1 r.2.2.2.1 r.2.2.2.2.1 r.2.2.2.2.2.1 r.2.2.2.2.2.2.1 r.2.2.2.2.2.2.2.1 r.2.2.2.2.2.2.2.2.1 r.2.2.2.2.2.2.2.2.2.1 r.2.2.2.2.2.2.2.2.2.2.1 r.2.2.2.2.2.2.2.2.2.2.2.1 r.2.2.2.2.2.2.2.2.2.2.2.2 t_hasImage t_deal_bay t_deal_best t_deal_worth t_deal_free t_deal_count))) (f_X6_usedIfDealt t_now_kind t_now_used t_now_bay t_now_likes t_now_who t_now_lamp t_now_due t_now_count t_now_day t_now_dues t_now_draw t_foreseen_kind t_foreseen_used t_foreseen_bay t_foreseen_likes t_foreseen_who t_foreseen_lamp t_foreseen_due t_foreseen_gain t_foreseen_count t_foreseen_day t_foreseen_dues t_foreseen_draw t_deal_bay x1 x2 x3) := by
  refine MT.of 2 [some (.ref (a 0)), some (.int x1), some (.int x2), some (.int x3), none, none] (by decide) (Nat.le_of_ble_eq_true rfl) rfl ?_
  unfold f_X6_usedIfDealt
  refine G.aload_n dX6_usedIfDealt_0 rfl ?_
  refine G.get fl_6_23 0 rfl rfl dX6_usedIfDealt_1 ?_
  refine G.aload_n dX6_usedIfDealt_4 rfl ?_
  refine G.get fl_6_10 0 rfl rfl dX6_usedIfDealt_5 ?_
  refine G.callV (st := []) (w' := fun r8 => (w_X6nfd cI cL cC cM cS a t_now_kind t_now_used t_now_bay t_now_likes t_now_who t_now_lamp t_now_due t_now_gain t_now_count t_now_day t_now_dues t_now_draw r8.1 r8.2.1 r8.2.2.1 r8.2.2.2.1 r8.2.2.2.2.1 r8.2.2.2.2.2.1 r8.2.2.2.2.2.2.1 t_foreseen_gain r8.2.2.2.2.2.2.2.1 r8.2.2.2.2.2.2.2.2.1 r8.2.2.2.2.2.2.2.2.2.1 r8.2.2.2.2.2.2.2.2.2.2 t_hasImage t_deal_bay t_deal_best t_deal_worth t_deal_free t_deal_count)) mv_X3_become lk_6_122 (c_X3_become l D ks cI cL cC cM cS (fun k => a (36 + k)) (fun k => a (1 + k)) t_foreseen_kind t_foreseen_used t_foreseen_bay t_foreseen_likes t_foreseen_who t_foreseen_lamp t_foreseen_due t_foreseen_gain t_foreseen_count t_foreseen_day t_foreseen_dues t_foreseen_draw t_now_kind t_now_used t_now_bay t_now_likes t_now_who t_now_lamp t_now_due t_now_gain t_now_count t_now_day t_now_dues t_now_draw) [10, 11, 12, 13, 14, 15, 16, 17, 18, 1, 2, 3, 4, 5, 6, 7, 8, 9] [0, 19, 20, 21] [0, 13, 14, 15, 16, 17, 18, 19, 20, 21, 4, 5, 6, 7, 8, 9, 10, 11, 12, 1, 2, 3] rfl rfl rfl rfl (by decide +kernel) (fun _ => rfl) rfl (by decide) (Nat.le_of_ble_eq_true rfl) dX6_usedIfDealt_8 (fun r8 => []) (fun _ => rfl) (fun r8 _ => ?_)
  refine G.aload_n dX6_usedIfDealt_11 rfl ?_
  refine G.get fl_6_23 0 rfl rfl dX6_usedIfDealt_12 ?_
  refine G.aload_n dX6_usedIfDealt_15 rfl ?_
  refine G.get fl_6_35 0 rfl rfl dX6_usedIfDealt_16 ?_
  refine G.get fl_6_282 19 rfl rfl dX6_usedIfDealt_19 ?_
  refine G.callV (st := []) (w' := fun r22 => (w_X6nfd cI cL cC cM cS a t_now_kind t_now_used t_now_bay t_now_likes t_now_who t_now_lamp t_now_due t_now_gain t_now_count t_now_day t_now_dues t_now_draw r8.1 r8.2.1 r22.1 r8.2.2.2.1 r22.2 r8.2.2.2.2.2.1 r8.2.2.2.2.2.2.1 t_foreseen_gain r8.2.2.2.2.2.2.2.1 r8.2.2.2.2.2.2.2.2.1 r8.2.2.2.2.2.2.2.2.2.1 r8.2.2.2.2.2.2.2.2.2.2 t_hasImage t_deal_bay t_deal_best t_deal_worth t_deal_free t_deal_count)) mv_X3_seatAll lk_6_297 (c_X3_seatAll l D ks cI cL cC cM cS (fun k => a (36 + k)) (fun k => a (81 + k)) r8.1 r8.2.1 r8.2.2.1 r8.2.2.2.1 r8.2.2.2.2.1 r8.2.2.2.2.2.1 r8.2.2.2.2.2.2.1 t_foreseen_gain r8.2.2.2.2.2.2.2.1 r8.2.2.2.2.2.2.2.2.1 r8.2.2.2.2.2.2.2.2.2.1 r8.2.2.2.2.2.2.2.2.2.2 t_deal_bay) [10, 11, 12, 13, 14, 15, 16, 17, 18, 20] [0, 1, 2, 3, 4, 5, 6, 7, 8, 9, 19, 21] [0, 1, 2, 3, 4, 5, 6, 7, 8, 9, 12, 13, 14, 15, 16, 17, 18, 19, 20, 10, 21, 11] rfl rfl rfl rfl (by decide +kernel) (fun _ => rfl) rfl (by decide) (Nat.le_of_ble_eq_true rfl) dX6_usedIfDealt_22 (fun r22 => []) (fun _ => rfl) (fun r22 _ => ?_)
  refine G.iload_n dX6_usedIfDealt_25 rfl ?_
  refine G.istore (lv' := [some (.ref (a 0)), some (.int x1), some (.int x2), some (.int x3), some (.int x2), none]) dX6_usedIfDealt_26 (by decide) (Nat.le_of_ble_eq_true rfl) rfl rfl ?_
  refine G.mask (lv' := [some (.ref (a 0)), some (.int x1), none, some (.int x3), some (.int x2), none]) [true, true, false, true, true, false] rfl ?_
  exact g_X6_usedIfDealt_c28 l D ks cI cL cC cM cS a t_now_gain t_hasImage t_deal_best t_deal_worth t_deal_free t_deal_count fu t_now_kind t_now_used t_now_bay t_now_likes t_now_who t_now_lamp t_now_due t_now_count t_now_day t_now_dues t_now_draw r8.1 r8.2.1 r22.1 r8.2.2.2.1 r22.2 r8.2.2.2.2.2.1 r8.2.2.2.2.2.2.1 t_foreseen_gain r8.2.2.2.2.2.2.2.1 r8.2.2.2.2.2.2.2.2.1 r8.2.2.2.2.2.2.2.2.2.1 r8.2.2.2.2.2.2.2.2.2.2 t_deal_bay x1 x3 x2
set_option maxHeartbeats 4000000 in
set_option maxRecDepth 100000 in
theorem g_X6_dealLeastUsed_c62 (l : Launch) (D : va_G) (ks : Nat × Nat) (cI cL cC cM cS : ClassId) (a : Nat → Nat) (t_now_gain : Nat → Int32) (t_hasImage : Int32) (k27 : (Nat → Int32) → (Nat → Int32) → (Nat → Int32) → (Nat → Int32) → (Nat → Int32) → (Nat → Int32) → (Nat → Int32) → Int32 → Int32 → Int32 → Int32 → (Nat → Int32) → (Nat → Int32) → (Nat → Int32) → (Nat → Int32) → (Nat → Int32) → (Nat → Int32) → (Nat → Int32) → (Nat → Int32) → Int32 → Int32 → Int32 → Int32 → (Nat → Int32) → (Nat → Int32) → Int32 → Int32 → Int32 → Int32 → Int32 → Int32 → Int32 → (Option ((Nat → Int32) × (Nat → Int32) × (Nat → Int32) × (Nat → Int32) × (Nat → Int32) × (Nat → Int32) × (Nat → Int32) × (Nat → Int32) × Int32 × Int32 × Int32 × Int32 × (Nat → Int32) × (Nat → Int32) × Int32 × Int32 × Int32))) (hk27 : ∀ (t_now_kind t_now_used t_now_bay t_now_likes t_now_who t_now_lamp t_now_due : Nat → Int32) (t_now_count t_now_day t_now_dues t_now_draw : Int32) (t_foreseen_kind t_foreseen_used t_foreseen_bay t_foreseen_likes t_foreseen_who t_foreseen_lamp t_foreseen_due t_foreseen_gain : Nat → Int32) (t_foreseen_count t_foreseen_day t_foreseen_dues t_foreseen_draw : Int32) (t_deal_bay t_deal_best : Nat → Int32) (t_deal_worth t_deal_free t_deal_count : Int32) (x1 : Int32) (x2 : Int32) (x3 : Int32) (x4 : Int32), GJ l D ks (tyz cI cL cC cM cS) RX6 cX6_dealLeastUsed 6 none { frames := 5, cells := 0, slots := 0, locals := 115 } (fun r : (Nat → Int32) × (Nat → Int32) × (Nat → Int32) × (Nat → Int32) × (Nat → Int32) × (Nat → Int32) × (Nat → Int32) × (Nat → Int32) × Int32 × Int32 × Int32 × Int32 × (Nat → Int32) × (Nat → Int32) × Int32 × Int32 × Int32 => (none, (w_X6nfd cI cL cC cM cS a t_now_kind t_now_used t_now_bay t_now_likes t_now_who t_now_lamp t_now_due t_now_gain t_now_count t_now_day t_now_dues t_now_draw r.1 r.2.1 r.2.2.1 r.2.2.2.1 r.2.2.2.2.1 r.2.2.2.2.2.1 r.2.2.2.2.2.2.1 r.2.2.2.2.2.2.2.1 r.2.2.2.2.2.2.2.2.1 r.2.2.2.2.2.2.2.2.2.1 r.2.2.2.2.2.2.2.2.2.2.1 r.2.2.2.2.2.2.2.2.2.2.2.1 t_hasImage r.2.2.2.2.2.2.2.2.2.2.2.2.1 r.2.2.2.2.2.2.2.2.2.2.2.2.2.1 r.2.2.2.2.2.2.2.2.2.2.2.2.2.2.1 r.2.2.2.2.2.2.2.2.2.2.2.2.2.2.2.1 r.2.2.2.2.2.2.2.2.2.2.2.2.2.2.2.2))) (w_X6nfd cI cL cC cM cS a t_now_kind t_now_used t_now_bay t_now_likes t_now_who t_now_lamp t_now_due t_now_gain t_now_count t_now_day t_now_dues t_now_draw t_foreseen_kind t_foreseen_used t_foreseen_bay t_foreseen_likes t_foreseen_who t_foreseen_lamp t_foreseen_due t_foreseen_gain t_foreseen_count t_foreseen_day t_foreseen_dues t_foreseen_draw t_hasImage t_deal_bay t_deal_best t_deal_worth t_deal_free t_deal_count) 27 [some (.ref (a 0)), some (.int x1), some (.int x2), some (.int x3), some (.int x4), none] [] (k27 t_now_kind t_now_used t_now_bay t_now_likes t_now_who t_now_lamp t_now_due t_now_count t_now_day t_now_dues t_now_draw t_foreseen_kind t_foreseen_used t_foreseen_bay t_foreseen_likes t_foreseen_who t_foreseen_lamp t_foreseen_due t_foreseen_gain t_foreseen_count t_foreseen_day t_foreseen_dues t_foreseen_draw t_deal_bay t_deal_best t_deal_worth t_deal_free t_deal_count x1 x2 x3 x4)) (t_now_kind t_now_used t_now_bay t_now_likes t_now_who t_now_lamp t_now_due : Nat → Int32) (t_now_count t_now_day t_now_dues t_now_draw : Int32) (t_foreseen_kind t_foreseen_used t_foreseen_bay t_foreseen_likes t_foreseen_who t_foreseen_lamp t_foreseen_due t_foreseen_gain : Nat → Int32) (t_foreseen_count t_foreseen_day t_foreseen_dues t_foreseen_draw : Int32) (t_deal_bay t_deal_best : Nat → Int32) (t_deal_worth t_deal_free t_deal_count : Int32) (x1 : Int32) (x2 : Int32) (x3 : Int32) (x4 : Int32) : GJ l D ks (tyz cI cL cC cM cS) RX6 cX6_dealLeastUsed 6 none { frames := 5, cells := 0, slots := 0, locals := 115 } (fun r : (Nat → Int32) × (Nat → Int32) × (Nat → Int32) × (Nat → Int32) × (Nat → Int32) × (Nat → Int32) × (Nat → Int32) × (Nat → Int32) × Int32 × Int32 × Int32 × Int32 × (Nat → Int32) × (Nat → Int32) × Int32 × Int32 × Int32 => (none, (w_X6nfd cI cL cC cM cS a t_now_kind t_now_used t_now_bay t_now_likes t_now_who t_now_lamp t_now_due t_now_gain t_now_count t_now_day t_now_dues t_now_draw r.1 r.2.1 r.2.2.1 r.2.2.2.1 r.2.2.2.2.1 r.2.2.2.2.2.1 r.2.2.2.2.2.2.1 r.2.2.2.2.2.2.2.1 r.2.2.2.2.2.2.2.2.1 r.2.2.2.2.2.2.2.2.2.1 r.2.2.2.2.2.2.2.2.2.2.1 r.2.2.2.2.2.2.2.2.2.2.2.1 t_hasImage r.2.2.2.2.2.2.2.2.2.2.2.2.1 r.2.2.2.2.2.2.2.2.2.2.2.2.2.1 r.2.2.2.2.2.2.2.2.2.2.2.2.2.2.1 r.2.2.2.2.2.2.2.2.2.2.2.2.2.2.2.1 r.2.2.2.2.2.2.2.2.2.2.2.2.2.2.2.2))) (w_X6nfd cI cL cC cM cS a t_now_kind t_now_used t_now_bay t_now_likes t_now_who t_now_lamp t_now_due t_now_gain t_now_count t_now_day t_now_dues t_now_draw t_foreseen_kind t_foreseen_used t_foreseen_bay t_foreseen_likes t_foreseen_who t_foreseen_lamp t_foreseen_due t_foreseen_gain t_foreseen_count t_foreseen_day t_foreseen_dues t_foreseen_draw t_hasImage t_deal_bay t_deal_best t_deal_worth t_deal_free t_deal_count) 62 [some (.ref (a 0)), some (.int x1), some (.int x2), some (.int x3), some (.int x4), none] [] (f_X6_dealLeastUsed_c62 k27 t_now_kind t_now_used t_now_bay t_now_likes t_now_who t_now_lamp t_now_due t_now_count t_now_day t_now_dues t_now_draw t_foreseen_kind t_foreseen_used t_foreseen_bay t_foreseen_likes t_foreseen_who t_foreseen_lamp t_foreseen_due t_foreseen_gain t_foreseen_count t_foreseen_day t_foreseen_dues t_foreseen_draw t_deal_bay t_deal_best t_deal_worth t_deal_free t_deal_count x1 x2 x3 x4) := by
  unfold f_X6_dealLeastUsed_c62
  refine G.aload_n dX6_dealLeastUsed_62 rfl ?_
  refine G.get fl_6_35 0 rfl rfl dX6_dealLeastUsed_63 ?_
  refine G.callV (st := []) (w' := fun r66 => (w_X6nfd cI cL cC cM cS a t_now_kind t_now_used t_now_bay t_now_likes t_now_who t_now_lamp t_now_due t_now_gain t_now_count t_now_day t_now_dues t_now_draw t_foreseen_kind t_foreseen_used t_foreseen_bay t_foreseen_likes t_foreseen_who t_foreseen_lamp t_foreseen_due t_foreseen_gain t_foreseen_count t_foreseen_day t_foreseen_dues t_foreseen_draw t_hasImage r66.2.1 t_deal_best t_deal_worth r66.2.2 t_deal_count)) mv_X0_next lk_6_288 (c_X0_next l D ks cI cL cC cM cS (fun k => a (80 + k)) t_deal_bay t_deal_best t_deal_worth t_deal_free t_deal_count) [19, 20, 21] [0, 1, 2, 3, 4, 5, 6, 7, 8, 9, 10, 11, 12, 13, 14, 15, 16, 17, 18] [0, 1, 2, 3, 4, 5, 6, 7, 8, 9, 10, 11, 12, 13, 14, 15, 16, 17, 18, 19, 20, 21] rfl rfl rfl rfl (by decide +kernel) (fun _ => rfl) rfl (by decide) (Nat.le_of_ble_eq_true rfl) dX6_dealLeastUsed_66 (fun r66 => [.int r66.1]) (fun _ => rfl) (fun r66 _ => ?_)
  refine G.if_ne 75 dX6_dealLeastUsed_69 (by decide) (fun h69 => ?_) (fun h69 => ?_)
  · refine G.iinc 1 (lv' := [some (.ref (a 0)), some (.int x1), some (.int x2), some (.int x3), some (.int (x4 + 1)), none]) dX6_dealLeastUsed_75 rfl (by decide) (by decide) (Nat.le_of_ble_eq_true rfl) rfl rfl ?_
    refine G.goto 27 dX6_dealLeastUsed_78 (by decide) ?_
    exact hk27 t_now_kind t_now_used t_now_bay t_now_likes t_now_who t_now_lamp t_now_due t_now_count t_now_day t_now_dues t_now_draw t_foreseen_kind t_foreseen_used t_foreseen_bay t_foreseen_likes t_foreseen_who t_foreseen_lamp t_foreseen_due t_foreseen_gain t_foreseen_count t_foreseen_day t_foreseen_dues t_foreseen_draw r66.2.1 t_deal_best t_deal_worth r66.2.2 t_deal_count x1 x2 x3 (x4 + 1)
  · refine G.goto 81 dX6_dealLeastUsed_72 (by decide) ?_
    exact G.vret rfl rfl dX6_dealLeastUsed_81
set_option maxHeartbeats 4000000 in
set_option maxRecDepth 100000 in
theorem g_X6_dealLeastUsed_c27 (l : Launch) (D : va_G) (ks : Nat × Nat) (cI cL cC cM cS : ClassId) (a : Nat → Nat) (t_now_gain : Nat → Int32) (t_hasImage : Int32) : ∀ (n : Nat), ∀ (t_now_kind t_now_used t_now_bay t_now_likes t_now_who t_now_lamp t_now_due : Nat → Int32) (t_now_count t_now_day t_now_dues t_now_draw : Int32) (t_foreseen_kind t_foreseen_used t_foreseen_bay t_foreseen_likes t_foreseen_who t_foreseen_lamp t_foreseen_due t_foreseen_gain : Nat → Int32) (t_foreseen_count t_foreseen_day t_foreseen_dues t_foreseen_draw : Int32) (t_deal_bay t_deal_best : Nat → Int32) (t_deal_worth t_deal_free t_deal_count : Int32) (x1 : Int32) (x2 : Int32) (x3 : Int32) (x4 : Int32), GJ l D ks (tyz cI cL cC cM cS) RX6 cX6_dealLeastUsed 6 none { frames := 5, cells := 0, slots := 0, locals := 115 } (fun r : (Nat → Int32) × (Nat → Int32) × (Nat → Int32) × (Nat → Int32) × (Nat → Int32) × (Nat → Int32) × (Nat → Int32) × (Nat → Int32) × Int32 × Int32 × Int32 × Int32 × (Nat → Int32) × (Nat → Int32) × Int32 × Int32 × Int32 => (none, (w_X6nfd cI cL cC cM cS a t_now_kind t_now_used t_now_bay t_now_likes t_now_who t_now_lamp t_now_due t_now_gain t_now_count t_now_day t_now_dues t_now_draw r.1 r.2.1 r.2.2.1 r.2.2.2.1 r.2.2.2.2.1 r.2.2.2.2.2.1 r.2.2.2.2.2.2.1 r.2.2.2.2.2.2.2.1 r.2.2.2.2.2.2.2.2.1 r.2.2.2.2.2.2.2.2.2.1 r.2.2.2.2.2.2.2.2.2.2.1 r.2.2.2.2.2.2.2.2.2.2.2.1 t_hasImage r.2.2.2.2.2.2.2.2.2.2.2.2.1 r.2.2.2.2.2.2.2.2.2.2.2.2.2.1 r.2.2.2.2.2.2.2.2.2.2.2.2.2.2.1 r.2.2.2.2.2.2.2.2.2.2.2.2.2.2.2.1 r.2.2.2.2.2.2.2.2.2.2.2.2.2.2.2.2))) (w_X6nfd cI cL cC cM cS a t_now_kind t_now_used t_now_bay t_now_likes t_now_who t_now_lamp t_now_due t_now_gain t_now_count t_now_day t_now_dues t_now_draw t_foreseen_kind t_foreseen_used t_foreseen_bay t_foreseen_likes t_foreseen_who t_foreseen_lamp t_foreseen_due t_foreseen_gain t_foreseen_count t_foreseen_day t_foreseen_dues t_foreseen_draw t_hasImage t_deal_bay t_deal_best t_deal_worth t_deal_free t_deal_count) 27 [some (.ref (a 0)), some (.int x1), some (.int x2), some (.int x3), some (.int x4), none] [] (f_X6_dealLeastUsed_c27 n t_now_kind t_now_used t_now_bay t_now_likes t_now_who t_now_lamp t_now_due t_now_count t_now_day t_now_dues t_now_draw t_foreseen_kind t_foreseen_used t_foreseen_bay t_foreseen_likes t_foreseen_who t_foreseen_lamp t_foreseen_due t_foreseen_gain t_foreseen_count t_foreseen_day t_foreseen_dues t_foreseen_draw t_deal_bay t_deal_best t_deal_worth t_deal_free t_deal_count x1 x2 x3 x4) := by
  intro n
  induction n with
  | zero =>
    intro t_now_kind t_now_used t_now_bay t_now_likes t_now_who t_now_lamp t_now_due t_now_count t_now_day t_now_dues t_now_draw t_foreseen_kind t_foreseen_used t_foreseen_bay t_foreseen_likes t_foreseen_who t_foreseen_lamp t_foreseen_due t_foreseen_gain t_foreseen_count t_foreseen_day t_foreseen_dues t_foreseen_draw t_deal_bay t_deal_best t_deal_worth t_deal_free t_deal_count x1 x2 x3 x4
    exact G.no
  | succ n ih =>
    intro t_now_kind t_now_used t_now_bay t_now_likes t_now_who t_now_lamp t_now_due t_now_count t_now_day t_now_dues t_now_draw t_foreseen_kind t_foreseen_used t_foreseen_bay t_foreseen_likes t_foreseen_who t_foreseen_lamp t_foreseen_due t_foreseen_gain t_foreseen_count t_foreseen_day t_foreseen_dues t_foreseen_draw t_deal_bay t_deal_best t_deal_worth t_deal_free t_deal_count x1 x2 x3 x4
    rw [f_X6_dealLeastUsed_c27]
    refine G.iload dX6_dealLeastUsed_27 rfl ?_
    refine G.sipush 720 dX6_dealLeastUsed_29 (by decide) ?_
    refine G.icmp_ge 81 dX6_dealLeastUsed_32 (by decide) (fun h32 => ?_) (fun h32 => ?_)
    · exact G.vret rfl rfl dX6_dealLeastUsed_81
    · refine G.aload_n dX6_dealLeastUsed_35 rfl ?_
      refine G.iload_n dX6_dealLeastUsed_36 rfl ?_
      refine G.iload_n dX6_dealLeastUsed_37 rfl ?_
      refine G.iload_n dX6_dealLeastUsed_38 rfl ?_
      refine G.callV (st := []) (w' := fun r39 => (w_X6nfd cI cL cC cM cS a t_now_kind t_now_used t_now_bay t_now_likes t_now_who t_now_lamp t_now_due t_now_gain t_now_count t_now_day t_now_dues t_now_draw r39.2.1 r39.2.2.1 r39.2.2.2.1 r39.2.2.2.2.1 r39.2.2.2.2.2.1 r39.2.2.2.2.2.2.1 r39.2.2.2.2.2.2.2.1 r39.2.2.2.2.2.2.2.2.1 r39.2.2.2.2.2.2.2.2.2.1 r39.2.2.2.2.2.2.2.2.2.2.1 r39.2.2.2.2.2.2.2.2.2.2.2.1 r39.2.2.2.2.2.2.2.2.2.2.2.2 t_hasImage t_deal_bay t_deal_best t_deal_worth t_deal_free t_deal_count)) mv_X6_usedIfDealt lk_6_294 (c_X6_usedIfDealt l D ks cI cL cC cM cS a t_now_kind t_now_used t_now_bay t_now_likes t_now_who t_now_lamp t_now_due t_now_gain t_now_count t_now_day t_now_dues t_now_draw t_foreseen_kind t_foreseen_used t_foreseen_bay t_foreseen_likes t_foreseen_who t_foreseen_lamp t_foreseen_due t_foreseen_gain t_foreseen_count t_foreseen_day t_foreseen_dues t_foreseen_draw t_hasImage t_deal_bay t_deal_best t_deal_worth t_deal_free t_deal_count x1 x2 x3) [0, 1, 2, 3, 4, 5, 6, 7, 8, 9, 10, 11, 12, 13, 14, 15, 16, 17, 18, 19, 20, 21] [] [0, 1, 2, 3, 4, 5, 6, 7, 8, 9, 10, 11, 12, 13, 14, 15, 16, 17, 18, 19, 20, 21] rfl rfl rfl rfl (by decide +kernel) (fun _ => rfl) rfl (by decide) (Nat.le_of_ble_eq_true rfl) dX6_dealLeastUsed_39 (fun r39 => [.int r39.1]) (fun _ => rfl) (fun r39 _ => ?_)
      refine G.istore (lv' := [some (.ref (a 0)), some (.int x1), some (.int x2), some (.int x3), some (.int x4), some (.int r39.1)]) dX6_dealLeastUsed_42 (by decide) (Nat.le_of_ble_eq_true rfl) rfl rfl ?_
      refine G.iload dX6_dealLeastUsed_44 rfl ?_
      refine G.iload_n dX6_dealLeastUsed_46 rfl ?_
      refine G.icmp_ge 62 dX6_dealLeastUsed_47 (by decide) (fun h47 => ?_) (fun h47 => ?_)
      · refine G.mask (lv' := [some (.ref (a 0)), some (.int x1), some (.int x2), some (.int x3), some (.int x4), none]) [true, true, true, true, true, false] rfl ?_
        exact g_X6_dealLeastUsed_c62 l D ks cI cL cC cM cS a t_now_gain t_hasImage (f_X6_dealLeastUsed_c27 n) ih t_now_kind t_now_used t_now_bay t_now_likes t_now_who t_now_lamp t_now_due t_now_count t_now_day t_now_dues t_now_draw r39.2.1 r39.2.2.1 r39.2.2.2.1 r39.2.2.2.2.1 r39.2.2.2.2.2.1 r39.2.2.2.2.2.2.1 r39.2.2.2.2.2.2.2.1 r39.2.2.2.2.2.2.2.2.1 r39.2.2.2.2.2.2.2.2.2.1 r39.2.2.2.2.2.2.2.2.2.2.1 r39.2.2.2.2.2.2.2.2.2.2.2.1 r39.2.2.2.2.2.2.2.2.2.2.2.2 t_deal_bay t_deal_best t_deal_worth t_deal_free t_deal_count x1 x2 x3 x4
      · refine G.iload dX6_dealLeastUsed_50 rfl ?_
        refine G.istore_n (lv' := [some (.ref (a 0)), some (.int x1), some (.int x2), some (.int r39.1), some (.int x4), some (.int r39.1)]) dX6_dealLeastUsed_52 (by decide) (Nat.le_of_ble_eq_true rfl) rfl rfl ?_
        refine G.aload_n dX6_dealLeastUsed_53 rfl ?_
        refine G.get fl_6_35 0 rfl rfl dX6_dealLeastUsed_54 ?_
        refine G.iload dX6_dealLeastUsed_57 rfl ?_
        refine G.callV (st := []) (w' := fun r59 => (w_X6nfd cI cL cC cM cS a t_now_kind t_now_used t_now_bay t_now_likes t_now_who t_now_lamp t_now_due t_now_gain t_now_count t_now_day t_now_dues t_now_draw r39.2.1 r39.2.2.1 r39.2.2.2.1 r39.2.2.2.2.1 r39.2.2.2.2.2.1 r39.2.2.2.2.2.2.1 r39.2.2.2.2.2.2.2.1 r39.2.2.2.2.2.2.2.2.1 r39.2.2.2.2.2.2.2.2.2.1 r39.2.2.2.2.2.2.2.2.2.2.1 r39.2.2.2.2.2.2.2.2.2.2.2.1 r39.2.2.2.2.2.2.2.2.2.2.2.2 t_hasImage t_deal_bay r59.1 r59.2 t_deal_free t_deal_count)) mv_X0_keep lk_6_286 (c_X0_keep l D ks cI cL cC cM cS (fun k => a (80 + k)) t_deal_bay t_deal_best t_deal_worth t_deal_free t_deal_count r39.1) [19, 20, 21] [0, 1, 2, 3, 4, 5, 6, 7, 8, 9, 10, 11, 12, 13, 14, 15, 16, 17, 18] [0, 1, 2, 3, 4, 5, 6, 7, 8, 9, 10, 11, 12, 13, 14, 15, 16, 17, 18, 19, 20, 21] rfl rfl rfl rfl (by decide +kernel) (fun _ => rfl) rfl (by decide) (Nat.le_of_ble_eq_true rfl) dX6_dealLeastUsed_59 (fun r59 => []) (fun _ => rfl) (fun r59 _ => ?_)
        refine G.mask (lv' := [some (.ref (a 0)), some (.int x1), some (.int x2), some (.int r39.1), some (.int x4), none]) [true, true, true, true, true, false] rfl ?_
        exact g_X6_dealLeastUsed_c62 l D ks cI cL cC cM cS a t_now_gain t_hasImage (f_X6_dealLeastUsed_c27 n) ih t_now_kind t_now_used t_now_bay t_now_likes t_now_who t_now_lamp t_now_due t_now_count t_now_day t_now_dues t_now_draw r39.2.1 r39.2.2.1 r39.2.2.2.1 r39.2.2.2.2.1 r39.2.2.2.2.2.1 r39.2.2.2.2.2.2.1 r39.2.2.2.2.2.2.2.1 r39.2.2.2.2.2.2.2.2.1 r39.2.2.2.2.2.2.2.2.2.1 r39.2.2.2.2.2.2.2.2.2.2.1 r39.2.2.2.2.2.2.2.2.2.2.2.1 r39.2.2.2.2.2.2.2.2.2.2.2.2 t_deal_bay r59.1 r59.2 t_deal_free t_deal_count x1 x2 r39.1 x4
set_option maxHeartbeats 4000000 in
set_option maxRecDepth 100000 in
theorem c_X6_dealLeastUsed (l : Launch) (D : va_G) (ks : Nat × Nat) (cI cL cC cM cS : ClassId) (a : Nat → Nat) (t_now_kind t_now_used t_now_bay t_now_likes t_now_who t_now_lamp t_now_due t_now_gain : Nat → Int32) (t_now_count t_now_day t_now_dues t_now_draw : Int32) (t_foreseen_kind t_foreseen_used t_foreseen_bay t_foreseen_likes t_foreseen_who t_foreseen_lamp t_foreseen_due t_foreseen_gain : Nat → Int32) (t_foreseen_count t_foreseen_day t_foreseen_dues t_foreseen_draw t_hasImage : Int32) (t_deal_bay t_deal_best : Nat → Int32) (t_deal_worth t_deal_free t_deal_count : Int32) (x1 : Int32) (x2 : Int32) : MT l D ks (tyz cI cL cC cM cS) yX6_dealLeastUsed cX6_dealLeastUsed 6 none { frames := 5, cells := 0, slots := 0, locals := 115 } [.ref (a 0), .int x1, .int x2] (w_X6nfd cI cL cC cM cS a t_now_kind t_now_used t_now_bay t_now_likes t_now_who t_now_lamp t_now_due t_now_gain t_now_count t_now_day t_now_dues t_now_draw t_foreseen_kind t_foreseen_used t_foreseen_bay t_foreseen_likes t_foreseen_who t_foreseen_lamp t_foreseen_due t_foreseen_gain t_foreseen_count t_foreseen_day t_foreseen_dues t_foreseen_draw t_hasImage t_deal_bay t_deal_best t_deal_worth t_deal_free t_deal_count) (fun r : (Nat → Int32) × (Nat → Int32) × (Nat → Int32) × (Nat → Int32) × (Nat → Int32) × (Nat → Int32) × (Nat → Int32) × (Nat → Int32) × Int32 × Int32 × Int32 × Int32 × (Nat → Int32) × (Nat → Int32) × Int32 × Int32 × Int32 => (none, (w_X6nfd cI cL cC cM cS a t_now_kind t_now_used t_now_bay t_now_likes t_now_who t_now_lamp t_now_due t_now_gain t_now_count t_now_day t_now_dues t_now_draw r.1 r.2.1 r.2.2.1 r.2.2.2.1 r.2.2.2.2.1 r.2.2.2.2.2.1 r.2.2.2.2.2.2.1 r.2.2.2.2.2.2.2.1 r.2.2.2.2.2.2.2.2.1 r.2.2.2.2.2.2.2.2.2.1 r.2.2.2.2.2.2.2.2.2.2.1 r.2.2.2.2.2.2.2.2.2.2.2.1 t_hasImage r.2.2.2.2.2.2.2.2.2.2.2.2.1 r.2.2.2.2.2.2.2.2.2.2.2.2.2.1 r.2.2.2.2.2.2.2.2.2.2.2.2.2.2.1 r.2.2.2.2.2.2.2.2.2.2.2.2.2.2.2.1 r.2.2.2.2.2.2.2.2.2.2.2.2.2.2.2.2))) (f_X6_dealLeastUsed t_now_kind t_now_used t_now_bay t_now_likes t_now_who t_now_lamp t_now_due t_now_count t_now_day t_now_dues t_now_draw t_foreseen_kind t_foreseen_used t_foreseen_bay t_foreseen_likes t_foreseen_who t_foreseen_lamp t_foreseen_due t_foreseen_gain t_foreseen_count t_foreseen_day t_foreseen_dues t_foreseen_draw t_deal_bay t_deal_best t_deal_worth t_deal_free t_deal_count x1 x2) := by
  refine MT.of 3 [some (.ref (a 0)), some (.int x1), some (.int x2), none, none, none] (by decide) (Nat.le_of_ble_eq_true rfl) rfl ?_
  unfold f_X6_dealLeastUsed
  refine G.aload_n dX6_dealLeastUsed_0 rfl ?_
  refine G.get fl_6_35 0 rfl rfl dX6_dealLeastUsed_1 ?_
  refine G.aload_n dX6_dealLeastUsed_4 rfl ?_
  refine G.get fl_6_10 0 rfl rfl dX6_dealLeastUsed_5 ?_
  refine G.get fl_6_72 1 rfl rfl dX6_dealLeastUsed_8 ?_
  refine G.aload_n dX6_dealLeastUsed_11 rfl ?_
  refine G.get fl_6_10 0 rfl rfl dX6_dealLeastUsed_12 ?_
  refine G.callV (st := [.int t_now_count, .ref (a 80)]) (w' := fun r15 => (w_X6nfd cI cL cC cM cS a t_now_kind t_now_used t_now_bay t_now_likes t_now_who t_now_lamp t_now_due t_now_gain t_now_count t_now_day t_now_dues t_now_draw t_foreseen_kind t_foreseen_used t_foreseen_bay t_foreseen_likes t_foreseen_who t_foreseen_lamp t_foreseen_due t_foreseen_gain t_foreseen_count t_foreseen_day t_foreseen_dues t_foreseen_draw t_hasImage t_deal_bay t_deal_best t_deal_worth t_deal_free t_deal_count)) mv_X3_heldBays lk_6_291 (c_X3_heldBays l D ks cI cL cC cM cS (fun k => a (1 + k)) t_now_kind t_now_used t_now_bay t_now_likes t_now_who t_now_lamp t_now_due t_now_gain t_now_count t_now_day t_now_dues t_now_draw) [1, 2, 3, 4, 5, 6, 7, 8, 9] [0, 10, 11, 12, 13, 14, 15, 16, 17, 18, 19, 20, 21] [0, 13, 14, 15, 16, 17, 18, 19, 20, 21, 1, 2, 3, 4, 5, 6, 7, 8, 9, 10, 11, 12] rfl rfl rfl rfl (by decide +kernel) (fun _ => rfl) rfl (by decide) (Nat.le_of_ble_eq_true rfl) dX6_dealLeastUsed_15 (fun r15 => [.int r15, .int t_now_count, .ref (a 80)]) (fun _ => rfl) (fun r15 _ => ?_)
  refine G.callV (st := []) (w' := fun r18 => (w_X6nfd cI cL cC cM cS a t_now_kind t_now_used t_now_bay t_now_likes t_now_who t_now_lamp t_now_due t_now_gain t_now_count t_now_day t_now_dues t_now_draw t_foreseen_kind t_foreseen_used t_foreseen_bay t_foreseen_likes t_foreseen_who t_foreseen_lamp t_foreseen_due t_foreseen_gain t_foreseen_count t_foreseen_day t_foreseen_dues t_foreseen_draw t_hasImage r18.1 t_deal_best t_deal_worth r18.2.1 r18.2.2)) mv_X0_begin lk_6_279 (c_X0_begin l D ks cI cL cC cM cS (fun k => a (80 + k)) t_deal_bay t_deal_best t_deal_worth t_deal_free t_deal_count t_now_count r15) [19, 20, 21] [0, 1, 2, 3, 4, 5, 6, 7, 8, 9, 10, 11, 12, 13, 14, 15, 16, 17, 18] [0, 1, 2, 3, 4, 5, 6, 7, 8, 9, 10, 11, 12, 13, 14, 15, 16, 17, 18, 19, 20, 21] rfl rfl rfl rfl (by decide +kernel) (fun _ => rfl) rfl (by decide) (Nat.le_of_ble_eq_true rfl) dX6_dealLeastUsed_18 (fun r18 => []) (fun _ => rfl) (fun r18 _ => ?_)
  refine G.bipush 100 dX6_dealLeastUsed_21 (by decide) ?_
  refine G.istore_n (lv' := [some (.ref (a 0)), some (.int x1), some (.int x2), some (.int 100), none, none]) dX6_dealLeastUsed_23 (by decide) (Nat.le_of_ble_eq_true rfl) rfl rfl ?_
  refine G.iconst 0 dX6_dealLeastUsed_24 (by decide) ?_
  refine G.istore (lv' := [some (.ref (a 0)), some (.int x1), some (.int x2), some (.int 100), some (.int 0), none]) dX6_dealLeastUsed_25 (by decide) (Nat.le_of_ble_eq_true rfl) rfl rfl ?_
  exact g_X6_dealLeastUsed_c27 l D ks cI cL cC cM cS a t_now_gain t_hasImage fu t_now_kind t_now_used t_now_bay t_now_likes t_now_who t_now_lamp t_now_due t_now_count t_now_day t_now_dues t_now_draw t_foreseen_kind t_foreseen_used t_foreseen_bay t_foreseen_likes t_foreseen_who t_foreseen_lamp t_foreseen_due t_foreseen_gain t_foreseen_count t_foreseen_day t_foreseen_dues t_foreseen_draw r18.1 t_deal_best t_deal_worth r18.2.1 r18.2.2 x1 x2 100 0
set_option maxHeartbeats 4000000 in
set_option maxRecDepth 100000 in
theorem g_X6_duesIfDealt_c35 (l : Launch) (D : va_G) (ks : Nat × Nat) (cI cL cC cM cS : ClassId) (a : Nat → Nat) (t_now_gain : Nat → Int32) (t_hasImage : Int32) (t_deal_best : Nat → Int32) (t_deal_worth t_deal_free t_deal_count : Int32) : ∀ (n : Nat), ∀ (t_now_kind t_now_used t_now_bay t_now_likes t_now_who t_now_lamp t_now_due : Nat → Int32) (t_now_count t_now_day t_now_dues t_now_draw : Int32) (t_foreseen_kind t_foreseen_used t_foreseen_bay t_foreseen_likes t_foreseen_who t_foreseen_lamp t_foreseen_due t_foreseen_gain : Nat → Int32) (t_foreseen_count t_foreseen_day t_foreseen_dues t_foreseen_draw : Int32) (t_deal_bay : Nat → Int32) (x2 : Int32) (x3 : Int32), GJ l D ks (tyz cI cL cC cM cS) RX6 cX6_duesIfDealt 5 ((some .int)) { frames := 4, cells := 0, slots := 0, locals := 93 } (fun r : Int32 × (Nat → Int32) × (Nat → Int32) × (Nat → Int32) × (Nat → Int32) × (Nat → Int32) × (Nat → Int32) × (Nat → Int32) × (Nat → Int32) × Int32 × Int32 × Int32 × Int32 => (some (.int r.1), (w_X6nfd cI cL cC cM cS a t_now_kind t_now_used t_now_bay t_now_likes t_now_who t_now_lamp t_now_due t_now_gain t_now_count t_now_day t_now_dues t_now_draw r.2.1 r.2.2.1 r.2.2.2.1 r.2.2.2.2.1 r.2.2.2.2.2.1 r.2.2.2.2.2.2.1 r.2.2.2.2.2.2.2.1 r.2.2.2.2.2.2.2.2.1 r.2.2.2.2.2.2.2.2.2.1 r.2.2.2.2.2.2.2.2.2.2.1 r.2.2.2.2.2.2.2.2.2.2.2.1 r.2.2.2.2.2.2.2.2.2.2.2.2 t_hasImage t_deal_bay t_deal_best t_deal_worth t_deal_free t_deal_count))) (w_X6nfd cI cL cC cM cS a t_now_kind t_now_used t_now_bay t_now_likes t_now_who t_now_lamp t_now_due t_now_gain t_now_count t_now_day t_now_dues t_now_draw t_foreseen_kind t_foreseen_used t_foreseen_bay t_foreseen_likes t_foreseen_who t_foreseen_lamp t_foreseen_due t_foreseen_gain t_foreseen_count t_foreseen_day t_foreseen_dues t_foreseen_draw t_hasImage t_deal_bay t_deal_best t_deal_worth t_deal_free t_deal_count) 35 [some (.ref (a 0)), none, some (.int x2), some (.int x3), none] [] (f_X6_duesIfDealt_c35 n t_now_kind t_now_used t_now_bay t_now_likes t_now_who t_now_lamp t_now_due t_now_count t_now_day t_now_dues t_now_draw t_foreseen_kind t_foreseen_used t_foreseen_bay t_foreseen_likes t_foreseen_who t_foreseen_lamp t_foreseen_due t_foreseen_gain t_foreseen_count t_foreseen_day t_foreseen_dues t_foreseen_draw t_deal_bay x2 x3) := by
  intro n
  induction n with
  | zero =>
    intro t_now_kind t_now_used t_now_bay t_now_likes t_now_who t_now_lamp t_now_due t_now_count t_now_day t_now_dues t_now_draw t_foreseen_kind t_foreseen_used t_foreseen_bay t_foreseen_likes t_foreseen_who t_foreseen_lamp t_foreseen_due t_foreseen_gain t_foreseen_count t_foreseen_day t_foreseen_dues t_foreseen_draw t_deal_bay x2 x3
    exact G.no
  | succ n ih =>
    intro t_now_kind t_now_used t_now_bay t_now_likes t_now_who t_now_lamp t_now_due t_now_count t_now_day t_now_dues t_now_draw t_foreseen_kind t_foreseen_used t_foreseen_bay t_foreseen_likes t_foreseen_who t_foreseen_lamp t_foreseen_due t_foreseen_gain t_foreseen_count t_foreseen_day t_foreseen_dues t_foreseen_draw t_deal_bay x2 x3
    rw [f_X6_duesIfDealt_c35]
    refine G.iload_n dX6_duesIfDealt_35 rfl ?_
    refine G.if_le 79 dX6_duesIfDealt_36 (by decide) (fun h36 => ?_) (fun h36 => ?_)
    · refine G.aload_n dX6_duesIfDealt_79 rfl ?_
      refine G.get fl_6_23 0 rfl rfl dX6_duesIfDealt_80 ?_
      refine G.get fl_6_140 10 rfl rfl dX6_duesIfDealt_83 ?_
      exact G.iret rfl rfl dX6_duesIfDealt_86
    · refine G.aload_n dX6_duesIfDealt_39 rfl ?_
      refine G.get fl_6_23 0 rfl rfl dX6_duesIfDealt_40 ?_
      refine G.get fl_6_140 10 rfl rfl dX6_duesIfDealt_43 ?_
      refine G.aload_n dX6_duesIfDealt_46 rfl ?_
      refine G.get fl_6_23 0 rfl rfl dX6_duesIfDealt_47 ?_
      refine G.iload_n dX6_duesIfDealt_50 rfl ?_
      refine G.callV (st := [.int t_foreseen_dues]) (w' := fun r51 => (w_X6nfd cI cL cC cM cS a t_now_kind t_now_used t_now_bay t_now_likes t_now_who t_now_lamp t_now_due t_now_gain t_now_count t_now_day t_now_dues t_now_draw t_foreseen_kind t_foreseen_used t_foreseen_bay t_foreseen_likes t_foreseen_who t_foreseen_lamp t_foreseen_due t_foreseen_gain t_foreseen_count t_foreseen_day t_foreseen_dues t_foreseen_draw t_hasImage t_deal_bay t_deal_best t_deal_worth t_deal_free t_deal_count)) mv_X3_duesAtMost lk_6_307 (c_X3_duesAtMost l D ks cI cL cC cM cS (fun k => a (36 + k)) t_foreseen_kind t_foreseen_used t_foreseen_bay t_foreseen_likes t_foreseen_who t_foreseen_lamp t_foreseen_due t_foreseen_gain t_foreseen_count t_foreseen_day t_foreseen_dues t_foreseen_draw x3) [10, 11, 12, 13, 14, 15, 16, 17, 18] [0, 1, 2, 3, 4, 5, 6, 7, 8, 9, 19, 20, 21] [0, 1, 2, 3, 4, 5, 6, 7, 8, 9, 13, 14, 15, 16, 17, 18, 19, 20, 21, 10, 11, 12] rfl rfl rfl rfl (by decide +kernel) (fun _ => rfl) rfl (by decide) (Nat.le_of_ble_eq_true rfl) dX6_duesIfDealt_51 (fun r51 => [.int r51, .int t_foreseen_dues]) (fun _ => rfl) (fun r51 _ => ?_)
      refine G.iadd dX6_duesIfDealt_54 ?_
      refine G.istore (lv' := [some (.ref (a 0)), none, some (.int x2), some (.int x3), some (.int (t_foreseen_dues + r51))]) dX6_duesIfDealt_55 (by decide) (Nat.le_of_ble_eq_true rfl) rfl rfl ?_
      refine G.iload dX6_duesIfDealt_57 rfl ?_
      refine G.iload_n dX6_duesIfDealt_59 rfl ?_
      refine G.icmp_gt 66 dX6_duesIfDealt_60 (by decide) (fun h60 => ?_) (fun h60 => ?_)
      · refine G.aload_n dX6_duesIfDealt_66 rfl ?_
        refine G.get fl_6_23 0 rfl rfl dX6_duesIfDealt_67 ?_
        refine G.callV (st := []) (w' := fun r70 => (w_X6nfd cI cL cC cM cS a t_now_kind t_now_used t_now_bay t_now_likes t_now_who t_now_lamp t_now_due t_now_gain t_now_count t_now_day t_now_dues t_now_draw t_foreseen_kind r70.1 t_foreseen_bay t_foreseen_likes t_foreseen_who t_foreseen_lamp t_foreseen_due r70.2.1 t_foreseen_count r70.2.2.1 r70.2.2.2 t_foreseen_draw t_hasImage t_deal_bay t_deal_best t_deal_worth t_deal_free t_deal_count)) mv_X3_passDay lk_6_182 (c_X3_passDay l D ks cI cL cC cM cS (fun k => a (36 + k)) t_foreseen_kind t_foreseen_used t_foreseen_bay t_foreseen_likes t_foreseen_who t_foreseen_lamp t_foreseen_due t_foreseen_gain t_foreseen_count t_foreseen_day t_foreseen_dues t_foreseen_draw) [10, 11, 12, 13, 14, 15, 16, 17, 18] [0, 1, 2, 3, 4, 5, 6, 7, 8, 9, 19, 20, 21] [0, 1, 2, 3, 4, 5, 6, 7, 8, 9, 13, 14, 15, 16, 17, 18, 19, 20, 21, 10, 11, 12] rfl rfl rfl rfl (by decide +kernel) (fun _ => rfl) rfl (by decide) (Nat.le_of_ble_eq_true rfl) dX6_duesIfDealt_70 (fun r70 => []) (fun _ => rfl) (fun r70 _ => ?_)
        refine G.iinc (-1) (lv' := [some (.ref (a 0)), none, some (.int x2), some (.int (x3 + (-1))), some (.int (t_foreseen_dues + r51))]) dX6_duesIfDealt_73 rfl (by decide) (by decide) (Nat.le_of_ble_eq_true rfl) rfl rfl ?_
        refine G.goto 35 dX6_duesIfDealt_76 (by decide) ?_
        refine G.mask (lv' := [some (.ref (a 0)), none, some (.int x2), some (.int (x3 + (-1))), none]) [true, false, true, true, false] rfl ?_
        exact ih t_now_kind t_now_used t_now_bay t_now_likes t_now_who t_now_lamp t_now_due t_now_count t_now_day t_now_dues t_now_draw t_foreseen_kind r70.1 t_foreseen_bay t_foreseen_likes t_foreseen_who t_foreseen_lamp t_foreseen_due r70.2.1 t_foreseen_count r70.2.2.1 r70.2.2.2 t_foreseen_draw t_deal_bay x2 (x3 + (-1))
      · refine G.iload dX6_duesIfDealt_63 rfl ?_
        exact G.iret rfl rfl dX6_duesIfDealt_65
set_option maxHeartbeats 4000000 in
set_option maxRecDepth 100000 in
theorem c_X6_duesIfDealt (l : Launch) (D : va_G) (ks : Nat × Nat) (cI cL cC cM cS : ClassId) (a : Nat → Nat) (t_now_kind t_now_used t_now_bay t_now_likes t_now_who t_now_lamp t_now_due t_now_gain : Nat → Int32) (t_now_count t_now_day t_now_dues t_now_draw : Int32) (t_foreseen_kind t_foreseen_used t_foreseen_bay t_foreseen_likes t_foreseen_who t_foreseen_lamp t_foreseen_due t_foreseen_gain : Nat → Int32) (t_foreseen_count t_foreseen_day t_foreseen_dues t_foreseen_draw t_hasImage : Int32) (t_deal_bay t_deal_best : Nat → Int32) (t_deal_worth t_deal_free t_deal_count : Int32) (x1 : Int32) (x2 : Int32) : MT l D ks (tyz cI cL cC cM cS) yX6_duesIfDealt cX6_duesIfDealt 5 ((some .int)) { frames := 4, cells := 0, slots := 0, locals := 93 } [.ref (a 0), .int x1, .int x2] (w_X6nfd cI cL cC cM cS a t_now_kind t_now_used t_now_bay t_now_likes t_now_who t_now_lamp t_now_due t_now_gain t_now_count t_now_day t_now_dues t_now_draw t_foreseen_kind t_foreseen_used t_foreseen_bay t_foreseen_likes t_foreseen_who t_foreseen_lamp t_foreseen_due t_foreseen_gain t_foreseen_count t_foreseen_day t_foreseen_dues t_foreseen_draw t_hasImage t_deal_bay t_deal_best t_deal_worth t_deal_free t_deal_count) (fun r : Int32 × (Nat → Int32) × (Nat → Int32) × (Nat → Int32) × (Nat → Int32) × (Nat → Int32) × (Nat → Int32) × (Nat → Int32) × (Nat → Int32) × Int32 × Int32 × Int32 × Int32 => (some (.int r.1), (w_X6nfd cI cL cC cM cS a t_now_kind t_now_used t_now_bay t_now_likes t_now_who t_now_lamp t_now_due t_now_gain t_now_count t_now_day t_now_dues t_now_draw r.2.1 r.2.2.1 r.2.2.2.1 r.2.2.2.2.1 r.2.2.2.2.2.1 r.2.2.2.2.2.2.1 r.2.2.2.2.2.2.2.1 r.2.2.2.2.2.2.2.2.1 r.2.2.2.2.2.2.2.2.2.1 r.2.2.2.2.2.2.2.2.2.2.1 r.2.2.2.2.2.2.2.2.2.2.2.1 r.2.2.2.2.2.2.2.2.2.2.2.2 t_hasImage t_deal_bay t_deal_best t_deal_worth t_deal_free t_deal_count))) (f_X6_duesIfDealt t_now_kind t_now_used t_now_bay t_now_likes t_now_who t_now_lamp t_now_due t_now_count t_now_day t_now_dues t_now_draw t_foreseen_kind t_foreseen_used t_foreseen_bay t_foreseen_likes t_foreseen_who t_foreseen_lamp t_foreseen_due t_foreseen_gain t_foreseen_count t_foreseen_day t_foreseen_dues t_foreseen_draw t_deal_bay x1 x2) := by
  refine MT.of 2 [some (.ref (a 0)), some (.int x1), some (.int x2), none, none] (by decide) (Nat.le_of_ble_eq_true rfl) rfl ?_
  unfold f_X6_duesIfDealt
  refine G.aload_n dX6_duesIfDealt_0 rfl ?_
  refine G.get fl_6_23 0 rfl rfl dX6_duesIfDealt_1 ?_
  refine G.aload_n dX6_duesIfDealt_4 rfl ?_
  refine G.get fl_6_10 0 rfl rfl dX6_duesIfDealt_5 ?_
  refine G.callV (st := []) (w' := fun r8 => (w_X6nfd cI cL cC cM cS a t_now_kind t_now_used t_now_bay t_now_likes t_now_who t_now_lamp t_now_due t_now_gain t_now_count t_now_day t_now_dues t_now_draw r8.1 r8.2.1 r8.2.2.1 r8.2.2.2.1 r8.2.2.2.2.1 r8.2.2.2.2.2.1 r8.2.2.2.2.2.2.1 t_foreseen_gain r8.2.2.2.2.2.2.2.1 r8.2.2.2.2.2.2.2.2.1 r8.2.2.2.2.2.2.2.2.2.1 r8.2.2.2.2.2.2.2.2.2.2 t_hasImage t_deal_bay t_deal_best t_deal_worth t_deal_free t_deal_count)) mv_X3_become lk_6_122 (c_X3_become l D ks cI cL cC cM cS (fun k => a (36 + k)) (fun k => a (1 + k)) t_foreseen_kind t_foreseen_used t_foreseen_bay t_foreseen_likes t_foreseen_who t_foreseen_lamp t_foreseen_due t_foreseen_gain t_foreseen_count t_foreseen_day t_foreseen_dues t_foreseen_draw t_now_kind t_now_used t_now_bay t_now_likes t_now_who t_now_lamp t_now_due t_now_gain t_now_count t_now_day t_now_dues t_now_draw) [10, 11, 12, 13, 14, 15, 16, 17, 18, 1, 2, 3, 4, 5, 6, 7, 8, 9] [0, 19, 20, 21] [0, 13, 14, 15, 16, 17, 18, 19, 20, 21, 4, 5, 6, 7, 8, 9, 10, 11, 12, 1, 2, 3] rfl rfl rfl rfl (by decide +kernel) (fun _ => rfl) rfl (by decide) (Nat.le_of_ble_eq_true rfl) dX6_duesIfDealt_8 (fun r8 => []) (fun _ => rfl) (fun r8 _ => ?_)
  refine G.aload_n dX6_duesIfDealt_11 rfl ?_
  refine G.get fl_6_23 0 rfl rfl dX6_duesIfDealt_12 ?_
  refine G.aload_n dX6_duesIfDealt_15 rfl ?_
  refine G.get fl_6_35 0 rfl rfl dX6_duesIfDealt_16 ?_
  refine G.get fl_6_282 19 rfl rfl dX6_duesIfDealt_19 ?_
  refine G.callV (st := []) (w' := fun r22 => (w_X6nfd cI cL cC cM cS a t_now_kind t_now_used t_now_bay t_now_likes t_now_who t_now_lamp t_now_due t_now_gain t_now_count t_now_day t_now_dues t_now_draw r8.1 r8.2.1 r22.1 r8.2.2.2.1 r22.2 r8.2.2.2.2.2.1 r8.2.2.2.2.2.2.1 t_foreseen_gain r8.2.2.2.2.2.2.2.1 r8.2.2.2.2.2.2.2.2.1 r8.2.2.2.2.2.2.2.2.2.1 r8.2.2.2.2.2.2.2.2.2.2 t_hasImage t_deal_bay t_deal_best t_deal_worth t_deal_free t_deal_count)) mv_X3_seatAll lk_6_297 (c_X3_seatAll l D ks cI cL cC cM cS (fun k => a (36 + k)) (fun k => a (81 + k)) r8.1 r8.2.1 r8.2.2.1 r8.2.2.2.1 r8.2.2.2.2.1 r8.2.2.2.2.2.1 r8.2.2.2.2.2.2.1 t_foreseen_gain r8.2.2.2.2.2.2.2.1 r8.2.2.2.2.2.2.2.2.1 r8.2.2.2.2.2.2.2.2.2.1 r8.2.2.2.2.2.2.2.2.2.2 t_deal_bay) [10, 11, 12, 13, 14, 15, 16, 17, 18, 20] [0, 1, 2, 3, 4, 5, 6, 7, 8, 9, 19, 21] [0, 1, 2, 3, 4, 5, 6, 7, 8, 9, 12, 13, 14, 15, 16, 17, 18, 19, 20, 10, 21, 11] rfl rfl rfl rfl (by decide +kernel) (fun _ => rfl) rfl (by decide) (Nat.le_of_ble_eq_true rfl) dX6_duesIfDealt_22 (fun r22 => []) (fun _ => rfl) (fun r22 _ => ?_)
  refine G.aload_n dX6_duesIfDealt_25 rfl ?_
  refine G.get fl_6_23 0 rfl rfl dX6_duesIfDealt_26 ?_
  refine G.iconst 0 dX6_duesIfDealt_29 (by decide) ?_
  refine G.put (w' := (w_X6nfd cI cL cC cM cS a t_now_kind t_now_used t_now_bay t_now_likes t_now_who t_now_lamp t_now_due t_now_gain t_now_count t_now_day t_now_dues t_now_draw r8.1 r8.2.1 r22.1 r8.2.2.2.1 r22.2 r8.2.2.2.2.2.1 r8.2.2.2.2.2.2.1 t_foreseen_gain r8.2.2.2.2.2.2.2.1 r8.2.2.2.2.2.2.2.2.1 0 r8.2.2.2.2.2.2.2.2.2.2 t_hasImage t_deal_bay t_deal_best t_deal_worth t_deal_free t_deal_count)) fp_6_140 10 rfl (Nat.le_of_ble_eq_true rfl) rfl rfl rfl dX6_duesIfDealt_30 ?_
  refine G.iload_n dX6_duesIfDealt_33 rfl ?_
  refine G.istore_n (lv' := [some (.ref (a 0)), some (.int x1), some (.int x2), some (.int x1), none]) dX6_duesIfDealt_34 (by decide) (Nat.le_of_ble_eq_true rfl) rfl rfl ?_
  refine G.mask (lv' := [some (.ref (a 0)), none, some (.int x2), some (.int x1), none]) [true, false, true, true, false] rfl ?_
  exact g_X6_duesIfDealt_c35 l D ks cI cL cC cM cS a t_now_gain t_hasImage t_deal_best t_deal_worth t_deal_free t_deal_count fu t_now_kind t_now_used t_now_bay t_now_likes t_now_who t_now_lamp t_now_due t_now_count t_now_day t_now_dues t_now_draw r8.1 r8.2.1 r22.1 r8.2.2.2.1 r22.2 r8.2.2.2.2.2.1 r8.2.2.2.2.2.2.1 t_foreseen_gain r8.2.2.2.2.2.2.2.1 r8.2.2.2.2.2.2.2.2.1 0 r8.2.2.2.2.2.2.2.2.2.2 t_deal_bay x2 x1
set_option maxHeartbeats 4000000 in
set_option maxRecDepth 100000 in
theorem g_X6_dealMostDues_c58 (l : Launch) (D : va_G) (ks : Nat × Nat) (cI cL cC cM cS : ClassId) (a : Nat → Nat) (t_now_gain : Nat → Int32) (t_hasImage : Int32) (k25 : (Nat → Int32) → (Nat → Int32) → (Nat → Int32) → (Nat → Int32) → (Nat → Int32) → (Nat → Int32) → (Nat → Int32) → Int32 → Int32 → Int32 → Int32 → (Nat → Int32) → (Nat → Int32) → (Nat → Int32) → (Nat → Int32) → (Nat → Int32) → (Nat → Int32) → (Nat → Int32) → (Nat → Int32) → Int32 → Int32 → Int32 → Int32 → (Nat → Int32) → (Nat → Int32) → Int32 → Int32 → Int32 → Int32 → Int32 → Int32 → (Option ((Nat → Int32) × (Nat → Int32) × (Nat → Int32) × (Nat → Int32) × (Nat → Int32) × (Nat → Int32) × (Nat → Int32) × (Nat → Int32) × Int32 × Int32 × Int32 × Int32 × (Nat → Int32) × (Nat → Int32) × Int32 × Int32 × Int32))) (hk25 : ∀ (t_now_kind t_now_used t_now_bay t_now_likes t_now_who t_now_lamp t_now_due : Nat → Int32) (t_now_count t_now_day t_now_dues t_now_draw : Int32) (t_foreseen_kind t_foreseen_used t_foreseen_bay t_foreseen_likes t_foreseen_who t_foreseen_lamp t_foreseen_due t_foreseen_gain : Nat → Int32) (t_foreseen_count t_foreseen_day t_foreseen_dues t_foreseen_draw : Int32) (t_deal_bay t_deal_best : Nat → Int32) (t_deal_worth t_deal_free t_deal_count : Int32) (x1 : Int32) (x2 : Int32) (x3 : Int32), GJ l D ks (tyz cI cL cC cM cS) RX6 cX6_dealMostDues 5 none { frames := 5, cells := 0, slots := 0, locals := 117 } (fun r : (Nat → Int32) × (Nat → Int32) × (Nat → Int32) × (Nat → Int32) × (Nat → Int32) × (Nat → Int32) × (Nat → Int32) × (Nat → Int32) × Int32 × Int32 × Int32 × Int32 × (Nat → Int32) × (Nat → Int32) × Int32 × Int32 × Int32 => (none, (w_X6nfd cI cL cC cM cS a t_now_kind t_now_used t_now_bay t_now_likes t_now_who t_now_lamp t_now_due t_now_gain t_now_count t_now_day t_now_dues t_now_draw r.1 r.2.1 r.2.2.1 r.2.2.2.1 r.2.2.2.2.1 r.2.2.2.2.2.1 r.2.2.2.2.2.2.1 r.2.2.2.2.2.2.2.1 r.2.2.2.2.2.2.2.2.1 r.2.2.2.2.2.2.2.2.2.1 r.2.2.2.2.2.2.2.2.2.2.1 r.2.2.2.2.2.2.2.2.2.2.2.1 t_hasImage r.2.2.2.2.2.2.2.2.2.2.2.2.1 r.2.2.2.2.2.2.2.2.2.2.2.2.2.1 r.2.2.2.2.2.2.2.2.2.2.2.2.2.2.1 r.2.2.2.2.2.2.2.2.2.2.2.2.2.2.2.1 r.2.2.2.2.2.2.2.2.2.2.2.2.2.2.2.2))) (w_X6nfd cI cL cC cM cS a t_now_kind t_now_used t_now_bay t_now_likes t_now_who t_now_lamp t_now_due t_now_gain t_now_count t_now_day t_now_dues t_now_draw t_foreseen_kind t_foreseen_used t_foreseen_bay t_foreseen_likes t_foreseen_who t_foreseen_lamp t_foreseen_due t_foreseen_gain t_foreseen_count t_foreseen_day t_foreseen_dues t_foreseen_draw t_hasImage t_deal_bay t_deal_best t_deal_worth t_deal_free t_deal_count) 25 [some (.ref (a 0)), some (.int x1), some (.int x2), some (.int x3), none] [] (k25 t_now_kind t_now_used t_now_bay t_now_likes t_now_who t_now_lamp t_now_due t_now_count t_now_day t_now_dues t_now_draw t_foreseen_kind t_foreseen_used t_foreseen_bay t_foreseen_likes t_foreseen_who t_foreseen_lamp t_foreseen_due t_foreseen_gain t_foreseen_count t_foreseen_day t_foreseen_dues t_foreseen_draw t_deal_bay t_deal_best t_deal_worth t_deal_free t_deal_count x1 x2 x3)) (t_now_kind t_now_used t_now_bay t_now_likes t_now_who t_now_lamp t_now_due : Nat → Int32) (t_now_count t_now_day t_now_dues t_now_draw : Int32) (t_foreseen_kind t_foreseen_used t_foreseen_bay t_foreseen_likes t_foreseen_who t_foreseen_lamp t_foreseen_due t_foreseen_gain : Nat → Int32) (t_foreseen_count t_foreseen_day t_foreseen_dues t_foreseen_draw : Int32) (t_deal_bay t_deal_best : Nat → Int32) (t_deal_worth t_deal_free t_deal_count : Int32) (x1 : Int32) (x2 : Int32) (x3 : Int32) : GJ l D ks (tyz cI cL cC cM cS) RX6 cX6_dealMostDues 5 none { frames := 5, cells := 0, slots := 0, locals := 117 } (fun r : (Nat → Int32) × (Nat → Int32) × (Nat → Int32) × (Nat → Int32) × (Nat → Int32) × (Nat → Int32) × (Nat → Int32) × (Nat → Int32) × Int32 × Int32 × Int32 × Int32 × (Nat → Int32) × (Nat → Int32) × Int32 × Int32 × Int32 => (none, (w_X6nfd cI cL cC cM cS a t_now_kind t_now_used t_now_bay t_now_likes t_now_who t_now_lamp t_now_due t_now_gain t_now_count t_now_day t_now_dues t_now_draw r.1 r.2.1 r.2.2.1 r.2.2.2.1 r.2.2.2.2.1 r.2.2.2.2.2.1 r.2.2.2.2.2.2.1 r.2.2.2.2.2.2.2.1 r.2.2.2.2.2.2.2.2.1 r.2.2.2.2.2.2.2.2.2.1 r.2.2.2.2.2.2.2.2.2.2.1 r.2.2.2.2.2.2.2.2.2.2.2.1 t_hasImage r.2.2.2.2.2.2.2.2.2.2.2.2.1 r.2.2.2.2.2.2.2.2.2.2.2.2.2.1 r.2.2.2.2.2.2.2.2.2.2.2.2.2.2.1 r.2.2.2.2.2.2.2.2.2.2.2.2.2.2.2.1 r.2.2.2.2.2.2.2.2.2.2.2.2.2.2.2.2))) (w_X6nfd cI cL cC cM cS a t_now_kind t_now_used t_now_bay t_now_likes t_now_who t_now_lamp t_now_due t_now_gain t_now_count t_now_day t_now_dues t_now_draw t_foreseen_kind t_foreseen_used t_foreseen_bay t_foreseen_likes t_foreseen_who t_foreseen_lamp t_foreseen_due t_foreseen_gain t_foreseen_count t_foreseen_day t_foreseen_dues t_foreseen_draw t_hasImage t_deal_bay t_deal_best t_deal_worth t_deal_free t_deal_count) 58 [some (.ref (a 0)), some (.int x1), some (.int x2), some (.int x3), none] [] (f_X6_dealMostDues_c58 k25 t_now_kind t_now_used t_now_bay t_now_likes t_now_who t_now_lamp t_now_due t_now_count t_now_day t_now_dues t_now_draw t_foreseen_kind t_foreseen_used t_foreseen_bay t_foreseen_likes t_foreseen_who t_foreseen_lamp t_foreseen_due t_foreseen_gain t_foreseen_count t_foreseen_day t_foreseen_dues t_foreseen_draw t_deal_bay t_deal_best t_deal_worth t_deal_free t_deal_count x1 x2 x3) := by
  unfold f_X6_dealMostDues_c58
  refine G.aload_n dX6_dealMostDues_58 rfl ?_
  refine G.get fl_6_35 0 rfl rfl dX6_dealMostDues_59 ?_
  refine G.callV (st := []) (w' := fun r62 => (w_X6nfd cI cL cC cM cS a t_now_kind t_now_used t_now_bay t_now_likes t_now_who t_now_lamp t_now_due t_now_gain t_now_count t_now_day t_now_dues t_now_draw t_foreseen_kind t_foreseen_used t_foreseen_bay t_foreseen_likes t_foreseen_who t_foreseen_lamp t_foreseen_due t_foreseen_gain t_foreseen_count t_foreseen_day t_foreseen_dues t_foreseen_draw t_hasImage r62.2.1 t_deal_best t_deal_worth r62.2.2 t_deal_count)) mv_X0_next lk_6_288 (c_X0_next l D ks cI cL cC cM cS (fun k => a (80 + k)) t_deal_bay t_deal_best t_deal_worth t_deal_free t_deal_count) [19, 20, 21] [0, 1, 2, 3, 4, 5, 6, 7, 8, 9, 10, 11, 12, 13, 14, 15, 16, 17, 18] [0, 1, 2, 3, 4, 5, 6, 7, 8, 9, 10, 11, 12, 13, 14, 15, 16, 17, 18, 19, 20, 21] rfl rfl rfl rfl (by decide +kernel) (fun _ => rfl) rfl (by decide) (Nat.le_of_ble_eq_true rfl) dX6_dealMostDues_62 (fun r62 => [.int r62.1]) (fun _ => rfl) (fun r62 _ => ?_)
  refine G.if_ne 71 dX6_dealMostDues_65 (by decide) (fun h65 => ?_) (fun h65 => ?_)
  · refine G.iinc 1 (lv' := [some (.ref (a 0)), some (.int x1), some (.int x2), some (.int (x3 + 1)), none]) dX6_dealMostDues_71 rfl (by decide) (by decide) (Nat.le_of_ble_eq_true rfl) rfl rfl ?_
    refine G.goto 25 dX6_dealMostDues_74 (by decide) ?_
    exact hk25 t_now_kind t_now_used t_now_bay t_now_likes t_now_who t_now_lamp t_now_due t_now_count t_now_day t_now_dues t_now_draw t_foreseen_kind t_foreseen_used t_foreseen_bay t_foreseen_likes t_foreseen_who t_foreseen_lamp t_foreseen_due t_foreseen_gain t_foreseen_count t_foreseen_day t_foreseen_dues t_foreseen_draw r62.2.1 t_deal_best t_deal_worth r62.2.2 t_deal_count x1 x2 (x3 + 1)
  · refine G.goto 77 dX6_dealMostDues_68 (by decide) ?_
    exact G.vret rfl rfl dX6_dealMostDues_77
set_option maxHeartbeats 4000000 in
set_option maxRecDepth 100000 in
theorem g_X6_dealMostDues_c25 (l : Launch) (D : va_G) (ks : Nat × Nat) (cI cL cC cM cS : ClassId) (a : Nat → Nat) (t_now_gain : Nat → Int32) (t_hasImage : Int32) : ∀ (n : Nat), ∀ (t_now_kind t_now_used t_now_bay t_now_likes t_now_who t_now_lamp t_now_due : Nat → Int32) (t_now_count t_now_day t_now_dues t_now_draw : Int32) (t_foreseen_kind t_foreseen_used t_foreseen_bay t_foreseen_likes t_foreseen_who t_foreseen_lamp t_foreseen_due t_foreseen_gain : Nat → Int32) (t_foreseen_count t_foreseen_day t_foreseen_dues t_foreseen_draw : Int32) (t_deal_bay t_deal_best : Nat → Int32) (t_deal_worth t_deal_free t_deal_count : Int32) (x1 : Int32) (x2 : Int32) (x3 : Int32), GJ l D ks (tyz cI cL cC cM cS) RX6 cX6_dealMostDues 5 none { frames := 5, cells := 0, slots := 0, locals := 117 } (fun r : (Nat → Int32) × (Nat → Int32) × (Nat → Int32) × (Nat → Int32) × (Nat → Int32) × (Nat → Int32) × (Nat → Int32) × (Nat → Int32) × Int32 × Int32 × Int32 × Int32 × (Nat → Int32) × (Nat → Int32) × Int32 × Int32 × Int32 => (none, (w_X6nfd cI cL cC cM cS a t_now_kind t_now_used t_now_bay t_now_likes t_now_who t_now_lamp t_now_due t_now_gain t_now_count t_now_day t_now_dues t_now_draw r.1 r.2.1 r.2.2.1 r.2.2.2.1 r.2.2.2.2.1 r.2.2.2.2.2.1 r.2.2.2.2.2.2.1 r.2.2.2.2.2.2.2.1 r.2.2.2.2.2.2.2.2.1 r.2.2.2.2.2.2.2.2.2.1 r.2.2.2.2.2.2.2.2.2.2.1 r.2.2.2.2.2.2.2.2.2.2.2.1 t_hasImage r.2.2.2.2.2.2.2.2.2.2.2.2.1 r.2.2.2.2.2.2.2.2.2.2.2.2.2.1 r.2.2.2.2.2.2.2.2.2.2.2.2.2.2.1 r.2.2.2.2.2.2.2.2.2.2.2.2.2.2.2.1 r.2.2.2.2.2.2.2.2.2.2.2.2.2.2.2.2))) (w_X6nfd cI cL cC cM cS a t_now_kind t_now_used t_now_bay t_now_likes t_now_who t_now_lamp t_now_due t_now_gain t_now_count t_now_day t_now_dues t_now_draw t_foreseen_kind t_foreseen_used t_foreseen_bay t_foreseen_likes t_foreseen_who t_foreseen_lamp t_foreseen_due t_foreseen_gain t_foreseen_count t_foreseen_day t_foreseen_dues t_foreseen_draw t_hasImage t_deal_bay t_deal_best t_deal_worth t_deal_free t_deal_count) 25 [some (.ref (a 0)), some (.int x1), some (.int x2), some (.int x3), none] [] (f_X6_dealMostDues_c25 n t_now_kind t_now_used t_now_bay t_now_likes t_now_who t_now_lamp t_now_due t_now_count t_now_day t_now_dues t_now_draw t_foreseen_kind t_foreseen_used t_foreseen_bay t_foreseen_likes t_foreseen_who t_foreseen_lamp t_foreseen_due t_foreseen_gain t_foreseen_count t_foreseen_day t_foreseen_dues t_foreseen_draw t_deal_bay t_deal_best t_deal_worth t_deal_free t_deal_count x1 x2 x3) := by
  intro n
  induction n with
  | zero =>
    intro t_now_kind t_now_used t_now_bay t_now_likes t_now_who t_now_lamp t_now_due t_now_count t_now_day t_now_dues t_now_draw t_foreseen_kind t_foreseen_used t_foreseen_bay t_foreseen_likes t_foreseen_who t_foreseen_lamp t_foreseen_due t_foreseen_gain t_foreseen_count t_foreseen_day t_foreseen_dues t_foreseen_draw t_deal_bay t_deal_best t_deal_worth t_deal_free t_deal_count x1 x2 x3
    exact G.no
  | succ n ih =>
    intro t_now_kind t_now_used t_now_bay t_now_likes t_now_who t_now_lamp t_now_due t_now_count t_now_day t_now_dues t_now_draw t_foreseen_kind t_foreseen_used t_foreseen_bay t_foreseen_likes t_foreseen_who t_foreseen_lamp t_foreseen_due t_foreseen_gain t_foreseen_count t_foreseen_day t_foreseen_dues t_foreseen_draw t_deal_bay t_deal_best t_deal_worth t_deal_free t_deal_count x1 x2 x3
    rw [f_X6_dealMostDues_c25]
    refine G.iload_n dX6_dealMostDues_25 rfl ?_
    refine G.sipush 720 dX6_dealMostDues_26 (by decide) ?_
    refine G.icmp_ge 77 dX6_dealMostDues_29 (by decide) (fun h29 => ?_) (fun h29 => ?_)
    · exact G.vret rfl rfl dX6_dealMostDues_77
    · refine G.aload_n dX6_dealMostDues_32 rfl ?_
      refine G.iload_n dX6_dealMostDues_33 rfl ?_
      refine G.iload_n dX6_dealMostDues_34 rfl ?_
      refine G.callV (st := []) (w' := fun r35 => (w_X6nfd cI cL cC cM cS a t_now_kind t_now_used t_now_bay t_now_likes t_now_who t_now_lamp t_now_due t_now_gain t_now_count t_now_day t_now_dues t_now_draw r35.2.1 r35.2.2.1 r35.2.2.2.1 r35.2.2.2.2.1 r35.2.2.2.2.2.1 r35.2.2.2.2.2.2.1 r35.2.2.2.2.2.2.2.1 r35.2.2.2.2.2.2.2.2.1 r35.2.2.2.2.2.2.2.2.2.1 r35.2.2.2.2.2.2.2.2.2.2.1 r35.2.2.2.2.2.2.2.2.2.2.2.1 r35.2.2.2.2.2.2.2.2.2.2.2.2 t_hasImage t_deal_bay t_deal_best t_deal_worth t_deal_free t_deal_count)) mv_X6_duesIfDealt lk_6_304 (c_X6_duesIfDealt l D ks cI cL cC cM cS a t_now_kind t_now_used t_now_bay t_now_likes t_now_who t_now_lamp t_now_due t_now_gain t_now_count t_now_day t_now_dues t_now_draw t_foreseen_kind t_foreseen_used t_foreseen_bay t_foreseen_likes t_foreseen_who t_foreseen_lamp t_foreseen_due t_foreseen_gain t_foreseen_count t_foreseen_day t_foreseen_dues t_foreseen_draw t_hasImage t_deal_bay t_deal_best t_deal_worth t_deal_free t_deal_count x1 x2) [0, 1, 2, 3, 4, 5, 6, 7, 8, 9, 10, 11, 12, 13, 14, 15, 16, 17, 18, 19, 20, 21] [] [0, 1, 2, 3, 4, 5, 6, 7, 8, 9, 10, 11, 12, 13, 14, 15, 16, 17, 18, 19, 20, 21] rfl rfl rfl rfl (by decide +kernel) (fun _ => rfl) rfl (by decide) (Nat.le_of_ble_eq_true rfl) dX6_dealMostDues_35 (fun r35 => [.int r35.1]) (fun _ => rfl) (fun r35 _ => ?_)
      refine G.istore (lv' := [some (.ref (a 0)), some (.int x1), some (.int x2), some (.int x3), some (.int r35.1)]) dX6_dealMostDues_38 (by decide) (Nat.le_of_ble_eq_true rfl) rfl rfl ?_
      refine G.iload dX6_dealMostDues_40 rfl ?_
      refine G.iload_n dX6_dealMostDues_42 rfl ?_
      refine G.icmp_le 58 dX6_dealMostDues_43 (by decide) (fun h43 => ?_) (fun h43 => ?_)
      · refine G.mask (lv' := [some (.ref (a 0)), some (.int x1), some (.int x2), some (.int x3), none]) [true, true, true, true, false] rfl ?_
        exact g_X6_dealMostDues_c58 l D ks cI cL cC cM cS a t_now_gain t_hasImage (f_X6_dealMostDues_c25 n) ih t_now_kind t_now_used t_now_bay t_now_likes t_now_who t_now_lamp t_now_due t_now_count t_now_day t_now_dues t_now_draw r35.2.1 r35.2.2.1 r35.2.2.2.1 r35.2.2.2.2.1 r35.2.2.2.2.2.1 r35.2.2.2.2.2.2.1 r35.2.2.2.2.2.2.2.1 r35.2.2.2.2.2.2.2.2.1 r35.2.2.2.2.2.2.2.2.2.1 r35.2.2.2.2.2.2.2.2.2.2.1 r35.2.2.2.2.2.2.2.2.2.2.2.1 r35.2.2.2.2.2.2.2.2.2.2.2.2 t_deal_bay t_deal_best t_deal_worth t_deal_free t_deal_count x1 x2 x3
      · refine G.iload dX6_dealMostDues_46 rfl ?_
        refine G.istore_n (lv' := [some (.ref (a 0)), some (.int x1), some (.int r35.1), some (.int x3), some (.int r35.1)]) dX6_dealMostDues_48 (by decide) (Nat.le_of_ble_eq_true rfl) rfl rfl ?_
        refine G.aload_n dX6_dealMostDues_49 rfl ?_
        refine G.get fl_6_35 0 rfl rfl dX6_dealMostDues_50 ?_
        refine G.iload dX6_dealMostDues_53 rfl ?_
        refine G.callV (st := []) (w' := fun r55 => (w_X6nfd cI cL cC cM cS a t_now_kind t_now_used t_now_bay t_now_likes t_now_who t_now_lamp t_now_due t_now_gain t_now_count t_now_day t_now_dues t_now_draw r35.2.1 r35.2.2.1 r35.2.2.2.1 r35.2.2.2.2.1 r35.2.2.2.2.2.1 r35.2.2.2.2.2.2.1 r35.2.2.2.2.2.2.2.1 r35.2.2.2.2.2.2.2.2.1 r35.2.2.2.2.2.2.2.2.2.1 r35.2.2.2.2.2.2.2.2.2.2.1 r35.2.2.2.2.2.2.2.2.2.2.2.1 r35.2.2.2.2.2.2.2.2.2.2.2.2 t_hasImage t_deal_bay r55.1 r55.2 t_deal_free t_deal_count)) mv_X0_keep lk_6_286 (c_X0_keep l D ks cI cL cC cM cS (fun k => a (80 + k)) t_deal_bay t_deal_best t_deal_worth t_deal_free t_deal_count r35.1) [19, 20, 21] [0, 1, 2, 3, 4, 5, 6, 7, 8, 9, 10, 11, 12, 13, 14, 15, 16, 17, 18] [0, 1, 2, 3, 4, 5, 6, 7, 8, 9, 10, 11, 12, 13, 14, 15, 16, 17, 18, 19, 20, 21] rfl rfl rfl rfl (by decide +kernel) (fun _ => rfl) rfl (by decide) (Nat.le_of_ble_eq_true rfl) dX6_dealMostDues_55 (fun r55 => []) (fun _ => rfl) (fun r55 _ => ?_)
        refine G.mask (lv' := [some (.ref (a 0)), some (.int x1), some (.int r35.1), some (.int x3), none]) [true, true, true, true, false] rfl ?_
        exact g_X6_dealMostDues_c58 l D ks cI cL cC cM cS a t_now_gain t_hasImage (f_X6_dealMostDues_c25 n) ih t_now_kind t_now_used t_now_bay t_now_likes t_now_who t_now_lamp t_now_due t_now_count t_now_day t_now_dues t_now_draw r35.2.1 r35.2.2.1 r35.2.2.2.1 r35.2.2.2.2.1 r35.2.2.2.2.2.1 r35.2.2.2.2.2.2.1 r35.2.2.2.2.2.2.2.1 r35.2.2.2.2.2.2.2.2.1 r35.2.2.2.2.2.2.2.2.2.1 r35.2.2.2.2.2.2.2.2.2.2.1 r35.2.2.2.2.2.2.2.2.2.2.2.1 r35.2.2.2.2.2.2.2.2.2.2.2.2 t_deal_bay r55.1 r55.2 t_deal_free t_deal_count x1 r35.1 x3
set_option maxHeartbeats 4000000 in
set_option maxRecDepth 100000 in
theorem c_X6_dealMostDues (l : Launch) (D : va_G) (ks : Nat × Nat) (cI cL cC cM cS : ClassId) (a : Nat → Nat) (t_now_kind t_now_used t_now_bay t_now_likes t_now_who t_now_lamp t_now_due t_now_gain : Nat → Int32) (t_now_count t_now_day t_now_dues t_now_draw : Int32) (t_foreseen_kind t_foreseen_used t_foreseen_bay t_foreseen_likes t_foreseen_who t_foreseen_lamp t_foreseen_due t_foreseen_gain : Nat → Int32) (t_foreseen_count t_foreseen_day t_foreseen_dues t_foreseen_draw t_hasImage : Int32) (t_deal_bay t_deal_best : Nat → Int32) (t_deal_worth t_deal_free t_deal_count : Int32) (x1 : Int32) : MT l D ks (tyz cI cL cC cM cS) yX6_dealMostDues cX6_dealMostDues 5 none { frames := 5, cells := 0, slots := 0, locals := 117 } [.ref (a 0), .int x1] (w_X6nfd cI cL cC cM cS a t_now_kind t_now_used t_now_bay t_now_likes t_now_who t_now_lamp t_now_due t_now_gain t_now_count t_now_day t_now_dues t_now_draw t_foreseen_kind t_foreseen_used t_foreseen_bay t_foreseen_likes t_foreseen_who t_foreseen_lamp t_foreseen_due t_foreseen_gain t_foreseen_count t_foreseen_day t_foreseen_dues t_foreseen_draw t_hasImage t_deal_bay t_deal_best t_deal_worth t_deal_free t_deal_count) (fun r : (Nat → Int32) × (Nat → Int32) × (Nat → Int32) × (Nat → Int32) × (Nat → Int32) × (Nat → Int32) × (Nat → Int32) × (Nat → Int32) × Int32 × Int32 × Int32 × Int32 × (Nat → Int32) × (Nat → Int32) × Int32 × Int32 × Int32 => (none, (w_X6nfd cI cL cC cM cS a t_now_kind t_now_used t_now_bay t_now_likes t_now_who t_now_lamp t_now_due t_now_gain t_now_count t_now_day t_now_dues t_now_draw r.1 r.2.1 r.2.2.1 r.2.2.2.1 r.2.2.2.2.1 r.2.2.2.2.2.1 r.2.2.2.2.2.2.1 r.2.2.2.2.2.2.2.1 r.2.2.2.2.2.2.2.2.1 r.2.2.2.2.2.2.2.2.2.1 r.2.2.2.2.2.2.2.2.2.2.1 r.2.2.2.2.2.2.2.2.2.2.2.1 t_hasImage r.2.2.2.2.2.2.2.2.2.2.2.2.1 r.2.2.2.2.2.2.2.2.2.2.2.2.2.1 r.2.2.2.2.2.2.2.2.2.2.2.2.2.2.1 r.2.2.2.2.2.2.2.2.2.2.2.2.2.2.2.1 r.2.2.2.2.2.2.2.2.2.2.2.2.2.2.2.2))) (f_X6_dealMostDues t_now_kind t_now_used t_now_bay t_now_likes t_now_who t_now_lamp t_now_due t_now_count t_now_day t_now_dues t_now_draw t_foreseen_kind t_foreseen_used t_foreseen_bay t_foreseen_likes t_foreseen_who t_foreseen_lamp t_foreseen_due t_foreseen_gain t_foreseen_count t_foreseen_day t_foreseen_dues t_foreseen_draw t_deal_bay t_deal_best t_deal_worth t_deal_free t_deal_count x1) := by
  refine MT.of 3 [some (.ref (a 0)), some (.int x1), none, none, none] (by decide) (Nat.le_of_ble_eq_true rfl) rfl ?_
  unfold f_X6_dealMostDues
  refine G.aload_n dX6_dealMostDues_0 rfl ?_
  refine G.get fl_6_35 0 rfl rfl dX6_dealMostDues_1 ?_
  refine G.aload_n dX6_dealMostDues_4 rfl ?_
  refine G.get fl_6_10 0 rfl rfl dX6_dealMostDues_5 ?_
  refine G.get fl_6_72 1 rfl rfl dX6_dealMostDues_8 ?_
  refine G.aload_n dX6_dealMostDues_11 rfl ?_
  refine G.get fl_6_10 0 rfl rfl dX6_dealMostDues_12 ?_
  refine G.callV (st := [.int t_now_count, .ref (a 80)]) (w' := fun r15 => (w_X6nfd cI cL cC cM cS a t_now_kind t_now_used t_now_bay t_now_likes t_now_who t_now_lamp t_now_due t_now_gain t_now_count t_now_day t_now_dues t_now_draw t_foreseen_kind t_foreseen_used t_foreseen_bay t_foreseen_likes t_foreseen_who t_foreseen_lamp t_foreseen_due t_foreseen_gain t_foreseen_count t_foreseen_day t_foreseen_dues t_foreseen_draw t_hasImage t_deal_bay t_deal_best t_deal_worth t_deal_free t_deal_count)) mv_X3_heldBays lk_6_291 (c_X3_heldBays l D ks cI cL cC cM cS (fun k => a (1 + k)) t_now_kind t_now_used t_now_bay t_now_likes t_now_who t_now_lamp t_now_due t_now_gain t_now_count t_now_day t_now_dues t_now_draw) [1, 2, 3, 4, 5, 6, 7, 8, 9] [0, 10, 11, 12, 13, 14, 15, 16, 17, 18, 19, 20, 21] [0, 13, 14, 15, 16, 17, 18, 19, 20, 21, 1, 2, 3, 4, 5, 6, 7, 8, 9, 10, 11, 12] rfl rfl rfl rfl (by decide +kernel) (fun _ => rfl) rfl (by decide) (Nat.le_of_ble_eq_true rfl) dX6_dealMostDues_15 (fun r15 => [.int r15, .int t_now_count, .ref (a 80)]) (fun _ => rfl) (fun r15 _ => ?_)
  refine G.callV (st := []) (w' := fun r18 => (w_X6nfd cI cL cC cM cS a t_now_kind t_now_used t_now_bay t_now_likes t_now_who t_now_lamp t_now_due t_now_gain t_now_count t_now_day t_now_dues t_now_draw t_foreseen_kind t_foreseen_used t_foreseen_bay t_foreseen_likes t_foreseen_who t_foreseen_lamp t_foreseen_due t_foreseen_gain t_foreseen_count t_foreseen_day t_foreseen_dues t_foreseen_draw t_hasImage r18.1 t_deal_best t_deal_worth r18.2.1 r18.2.2)) mv_X0_begin lk_6_279 (c_X0_begin l D ks cI cL cC cM cS (fun k => a (80 + k)) t_deal_bay t_deal_best t_deal_worth t_deal_free t_deal_count t_now_count r15) [19, 20, 21] [0, 1, 2, 3, 4, 5, 6, 7, 8, 9, 10, 11, 12, 13, 14, 15, 16, 17, 18] [0, 1, 2, 3, 4, 5, 6, 7, 8, 9, 10, 11, 12, 13, 14, 15, 16, 17, 18, 19, 20, 21] rfl rfl rfl rfl (by decide +kernel) (fun _ => rfl) rfl (by decide) (Nat.le_of_ble_eq_true rfl) dX6_dealMostDues_18 (fun r18 => []) (fun _ => rfl) (fun r18 _ => ?_)
  refine G.iconst (-1) dX6_dealMostDues_21 (by decide) ?_
  refine G.istore_n (lv' := [some (.ref (a 0)), some (.int x1), some (.int (-1)), none, none]) dX6_dealMostDues_22 (by decide) (Nat.le_of_ble_eq_true rfl) rfl rfl ?_
  refine G.iconst 0 dX6_dealMostDues_23 (by decide) ?_
  refine G.istore_n (lv' := [some (.ref (a 0)), some (.int x1), some (.int (-1)), some (.int 0), none]) dX6_dealMostDues_24 (by decide) (Nat.le_of_ble_eq_true rfl) rfl rfl ?_
  exact g_X6_dealMostDues_c25 l D ks cI cL cC cM cS a t_now_gain t_hasImage fu t_now_kind t_now_used t_now_bay t_now_likes t_now_who t_now_lamp t_now_due t_now_count t_now_day t_now_dues t_now_draw t_foreseen_kind t_foreseen_used t_foreseen_bay t_foreseen_likes t_foreseen_who t_foreseen_lamp t_foreseen_due t_foreseen_gain t_foreseen_count t_foreseen_day t_foreseen_dues t_foreseen_draw r18.1 t_deal_best t_deal_worth r18.2.1 r18.2.2 x1 (-1) 0
set_option maxHeartbeats 4000000 in
set_option maxRecDepth 100000 in
theorem c_X6_drop (l : Launch) (D : va_G) (ks : Nat × Nat) (cI cL cC cM cS : ClassId) (a : Nat → Nat) (t_hasImage : Int32) (t_sheets_items : Nat → Nat → Int64) (t_sheets_lane t_sheets_size : Nat → Int32) (x1 : Int32) : MT l D ks (tyz cI cL cC cM cS) yX6_drop cX6_drop 2 ((some .int)) { frames := 2, cells := 0, slots := 0, locals := 42 } [.ref (a 0), .int x1] (w_X6s cI cL cC cM cS a t_hasImage t_sheets_items t_sheets_lane t_sheets_size) (fun r : Int32 × (Nat → Int32) => (some (.int r.1), (w_X6s cI cL cC cM cS a t_hasImage t_sheets_items t_sheets_lane r.2))) (f_X6_drop t_sheets_size x1) := by
  refine MT.of 0 [some (.ref (a 0)), some (.int x1)] (by decide) (Nat.le_of_ble_eq_true rfl) rfl ?_
  unfold f_X6_drop
  refine G.iload_n dX6_drop_0 rfl ?_
  refine G.callS (st := []) (w' := fun r1 => (w_X6s cI cL cC cM cS a t_hasImage t_sheets_items t_sheets_lane t_sheets_size)) ms_X6_isSheet lk_6_231 (c_X6_isSheet l D ks cI cL cC cM cS x1) [] [0, 1, 2, 3, 4, 5, 6, 7, 8, 9] [0, 1, 2, 3, 4, 5, 6, 7, 8, 9] rfl rfl rfl rfl (by decide +kernel) (fun _ => rfl) (by decide) (Nat.le_of_ble_eq_true rfl) dX6_drop_1 (fun r1 => [.int r1]) (fun _ => rfl) (fun r1 _ => ?_)
  refine G.if_ne 9 dX6_drop_4 (by decide) (fun h4 => ?_) (fun h4 => ?_)
  · refine G.aload_n dX6_drop_9 rfl ?_
    refine G.get fl_6_48 0 rfl rfl dX6_drop_10 ?_
    refine G.iload_n dX6_drop_13 rfl ?_
    refine G.chk (fun h14 => ?_)
    have hl14 := inb_lt h14
    generalize hj14 : x1.toNatClampNeg = j14 at hl14 ⊢
    rcases g_or4 hl14 with rfl | rfl | rfl | rfl
    · refine G.aaload 1 4 rfl rfl h14 (by rw [hj14]) dX6_drop_14 ?_
      refine G.callV (st := []) (w' := fun r15 => (w_X6s cI cL cC cM cS a t_hasImage t_sheets_items t_sheets_lane t_sheets_size)) mv_X4_isMissing lk_6_256 (c_X4_isMissing l D ks cI cL cC cM cS (fun k => a (86 + k)) (t_sheets_items 0) (t_sheets_lane 0) (t_sheets_size 0)) [2, 3] [0, 1, 4, 5, 6, 7, 8, 9] [0, 1, 8, 9, 2, 3, 4, 5, 6, 7] rfl rfl rfl rfl (by decide +kernel) (fun _ => rfl) rfl (by decide) (Nat.le_of_ble_eq_true rfl) dX6_drop_15 (fun r15 => [.int r15]) (fun _ => rfl) (fun r15 _ => ?_)
      refine G.if_eq 24 dX6_drop_18 (by decide) (fun h18 => ?_) (fun h18 => ?_)
      · refine G.aload_n dX6_drop_24 rfl ?_
        refine G.get fl_6_48 0 rfl rfl dX6_drop_25 ?_
        refine G.iload_n dX6_drop_28 rfl ?_
        refine G.aaload 1 4 rfl rfl h14 (by rw [hj14]) dX6_drop_29 ?_
        refine G.callV (st := []) (w' := fun r30 => (w_X6s cI cL cC cM cS a t_hasImage t_sheets_items t_sheets_lane (va_up t_sheets_size 0 r30.2))) mv_X4_takeAway lk_6_260 (c_X4_takeAway l D ks cI cL cC cM cS (fun k => a (86 + k)) (t_sheets_items 0) (t_sheets_lane 0) (t_sheets_size 0)) [2, 3] [0, 1, 4, 5, 6, 7, 8, 9] [0, 1, 8, 9, 2, 3, 4, 5, 6, 7] rfl rfl rfl rfl (by decide +kernel) (fun _ => rfl) rfl (by decide) (Nat.le_of_ble_eq_true rfl) dX6_drop_30 (fun r30 => [.int r30.1]) (fun _ => rfl) (fun r30 _ => ?_)
        exact G.iret rfl rfl dX6_drop_33
      · refine G.bipush (-11) dX6_drop_21 (by decide) ?_
        exact G.iret rfl rfl dX6_drop_23
    · refine G.aaload 1 4 rfl rfl h14 (by rw [hj14]) dX6_drop_14 ?_
      refine G.callV (st := []) (w' := fun r15 => (w_X6s cI cL cC cM cS a t_hasImage t_sheets_items t_sheets_lane t_sheets_size)) mv_X4_isMissing lk_6_256 (c_X4_isMissing l D ks cI cL cC cM cS (fun k => a (88 + k)) (t_sheets_items 1) (t_sheets_lane 1) (t_sheets_size 1)) [4, 5] [0, 1, 2, 3, 6, 7, 8, 9] [0, 1, 2, 3, 8, 9, 4, 5, 6, 7] rfl rfl rfl rfl (by decide +kernel) (fun _ => rfl) rfl (by decide) (Nat.le_of_ble_eq_true rfl) dX6_drop_15 (fun r15 => [.int r15]) (fun _ => rfl) (fun r15 _ => ?_)
      refine G.if_eq 24 dX6_drop_18 (by decide) (fun h18 => ?_) (fun h18 => ?_)
      · refine G.aload_n dX6_drop_24 rfl ?_
        refine G.get fl_6_48 0 rfl rfl dX6_drop_25 ?_
        refine G.iload_n dX6_drop_28 rfl ?_
        refine G.aaload 1 4 rfl rfl h14 (by rw [hj14]) dX6_drop_29 ?_
        refine G.callV (st := []) (w' := fun r30 => (w_X6s cI cL cC cM cS a t_hasImage t_sheets_items t_sheets_lane (va_up t_sheets_size 1 r30.2))) mv_X4_takeAway lk_6_260 (c_X4_takeAway l D ks cI cL cC cM cS (fun k => a (88 + k)) (t_sheets_items 1) (t_sheets_lane 1) (t_sheets_size 1)) [4, 5] [0, 1, 2, 3, 6, 7, 8, 9] [0, 1, 2, 3, 8, 9, 4, 5, 6, 7] rfl rfl rfl rfl (by decide +kernel) (fun _ => rfl) rfl (by decide) (Nat.le_of_ble_eq_true rfl) dX6_drop_30 (fun r30 => [.int r30.1]) (fun _ => rfl) (fun r30 _ => ?_)
        exact G.iret rfl rfl dX6_drop_33
      · refine G.bipush (-11) dX6_drop_21 (by decide) ?_
        exact G.iret rfl rfl dX6_drop_23
    · refine G.aaload 1 4 rfl rfl h14 (by rw [hj14]) dX6_drop_14 ?_
      refine G.callV (st := []) (w' := fun r15 => (w_X6s cI cL cC cM cS a t_hasImage t_sheets_items t_sheets_lane t_sheets_size)) mv_X4_isMissing lk_6_256 (c_X4_isMissing l D ks cI cL cC cM cS (fun k => a (90 + k)) (t_sheets_items 2) (t_sheets_lane 2) (t_sheets_size 2)) [6, 7] [0, 1, 2, 3, 4, 5, 8, 9] [0, 1, 2, 3, 4, 5, 8, 9, 6, 7] rfl rfl rfl rfl (by decide +kernel) (fun _ => rfl) rfl (by decide) (Nat.le_of_ble_eq_true rfl) dX6_drop_15 (fun r15 => [.int r15]) (fun _ => rfl) (fun r15 _ => ?_)
      refine G.if_eq 24 dX6_drop_18 (by decide) (fun h18 => ?_) (fun h18 => ?_)
      · refine G.aload_n dX6_drop_24 rfl ?_
        refine G.get fl_6_48 0 rfl rfl dX6_drop_25 ?_
        refine G.iload_n dX6_drop_28 rfl ?_
        refine G.aaload 1 4 rfl rfl h14 (by rw [hj14]) dX6_drop_29 ?_
        refine G.callV (st := []) (w' := fun r30 => (w_X6s cI cL cC cM cS a t_hasImage t_sheets_items t_sheets_lane (va_up t_sheets_size 2 r30.2))) mv_X4_takeAway lk_6_260 (c_X4_takeAway l D ks cI cL cC cM cS (fun k => a (90 + k)) (t_sheets_items 2) (t_sheets_lane 2) (t_sheets_size 2)) [6, 7] [0, 1, 2, 3, 4, 5, 8, 9] [0, 1, 2, 3, 4, 5, 8, 9, 6, 7] rfl rfl rfl rfl (by decide +kernel) (fun _ => rfl) rfl (by decide) (Nat.le_of_ble_eq_true rfl) dX6_drop_30 (fun r30 => [.int r30.1]) (fun _ => rfl) (fun r30 _ => ?_)
        exact G.iret rfl rfl dX6_drop_33
      · refine G.bipush (-11) dX6_drop_21 (by decide) ?_
        exact G.iret rfl rfl dX6_drop_23
    · refine G.aaload 1 4 rfl rfl h14 (by rw [hj14]) dX6_drop_14 ?_
      refine G.callV (st := []) (w' := fun r15 => (w_X6s cI cL cC cM cS a t_hasImage t_sheets_items t_sheets_lane t_sheets_size)) mv_X4_isMissing lk_6_256 (c_X4_isMissing l D ks cI cL cC cM cS (fun k => a (92 + k)) (t_sheets_items 3) (t_sheets_lane 3) (t_sheets_size 3)) [8, 9] [0, 1, 2, 3, 4, 5, 6, 7] [0, 1, 2, 3, 4, 5, 6, 7, 8, 9] rfl rfl rfl rfl (by decide +kernel) (fun _ => rfl) rfl (by decide) (Nat.le_of_ble_eq_true rfl) dX6_drop_15 (fun r15 => [.int r15]) (fun _ => rfl) (fun r15 _ => ?_)
      refine G.if_eq 24 dX6_drop_18 (by decide) (fun h18 => ?_) (fun h18 => ?_)
      · refine G.aload_n dX6_drop_24 rfl ?_
        refine G.get fl_6_48 0 rfl rfl dX6_drop_25 ?_
        refine G.iload_n dX6_drop_28 rfl ?_
        refine G.aaload 1 4 rfl rfl h14 (by rw [hj14]) dX6_drop_29 ?_
        refine G.callV (st := []) (w' := fun r30 => (w_X6s cI cL cC cM cS a t_hasImage t_sheets_items t_sheets_lane (va_up t_sheets_size 3 r30.2))) mv_X4_takeAway lk_6_260 (c_X4_takeAway l D ks cI cL cC cM cS (fun k => a (92 + k)) (t_sheets_items 3) (t_sheets_lane 3) (t_sheets_size 3)) [8, 9] [0, 1, 2, 3, 4, 5, 6, 7] [0, 1, 2, 3, 4, 5, 6, 7, 8, 9] rfl rfl rfl rfl (by decide +kernel) (fun _ => rfl) rfl (by decide) (Nat.le_of_ble_eq_true rfl) dX6_drop_30 (fun r30 => [.int r30.1]) (fun _ => rfl) (fun r30 _ => ?_)
        exact G.iret rfl rfl dX6_drop_33
      · refine G.bipush (-11) dX6_drop_21 (by decide) ?_
        exact G.iret rfl rfl dX6_drop_23
  · refine G.iconst (-1) dX6_drop_7 (by decide) ?_
    exact G.iret rfl rfl dX6_drop_8
set_option maxHeartbeats 4000000 in
set_option maxRecDepth 100000 in
theorem c_X6_earn (l : Launch) (D : va_G) (ks : Nat × Nat) (cI cL cC cM cS : ClassId) (a : Nat → Nat) (t_now_kind t_now_used t_now_bay t_now_likes t_now_who t_now_lamp t_now_due t_now_gain : Nat → Int32) (t_now_count t_now_day t_now_dues t_now_draw : Int32) (t_foreseen_kind t_foreseen_used t_foreseen_bay t_foreseen_likes t_foreseen_who t_foreseen_lamp t_foreseen_due t_foreseen_gain : Nat → Int32) (t_foreseen_count t_foreseen_day t_foreseen_dues t_foreseen_draw t_hasImage : Int32) (t_deal_bay t_deal_best : Nat → Int32) (t_deal_worth t_deal_free t_deal_count : Int32) (x1 : Int32) (x2 : Int32) : MT l D ks (tyz cI cL cC cM cS) yX6_earn cX6_earn 3 ((some .int)) { frames := 6, cells := 0, slots := 0, locals := 141 } [.ref (a 0), .int x1, .int x2] (w_X6nfd cI cL cC cM cS a t_now_kind t_now_used t_now_bay t_now_likes t_now_who t_now_lamp t_now_due t_now_gain t_now_count t_now_day t_now_dues t_now_draw t_foreseen_kind t_foreseen_used t_foreseen_bay t_foreseen_likes t_foreseen_who t_foreseen_lamp t_foreseen_due t_foreseen_gain t_foreseen_count t_foreseen_day t_foreseen_dues t_foreseen_draw t_hasImage t_deal_bay t_deal_best t_deal_worth t_deal_free t_deal_count) (fun r : Int32 × (Nat → Int32) × (Nat → Int32) × (Nat → Int32) × (Nat → Int32) × (Nat → Int32) × (Nat → Int32) × (Nat → Int32) × (Nat → Int32) × Int32 × Int32 × Int32 × Int32 × (Nat → Int32) × (Nat → Int32) × Int32 × Int32 × Int32 => (some (.int r.1), (w_X6nfd cI cL cC cM cS a t_now_kind t_now_used t_now_bay t_now_likes t_now_who t_now_lamp t_now_due t_now_gain t_now_count t_now_day t_now_dues t_now_draw r.2.1 r.2.2.1 r.2.2.2.1 r.2.2.2.2.1 r.2.2.2.2.2.1 r.2.2.2.2.2.2.1 r.2.2.2.2.2.2.2.1 r.2.2.2.2.2.2.2.2.1 r.2.2.2.2.2.2.2.2.2.1 r.2.2.2.2.2.2.2.2.2.2.1 r.2.2.2.2.2.2.2.2.2.2.2.1 r.2.2.2.2.2.2.2.2.2.2.2.2.1 t_hasImage r.2.2.2.2.2.2.2.2.2.2.2.2.2.1 r.2.2.2.2.2.2.2.2.2.2.2.2.2.2.1 r.2.2.2.2.2.2.2.2.2.2.2.2.2.2.2.1 r.2.2.2.2.2.2.2.2.2.2.2.2.2.2.2.2.1 r.2.2.2.2.2.2.2.2.2.2.2.2.2.2.2.2.2))) (f_X6_earn t_now_kind t_now_used t_now_bay t_now_likes t_now_who t_now_lamp t_now_due t_now_count t_now_day t_now_dues t_now_draw t_foreseen_kind t_foreseen_used t_foreseen_bay t_foreseen_likes t_foreseen_who t_foreseen_lamp t_foreseen_due t_foreseen_gain t_foreseen_count t_foreseen_day t_foreseen_dues t_foreseen_draw t_deal_bay t_deal_best t_deal_worth t_deal_free t_deal_count x1 x2) := by
  refine MT.of 0 [some (.ref (a 0)), some (.int x1), some (.int x2)] (by decide) (Nat.le_of_ble_eq_true rfl) rfl ?_
  unfold f_X6_earn
  refine G.iload_n dX6_earn_0 rfl ?_
  refine G.iconst 1 dX6_earn_1 (by decide) ?_
  refine G.bipush 40 dX6_earn_2 (by decide) ?_
  refine G.callS (st := []) (w' := fun r4 => (w_X6nfd cI cL cC cM cS a t_now_kind t_now_used t_now_bay t_now_likes t_now_who t_now_lamp t_now_due t_now_gain t_now_count t_now_day t_now_dues t_now_draw t_foreseen_kind t_foreseen_used t_foreseen_bay t_foreseen_likes t_foreseen_who t_foreseen_lamp t_foreseen_due t_foreseen_gain t_foreseen_count t_foreseen_day t_foreseen_dues t_foreseen_draw t_hasImage t_deal_bay t_deal_best t_deal_worth t_deal_free t_deal_count)) ms_X6_within lk_6_53 (c_X6_within l D ks cI cL cC cM cS x1 1 40) [] [0, 1, 2, 3, 4, 5, 6, 7, 8, 9, 10, 11, 12, 13, 14, 15, 16, 17, 18, 19, 20, 21] [0, 1, 2, 3, 4, 5, 6, 7, 8, 9, 10, 11, 12, 13, 14, 15, 16, 17, 18, 19, 20, 21] rfl rfl rfl rfl (by decide +kernel) (fun _ => rfl) (by decide) (Nat.le_of_ble_eq_true rfl) dX6_earn_4 (fun r4 => [.int r4]) (fun _ => rfl) (fun r4 _ => ?_)
  refine G.if_eq 15 dX6_earn_7 (by decide) (fun h7 => ?_) (fun h7 => ?_)
  · refine G.iconst (-1) dX6_earn_15 (by decide) ?_
    exact G.iret rfl rfl dX6_earn_16
  · refine G.iload_n dX6_earn_10 rfl ?_
    refine G.iconst (-1) dX6_earn_11 (by decide) ?_
    refine G.icmp_ge 17 dX6_earn_12 (by decide) (fun h12 => ?_) (fun h12 => ?_)
    · refine G.iload_n dX6_earn_17 rfl ?_
      refine G.aload_n dX6_earn_18 rfl ?_
      refine G.get fl_6_10 0 rfl rfl dX6_earn_19 ?_
      refine G.get fl_6_72 1 rfl rfl dX6_earn_22 ?_
      refine G.icmp_lt 31 dX6_earn_25 (by decide) (fun h25 => ?_) (fun h25 => ?_)
      · refine G.aload_n dX6_earn_31 rfl ?_
        refine G.iload_n dX6_earn_32 rfl ?_
        refine G.callV (st := []) (w' := fun r33 => (w_X6nfd cI cL cC cM cS a t_now_kind t_now_used t_now_bay t_now_likes t_now_who t_now_lamp t_now_due t_now_gain t_now_count t_now_day t_now_dues t_now_draw r33.1 r33.2.1 r33.2.2.1 r33.2.2.2.1 r33.2.2.2.2.1 r33.2.2.2.2.2.1 r33.2.2.2.2.2.2.1 r33.2.2.2.2.2.2.2.1 r33.2.2.2.2.2.2.2.2.1 r33.2.2.2.2.2.2.2.2.2.1 r33.2.2.2.2.2.2.2.2.2.2.1 r33.2.2.2.2.2.2.2.2.2.2.2.1 t_hasImage r33.2.2.2.2.2.2.2.2.2.2.2.2.1 r33.2.2.2.2.2.2.2.2.2.2.2.2.2.1 r33.2.2.2.2.2.2.2.2.2.2.2.2.2.2.1 r33.2.2.2.2.2.2.2.2.2.2.2.2.2.2.2.1 r33.2.2.2.2.2.2.2.2.2.2.2.2.2.2.2.2)) mv_X6_dealMostDues lk_6_206 (c_X6_dealMostDues l D ks cI cL cC cM cS a t_now_kind t_now_used t_now_bay t_now_likes t_now_who t_now_lamp t_now_due t_now_gain t_now_count t_now_day t_now_dues t_now_draw t_foreseen_kind t_foreseen_used t_foreseen_bay t_foreseen_likes t_foreseen_who t_foreseen_lamp t_foreseen_due t_foreseen_gain t_foreseen_count t_foreseen_day t_foreseen_dues t_foreseen_draw t_hasImage t_deal_bay t_deal_best t_deal_worth t_deal_free t_deal_count x1) [0, 1, 2, 3, 4, 5, 6, 7, 8, 9, 10, 11, 12, 13, 14, 15, 16, 17, 18, 19, 20, 21] [] [0, 1, 2, 3, 4, 5, 6, 7, 8, 9, 10, 11, 12, 13, 14, 15, 16, 17, 18, 19, 20, 21] rfl rfl rfl rfl (by decide +kernel) (fun _ => rfl) rfl (by decide) (Nat.le_of_ble_eq_true rfl) dX6_earn_33 (fun r33 => []) (fun _ => rfl) (fun r33 _ => ?_)
        refine G.aload_n dX6_earn_36 rfl ?_
        refine G.get fl_6_35 0 rfl rfl dX6_earn_37 ?_
        refine G.iload_n dX6_earn_40 rfl ?_
        refine G.callV (st := []) (w' := fun r41 => (w_X6nfd cI cL cC cM cS a t_now_kind t_now_used t_now_bay t_now_likes t_now_who t_now_lamp t_now_due t_now_gain t_now_count t_now_day t_now_dues t_now_draw r33.1 r33.2.1 r33.2.2.1 r33.2.2.2.1 r33.2.2.2.2.1 r33.2.2.2.2.2.1 r33.2.2.2.2.2.2.1 r33.2.2.2.2.2.2.2.1 r33.2.2.2.2.2.2.2.2.1 r33.2.2.2.2.2.2.2.2.2.1 r33.2.2.2.2.2.2.2.2.2.2.1 r33.2.2.2.2.2.2.2.2.2.2.2.1 t_hasImage r33.2.2.2.2.2.2.2.2.2.2.2.2.1 r33.2.2.2.2.2.2.2.2.2.2.2.2.2.1 r33.2.2.2.2.2.2.2.2.2.2.2.2.2.2.1 r33.2.2.2.2.2.2.2.2.2.2.2.2.2.2.2.1 r33.2.2.2.2.2.2.2.2.2.2.2.2.2.2.2.2)) mv_X0_answer lk_6_191 (c_X0_answer l D ks cI cL cC cM cS (fun k => a (80 + k)) r33.2.2.2.2.2.2.2.2.2.2.2.2.1 r33.2.2.2.2.2.2.2.2.2.2.2.2.2.1 r33.2.2.2.2.2.2.2.2.2.2.2.2.2.2.1 r33.2.2.2.2.2.2.2.2.2.2.2.2.2.2.2.1 r33.2.2.2.2.2.2.2.2.2.2.2.2.2.2.2.2 x2) [19, 20, 21] [0, 1, 2, 3, 4, 5, 6, 7, 8, 9, 10, 11, 12, 13, 14, 15, 16, 17, 18] [0, 1, 2, 3, 4, 5, 6, 7, 8, 9, 10, 11, 12, 13, 14, 15, 16, 17, 18, 19, 20, 21] rfl rfl rfl rfl (by decide +kernel) (fun _ => rfl) rfl (by decide) (Nat.le_of_ble_eq_true rfl) dX6_earn_41 (fun r41 => [.int r41]) (fun _ => rfl) (fun r41 _ => ?_)
        exact G.iret rfl rfl dX6_earn_44
      · refine G.bipush (-4) dX6_earn_28 (by decide) ?_
        exact G.iret rfl rfl dX6_earn_30
    · refine G.iconst (-1) dX6_earn_15 (by decide) ?_
      exact G.iret rfl rfl dX6_earn_16
set_option maxHeartbeats 4000000 in
set_option maxRecDepth 100000 in
theorem c_X6_isLane (l : Launch) (D : va_G) (ks : Nat × Nat) (cI cL cC cM cS : ClassId) (x0 : Int32) : MT l D ks (tyz cI cL cC cM cS) yX6_isLane cX6_isLane 1 ((some .boolean)) { frames := 1, cells := 0, slots := 0, locals := 22 } [.int x0] (w_0 cI cL cC cM cS  ) (fun r : Int32 => (some (.int r), (w_0 cI cL cC cM cS  ))) (f_X6_isLane x0) := by
  refine MT.of 0 [some (.int x0)] (by decide) (Nat.le_of_ble_eq_true rfl) rfl ?_
  unfold f_X6_isLane
  refine G.iload_n dX6_isLane_0 rfl ?_
  refine G.iconst 0 dX6_isLane_1 (by decide) ?_
  refine G.iconst 3 dX6_isLane_2 (by decide) ?_
  refine G.callS (st := []) (w' := fun r3 => (w_0 cI cL cC cM cS  )) ms_X6_within lk_6_53 (c_X6_within l D ks cI cL cC cM cS x0 0 3) [] [] [] rfl rfl rfl rfl (by decide +kernel) (fun _ => rfl) (by decide) (Nat.le_of_ble_eq_true rfl) dX6_isLane_3 (fun r3 => [.int r3]) (fun _ => rfl) (fun r3 _ => ?_)
  refine G.chk (fun h6 => ?_)
  exact G.zret rfl rfl (isb_n h6) dX6_isLane_6
set_option maxHeartbeats 4000000 in
set_option maxRecDepth 100000 in
theorem g_X6_film_c76 (l : Launch) (D : va_G) (ks : Nat × Nat) (cI cL cC cM cS : ClassId) (a : Nat → Nat) (t_now_gain : Nat → Int32) (t_hasImage : Int32) : ∀ (n : Nat), ∀ (t_now_kind t_now_used t_now_bay t_now_likes t_now_who t_now_lamp t_now_due : Nat → Int32) (t_now_count t_now_day t_now_dues t_now_draw : Int32) (t_foreseen_kind t_foreseen_used t_foreseen_bay t_foreseen_likes t_foreseen_who t_foreseen_lamp t_foreseen_due t_foreseen_gain : Nat → Int32) (t_foreseen_count t_foreseen_day t_foreseen_dues t_foreseen_draw : Int32) (t_sheets_items : Nat → Nat → Int64) (t_sheets_lane t_sheets_size : Nat → Int32) (x1 : Int32) (x2 : Int32) (x3 : Int32) (x5 : Int32) (x7 : Int32), GJ l D ks (tyz cI cL cC cM cS) RX6 cX6_film 8 ((some .int)) { frames := 4, cells := 0, slots := 0, locals := 89 } (fun r : Int32 × (Nat → Int32) × (Nat → Int32) × (Nat → Int32) × (Nat → Int32) × (Nat → Int32) × (Nat → Int32) × (Nat → Int32) × (Nat → Int32) × Int32 × Int32 × Int32 × Int32 × (Nat → Nat → Int64) => (some (.int r.1), (w_X6nfs cI cL cC cM cS a t_now_kind t_now_used t_now_bay t_now_likes t_now_who t_now_lamp t_now_due t_now_gain t_now_count t_now_day t_now_dues t_now_draw r.2.1 r.2.2.1 r.2.2.2.1 r.2.2.2.2.1 r.2.2.2.2.2.1 r.2.2.2.2.2.2.1 r.2.2.2.2.2.2.2.1 r.2.2.2.2.2.2.2.2.1 r.2.2.2.2.2.2.2.2.2.1 r.2.2.2.2.2.2.2.2.2.2.1 r.2.2.2.2.2.2.2.2.2.2.2.1 r.2.2.2.2.2.2.2.2.2.2.2.2.1 t_hasImage r.2.2.2.2.2.2.2.2.2.2.2.2.2 t_sheets_lane t_sheets_size))) (w_X6nfs cI cL cC cM cS a t_now_kind t_now_used t_now_bay t_now_likes t_now_who t_now_lamp t_now_due t_now_gain t_now_count t_now_day t_now_dues t_now_draw t_foreseen_kind t_foreseen_used t_foreseen_bay t_foreseen_likes t_foreseen_who t_foreseen_lamp t_foreseen_due t_foreseen_gain t_foreseen_count t_foreseen_day t_foreseen_dues t_foreseen_draw t_hasImage t_sheets_items t_sheets_lane t_sheets_size) 76 [some (.ref (a 0)), some (.int x1), some (.int x2), some (.int x3), none, some (.int x5), none, some (.int x7)] [] (f_X6_film_c76 n t_now_kind t_now_used t_now_bay t_now_likes t_now_who t_now_lamp t_now_due t_now_count t_now_day t_now_dues t_now_draw t_foreseen_kind t_foreseen_used t_foreseen_bay t_foreseen_likes t_foreseen_who t_foreseen_lamp t_foreseen_due t_foreseen_gain t_foreseen_count t_foreseen_day t_foreseen_dues t_foreseen_draw t_sheets_items t_sheets_lane t_sheets_size x1 x2 x3 x5 x7) := by
  intro n
  induction n with
  | zero =>
    intro t_now_kind t_now_used t_now_bay t_now_likes t_now_who t_now_lamp t_now_due t_now_count t_now_day t_now_dues t_now_draw t_foreseen_kind t_foreseen_used t_foreseen_bay t_foreseen_likes t_foreseen_who t_foreseen_lamp t_foreseen_due t_foreseen_gain t_foreseen_count t_foreseen_day t_foreseen_dues t_foreseen_draw t_sheets_items t_sheets_lane t_sheets_size x1 x2 x3 x5 x7
    exact G.no
  | succ n ih =>
    intro t_now_kind t_now_used t_now_bay t_now_likes t_now_who t_now_lamp t_now_due t_now_count t_now_day t_now_dues t_now_draw t_foreseen_kind t_foreseen_used t_foreseen_bay t_foreseen_likes t_foreseen_who t_foreseen_lamp t_foreseen_due t_foreseen_gain t_foreseen_count t_foreseen_day t_foreseen_dues t_foreseen_draw t_sheets_items t_sheets_lane t_sheets_size x1 x2 x3 x5 x7
    rw [f_X6_film_c76]
    refine G.iload dX6_film_76 rfl ?_
    refine G.iload_n dX6_film_78 rfl ?_
    refine G.icmp_ge 119 dX6_film_79 (by decide) (fun h79 => ?_) (fun h79 => ?_)
    · refine G.iload_n dX6_film_119 rfl ?_
      exact G.iret rfl rfl dX6_film_120
    · refine G.aload_n dX6_film_82 rfl ?_
      refine G.get fl_6_23 0 rfl rfl dX6_film_83 ?_
      refine G.callV (st := []) (w' := fun r86 => (w_X6nfs cI cL cC cM cS a t_now_kind t_now_used t_now_bay t_now_likes t_now_who t_now_lamp t_now_due t_now_gain t_now_count t_now_day t_now_dues t_now_draw t_foreseen_kind r86.1 t_foreseen_bay t_foreseen_likes t_foreseen_who t_foreseen_lamp t_foreseen_due r86.2.1 t_foreseen_count r86.2.2.1 r86.2.2.2 t_foreseen_draw t_hasImage t_sheets_items t_sheets_lane t_sheets_size)) mv_X3_passDay lk_6_182 (c_X3_passDay l D ks cI cL cC cM cS (fun k => a (36 + k)) t_foreseen_kind t_foreseen_used t_foreseen_bay t_foreseen_likes t_foreseen_who t_foreseen_lamp t_foreseen_due t_foreseen_gain t_foreseen_count t_foreseen_day t_foreseen_dues t_foreseen_draw) [10, 11, 12, 13, 14, 15, 16, 17, 18] [0, 1, 2, 3, 4, 5, 6, 7, 8, 9, 19, 20, 21, 22, 23, 24, 25, 26, 27] [0, 1, 2, 3, 4, 5, 6, 7, 8, 9, 19, 20, 21, 22, 23, 24, 25, 26, 27, 10, 11, 12, 13, 14, 15, 16, 17, 18] rfl rfl rfl rfl (by decide +kernel) (fun _ => rfl) rfl (by decide) (Nat.le_of_ble_eq_true rfl) dX6_film_86 (fun r86 => []) (fun _ => rfl) (fun r86 _ => ?_)
      refine G.aload_n dX6_film_89 rfl ?_
      refine G.get fl_6_48 0 rfl rfl dX6_film_90 ?_
      refine G.iload_n dX6_film_93 rfl ?_
      refine G.chk (fun h94 => ?_)
      have hl94 := inb_lt h94
      generalize hj94 : x3.toNatClampNeg = j94 at hl94 ⊢
      rcases g_or4 hl94 with rfl | rfl | rfl | rfl
      · refine G.aaload 19 4 rfl rfl h94 (by rw [hj94]) dX6_film_94 ?_
        refine G.iload dX6_film_95 rfl ?_
        refine G.iload dX6_film_97 rfl ?_
        refine G.iadd dX6_film_99 ?_
        refine G.aload_n dX6_film_100 rfl ?_
        refine G.get fl_6_23 0 rfl rfl dX6_film_101 ?_
        refine G.get fl_6_89 10 rfl rfl dX6_film_104 ?_
        refine G.iload_n dX6_film_107 rfl ?_
        refine G.chk (fun h108 => ?_)
        refine G.iaload 12 0 rfl rfl x1.toNatClampNeg rfl h108 dX6_film_108 ?_
        refine G.topi (fun v108 => ?_)
        refine G.i2l dX6_film_109 ?_
        refine G.callV (st := []) (w' := fun r110 => (w_X6nfs cI cL cC cM cS a t_now_kind t_now_used t_now_bay t_now_likes t_now_who t_now_lamp t_now_due t_now_gain t_now_count t_now_day t_now_dues t_now_draw t_foreseen_kind r86.1 t_foreseen_bay t_foreseen_likes t_foreseen_who t_foreseen_lamp t_foreseen_due r86.2.1 t_foreseen_count r86.2.2.1 r86.2.2.2 t_foreseen_draw t_hasImage (va_up t_sheets_items 0 r110) t_sheets_lane t_sheets_size)) mv_X4_put lk_6_249 (c_X4_put l D ks cI cL cC cM cS (fun k => a (86 + k)) (t_sheets_items 0) (t_sheets_lane 0) (t_sheets_size 0) (x5 + x7) (v108.toInt64)) [20, 21] [0, 1, 2, 3, 4, 5, 6, 7, 8, 9, 10, 11, 12, 13, 14, 15, 16, 17, 18, 19, 22, 23, 24, 25, 26, 27] [0, 1, 2, 3, 4, 5, 6, 7, 8, 9, 10, 11, 12, 13, 14, 15, 16, 17, 18, 19, 26, 27, 20, 21, 22, 23, 24, 25] rfl rfl rfl rfl (by decide +kernel) (fun _ => rfl) rfl (by decide) (Nat.le_of_ble_eq_true rfl) dX6_film_110 (fun r110 => []) (fun _ => rfl) (fun r110 _ => ?_)
        refine G.iinc 1 (lv' := [some (.ref (a 0)), some (.int x1), some (.int x2), some (.int x3), none, some (.int x5), none, some (.int (x7 + 1))]) dX6_film_113 rfl (by decide) (by decide) (Nat.le_of_ble_eq_true rfl) rfl rfl ?_
        refine G.goto 76 dX6_film_116 (by decide) ?_
        exact ih t_now_kind t_now_used t_now_bay t_now_likes t_now_who t_now_lamp t_now_due t_now_count t_now_day t_now_dues t_now_draw t_foreseen_kind r86.1 t_foreseen_bay t_foreseen_likes t_foreseen_who t_foreseen_lamp t_foreseen_due r86.2.1 t_foreseen_count r86.2.2.1 r86.2.2.2 t_foreseen_draw (va_up t_sheets_items 0 r110) t_sheets_lane t_sheets_size x1 x2 x3 x5 (x7 + 1)
      · refine G.aaload 19 4 rfl rfl h94 (by rw [hj94]) dX6_film_94 ?_
        refine G.iload dX6_film_95 rfl ?_
        refine G.iload dX6_film_97 rfl ?_
        refine G.iadd dX6_film_99 ?_
        refine G.aload_n dX6_film_100 rfl ?_
        refine G.get fl_6_23 0 rfl rfl dX6_film_101 ?_
        refine G.get fl_6_89 10 rfl rfl dX6_film_104 ?_
        refine G.iload_n dX6_film_107 rfl ?_
        refine G.chk (fun h108 => ?_)
        refine G.iaload 12 0 rfl rfl x1.toNatClampNeg rfl h108 dX6_film_108 ?_
        refine G.topi (fun v108 => ?_)
        refine G.i2l dX6_film_109 ?_
        refine G.callV (st := []) (w' := fun r110 => (w_X6nfs cI cL cC cM cS a t_now_kind t_now_used t_now_bay t_now_likes t_now_who t_now_lamp t_now_due t_now_gain t_now_count t_now_day t_now_dues t_now_draw t_foreseen_kind r86.1 t_foreseen_bay t_foreseen_likes t_foreseen_who t_foreseen_lamp t_foreseen_due r86.2.1 t_foreseen_count r86.2.2.1 r86.2.2.2 t_foreseen_draw t_hasImage (va_up t_sheets_items 1 r110) t_sheets_lane t_sheets_size)) mv_X4_put lk_6_249 (c_X4_put l D ks cI cL cC cM cS (fun k => a (88 + k)) (t_sheets_items 1) (t_sheets_lane 1) (t_sheets_size 1) (x5 + x7) (v108.toInt64)) [22, 23] [0, 1, 2, 3, 4, 5, 6, 7, 8, 9, 10, 11, 12, 13, 14, 15, 16, 17, 18, 19, 20, 21, 24, 25, 26, 27] [0, 1, 2, 3, 4, 5, 6, 7, 8, 9, 10, 11, 12, 13, 14, 15, 16, 17, 18, 19, 20, 21, 26, 27, 22, 23, 24, 25] rfl rfl rfl rfl (by decide +kernel) (fun _ => rfl) rfl (by decide) (Nat.le_of_ble_eq_true rfl) dX6_film_110 (fun r110 => []) (fun _ => rfl) (fun r110 _ => ?_)
        refine G.iinc 1 (lv' := [some (.ref (a 0)), some (.int x1), some (.int x2), some (.int x3), none, some (.int x5), none, some (.int (x7 + 1))]) dX6_film_113 rfl (by decide) (by decide) (Nat.le_of_ble_eq_true rfl) rfl rfl ?_
        refine G.goto 76 dX6_film_116 (by decide) ?_
        exact ih t_now_kind t_now_used t_now_bay t_now_likes t_now_who t_now_lamp t_now_due t_now_count t_now_day t_now_dues t_now_draw t_foreseen_kind r86.1 t_foreseen_bay t_foreseen_likes t_foreseen_who t_foreseen_lamp t_foreseen_due r86.2.1 t_foreseen_count r86.2.2.1 r86.2.2.2 t_foreseen_draw (va_up t_sheets_items 1 r110) t_sheets_lane t_sheets_size x1 x2 x3 x5 (x7 + 1)
      · refine G.aaload 19 4 rfl rfl h94 (by rw [hj94]) dX6_film_94 ?_
        refine G.iload dX6_film_95 rfl ?_
        refine G.iload dX6_film_97 rfl ?_
        refine G.iadd dX6_film_99 ?_
        refine G.aload_n dX6_film_100 rfl ?_
        refine G.get fl_6_23 0 rfl rfl dX6_film_101 ?_
        refine G.get fl_6_89 10 rfl rfl dX6_film_104 ?_
        refine G.iload_n dX6_film_107 rfl ?_
        refine G.chk (fun h108 => ?_)
        refine G.iaload 12 0 rfl rfl x1.toNatClampNeg rfl h108 dX6_film_108 ?_
        refine G.topi (fun v108 => ?_)
        refine G.i2l dX6_film_109 ?_
        refine G.callV (st := []) (w' := fun r110 => (w_X6nfs cI cL cC cM cS a t_now_kind t_now_used t_now_bay t_now_likes t_now_who t_now_lamp t_now_due t_now_gain t_now_count t_now_day t_now_dues t_now_draw t_foreseen_kind r86.1 t_foreseen_bay t_foreseen_likes t_foreseen_who t_foreseen_lamp t_foreseen_due r86.2.1 t_foreseen_count r86.2.2.1 r86.2.2.2 t_foreseen_draw t_hasImage (va_up t_sheets_items 2 r110) t_sheets_lane t_sheets_size)) mv_X4_put lk_6_249 (c_X4_put l D ks cI cL cC cM cS (fun k => a (90 + k)) (t_sheets_items 2) (t_sheets_lane 2) (t_sheets_size 2) (x5 + x7) (v108.toInt64)) [24, 25] [0, 1, 2, 3, 4, 5, 6, 7, 8, 9, 10, 11, 12, 13, 14, 15, 16, 17, 18, 19, 20, 21, 22, 23, 26, 27] [0, 1, 2, 3, 4, 5, 6, 7, 8, 9, 10, 11, 12, 13, 14, 15, 16, 17, 18, 19, 20, 21, 22, 23, 26, 27, 24, 25] rfl rfl rfl rfl (by decide +kernel) (fun _ => rfl) rfl (by decide) (Nat.le_of_ble_eq_true rfl) dX6_film_110 (fun r110 => []) (fun _ => rfl) (fun r110 _ => ?_)
        refine G.iinc 1 (lv' := [some (.ref (a 0)), some (.int x1), some (.int x2), some (.int x3), none, some (.int x5), none, some (.int (x7 + 1))]) dX6_film_113 rfl (by decide) (by decide) (Nat.le_of_ble_eq_true rfl) rfl rfl ?_
        refine G.goto 76 dX6_film_116 (by decide) ?_
        exact ih t_now_kind t_now_used t_now_bay t_now_likes t_now_who t_now_lamp t_now_due t_now_count t_now_day t_now_dues t_now_draw t_foreseen_kind r86.1 t_foreseen_bay t_foreseen_likes t_foreseen_who t_foreseen_lamp t_foreseen_due r86.2.1 t_foreseen_count r86.2.2.1 r86.2.2.2 t_foreseen_draw (va_up t_sheets_items 2 r110) t_sheets_lane t_sheets_size x1 x2 x3 x5 (x7 + 1)
      · refine G.aaload 19 4 rfl rfl h94 (by rw [hj94]) dX6_film_94 ?_
        refine G.iload dX6_film_95 rfl ?_
        refine G.iload dX6_film_97 rfl ?_
        refine G.iadd dX6_film_99 ?_
        refine G.aload_n dX6_film_100 rfl ?_
        refine G.get fl_6_23 0 rfl rfl dX6_film_101 ?_
        refine G.get fl_6_89 10 rfl rfl dX6_film_104 ?_
        refine G.iload_n dX6_film_107 rfl ?_
        refine G.chk (fun h108 => ?_)
        refine G.iaload 12 0 rfl rfl x1.toNatClampNeg rfl h108 dX6_film_108 ?_
        refine G.topi (fun v108 => ?_)
        refine G.i2l dX6_film_109 ?_
        refine G.callV (st := []) (w' := fun r110 => (w_X6nfs cI cL cC cM cS a t_now_kind t_now_used t_now_bay t_now_likes t_now_who t_now_lamp t_now_due t_now_gain t_now_count t_now_day t_now_dues t_now_draw t_foreseen_kind r86.1 t_foreseen_bay t_foreseen_likes t_foreseen_who t_foreseen_lamp t_foreseen_due r86.2.1 t_foreseen_count r86.2.2.1 r86.2.2.2 t_foreseen_draw t_hasImage (va_up t_sheets_items 3 r110) t_sheets_lane t_sheets_size)) mv_X4_put lk_6_249 (c_X4_put l D ks cI cL cC cM cS (fun k => a (92 + k)) (t_sheets_items 3) (t_sheets_lane 3) (t_sheets_size 3) (x5 + x7) (v108.toInt64)) [26, 27] [0, 1, 2, 3, 4, 5, 6, 7, 8, 9, 10, 11, 12, 13, 14, 15, 16, 17, 18, 19, 20, 21, 22, 23, 24, 25] [0, 1, 2, 3, 4, 5, 6, 7, 8, 9, 10, 11, 12, 13, 14, 15, 16, 17, 18, 19, 20, 21, 22, 23, 24, 25, 26, 27] rfl rfl rfl rfl (by decide +kernel) (fun _ => rfl) rfl (by decide) (Nat.le_of_ble_eq_true rfl) dX6_film_110 (fun r110 => []) (fun _ => rfl) (fun r110 _ => ?_)
        refine G.iinc 1 (lv' := [some (.ref (a 0)), some (.int x1), some (.int x2), some (.int x3), none, some (.int x5), none, some (.int (x7 + 1))]) dX6_film_113 rfl (by decide) (by decide) (Nat.le_of_ble_eq_true rfl) rfl rfl ?_
        refine G.goto 76 dX6_film_116 (by decide) ?_
        exact ih t_now_kind t_now_used t_now_bay t_now_likes t_now_who t_now_lamp t_now_due t_now_count t_now_day t_now_dues t_now_draw t_foreseen_kind r86.1 t_foreseen_bay t_foreseen_likes t_foreseen_who t_foreseen_lamp t_foreseen_due r86.2.1 t_foreseen_count r86.2.2.1 r86.2.2.2 t_foreseen_draw (va_up t_sheets_items 3 r110) t_sheets_lane t_sheets_size x1 x2 x3 x5 (x7 + 1)
set_option maxHeartbeats 4000000 in
set_option maxRecDepth 100000 in
theorem c_X6_film (l : Launch) (D : va_G) (ks : Nat × Nat) (cI cL cC cM cS : ClassId) (a : Nat → Nat) (t_now_kind t_now_used t_now_bay t_now_likes t_now_who t_now_lamp t_now_due t_now_gain : Nat → Int32) (t_now_count t_now_day t_now_dues t_now_draw : Int32) (t_foreseen_kind t_foreseen_used t_foreseen_bay t_foreseen_likes t_foreseen_who t_foreseen_lamp t_foreseen_due t_foreseen_gain : Nat → Int32) (t_foreseen_count t_foreseen_day t_foreseen_dues t_foreseen_draw t_hasImage : Int32) (t_sheets_items : Nat → Nat → Int64) (t_sheets_lane t_sheets_size : Nat → Int32) (x1 : Int32) (x2 : Int32) (x3 : Int32) (x4 : Int32) (x5 : Int32) : MT l D ks (tyz cI cL cC cM cS) yX6_film cX6_film 8 ((some .int)) { frames := 4, cells := 0, slots := 0, locals := 89 } [.ref (a 0), .int x1, .int x2, .int x3, .int x4, .int x5] (w_X6nfs cI cL cC cM cS a t_now_kind t_now_used t_now_bay t_now_likes t_now_who t_now_lamp t_now_due t_now_gain t_now_count t_now_day t_now_dues t_now_draw t_foreseen_kind t_foreseen_used t_foreseen_bay t_foreseen_likes t_foreseen_who t_foreseen_lamp t_foreseen_due t_foreseen_gain t_foreseen_count t_foreseen_day t_foreseen_dues t_foreseen_draw t_hasImage t_sheets_items t_sheets_lane t_sheets_size) (fun r : Int32 × (Nat → Int32) × (Nat → Int32) × (Nat → Int32) × (Nat → Int32) × (Nat → Int32) × (Nat → Int32) × (Nat → Int32) × (Nat → Int32) × Int32 × Int32 × Int32 × Int32 × (Nat → Nat → Int64) => (some (.int r.1), (w_X6nfs cI cL cC cM cS a t_now_kind t_now_used t_now_bay t_now_likes t_now_who t_now_lamp t_now_due t_now_gain t_now_count t_now_day t_now_dues t_now_draw r.2.1 r.2.2.1 r.2.2.2.1 r.2.2.2.2.1 r.2.2.2.2.2.1 r.2.2.2.2.2.2.1 r.2.2.2.2.2.2.2.1 r.2.2.2.2.2.2.2.2.1 r.2.2.2.2.2.2.2.2.2.1 r.2.2.2.2.2.2.2.2.2.2.1 r.2.2.2.2.2.2.2.2.2.2.2.1 r.2.2.2.2.2.2.2.2.2.2.2.2.1 t_hasImage r.2.2.2.2.2.2.2.2.2.2.2.2.2 t_sheets_lane t_sheets_size))) (f_X6_film t_now_kind t_now_used t_now_bay t_now_likes t_now_who t_now_lamp t_now_due t_now_count t_now_day t_now_dues t_now_draw t_foreseen_kind t_foreseen_used t_foreseen_bay t_foreseen_likes t_foreseen_who t_foreseen_lamp t_foreseen_due t_foreseen_gain t_foreseen_count t_foreseen_day t_foreseen_dues t_foreseen_draw t_sheets_items t_sheets_lane t_sheets_size x1 x2 x3 x4 x5) := by
  refine MT.of 2 [some (.ref (a 0)), some (.int x1), some (.int x2), some (.int x3), some (.int x4), some (.int x5), none, none] (by decide) (Nat.le_of_ble_eq_true rfl) rfl ?_
  unfold f_X6_film
  refine G.aload_n dX6_film_0 rfl ?_
  refine G.get fl_6_10 0 rfl rfl dX6_film_1 ?_
  refine G.iload_n dX6_film_4 rfl ?_
  refine G.callV (st := []) (w' := fun r5 => (w_X6nfs cI cL cC cM cS a t_now_kind t_now_used t_now_bay t_now_likes t_now_who t_now_lamp t_now_due t_now_gain t_now_count t_now_day t_now_dues t_now_draw t_foreseen_kind t_foreseen_used t_foreseen_bay t_foreseen_likes t_foreseen_who t_foreseen_lamp t_foreseen_due t_foreseen_gain t_foreseen_count t_foreseen_day t_foreseen_dues t_foreseen_draw t_hasImage t_sheets_items t_sheets_lane t_sheets_size)) mv_X3_has lk_6_83 (c_X3_has l D ks cI cL cC cM cS (fun k => a (1 + k)) t_now_kind t_now_used t_now_bay t_now_likes t_now_who t_now_lamp t_now_due t_now_gain t_now_count t_now_day t_now_dues t_now_draw x1) [1, 2, 3, 4, 5, 6, 7, 8, 9] [0, 10, 11, 12, 13, 14, 15, 16, 17, 18, 19, 20, 21, 22, 23, 24, 25, 26, 27] [0, 19, 20, 21, 22, 23, 24, 25, 26, 27, 1, 2, 3, 4, 5, 6, 7, 8, 9, 10, 11, 12, 13, 14, 15, 16, 17, 18] rfl rfl rfl rfl (by decide +kernel) (fun _ => rfl) rfl (by decide) (Nat.le_of_ble_eq_true rfl) dX6_film_5 (fun r5 => [.int r5]) (fun _ => rfl) (fun r5 _ => ?_)
  refine G.if_eq 36 dX6_film_8 (by decide) (fun h8 => ?_) (fun h8 => ?_)
  · refine G.iconst (-1) dX6_film_36 (by decide) ?_
    exact G.iret rfl rfl dX6_film_37
  · refine G.iload_n dX6_film_11 rfl ?_
    refine G.iconst 1 dX6_film_12 (by decide) ?_
    refine G.bipush 24 dX6_film_13 (by decide) ?_
    refine G.callS (st := []) (w' := fun r15 => (w_X6nfs cI cL cC cM cS a t_now_kind t_now_used t_now_bay t_now_likes t_now_who t_now_lamp t_now_due t_now_gain t_now_count t_now_day t_now_dues t_now_draw t_foreseen_kind t_foreseen_used t_foreseen_bay t_foreseen_likes t_foreseen_who t_foreseen_lamp t_foreseen_due t_foreseen_gain t_foreseen_count t_foreseen_day t_foreseen_dues t_foreseen_draw t_hasImage t_sheets_items t_sheets_lane t_sheets_size)) ms_X6_within lk_6_53 (c_X6_within l D ks cI cL cC cM cS x2 1 24) [] [0, 1, 2, 3, 4, 5, 6, 7, 8, 9, 10, 11, 12, 13, 14, 15, 16, 17, 18, 19, 20, 21, 22, 23, 24, 25, 26, 27] [0, 1, 2, 3, 4, 5, 6, 7, 8, 9, 10, 11, 12, 13, 14, 15, 16, 17, 18, 19, 20, 21, 22, 23, 24, 25, 26, 27] rfl rfl rfl rfl (by decide +kernel) (fun _ => rfl) (by decide) (Nat.le_of_ble_eq_true rfl) dX6_film_15 (fun r15 => [.int r15]) (fun _ => rfl) (fun r15 _ => ?_)
    refine G.if_eq 36 dX6_film_18 (by decide) (fun h18 => ?_) (fun h18 => ?_)
    · refine G.iconst (-1) dX6_film_36 (by decide) ?_
      exact G.iret rfl rfl dX6_film_37
    · refine G.iload_n dX6_film_21 rfl ?_
      refine G.callS (st := []) (w' := fun r22 => (w_X6nfs cI cL cC cM cS a t_now_kind t_now_used t_now_bay t_now_likes t_now_who t_now_lamp t_now_due t_now_gain t_now_count t_now_day t_now_dues t_now_draw t_foreseen_kind t_foreseen_used t_foreseen_bay t_foreseen_likes t_foreseen_who t_foreseen_lamp t_foreseen_due t_foreseen_gain t_foreseen_count t_foreseen_day t_foreseen_dues t_foreseen_draw t_hasImage t_sheets_items t_sheets_lane t_sheets_size)) ms_X6_isSheet lk_6_231 (c_X6_isSheet l D ks cI cL cC cM cS x3) [] [0, 1, 2, 3, 4, 5, 6, 7, 8, 9, 10, 11, 12, 13, 14, 15, 16, 17, 18, 19, 20, 21, 22, 23, 24, 25, 26, 27] [0, 1, 2, 3, 4, 5, 6, 7, 8, 9, 10, 11, 12, 13, 14, 15, 16, 17, 18, 19, 20, 21, 22, 23, 24, 25, 26, 27] rfl rfl rfl rfl (by decide +kernel) (fun _ => rfl) (by decide) (Nat.le_of_ble_eq_true rfl) dX6_film_22 (fun r22 => [.int r22]) (fun _ => rfl) (fun r22 _ => ?_)
      refine G.if_eq 36 dX6_film_25 (by decide) (fun h25 => ?_) (fun h25 => ?_)
      · refine G.iconst (-1) dX6_film_36 (by decide) ?_
        exact G.iret rfl rfl dX6_film_37
      · refine G.iload dX6_film_28 rfl ?_
        refine G.callS (st := []) (w' := fun r30 => (w_X6nfs cI cL cC cM cS a t_now_kind t_now_used t_now_bay t_now_likes t_now_who t_now_lamp t_now_due t_now_gain t_now_count t_now_day t_now_dues t_now_draw t_foreseen_kind t_foreseen_used t_foreseen_bay t_foreseen_likes t_foreseen_who t_foreseen_lamp t_foreseen_due t_foreseen_gain t_foreseen_count t_foreseen_day t_foreseen_dues t_foreseen_draw t_hasImage t_sheets_items t_sheets_lane t_sheets_size)) ms_X6_isLane lk_6_234 (c_X6_isLane l D ks cI cL cC cM cS x4) [] [0, 1, 2, 3, 4, 5, 6, 7, 8, 9, 10, 11, 12, 13, 14, 15, 16, 17, 18, 19, 20, 21, 22, 23, 24, 25, 26, 27] [0, 1, 2, 3, 4, 5, 6, 7, 8, 9, 10, 11, 12, 13, 14, 15, 16, 17, 18, 19, 20, 21, 22, 23, 24, 25, 26, 27] rfl rfl rfl rfl (by decide +kernel) (fun _ => rfl) (by decide) (Nat.le_of_ble_eq_true rfl) dX6_film_30 (fun r30 => [.int r30]) (fun _ => rfl) (fun r30 _ => ?_)
        refine G.if_ne 38 dX6_film_33 (by decide) (fun h33 => ?_) (fun h33 => ?_)
        · refine G.aload_n dX6_film_38 rfl ?_
          refine G.get fl_6_48 0 rfl rfl dX6_film_39 ?_
          refine G.iload_n dX6_film_42 rfl ?_
          refine G.chk (fun h43 => ?_)
          have hl43 := inb_lt h43
          generalize hj43 : x3.toNatClampNeg = j43 at hl43 ⊢
          rcases g_or4 hl43 with rfl | rfl | rfl | rfl
          · refine G.aaload 19 4 rfl rfl h43 (by rw [hj43]) dX6_film_43 ?_
            refine G.iload dX6_film_44 rfl ?_
            refine G.iload dX6_film_46 rfl ?_
            refine G.iload_n dX6_film_48 rfl ?_
            refine G.callV (st := []) (w' := fun r49 => (w_X6nfs cI cL cC cM cS a t_now_kind t_now_used t_now_bay t_now_likes t_now_who t_now_lamp t_now_due t_now_gain t_now_count t_now_day t_now_dues t_now_draw t_foreseen_kind t_foreseen_used t_foreseen_bay t_foreseen_likes t_foreseen_who t_foreseen_lamp t_foreseen_due t_foreseen_gain t_foreseen_count t_foreseen_day t_foreseen_dues t_foreseen_draw t_hasImage t_sheets_items t_sheets_lane t_sheets_size)) mv_X4_refusal lk_6_237 (c_X4_refusal l D ks cI cL cC cM cS (fun k => a (86 + k)) (t_sheets_items 0) (t_sheets_lane 0) (t_sheets_size 0) x4 x5 x2) [20, 21] [0, 1, 2, 3, 4, 5, 6, 7, 8, 9, 10, 11, 12, 13, 14, 15, 16, 17, 18, 19, 22, 23, 24, 25, 26, 27] [0, 1, 2, 3, 4, 5, 6, 7, 8, 9, 10, 11, 12, 13, 14, 15, 16, 17, 18, 19, 26, 27, 20, 21, 22, 23, 24, 25] rfl rfl rfl rfl (by decide +kernel) (fun _ => rfl) rfl (by decide) (Nat.le_of_ble_eq_true rfl) dX6_film_49 (fun r49 => [.int r49]) (fun _ => rfl) (fun r49 _ => ?_)
            refine G.istore (lv' := [some (.ref (a 0)), some (.int x1), some (.int x2), some (.int x3), some (.int x4), some (.int x5), some (.int r49), none]) dX6_film_52 (by decide) (Nat.le_of_ble_eq_true rfl) rfl rfl ?_
            refine G.iload dX6_film_54 rfl ?_
            refine G.if_ge 62 dX6_film_56 (by decide) (fun h56 => ?_) (fun h56 => ?_)
            · refine G.aload_n dX6_film_62 rfl ?_
              refine G.get fl_6_23 0 rfl rfl dX6_film_63 ?_
              refine G.aload_n dX6_film_66 rfl ?_
              refine G.get fl_6_10 0 rfl rfl dX6_film_67 ?_
              refine G.callV (st := []) (w' := fun r70 => (w_X6nfs cI cL cC cM cS a t_now_kind t_now_used t_now_bay t_now_likes t_now_who t_now_lamp t_now_due t_now_gain t_now_count t_now_day t_now_dues t_now_draw r70.1 r70.2.1 r70.2.2.1 r70.2.2.2.1 r70.2.2.2.2.1 r70.2.2.2.2.2.1 r70.2.2.2.2.2.2.1 t_foreseen_gain r70.2.2.2.2.2.2.2.1 r70.2.2.2.2.2.2.2.2.1 r70.2.2.2.2.2.2.2.2.2.1 r70.2.2.2.2.2.2.2.2.2.2 t_hasImage t_sheets_items t_sheets_lane t_sheets_size)) mv_X3_become lk_6_122 (c_X3_become l D ks cI cL cC cM cS (fun k => a (36 + k)) (fun k => a (1 + k)) t_foreseen_kind t_foreseen_used t_foreseen_bay t_foreseen_likes t_foreseen_who t_foreseen_lamp t_foreseen_due t_foreseen_gain t_foreseen_count t_foreseen_day t_foreseen_dues t_foreseen_draw t_now_kind t_now_used t_now_bay t_now_likes t_now_who t_now_lamp t_now_due t_now_gain t_now_count t_now_day t_now_dues t_now_draw) [10, 11, 12, 13, 14, 15, 16, 17, 18, 1, 2, 3, 4, 5, 6, 7, 8, 9] [0, 19, 20, 21, 22, 23, 24, 25, 26, 27] [0, 19, 20, 21, 22, 23, 24, 25, 26, 27, 10, 11, 12, 13, 14, 15, 16, 17, 18, 1, 2, 3, 4, 5, 6, 7, 8, 9] rfl rfl rfl rfl (by decide +kernel) (fun _ => rfl) rfl (by decide) (Nat.le_of_ble_eq_true rfl) dX6_film_70 (fun r70 => []) (fun _ => rfl) (fun r70 _ => ?_)
              refine G.iconst 0 dX6_film_73 (by decide) ?_
              refine G.istore (lv' := [some (.ref (a 0)), some (.int x1), some (.int x2), some (.int x3), some (.int x4), some (.int x5), some (.int r49), some (.int 0)]) dX6_film_74 (by decide) (Nat.le_of_ble_eq_true rfl) rfl rfl ?_
              refine G.mask (lv' := [some (.ref (a 0)), some (.int x1), some (.int x2), some (.int x3), none, some (.int x5), none, some (.int 0)]) [true, true, true, true, false, true, false, true] rfl ?_
              exact g_X6_film_c76 l D ks cI cL cC cM cS a t_now_gain t_hasImage fu t_now_kind t_now_used t_now_bay t_now_likes t_now_who t_now_lamp t_now_due t_now_count t_now_day t_now_dues t_now_draw r70.1 r70.2.1 r70.2.2.1 r70.2.2.2.1 r70.2.2.2.2.1 r70.2.2.2.2.2.1 r70.2.2.2.2.2.2.1 t_foreseen_gain r70.2.2.2.2.2.2.2.1 r70.2.2.2.2.2.2.2.2.1 r70.2.2.2.2.2.2.2.2.2.1 r70.2.2.2.2.2.2.2.2.2.2 t_sheets_items t_sheets_lane t_sheets_size x1 x2 x3 x5 0
            · refine G.iload dX6_film_59 rfl ?_
              exact G.iret rfl rfl dX6_film_61
          · refine G.aaload 19 4 rfl rfl h43 (by rw [hj43]) dX6_film_43 ?_
            refine G.iload dX6_film_44 rfl ?_
            refine G.iload dX6_film_46 rfl ?_
            refine G.iload_n dX6_film_48 rfl ?_
            refine G.callV (st := []) (w' := fun r49 => (w_X6nfs cI cL cC cM cS a t_now_kind t_now_used t_now_bay t_now_likes t_now_who t_now_lamp t_now_due t_now_gain t_now_count t_now_day t_now_dues t_now_draw t_foreseen_kind t_foreseen_used t_foreseen_bay t_foreseen_likes t_foreseen_who t_foreseen_lamp t_foreseen_due t_foreseen_gain t_foreseen_count t_foreseen_day t_foreseen_dues t_foreseen_draw t_hasImage t_sheets_items t_sheets_lane t_sheets_size)) mv_X4_refusal lk_6_237 (c_X4_refusal l D ks cI cL cC cM cS (fun k => a (88 + k)) (t_sheets_items 1) (t_sheets_lane 1) (t_sheets_size 1) x4 x5 x2) [22, 23] [0, 1, 2, 3, 4, 5, 6, 7, 8, 9, 10, 11, 12, 13, 14, 15, 16, 17, 18, 19, 20, 21, 24, 25, 26, 27] [0, 1, 2, 3, 4, 5, 6, 7, 8, 9, 10, 11, 12, 13, 14, 15, 16, 17, 18, 19, 20, 21, 26, 27, 22, 23, 24, 25] rfl rfl rfl rfl (by decide +kernel) (fun _ => rfl) rfl (by decide) (Nat.le_of_ble_eq_true rfl) dX6_film_49 (fun r49 => [.int r49]) (fun _ => rfl) (fun r49 _ => ?_)
            refine G.istore (lv' := [some (.ref (a 0)), some (.int x1), some (.int x2), some (.int x3), some (.int x4), some (.int x5), some (.int r49), none]) dX6_film_52 (by decide) (Nat.le_of_ble_eq_true rfl) rfl rfl ?_
            refine G.iload dX6_film_54 rfl ?_
            refine G.if_ge 62 dX6_film_56 (by decide) (fun h56 => ?_) (fun h56 => ?_)
            · refine G.aload_n dX6_film_62 rfl ?_
              refine G.get fl_6_23 0 rfl rfl dX6_film_63 ?_
              refine G.aload_n dX6_film_66 rfl ?_
              refine G.get fl_6_10 0 rfl rfl dX6_film_67 ?_
              refine G.callV (st := []) (w' := fun r70 => (w_X6nfs cI cL cC cM cS a t_now_kind t_now_used t_now_bay t_now_likes t_now_who t_now_lamp t_now_due t_now_gain t_now_count t_now_day t_now_dues t_now_draw r70.1 r70.2.1 r70.2.2.1 r70.2.2.2.1 r70.2.2.2.2.1 r70.2.2.2.2.2.1 r70.2.2.2.2.2.2.1 t_foreseen_gain r70.2.2.2.2.2.2.2.1 r70.2.2.2.2.2.2.2.2.1 r70.2.2.2.2.2.2.2.2.2.1 r70.2.2.2.2.2.2.2.2.2.2 t_hasImage t_sheets_items t_sheets_lane t_sheets_size)) mv_X3_become lk_6_122 (c_X3_become l D ks cI cL cC cM cS (fun k => a (36 + k)) (fun k => a (1 + k)) t_foreseen_kind t_foreseen_used t_foreseen_bay t_foreseen_likes t_foreseen_who t_foreseen_lamp t_foreseen_due t_foreseen_gain t_foreseen_count t_foreseen_day t_foreseen_dues t_foreseen_draw t_now_kind t_now_used t_now_bay t_now_likes t_now_who t_now_lamp t_now_due t_now_gain t_now_count t_now_day t_now_dues t_now_draw) [10, 11, 12, 13, 14, 15, 16, 17, 18, 1, 2, 3, 4, 5, 6, 7, 8, 9] [0, 19, 20, 21, 22, 23, 24, 25, 26, 27] [0, 19, 20, 21, 22, 23, 24, 25, 26, 27, 10, 11, 12, 13, 14, 15, 16, 17, 18, 1, 2, 3, 4, 5, 6, 7, 8, 9] rfl rfl rfl rfl (by decide +kernel) (fun _ => rfl) rfl (by decide) (Nat.le_of_ble_eq_true rfl) dX6_film_70 (fun r70 => []) (fun _ => rfl) (fun r70 _ => ?_)
              refine G.iconst 0 dX6_film_73 (by decide) ?_
              refine G.istore (lv' := [some (.ref (a 0)), some (.int x1), some (.int x2), some (.int x3), some (.int x4), some (.int x5), some (.int r49), some (.int 0)]) dX6_film_74 (by decide) (Nat.le_of_ble_eq_true rfl) rfl rfl ?_
              refine G.mask (lv' := [some (.ref (a 0)), some (.int x1), some (.int x2), some (.int x3), none, some (.int x5), none, some (.int 0)]) [true, true, true, true, false, true, false, true] rfl ?_
              exact g_X6_film_c76 l D ks cI cL cC cM cS a t_now_gain t_hasImage fu t_now_kind t_now_used t_now_bay t_now_likes t_now_who t_now_lamp t_now_due t_now_count t_now_day t_now_dues t_now_draw r70.1 r70.2.1 r70.2.2.1 r70.2.2.2.1 r70.2.2.2.2.1 r70.2.2.2.2.2.1 r70.2.2.2.2.2.2.1 t_foreseen_gain r70.2.2.2.2.2.2.2.1 r70.2.2.2.2.2.2.2.2.1 r70.2.2.2.2.2.2.2.2.2.1 r70.2.2.2.2.2.2.2.2.2.2 t_sheets_items t_sheets_lane t_sheets_size x1 x2 x3 x5 0
            · refine G.iload dX6_film_59 rfl ?_
              exact G.iret rfl rfl dX6_film_61
          · refine G.aaload 19 4 rfl rfl h43 (by rw [hj43]) dX6_film_43 ?_
            refine G.iload dX6_film_44 rfl ?_
            refine G.iload dX6_film_46 rfl ?_
            refine G.iload_n dX6_film_48 rfl ?_
            refine G.callV (st := []) (w' := fun r49 => (w_X6nfs cI cL cC cM cS a t_now_kind t_now_used t_now_bay t_now_likes t_now_who t_now_lamp t_now_due t_now_gain t_now_count t_now_day t_now_dues t_now_draw t_foreseen_kind t_foreseen_used t_foreseen_bay t_foreseen_likes t_foreseen_who t_foreseen_lamp t_foreseen_due t_foreseen_gain t_foreseen_count t_foreseen_day t_foreseen_dues t_foreseen_draw t_hasImage t_sheets_items t_sheets_lane t_sheets_size)) mv_X4_refusal lk_6_237 (c_X4_refusal l D ks cI cL cC cM cS (fun k => a (90 + k)) (t_sheets_items 2) (t_sheets_lane 2) (t_sheets_size 2) x4 x5 x2) [24, 25] [0, 1, 2, 3, 4, 5, 6, 7, 8, 9, 10, 11, 12, 13, 14, 15, 16, 17, 18, 19, 20, 21, 22, 23, 26, 27] [0, 1, 2, 3, 4, 5, 6, 7, 8, 9, 10, 11, 12, 13, 14, 15, 16, 17, 18, 19, 20, 21, 22, 23, 26, 27, 24, 25] rfl rfl rfl rfl (by decide +kernel) (fun _ => rfl) rfl (by decide) (Nat.le_of_ble_eq_true rfl) dX6_film_49 (fun r49 => [.int r49]) (fun _ => rfl) (fun r49 _ => ?_)
            refine G.istore (lv' := [some (.ref (a 0)), some (.int x1), some (.int x2), some (.int x3), some (.int x4), some (.int x5), some (.int r49), none]) dX6_film_52 (by decide) (Nat.le_of_ble_eq_true rfl) rfl rfl ?_
            refine G.iload dX6_film_54 rfl ?_
            refine G.if_ge 62 dX6_film_56 (by decide) (fun h56 => ?_) (fun h56 => ?_)
            · refine G.aload_n dX6_film_62 rfl ?_
              refine G.get fl_6_23 0 rfl rfl dX6_film_63 ?_
              refine G.aload_n dX6_film_66 rfl ?_
              refine G.get fl_6_10 0 rfl rfl dX6_film_67 ?_
              refine G.callV (st := []) (w' := fun r70 => (w_X6nfs cI cL cC cM cS a t_now_kind t_now_used t_now_bay t_now_likes t_now_who t_now_lamp t_now_due t_now_gain t_now_count t_now_day t_now_dues t_now_draw r70.1 r70.2.1 r70.2.2.1 r70.2.2.2.1 r70.2.2.2.2.1 r70.2.2.2.2.2.1 r70.2.2.2.2.2.2.1 t_foreseen_gain r70.2.2.2.2.2.2.2.1 r70.2.2.2.2.2.2.2.2.1 r70.2.2.2.2.2.2.2.2.2.1 r70.2.2.2.2.2.2.2.2.2.2 t_hasImage t_sheets_items t_sheets_lane t_sheets_size)) mv_X3_become lk_6_122 (c_X3_become l D ks cI cL cC cM cS (fun k => a (36 + k)) (fun k => a (1 + k)) t_foreseen_kind t_foreseen_used t_foreseen_bay t_foreseen_likes t_foreseen_who t_foreseen_lamp t_foreseen_due t_foreseen_gain t_foreseen_count t_foreseen_day t_foreseen_dues t_foreseen_draw t_now_kind t_now_used t_now_bay t_now_likes t_now_who t_now_lamp t_now_due t_now_gain t_now_count t_now_day t_now_dues t_now_draw) [10, 11, 12, 13, 14, 15, 16, 17, 18, 1, 2, 3, 4, 5, 6, 7, 8, 9] [0, 19, 20, 21, 22, 23, 24, 25, 26, 27] [0, 19, 20, 21, 22, 23, 24, 25, 26, 27, 10, 11, 12, 13, 14, 15, 16, 17, 18, 1, 2, 3, 4, 5, 6, 7, 8, 9] rfl rfl rfl rfl (by decide +kernel) (fun _ => rfl) rfl (by decide) (Nat.le_of_ble_eq_true rfl) dX6_film_70 (fun r70 => []) (fun _ => rfl) (fun r70 _ => ?_)
              refine G.iconst 0 dX6_film_73 (by decide) ?_
              refine G.istore (lv' := [some (.ref (a 0)), some (.int x1), some (.int x2), some (.int x3), some (.int x4), some (.int x5), some (.int r49), some (.int 0)]) dX6_film_74 (by decide) (Nat.le_of_ble_eq_true rfl) rfl rfl ?_
              refine G.mask (lv' := [some (.ref (a 0)), some (.int x1), some (.int x2), some (.int x3), none, some (.int x5), none, some (.int 0)]) [true, true, true, true, false, true, false, true] rfl ?_
              exact g_X6_film_c76 l D ks cI cL cC cM cS a t_now_gain t_hasImage fu t_now_kind t_now_used t_now_bay t_now_likes t_now_who t_now_lamp t_now_due t_now_count t_now_day t_now_dues t_now_draw r70.1 r70.2.1 r70.2.2.1 r70.2.2.2.1 r70.2.2.2.2.1 r70.2.2.2.2.2.1 r70.2.2.2.2.2.2.1 t_foreseen_gain r70.2.2.2.2.2.2.2.1 r70.2.2.2.2.2.2.2.2.1 r70.2.2.2.2.2.2.2.2.2.1 r70.2.2.2.2.2.2.2.2.2.2 t_sheets_items t_sheets_lane t_sheets_size x1 x2 x3 x5 0
            · refine G.iload dX6_film_59 rfl ?_
              exact G.iret rfl rfl dX6_film_61
          · refine G.aaload 19 4 rfl rfl h43 (by rw [hj43]) dX6_film_43 ?_
            refine G.iload dX6_film_44 rfl ?_
            refine G.iload dX6_film_46 rfl ?_
            refine G.iload_n dX6_film_48 rfl ?_
            refine G.callV (st := []) (w' := fun r49 => (w_X6nfs cI cL cC cM cS a t_now_kind t_now_used t_now_bay t_now_likes t_now_who t_now_lamp t_now_due t_now_gain t_now_count t_now_day t_now_dues t_now_draw t_foreseen_kind t_foreseen_used t_foreseen_bay t_foreseen_likes t_foreseen_who t_foreseen_lamp t_foreseen_due t_foreseen_gain t_foreseen_count t_foreseen_day t_foreseen_dues t_foreseen_draw t_hasImage t_sheets_items t_sheets_lane t_sheets_size)) mv_X4_refusal lk_6_237 (c_X4_refusal l D ks cI cL cC cM cS (fun k => a (92 + k)) (t_sheets_items 3) (t_sheets_lane 3) (t_sheets_size 3) x4 x5 x2) [26, 27] [0, 1, 2, 3, 4, 5, 6, 7, 8, 9, 10, 11, 12, 13, 14, 15, 16, 17, 18, 19, 20, 21, 22, 23, 24, 25] [0, 1, 2, 3, 4, 5, 6, 7, 8, 9, 10, 11, 12, 13, 14, 15, 16, 17, 18, 19, 20, 21, 22, 23, 24, 25, 26, 27] rfl rfl rfl rfl (by decide +kernel) (fun _ => rfl) rfl (by decide) (Nat.le_of_ble_eq_true rfl) dX6_film_49 (fun r49 => [.int r49]) (fun _ => rfl) (fun r49 _ => ?_)
            refine G.istore (lv' := [some (.ref (a 0)), some (.int x1), some (.int x2), some (.int x3), some (.int x4), some (.int x5), some (.int r49), none]) dX6_film_52 (by decide) (Nat.le_of_ble_eq_true rfl) rfl rfl ?_
            refine G.iload dX6_film_54 rfl ?_
            refine G.if_ge 62 dX6_film_56 (by decide) (fun h56 => ?_) (fun h56 => ?_)
            · refine G.aload_n dX6_film_62 rfl ?_
              refine G.get fl_6_23 0 rfl rfl dX6_film_63 ?_
              refine G.aload_n dX6_film_66 rfl ?_
              refine G.get fl_6_10 0 rfl rfl dX6_film_67 ?_
              refine G.callV (st := []) (w' := fun r70 => (w_X6nfs cI cL cC cM cS a t_now_kind t_now_used t_now_bay t_now_likes t_now_who t_now_lamp t_now_due t_now_gain t_now_count t_now_day t_now_dues t_now_draw r70.1 r70.2.1 r70.2.2.1 r70.2.2.2.1 r70.2.2.2.2.1 r70.2.2.2.2.2.1 r70.2.2.2.2.2.2.1 t_foreseen_gain r70.2.2.2.2.2.2.2.1 r70.2.2.2.2.2.2.2.2.1 r70.2.2.2.2.2.2.2.2.2.1 r70.2.2.2.2.2.2.2.2.2.2 t_hasImage t_sheets_items t_sheets_lane t_sheets_size)) mv_X3_become lk_6_122 (c_X3_become l D ks cI cL cC cM cS (fun k => a (36 + k)) (fun k => a (1 + k)) t_foreseen_kind t_foreseen_used t_foreseen_bay t_foreseen_likes t_foreseen_who t_foreseen_lamp t_foreseen_due t_foreseen_gain t_foreseen_count t_foreseen_day t_foreseen_dues t_foreseen_draw t_now_kind t_now_used t_now_bay t_now_likes t_now_who t_now_lamp t_now_due t_now_gain t_now_count t_now_day t_now_dues t_now_draw) [10, 11, 12, 13, 14, 15, 16, 17, 18, 1, 2, 3, 4, 5, 6, 7, 8, 9] [0, 19, 20, 21, 22, 23, 24, 25, 26, 27] [0, 19, 20, 21, 22, 23, 24, 25, 26, 27, 10, 11, 12, 13, 14, 15, 16, 17, 18, 1, 2, 3, 4, 5, 6, 7, 8, 9] rfl rfl rfl rfl (by decide +kernel) (fun _ => rfl) rfl (by decide) (Nat.le_of_ble_eq_true rfl) dX6_film_70 (fun r70 => []) (fun _ => rfl) (fun r70 _ => ?_)
              refine G.iconst 0 dX6_film_73 (by decide) ?_
              refine G.istore (lv' := [some (.ref (a 0)), some (.int x1), some (.int x2), some (.int x3), some (.int x4), some (.int x5), some (.int r49), some (.int 0)]) dX6_film_74 (by decide) (Nat.le_of_ble_eq_true rfl) rfl rfl ?_
              refine G.mask (lv' := [some (.ref (a 0)), some (.int x1), some (.int x2), some (.int x3), none, some (.int x5), none, some (.int 0)]) [true, true, true, true, false, true, false, true] rfl ?_
              exact g_X6_film_c76 l D ks cI cL cC cM cS a t_now_gain t_hasImage fu t_now_kind t_now_used t_now_bay t_now_likes t_now_who t_now_lamp t_now_due t_now_count t_now_day t_now_dues t_now_draw r70.1 r70.2.1 r70.2.2.1 r70.2.2.2.1 r70.2.2.2.2.1 r70.2.2.2.2.2.1 r70.2.2.2.2.2.2.1 t_foreseen_gain r70.2.2.2.2.2.2.2.1 r70.2.2.2.2.2.2.2.2.1 r70.2.2.2.2.2.2.2.2.2.1 r70.2.2.2.2.2.2.2.2.2.2 t_sheets_items t_sheets_lane t_sheets_size x1 x2 x3 x5 0
            · refine G.iload dX6_film_59 rfl ?_
              exact G.iret rfl rfl dX6_film_61
        · refine G.iconst (-1) dX6_film_36 (by decide) ?_
          exact G.iret rfl rfl dX6_film_37
set_option maxHeartbeats 4000000 in
set_option maxRecDepth 100000 in
theorem g_X6_goesBy_c3 (l : Launch) (D : va_G) (ks : Nat × Nat) (cI cL cC cM cS : ClassId) (a b : Nat → Nat) (t_foreseen_likes : Nat → Int32) (t_foreseen_draw t_hasImage u_lane u_size : Int32) : ∀ (n : Nat), ∀ (t_foreseen_kind t_foreseen_used t_foreseen_bay t_foreseen_who t_foreseen_lamp t_foreseen_due t_foreseen_gain : Nat → Int32) (t_foreseen_count t_foreseen_day t_foreseen_dues : Int32) (u_items : Nat → Int64) (x1 : Int32) (x3 : Int32) (x4 : Int32) (x5 : Int32), GJ l D ks (tyz cI cL cC cM cS) RX6 cX6_goesBy 6 ((some .boolean)) { frames := 4, cells := 0, slots := 0, locals := 89 } (fun r : Int32 × (Nat → Int32) × (Nat → Int32) × Int32 × Int32 => (some (.int r.1), (w_X6f_X4 cI cL cC cM cS a b t_foreseen_kind r.2.1 t_foreseen_bay t_foreseen_likes t_foreseen_who t_foreseen_lamp t_foreseen_due r.2.2.1 t_foreseen_count r.2.2.2.1 r.2.2.2.2 t_foreseen_draw t_hasImage u_items u_lane u_size))) (w_X6f_X4 cI cL cC cM cS a b t_foreseen_kind t_foreseen_used t_foreseen_bay t_foreseen_likes t_foreseen_who t_foreseen_lamp t_foreseen_due t_foreseen_gain t_foreseen_count t_foreseen_day t_foreseen_dues t_foreseen_draw t_hasImage u_items u_lane u_size) 3 [some (.ref (a 0)), some (.int x1), some (.ref (b 0)), some (.int x3), some (.int x4), some (.int x5)] [] (f_X6_goesBy_c3 n t_foreseen_kind t_foreseen_used t_foreseen_bay t_foreseen_who t_foreseen_lamp t_foreseen_due t_foreseen_gain t_foreseen_count t_foreseen_day t_foreseen_dues u_items x1 x3 x4 x5) := by
  intro n
  induction n with
  | zero =>
    intro t_foreseen_kind t_foreseen_used t_foreseen_bay t_foreseen_who t_foreseen_lamp t_foreseen_due t_foreseen_gain t_foreseen_count t_foreseen_day t_foreseen_dues u_items x1 x3 x4 x5
    exact G.no
  | succ n ih =>
    intro t_foreseen_kind t_foreseen_used t_foreseen_bay t_foreseen_who t_foreseen_lamp t_foreseen_due t_foreseen_gain t_foreseen_count t_foreseen_day t_foreseen_dues u_items x1 x3 x4 x5
    rw [f_X6_goesBy_c3]
    refine G.iload dX6_goesBy_3 rfl ?_
    refine G.iload dX6_goesBy_5 rfl ?_
    refine G.icmp_ge 48 dX6_goesBy_7 (by decide) (fun h7 => ?_) (fun h7 => ?_)
    · refine G.iconst 1 dX6_goesBy_48 (by decide) ?_
      exact G.zret rfl rfl rfl dX6_goesBy_49
    · refine G.aload_n dX6_goesBy_10 rfl ?_
      refine G.get fl_6_23 0 rfl rfl dX6_goesBy_11 ?_
      refine G.callV (st := []) (w' := fun r14 => (w_X6f_X4 cI cL cC cM cS a b t_foreseen_kind r14.1 t_foreseen_bay t_foreseen_likes t_foreseen_who t_foreseen_lamp t_foreseen_due r14.2.1 t_foreseen_count r14.2.2.1 r14.2.2.2 t_foreseen_draw t_hasImage u_items u_lane u_size)) mv_X3_passDay lk_6_182 (c_X3_passDay l D ks cI cL cC cM cS (fun k => a (36 + k)) t_foreseen_kind t_foreseen_used t_foreseen_bay t_foreseen_likes t_foreseen_who t_foreseen_lamp t_foreseen_due t_foreseen_gain t_foreseen_count t_foreseen_day t_foreseen_dues t_foreseen_draw) [1, 2, 3, 4, 5, 6, 7, 8, 9] [0, 10, 11] [0, 3, 4, 5, 6, 7, 8, 9, 10, 11, 1, 2] rfl rfl rfl rfl (by decide +kernel) (fun _ => rfl) rfl (by decide) (Nat.le_of_ble_eq_true rfl) dX6_goesBy_14 (fun r14 => []) (fun _ => rfl) (fun r14 _ => ?_)
      refine G.aload_n dX6_goesBy_17 rfl ?_
      refine G.get fl_6_266 10 rfl rfl dX6_goesBy_18 ?_
      refine G.iload_n dX6_goesBy_21 rfl ?_
      refine G.iload dX6_goesBy_22 rfl ?_
      refine G.iadd dX6_goesBy_24 ?_
      refine G.chk (fun h25 => ?_)
      refine G.laload 11 1 rfl rfl ((x3 + x5).toNatClampNeg) rfl h25 dX6_goesBy_25 ?_
      refine G.topl (fun v25 => ?_)
      refine G.aload_n dX6_goesBy_26 rfl ?_
      refine G.get fl_6_23 0 rfl rfl dX6_goesBy_27 ?_
      refine G.get fl_6_89 1 rfl rfl dX6_goesBy_30 ?_
      refine G.iload_n dX6_goesBy_33 rfl ?_
      refine G.chk (fun h34 => ?_)
      refine G.iaload 3 0 rfl rfl x1.toNatClampNeg rfl h34 dX6_goesBy_34 ?_
      refine G.topi (fun v34 => ?_)
      refine G.i2l dX6_goesBy_35 ?_
      refine G.lcmp dX6_goesBy_36 ?_
      refine G.if_eq 42 dX6_goesBy_37 (by decide) (fun h37 => ?_) (fun h37 => ?_)
      · refine G.iinc 1 (lv' := [some (.ref (a 0)), some (.int x1), some (.ref (b 0)), some (.int x3), some (.int x4), some (.int (x5 + 1))]) dX6_goesBy_42 rfl (by decide) (by decide) (Nat.le_of_ble_eq_true rfl) rfl rfl ?_
        refine G.goto 3 dX6_goesBy_45 (by decide) ?_
        exact ih t_foreseen_kind r14.1 t_foreseen_bay t_foreseen_who t_foreseen_lamp t_foreseen_due r14.2.1 t_foreseen_count r14.2.2.1 r14.2.2.2 u_items x1 x3 x4 (x5 + 1)
      · refine G.iconst 0 dX6_goesBy_40 (by decide) ?_
        exact G.zret rfl rfl rfl dX6_goesBy_41
set_option maxHeartbeats 4000000 in
set_option maxRecDepth 100000 in
theorem c_X6_goesBy (l : Launch) (D : va_G) (ks : Nat × Nat) (cI cL cC cM cS : ClassId) (a b : Nat → Nat) (t_foreseen_kind t_foreseen_used t_foreseen_bay t_foreseen_likes t_foreseen_who t_foreseen_lamp t_foreseen_due t_foreseen_gain : Nat → Int32) (t_foreseen_count t_foreseen_day t_foreseen_dues t_foreseen_draw t_hasImage : Int32) (u_items : Nat → Int64) (u_lane u_size : Int32) (x1 : Int32) (x3 : Int32) (x4 : Int32) : MT l D ks (tyz cI cL cC cM cS) yX6_goesBy cX6_goesBy 6 ((some .boolean)) { frames := 4, cells := 0, slots := 0, locals := 89 } [.ref (a 0), .int x1, .ref (b 0), .int x3, .int x4] (w_X6f_X4 cI cL cC cM cS a b t_foreseen_kind t_foreseen_used t_foreseen_bay t_foreseen_likes t_foreseen_who t_foreseen_lamp t_foreseen_due t_foreseen_gain t_foreseen_count t_foreseen_day t_foreseen_dues t_foreseen_draw t_hasImage u_items u_lane u_size) (fun r : Int32 × (Nat → Int32) × (Nat → Int32) × Int32 × Int32 => (some (.int r.1), (w_X6f_X4 cI cL cC cM cS a b t_foreseen_kind r.2.1 t_foreseen_bay t_foreseen_likes t_foreseen_who t_foreseen_lamp t_foreseen_due r.2.2.1 t_foreseen_count r.2.2.2.1 r.2.2.2.2 t_foreseen_draw t_hasImage u_items u_lane u_size))) (f_X6_goesBy t_foreseen_kind t_foreseen_used t_foreseen_bay t_foreseen_who t_foreseen_lamp t_foreseen_due t_foreseen_gain t_foreseen_count t_foreseen_day t_foreseen_dues u_items x1 x3 x4) := by
  refine MT.of 1 [some (.ref (a 0)), some (.int x1), some (.ref (b 0)), some (.int x3), some (.int x4), none] (by decide) (Nat.le_of_ble_eq_true rfl) rfl ?_
  unfold f_X6_goesBy
  refine G.iconst 0 dX6_goesBy_0 (by decide) ?_
  refine G.istore (lv' := [some (.ref (a 0)), some (.int x1), some (.ref (b 0)), some (.int x3), some (.int x4), some (.int 0)]) dX6_goesBy_1 (by decide) (Nat.le_of_ble_eq_true rfl) rfl rfl ?_
  exact g_X6_goesBy_c3 l D ks cI cL cC cM cS a b t_foreseen_likes t_foreseen_draw t_hasImage u_lane u_size fu t_foreseen_kind t_foreseen_used t_foreseen_bay t_foreseen_who t_foreseen_lamp t_foreseen_due t_foreseen_gain t_foreseen_count t_foreseen_day t_foreseen_dues u_items x1 x3 x4 0
set_option maxHeartbeats 4000000 in
set_option maxRecDepth 100000 in
theorem c_X6_item (l : Launch) (D : va_G) (ks : Nat × Nat) (cI cL cC cM cS : ClassId) (a : Nat → Nat) (t_hasImage : Int32) (t_sheets_items : Nat → Nat → Int64) (t_sheets_lane t_sheets_size : Nat → Int32) (x1 : Int32) (x2 : Int32) (x3 : Int32) (x4 : Int64) : MT l D ks (tyz cI cL cC cM cS) yX6_item cX6_item 7 ((some .int)) { frames := 2, cells := 0, slots := 0, locals := 45 } [.ref (a 0), .int x1, .int x2, .int x3, .long x4] (w_X6s cI cL cC cM cS a t_hasImage t_sheets_items t_sheets_lane t_sheets_size) (fun r : Int32 × (Nat → Nat → Int64) => (some (.int r.1), (w_X6s cI cL cC cM cS a t_hasImage r.2 t_sheets_lane t_sheets_size))) (f_X6_item t_sheets_items t_sheets_lane t_sheets_size x1 x2 x3 x4) := by
  refine MT.of 1 [some (.ref (a 0)), some (.int x1), some (.int x2), some (.int x3), some (.long x4), none, none] (by decide) (Nat.le_of_ble_eq_true rfl) rfl ?_
  unfold f_X6_item
  refine G.iload_n dX6_item_0 rfl ?_
  refine G.callS (st := []) (w' := fun r1 => (w_X6s cI cL cC cM cS a t_hasImage t_sheets_items t_sheets_lane t_sheets_size)) ms_X6_isSheet lk_6_231 (c_X6_isSheet l D ks cI cL cC cM cS x1) [] [0, 1, 2, 3, 4, 5, 6, 7, 8, 9] [0, 1, 2, 3, 4, 5, 6, 7, 8, 9] rfl rfl rfl rfl (by decide +kernel) (fun _ => rfl) (by decide) (Nat.le_of_ble_eq_true rfl) dX6_item_1 (fun r1 => [.int r1]) (fun _ => rfl) (fun r1 _ => ?_)
  refine G.if_eq 14 dX6_item_4 (by decide) (fun h4 => ?_) (fun h4 => ?_)
  · refine G.iconst (-1) dX6_item_14 (by decide) ?_
    exact G.iret rfl rfl dX6_item_15
  · refine G.iload_n dX6_item_7 rfl ?_
    refine G.callS (st := []) (w' := fun r8 => (w_X6s cI cL cC cM cS a t_hasImage t_sheets_items t_sheets_lane t_sheets_size)) ms_X6_isLane lk_6_234 (c_X6_isLane l D ks cI cL cC cM cS x2) [] [0, 1, 2, 3, 4, 5, 6, 7, 8, 9] [0, 1, 2, 3, 4, 5, 6, 7, 8, 9] rfl rfl rfl rfl (by decide +kernel) (fun _ => rfl) (by decide) (Nat.le_of_ble_eq_true rfl) dX6_item_8 (fun r8 => [.int r8]) (fun _ => rfl) (fun r8 _ => ?_)
    refine G.if_ne 16 dX6_item_11 (by decide) (fun h11 => ?_) (fun h11 => ?_)
    · refine G.aload_n dX6_item_16 rfl ?_
      refine G.get fl_6_48 0 rfl rfl dX6_item_17 ?_
      refine G.iload_n dX6_item_20 rfl ?_
      refine G.chk (fun h21 => ?_)
      have hl21 := inb_lt h21
      generalize hj21 : x1.toNatClampNeg = j21 at hl21 ⊢
      rcases g_or4 hl21 with rfl | rfl | rfl | rfl
      · refine G.aaload 1 4 rfl rfl h21 (by rw [hj21]) dX6_item_21 ?_
        refine G.iload_n dX6_item_22 rfl ?_
        refine G.iload_n dX6_item_23 rfl ?_
        refine G.iconst 1 dX6_item_24 (by decide) ?_
        refine G.callV (st := []) (w' := fun r25 => (w_X6s cI cL cC cM cS a t_hasImage t_sheets_items t_sheets_lane t_sheets_size)) mv_X4_refusal lk_6_237 (c_X4_refusal l D ks cI cL cC cM cS (fun k => a (86 + k)) (t_sheets_items 0) (t_sheets_lane 0) (t_sheets_size 0) x2 x3 1) [2, 3] [0, 1, 4, 5, 6, 7, 8, 9] [0, 1, 8, 9, 2, 3, 4, 5, 6, 7] rfl rfl rfl rfl (by decide +kernel) (fun _ => rfl) rfl (by decide) (Nat.le_of_ble_eq_true rfl) dX6_item_25 (fun r25 => [.int r25]) (fun _ => rfl) (fun r25 _ => ?_)
        refine G.istore (lv' := [some (.ref (a 0)), some (.int x1), some (.int x2), some (.int x3), some (.long x4), none, some (.int r25)]) dX6_item_28 (by decide) (Nat.le_of_ble_eq_true rfl) rfl rfl ?_
        refine G.iload dX6_item_30 rfl ?_
        refine G.if_ge 38 dX6_item_32 (by decide) (fun h32 => ?_) (fun h32 => ?_)
        · refine G.aload_n dX6_item_38 rfl ?_
          refine G.get fl_6_48 0 rfl rfl dX6_item_39 ?_
          refine G.iload_n dX6_item_42 rfl ?_
          refine G.aaload 1 4 rfl rfl h21 (by rw [hj21]) dX6_item_43 ?_
          refine G.iload_n dX6_item_44 rfl ?_
          refine G.lload dX6_item_45 rfl ?_
          refine G.callV (st := []) (w' := fun r47 => (w_X6s cI cL cC cM cS a t_hasImage (va_up t_sheets_items 0 r47) t_sheets_lane t_sheets_size)) mv_X4_put lk_6_249 (c_X4_put l D ks cI cL cC cM cS (fun k => a (86 + k)) (t_sheets_items 0) (t_sheets_lane 0) (t_sheets_size 0) x3 x4) [2, 3] [0, 1, 4, 5, 6, 7, 8, 9] [0, 1, 8, 9, 2, 3, 4, 5, 6, 7] rfl rfl rfl rfl (by decide +kernel) (fun _ => rfl) rfl (by decide) (Nat.le_of_ble_eq_true rfl) dX6_item_47 (fun r47 => []) (fun _ => rfl) (fun r47 _ => ?_)
          refine G.iconst 1 dX6_item_50 (by decide) ?_
          exact G.iret rfl rfl dX6_item_51
        · refine G.iload dX6_item_35 rfl ?_
          exact G.iret rfl rfl dX6_item_37
      · refine G.aaload 1 4 rfl rfl h21 (by rw [hj21]) dX6_item_21 ?_
        refine G.iload_n dX6_item_22 rfl ?_
        refine G.iload_n dX6_item_23 rfl ?_
        refine G.iconst 1 dX6_item_24 (by decide) ?_
        refine G.callV (st := []) (w' := fun r25 => (w_X6s cI cL cC cM cS a t_hasImage t_sheets_items t_sheets_lane t_sheets_size)) mv_X4_refusal lk_6_237 (c_X4_refusal l D ks cI cL cC cM cS (fun k => a (88 + k)) (t_sheets_items 1) (t_sheets_lane 1) (t_sheets_size 1) x2 x3 1) [4, 5] [0, 1, 2, 3, 6, 7, 8, 9] [0, 1, 2, 3, 8, 9, 4, 5, 6, 7] rfl rfl rfl rfl (by decide +kernel) (fun _ => rfl) rfl (by decide) (Nat.le_of_ble_eq_true rfl) dX6_item_25 (fun r25 => [.int r25]) (fun _ => rfl) (fun r25 _ => ?_)
        refine G.istore (lv' := [some (.ref (a 0)), some (.int x1), some (.int x2), some (.int x3), some (.long x4), none, some (.int r25)]) dX6_item_28 (by decide) (Nat.le_of_ble_eq_true rfl) rfl rfl ?_
        refine G.iload dX6_item_30 rfl ?_
        refine G.if_ge 38 dX6_item_32 (by decide) (fun h32 => ?_) (fun h32 => ?_)
        · refine G.aload_n dX6_item_38 rfl ?_
          refine G.get fl_6_48 0 rfl rfl dX6_item_39 ?_
          refine G.iload_n dX6_item_42 rfl ?_
          refine G.aaload 1 4 rfl rfl h21 (by rw [hj21]) dX6_item_43 ?_
          refine G.iload_n dX6_item_44 rfl ?_
          refine G.lload dX6_item_45 rfl ?_
          refine G.callV (st := []) (w' := fun r47 => (w_X6s cI cL cC cM cS a t_hasImage (va_up t_sheets_items 1 r47) t_sheets_lane t_sheets_size)) mv_X4_put lk_6_249 (c_X4_put l D ks cI cL cC cM cS (fun k => a (88 + k)) (t_sheets_items 1) (t_sheets_lane 1) (t_sheets_size 1) x3 x4) [4, 5] [0, 1, 2, 3, 6, 7, 8, 9] [0, 1, 2, 3, 8, 9, 4, 5, 6, 7] rfl rfl rfl rfl (by decide +kernel) (fun _ => rfl) rfl (by decide) (Nat.le_of_ble_eq_true rfl) dX6_item_47 (fun r47 => []) (fun _ => rfl) (fun r47 _ => ?_)
          refine G.iconst 1 dX6_item_50 (by decide) ?_
          exact G.iret rfl rfl dX6_item_51
        · refine G.iload dX6_item_35 rfl ?_
          exact G.iret rfl rfl dX6_item_37
      · refine G.aaload 1 4 rfl rfl h21 (by rw [hj21]) dX6_item_21 ?_
        refine G.iload_n dX6_item_22 rfl ?_
        refine G.iload_n dX6_item_23 rfl ?_
        refine G.iconst 1 dX6_item_24 (by decide) ?_
        refine G.callV (st := []) (w' := fun r25 => (w_X6s cI cL cC cM cS a t_hasImage t_sheets_items t_sheets_lane t_sheets_size)) mv_X4_refusal lk_6_237 (c_X4_refusal l D ks cI cL cC cM cS (fun k => a (90 + k)) (t_sheets_items 2) (t_sheets_lane 2) (t_sheets_size 2) x2 x3 1) [6, 7] [0, 1, 2, 3, 4, 5, 8, 9] [0, 1, 2, 3, 4, 5, 8, 9, 6, 7] rfl rfl rfl rfl (by decide +kernel) (fun _ => rfl) rfl (by decide) (Nat.le_of_ble_eq_true rfl) dX6_item_25 (fun r25 => [.int r25]) (fun _ => rfl) (fun r25 _ => ?_)
        refine G.istore (lv' := [some (.ref (a 0)), some (.int x1), some (.int x2), some (.int x3), some (.long x4), none, some (.int r25)]) dX6_item_28 (by decide) (Nat.le_of_ble_eq_true rfl) rfl rfl ?_
        refine G.iload dX6_item_30 rfl ?_
        refine G.if_ge 38 dX6_item_32 (by decide) (fun h32 => ?_) (fun h32 => ?_)
        · refine G.aload_n dX6_item_38 rfl ?_
          refine G.get fl_6_48 0 rfl rfl dX6_item_39 ?_
          refine G.iload_n dX6_item_42 rfl ?_
          refine G.aaload 1 4 rfl rfl h21 (by rw [hj21]) dX6_item_43 ?_
          refine G.iload_n dX6_item_44 rfl ?_
          refine G.lload dX6_item_45 rfl ?_
          refine G.callV (st := []) (w' := fun r47 => (w_X6s cI cL cC cM cS a t_hasImage (va_up t_sheets_items 2 r47) t_sheets_lane t_sheets_size)) mv_X4_put lk_6_249 (c_X4_put l D ks cI cL cC cM cS (fun k => a (90 + k)) (t_sheets_items 2) (t_sheets_lane 2) (t_sheets_size 2) x3 x4) [6, 7] [0, 1, 2, 3, 4, 5, 8, 9] [0, 1, 2, 3, 4, 5, 8, 9, 6, 7] rfl rfl rfl rfl (by decide +kernel) (fun _ => rfl) rfl (by decide) (Nat.le_of_ble_eq_true rfl) dX6_item_47 (fun r47 => []) (fun _ => rfl) (fun r47 _ => ?_)
          refine G.iconst 1 dX6_item_50 (by decide) ?_
          exact G.iret rfl rfl dX6_item_51
        · refine G.iload dX6_item_35 rfl ?_
          exact G.iret rfl rfl dX6_item_37
      · refine G.aaload 1 4 rfl rfl h21 (by rw [hj21]) dX6_item_21 ?_
        refine G.iload_n dX6_item_22 rfl ?_
        refine G.iload_n dX6_item_23 rfl ?_
        refine G.iconst 1 dX6_item_24 (by decide) ?_
        refine G.callV (st := []) (w' := fun r25 => (w_X6s cI cL cC cM cS a t_hasImage t_sheets_items t_sheets_lane t_sheets_size)) mv_X4_refusal lk_6_237 (c_X4_refusal l D ks cI cL cC cM cS (fun k => a (92 + k)) (t_sheets_items 3) (t_sheets_lane 3) (t_sheets_size 3) x2 x3 1) [8, 9] [0, 1, 2, 3, 4, 5, 6, 7] [0, 1, 2, 3, 4, 5, 6, 7, 8, 9] rfl rfl rfl rfl (by decide +kernel) (fun _ => rfl) rfl (by decide) (Nat.le_of_ble_eq_true rfl) dX6_item_25 (fun r25 => [.int r25]) (fun _ => rfl) (fun r25 _ => ?_)
        refine G.istore (lv' := [some (.ref (a 0)), some (.int x1), some (.int x2), some (.int x3), some (.long x4), none, some (.int r25)]) dX6_item_28 (by decide) (Nat.le_of_ble_eq_true rfl) rfl rfl ?_
        refine G.iload dX6_item_30 rfl ?_
        refine G.if_ge 38 dX6_item_32 (by decide) (fun h32 => ?_) (fun h32 => ?_)
        · refine G.aload_n dX6_item_38 rfl ?_
          refine G.get fl_6_48 0 rfl rfl dX6_item_39 ?_
          refine G.iload_n dX6_item_42 rfl ?_
          refine G.aaload 1 4 rfl rfl h21 (by rw [hj21]) dX6_item_43 ?_
          refine G.iload_n dX6_item_44 rfl ?_
          refine G.lload dX6_item_45 rfl ?_
          refine G.callV (st := []) (w' := fun r47 => (w_X6s cI cL cC cM cS a t_hasImage (va_up t_sheets_items 3 r47) t_sheets_lane t_sheets_size)) mv_X4_put lk_6_249 (c_X4_put l D ks cI cL cC cM cS (fun k => a (92 + k)) (t_sheets_items 3) (t_sheets_lane 3) (t_sheets_size 3) x3 x4) [8, 9] [0, 1, 2, 3, 4, 5, 6, 7] [0, 1, 2, 3, 4, 5, 6, 7, 8, 9] rfl rfl rfl rfl (by decide +kernel) (fun _ => rfl) rfl (by decide) (Nat.le_of_ble_eq_true rfl) dX6_item_47 (fun r47 => []) (fun _ => rfl) (fun r47 _ => ?_)
          refine G.iconst 1 dX6_item_50 (by decide) ?_
          exact G.iret rfl rfl dX6_item_51
        · refine G.iload dX6_item_35 rfl ?_
          exact G.iret rfl rfl dX6_item_37
    · refine G.iconst (-1) dX6_item_14 (by decide) ?_
      exact G.iret rfl rfl dX6_item_15
set_option maxHeartbeats 4000000 in
set_option maxRecDepth 100000 in
theorem g_X6_kindsBy_c55 (l : Launch) (D : va_G) (ks : Nat × Nat) (cI cL cC cM cS : ClassId) (a b : Nat → Nat) (t_now_gain : Nat → Int32) (t_hasImage u_lane u_size : Int32) (k6 : (Nat → Int32) → (Nat → Int32) → (Nat → Int32) → (Nat → Int32) → (Nat → Int32) → (Nat → Int32) → (Nat → Int32) → Int32 → Int32 → Int32 → Int32 → (Nat → Int32) → (Nat → Int32) → (Nat → Int32) → (Nat → Int32) → (Nat → Int32) → (Nat → Int32) → (Nat → Int32) → (Nat → Int32) → Int32 → Int32 → Int32 → Int32 → (Nat → Int64) → Int32 → Int32 → Int32 → Int32 → Int32 → (Option (Int32 × (Nat → Int32) × (Nat → Int32) × (Nat → Int32) × (Nat → Int32) × (Nat → Int32) × (Nat → Int32) × (Nat → Int32) × (Nat → Int32) × Int32 × Int32 × Int32 × Int32))) (hk6 : ∀ (t_now_kind t_now_used t_now_bay t_now_likes t_now_who t_now_lamp t_now_due : Nat → Int32) (t_now_count t_now_day t_now_dues t_now_draw : Int32) (t_foreseen_kind t_foreseen_used t_foreseen_bay t_foreseen_likes t_foreseen_who t_foreseen_lamp t_foreseen_due t_foreseen_gain : Nat → Int32) (t_foreseen_count t_foreseen_day t_foreseen_dues t_foreseen_draw : Int32) (u_items : Nat → Int64) (x1 : Int32) (x3 : Int32) (x4 : Int32) (x5 : Int32) (x6 : Int32), GJ l D ks (tyz cI cL cC cM cS) RX6 cX6_kindsBy 7 ((some .int)) { frames := 5, cells := 0, slots := 0, locals := 114 } (fun r : Int32 × (Nat → Int32) × (Nat → Int32) × (Nat → Int32) × (Nat → Int32) × (Nat → Int32) × (Nat → Int32) × (Nat → Int32) × (Nat → Int32) × Int32 × Int32 × Int32 × Int32 => (some (.int r.1), (w_X6nf_X4 cI cL cC cM cS a b t_now_kind t_now_used t_now_bay t_now_likes t_now_who t_now_lamp t_now_due t_now_gain t_now_count t_now_day t_now_dues t_now_draw r.2.1 r.2.2.1 r.2.2.2.1 r.2.2.2.2.1 r.2.2.2.2.2.1 r.2.2.2.2.2.2.1 r.2.2.2.2.2.2.2.1 r.2.2.2.2.2.2.2.2.1 r.2.2.2.2.2.2.2.2.2.1 r.2.2.2.2.2.2.2.2.2.2.1 r.2.2.2.2.2.2.2.2.2.2.2.1 r.2.2.2.2.2.2.2.2.2.2.2.2 t_hasImage u_items u_lane u_size))) (w_X6nf_X4 cI cL cC cM cS a b t_now_kind t_now_used t_now_bay t_now_likes t_now_who t_now_lamp t_now_due t_now_gain t_now_count t_now_day t_now_dues t_now_draw t_foreseen_kind t_foreseen_used t_foreseen_bay t_foreseen_likes t_foreseen_who t_foreseen_lamp t_foreseen_due t_foreseen_gain t_foreseen_count t_foreseen_day t_foreseen_dues t_foreseen_draw t_hasImage u_items u_lane u_size) 6 [some (.ref (a 0)), some (.int x1), some (.ref (b 0)), some (.int x3), some (.int x4), some (.int x5), some (.int x6)] [] (k6 t_now_kind t_now_used t_now_bay t_now_likes t_now_who t_now_lamp t_now_due t_now_count t_now_day t_now_dues t_now_draw t_foreseen_kind t_foreseen_used t_foreseen_bay t_foreseen_likes t_foreseen_who t_foreseen_lamp t_foreseen_due t_foreseen_gain t_foreseen_count t_foreseen_day t_foreseen_dues t_foreseen_draw u_items x1 x3 x4 x5 x6)) (t_now_kind t_now_used t_now_bay t_now_likes t_now_who t_now_lamp t_now_due : Nat → Int32) (t_now_count t_now_day t_now_dues t_now_draw : Int32) (t_foreseen_kind t_foreseen_used t_foreseen_bay t_foreseen_likes t_foreseen_who t_foreseen_lamp t_foreseen_due t_foreseen_gain : Nat → Int32) (t_foreseen_count t_foreseen_day t_foreseen_dues t_foreseen_draw : Int32) (u_items : Nat → Int64) (x1 : Int32) (x3 : Int32) (x4 : Int32) (x5 : Int32) (x6 : Int32) : GJ l D ks (tyz cI cL cC cM cS) RX6 cX6_kindsBy 7 ((some .int)) { frames := 5, cells := 0, slots := 0, locals := 114 } (fun r : Int32 × (Nat → Int32) × (Nat → Int32) × (Nat → Int32) × (Nat → Int32) × (Nat → Int32) × (Nat → Int32) × (Nat → Int32) × (Nat → Int32) × Int32 × Int32 × Int32 × Int32 => (some (.int r.1), (w_X6nf_X4 cI cL cC cM cS a b t_now_kind t_now_used t_now_bay t_now_likes t_now_who t_now_lamp t_now_due t_now_gain t_now_count t_now_day t_now_dues t_now_draw r.2.1 r.2.2.1 r.2.2.2.1 r.2.2.2.2.1 r.2.2.2.2.2.1 r.2.2.2.2.2.2.1 r.2.2.2.2.2.2.2.1 r.2.2.2.2.2.2.2.2.1 r.2.2.2.2.2.2.2.2.2.1 r.2.2.2.2.2.2.2.2.2.2.1 r.2.2.2.2.2.2.2.2.2.2.2.1 r.2.2.2.2.2.2.2.2.2.2.2.2 t_hasImage u_items u_lane u_size))) (w_X6nf_X4 cI cL cC cM cS a b t_now_kind t_now_used t_now_bay t_now_likes t_now_who t_now_lamp t_now_due t_now_gain t_now_count t_now_day t_now_dues t_now_draw t_foreseen_kind t_foreseen_used t_foreseen_bay t_foreseen_likes t_foreseen_who t_foreseen_lamp t_foreseen_due t_foreseen_gain t_foreseen_count t_foreseen_day t_foreseen_dues t_foreseen_draw t_hasImage u_items u_lane u_size) 55 [some (.ref (a 0)), some (.int x1), some (.ref (b 0)), some (.int x3), some (.int x4), some (.int x5), some (.int x6)] [] (f_X6_kindsBy_c55 k6 t_now_kind t_now_used t_now_bay t_now_likes t_now_who t_now_lamp t_now_due t_now_count t_now_day t_now_dues t_now_draw t_foreseen_kind t_foreseen_used t_foreseen_bay t_foreseen_likes t_foreseen_who t_foreseen_lamp t_foreseen_due t_foreseen_gain t_foreseen_count t_foreseen_day t_foreseen_dues t_foreseen_draw u_items x1 x3 x4 x5 x6) := by
  unfold f_X6_kindsBy_c55
  refine G.iinc 1 (lv' := [some (.ref (a 0)), some (.int x1), some (.ref (b 0)), some (.int x3), some (.int x4), some (.int x5), some (.int (x6 + 1))]) dX6_kindsBy_55 rfl (by decide) (by decide) (Nat.le_of_ble_eq_true rfl) rfl rfl ?_
  refine G.goto 6 dX6_kindsBy_58 (by decide) ?_
  exact hk6 t_now_kind t_now_used t_now_bay t_now_likes t_now_who t_now_lamp t_now_due t_now_count t_now_day t_now_dues t_now_draw t_foreseen_kind t_foreseen_used t_foreseen_bay t_foreseen_likes t_foreseen_who t_foreseen_lamp t_foreseen_due t_foreseen_gain t_foreseen_count t_foreseen_day t_foreseen_dues t_foreseen_draw u_items x1 x3 x4 x5 (x6 + 1)
set_option maxHeartbeats 4000000 in
set_option maxRecDepth 100000 in
theorem g_X6_kindsBy_c6 (l : Launch) (D : va_G) (ks : Nat × Nat) (cI cL cC cM cS : ClassId) (a b : Nat → Nat) (t_now_gain : Nat → Int32) (t_hasImage u_lane u_size : Int32) : ∀ (n : Nat), ∀ (t_now_kind t_now_used t_now_bay t_now_likes t_now_who t_now_lamp t_now_due : Nat → Int32) (t_now_count t_now_day t_now_dues t_now_draw : Int32) (t_foreseen_kind t_foreseen_used t_foreseen_bay t_foreseen_likes t_foreseen_who t_foreseen_lamp t_foreseen_due t_foreseen_gain : Nat → Int32) (t_foreseen_count t_foreseen_day t_foreseen_dues t_foreseen_draw : Int32) (u_items : Nat → Int64) (x1 : Int32) (x3 : Int32) (x4 : Int32) (x5 : Int32) (x6 : Int32), GJ l D ks (tyz cI cL cC cM cS) RX6 cX6_kindsBy 7 ((some .int)) { frames := 5, cells := 0, slots := 0, locals := 114 } (fun r : Int32 × (Nat → Int32) × (Nat → Int32) × (Nat → Int32) × (Nat → Int32) × (Nat → Int32) × (Nat → Int32) × (Nat → Int32) × (Nat → Int32) × Int32 × Int32 × Int32 × Int32 => (some (.int r.1), (w_X6nf_X4 cI cL cC cM cS a b t_now_kind t_now_used t_now_bay t_now_likes t_now_who t_now_lamp t_now_due t_now_gain t_now_count t_now_day t_now_dues t_now_draw r.2.1 r.2.2.1 r.2.2.2.1 r.2.2.2.2.1 r.2.2.2.2.2.1 r.2.2.2.2.2.2.1 r.2.2.2.2.2.2.2.1 r.2.2.2.2.2.2.2.2.1 r.2.2.2.2.2.2.2.2.2.1 r.2.2.2.2.2.2.2.2.2.2.1 r.2.2.2.2.2.2.2.2.2.2.2.1 r.2.2.2.2.2.2.2.2.2.2.2.2 t_hasImage u_items u_lane u_size))) (w_X6nf_X4 cI cL cC cM cS a b t_now_kind t_now_used t_now_bay t_now_likes t_now_who t_now_lamp t_now_due t_now_gain t_now_count t_now_day t_now_dues t_now_draw t_foreseen_kind t_foreseen_used t_foreseen_bay t_foreseen_likes t_foreseen_who t_foreseen_lamp t_foreseen_due t_foreseen_gain t_foreseen_count t_foreseen_day t_foreseen_dues t_foreseen_draw t_hasImage u_items u_lane u_size) 6 [some (.ref (a 0)), some (.int x1), some (.ref (b 0)), some (.int x3), some (.int x4), some (.int x5), some (.int x6)] [] (f_X6_kindsBy_c6 n t_now_kind t_now_used t_now_bay t_now_likes t_now_who t_now_lamp t_now_due t_now_count t_now_day t_now_dues t_now_draw t_foreseen_kind t_foreseen_used t_foreseen_bay t_foreseen_likes t_foreseen_who t_foreseen_lamp t_foreseen_due t_foreseen_gain t_foreseen_count t_foreseen_day t_foreseen_dues t_foreseen_draw u_items x1 x3 x4 x5 x6) := by
  intro n
  induction n with
  | zero =>
    intro t_now_kind t_now_used t_now_bay t_now_likes t_now_who t_now_lamp t_now_due t_now_count t_now_day t_now_dues t_now_draw t_foreseen_kind t_foreseen_used t_foreseen_bay t_foreseen_likes t_foreseen_who t_foreseen_lamp t_foreseen_due t_foreseen_gain t_foreseen_count t_foreseen_day t_foreseen_dues t_foreseen_draw u_items x1 x3 x4 x5 x6
    exact G.no
  | succ n ih =>
    intro t_now_kind t_now_used t_now_bay t_now_likes t_now_who t_now_lamp t_now_due t_now_count t_now_day t_now_dues t_now_draw t_foreseen_kind t_foreseen_used t_foreseen_bay t_foreseen_likes t_foreseen_who t_foreseen_lamp t_foreseen_due t_foreseen_gain t_foreseen_count t_foreseen_day t_foreseen_dues t_foreseen_draw u_items x1 x3 x4 x5 x6
    rw [f_X6_kindsBy_c6]
    refine G.iload dX6_kindsBy_6 rfl ?_
    refine G.iconst 4 dX6_kindsBy_8 (by decide) ?_
    refine G.icmp_gt 61 dX6_kindsBy_9 (by decide) (fun h9 => ?_) (fun h9 => ?_)
    · refine G.iload dX6_kindsBy_61 rfl ?_
      exact G.iret rfl rfl dX6_kindsBy_63
    · refine G.aload_n dX6_kindsBy_12 rfl ?_
      refine G.get fl_6_23 0 rfl rfl dX6_kindsBy_13 ?_
      refine G.aload_n dX6_kindsBy_16 rfl ?_
      refine G.get fl_6_10 0 rfl rfl dX6_kindsBy_17 ?_
      refine G.callV (st := []) (w' := fun r20 => (w_X6nf_X4 cI cL cC cM cS a b t_now_kind t_now_used t_now_bay t_now_likes t_now_who t_now_lamp t_now_due t_now_gain t_now_count t_now_day t_now_dues t_now_draw r20.1 r20.2.1 r20.2.2.1 r20.2.2.2.1 r20.2.2.2.2.1 r20.2.2.2.2.2.1 r20.2.2.2.2.2.2.1 t_foreseen_gain r20.2.2.2.2.2.2.2.1 r20.2.2.2.2.2.2.2.2.1 r20.2.2.2.2.2.2.2.2.2.1 r20.2.2.2.2.2.2.2.2.2.2 t_hasImage u_items u_lane u_size)) mv_X3_become lk_6_122 (c_X3_become l D ks cI cL cC cM cS (fun k => a (36 + k)) (fun k => a (1 + k)) t_foreseen_kind t_foreseen_used t_foreseen_bay t_foreseen_likes t_foreseen_who t_foreseen_lamp t_foreseen_due t_foreseen_gain t_foreseen_count t_foreseen_day t_foreseen_dues t_foreseen_draw t_now_kind t_now_used t_now_bay t_now_likes t_now_who t_now_lamp t_now_due t_now_gain t_now_count t_now_day t_now_dues t_now_draw) [10, 11, 12, 13, 14, 15, 16, 17, 18, 1, 2, 3, 4, 5, 6, 7, 8, 9] [0, 19, 20] [0, 12, 13, 14, 15, 16, 17, 18, 19, 20, 3, 4, 5, 6, 7, 8, 9, 10, 11, 1, 2] rfl rfl rfl rfl (by decide +kernel) (fun _ => rfl) rfl (by decide) (Nat.le_of_ble_eq_true rfl) dX6_kindsBy_20 (fun r20 => []) (fun _ => rfl) (fun r20 _ => ?_)
      refine G.aload_n dX6_kindsBy_23 rfl ?_
      refine G.get fl_6_23 0 rfl rfl dX6_kindsBy_24 ?_
      refine G.get fl_6_86 10 rfl rfl dX6_kindsBy_27 ?_
      refine G.iload_n dX6_kindsBy_30 rfl ?_
      refine G.iload dX6_kindsBy_31 rfl ?_
      refine G.chk (fun h33 => ?_)
      refine G.iastore (w' := (w_X6nf_X4 cI cL cC cM cS a b t_now_kind t_now_used t_now_bay t_now_likes t_now_who t_now_lamp t_now_due t_now_gain t_now_count t_now_day t_now_dues t_now_draw (upd r20.1 x1.toNatClampNeg x6) r20.2.1 r20.2.2.1 r20.2.2.2.1 r20.2.2.2.2.1 r20.2.2.2.2.2.1 r20.2.2.2.2.2.2.1 t_foreseen_gain r20.2.2.2.2.2.2.2.1 r20.2.2.2.2.2.2.2.2.1 r20.2.2.2.2.2.2.2.2.2.1 r20.2.2.2.2.2.2.2.2.2.2 t_hasImage u_items u_lane u_size)) 11 0 rfl rfl x1.toNatClampNeg rfl h33 rfl dX6_kindsBy_33 ?_
      refine G.aload_n dX6_kindsBy_34 rfl ?_
      refine G.iload_n dX6_kindsBy_35 rfl ?_
      refine G.aload_n dX6_kindsBy_36 rfl ?_
      refine G.iload_n dX6_kindsBy_37 rfl ?_
      refine G.iload dX6_kindsBy_38 rfl ?_
      refine G.callV (st := []) (w' := fun r40 => (w_X6nf_X4 cI cL cC cM cS a b t_now_kind t_now_used t_now_bay t_now_likes t_now_who t_now_lamp t_now_due t_now_gain t_now_count t_now_day t_now_dues t_now_draw (upd r20.1 x1.toNatClampNeg x6) r40.2.1 r20.2.2.1 r20.2.2.2.1 r20.2.2.2.2.1 r20.2.2.2.2.2.1 r20.2.2.2.2.2.2.1 r40.2.2.1 r20.2.2.2.2.2.2.2.1 r40.2.2.2.1 r40.2.2.2.2 r20.2.2.2.2.2.2.2.2.2.2 t_hasImage u_items u_lane u_size)) mv_X6_goesBy lk_6_310 (c_X6_goesBy l D ks cI cL cC cM cS a b (upd r20.1 x1.toNatClampNeg x6) r20.2.1 r20.2.2.1 r20.2.2.2.1 r20.2.2.2.2.1 r20.2.2.2.2.2.1 r20.2.2.2.2.2.2.1 t_foreseen_gain r20.2.2.2.2.2.2.2.1 r20.2.2.2.2.2.2.2.2.1 r20.2.2.2.2.2.2.2.2.2.1 r20.2.2.2.2.2.2.2.2.2.2 t_hasImage u_items u_lane u_size x1 x3 x4) [0, 10, 11, 12, 13, 14, 15, 16, 17, 18, 19, 20] [1, 2, 3, 4, 5, 6, 7, 8, 9] [9, 0, 1, 2, 3, 4, 5, 6, 7, 8, 10, 11, 12, 13, 14, 15, 16, 17, 18, 19, 20] rfl rfl rfl rfl (by decide +kernel) (fun _ => rfl) rfl (by decide) (Nat.le_of_ble_eq_true rfl) dX6_kindsBy_40 (fun r40 => [.int r40.1]) (fun _ => rfl) (fun r40 _ => ?_)
      refine G.if_eq 55 dX6_kindsBy_43 (by decide) (fun h43 => ?_) (fun h43 => ?_)
      · exact g_X6_kindsBy_c55 l D ks cI cL cC cM cS a b t_now_gain t_hasImage u_lane u_size (f_X6_kindsBy_c6 n) ih t_now_kind t_now_used t_now_bay t_now_likes t_now_who t_now_lamp t_now_due t_now_count t_now_day t_now_dues t_now_draw (upd r20.1 x1.toNatClampNeg x6) r40.2.1 r20.2.2.1 r20.2.2.2.1 r20.2.2.2.2.1 r20.2.2.2.2.2.1 r20.2.2.2.2.2.2.1 r40.2.2.1 r20.2.2.2.2.2.2.2.1 r40.2.2.2.1 r40.2.2.2.2 r20.2.2.2.2.2.2.2.2.2.2 u_items x1 x3 x4 x5 x6
      · refine G.iload dX6_kindsBy_46 rfl ?_
        refine G.iconst 1 dX6_kindsBy_48 (by decide) ?_
        refine G.iload dX6_kindsBy_49 rfl ?_
        refine G.ishl dX6_kindsBy_51 ?_
        refine G.ior dX6_kindsBy_52 ?_
        refine G.istore (lv' := [some (.ref (a 0)), some (.int x1), some (.ref (b 0)), some (.int x3), some (.int x4), some (.int (x5 ||| (1 <<< (x6 &&& 31)))), some (.int x6)]) dX6_kindsBy_53 (by decide) (Nat.le_of_ble_eq_true rfl) rfl rfl ?_
        exact g_X6_kindsBy_c55 l D ks cI cL cC cM cS a b t_now_gain t_hasImage u_lane u_size (f_X6_kindsBy_c6 n) ih t_now_kind t_now_used t_now_bay t_now_likes t_now_who t_now_lamp t_now_due t_now_count t_now_day t_now_dues t_now_draw (upd r20.1 x1.toNatClampNeg x6) r40.2.1 r20.2.2.1 r20.2.2.2.1 r20.2.2.2.2.1 r20.2.2.2.2.2.1 r20.2.2.2.2.2.2.1 r40.2.2.1 r20.2.2.2.2.2.2.2.1 r40.2.2.2.1 r40.2.2.2.2 r20.2.2.2.2.2.2.2.2.2.2 u_items x1 x3 x4 (x5 ||| (1 <<< (x6 &&& 31))) x6
set_option maxHeartbeats 4000000 in
set_option maxRecDepth 100000 in
theorem c_X6_kindsBy (l : Launch) (D : va_G) (ks : Nat × Nat) (cI cL cC cM cS : ClassId) (a b : Nat → Nat) (t_now_kind t_now_used t_now_bay t_now_likes t_now_who t_now_lamp t_now_due t_now_gain : Nat → Int32) (t_now_count t_now_day t_now_dues t_now_draw : Int32) (t_foreseen_kind t_foreseen_used t_foreseen_bay t_foreseen_likes t_foreseen_who t_foreseen_lamp t_foreseen_due t_foreseen_gain : Nat → Int32) (t_foreseen_count t_foreseen_day t_foreseen_dues t_foreseen_draw t_hasImage : Int32) (u_items : Nat → Int64) (u_lane u_size : Int32) (x1 : Int32) (x3 : Int32) (x4 : Int32) : MT l D ks (tyz cI cL cC cM cS) yX6_kindsBy cX6_kindsBy 7 ((some .int)) { frames := 5, cells := 0, slots := 0, locals := 114 } [.ref (a 0), .int x1, .ref (b 0), .int x3, .int x4] (w_X6nf_X4 cI cL cC cM cS a b t_now_kind t_now_used t_now_bay t_now_likes t_now_who t_now_lamp t_now_due t_now_gain t_now_count t_now_day t_now_dues t_now_draw t_foreseen_kind t_foreseen_used t_foreseen_bay t_foreseen_likes t_foreseen_who t_foreseen_lamp t_foreseen_due t_foreseen_gain t_foreseen_count t_foreseen_day t_foreseen_dues t_foreseen_draw t_hasImage u_items u_lane u_size) (fun r : Int32 × (Nat → Int32) × (Nat → Int32) × (Nat → Int32) × (Nat → Int32) × (Nat → Int32) × (Nat → Int32) × (Nat → Int32) × (Nat → Int32) × Int32 × Int32 × Int32 × Int32 => (some (.int r.1), (w_X6nf_X4 cI cL cC cM cS a b t_now_kind t_now_used t_now_bay t_now_likes t_now_who t_now_lamp t_now_due t_now_gain t_now_count t_now_day t_now_dues t_now_draw r.2.1 r.2.2.1 r.2.2.2.1 r.2.2.2.2.1 r.2.2.2.2.2.1 r.2.2.2.2.2.2.1 r.2.2.2.2.2.2.2.1 r.2.2.2.2.2.2.2.2.1 r.2.2.2.2.2.2.2.2.2.1 r.2.2.2.2.2.2.2.2.2.2.1 r.2.2.2.2.2.2.2.2.2.2.2.1 r.2.2.2.2.2.2.2.2.2.2.2.2 t_hasImage u_items u_lane u_size))) (f_X6_kindsBy t_now_kind t_now_used t_now_bay t_now_likes t_now_who t_now_lamp t_now_due t_now_count t_now_day t_now_dues t_now_draw t_foreseen_kind t_foreseen_used t_foreseen_bay t_foreseen_likes t_foreseen_who t_foreseen_lamp t_foreseen_due t_foreseen_gain t_foreseen_count t_foreseen_day t_foreseen_dues t_foreseen_draw u_items x1 x3 x4) := by
  refine MT.of 2 [some (.ref (a 0)), some (.int x1), some (.ref (b 0)), some (.int x3), some (.int x4), none, none] (by decide) (Nat.le_of_ble_eq_true rfl) rfl ?_
  unfold f_X6_kindsBy
  refine G.iconst 0 dX6_kindsBy_0 (by decide) ?_
  refine G.istore (lv' := [some (.ref (a 0)), some (.int x1), some (.ref (b 0)), some (.int x3), some (.int x4), some (.int 0), none]) dX6_kindsBy_1 (by decide) (Nat.le_of_ble_eq_true rfl) rfl rfl ?_
  refine G.iconst 0 dX6_kindsBy_3 (by decide) ?_
  refine G.istore (lv' := [some (.ref (a 0)), some (.int x1), some (.ref (b 0)), some (.int x3), some (.int x4), some (.int 0), some (.int 0)]) dX6_kindsBy_4 (by decide) (Nat.le_of_ble_eq_true rfl) rfl rfl ?_
  exact g_X6_kindsBy_c6 l D ks cI cL cC cM cS a b t_now_gain t_hasImage u_lane u_size fu t_now_kind t_now_used t_now_bay t_now_likes t_now_who t_now_lamp t_now_due t_now_count t_now_day t_now_dues t_now_draw t_foreseen_kind t_foreseen_used t_foreseen_bay t_foreseen_likes t_foreseen_who t_foreseen_lamp t_foreseen_due t_foreseen_gain t_foreseen_count t_foreseen_day t_foreseen_dues t_foreseen_draw u_items x1 x3 x4 0 0
set_option maxHeartbeats 4000000 in
set_option maxRecDepth 100000 in
theorem c_X6_latest (l : Launch) (D : va_G) (ks : Nat × Nat) (cI cL cC cM cS : ClassId) (a : Nat → Nat) (t_now_kind t_now_used t_now_bay t_now_likes t_now_who t_now_lamp t_now_due t_now_gain : Nat → Int32) (t_now_count t_now_day t_now_dues t_now_draw : Int32) (t_foreseen_kind t_foreseen_used t_foreseen_bay t_foreseen_likes t_foreseen_who t_foreseen_lamp t_foreseen_due t_foreseen_gain : Nat → Int32) (t_foreseen_count t_foreseen_day t_foreseen_dues t_foreseen_draw t_hasImage : Int32) (t_deal_bay t_deal_best : Nat → Int32) (t_deal_worth t_deal_free t_deal_count : Int32) (x1 : Int32) (x2 : Int32) (x3 : Int32) : MT l D ks (tyz cI cL cC cM cS) yX6_latest cX6_latest 4 ((some .int)) { frames := 6, cells := 0, slots := 0, locals := 140 } [.ref (a 0), .int x1, .int x2, .int x3] (w_X6nfd cI cL cC cM cS a t_now_kind t_now_used t_now_bay t_now_likes t_now_who t_now_lamp t_now_due t_now_gain t_now_count t_now_day t_now_dues t_now_draw t_foreseen_kind t_foreseen_used t_foreseen_bay t_foreseen_likes t_foreseen_who t_foreseen_lamp t_foreseen_due t_foreseen_gain t_foreseen_count t_foreseen_day t_foreseen_dues t_foreseen_draw t_hasImage t_deal_bay t_deal_best t_deal_worth t_deal_free t_deal_count) (fun r : Int32 × (Nat → Int32) × (Nat → Int32) × (Nat → Int32) × (Nat → Int32) × (Nat → Int32) × (Nat → Int32) × (Nat → Int32) × (Nat → Int32) × Int32 × Int32 × Int32 × Int32 × (Nat → Int32) × (Nat → Int32) × Int32 × Int32 × Int32 => (some (.int r.1), (w_X6nfd cI cL cC cM cS a t_now_kind t_now_used t_now_bay t_now_likes t_now_who t_now_lamp t_now_due t_now_gain t_now_count t_now_day t_now_dues t_now_draw r.2.1 r.2.2.1 r.2.2.2.1 r.2.2.2.2.1 r.2.2.2.2.2.1 r.2.2.2.2.2.2.1 r.2.2.2.2.2.2.2.1 r.2.2.2.2.2.2.2.2.1 r.2.2.2.2.2.2.2.2.2.1 r.2.2.2.2.2.2.2.2.2.2.1 r.2.2.2.2.2.2.2.2.2.2.2.1 r.2.2.2.2.2.2.2.2.2.2.2.2.1 t_hasImage r.2.2.2.2.2.2.2.2.2.2.2.2.2.1 r.2.2.2.2.2.2.2.2.2.2.2.2.2.2.1 r.2.2.2.2.2.2.2.2.2.2.2.2.2.2.2.1 r.2.2.2.2.2.2.2.2.2.2.2.2.2.2.2.2.1 r.2.2.2.2.2.2.2.2.2.2.2.2.2.2.2.2.2))) (f_X6_latest t_now_kind t_now_used t_now_bay t_now_likes t_now_who t_now_lamp t_now_due t_now_count t_now_day t_now_dues t_now_draw t_foreseen_kind t_foreseen_used t_foreseen_bay t_foreseen_likes t_foreseen_who t_foreseen_lamp t_foreseen_due t_foreseen_gain t_foreseen_count t_foreseen_day t_foreseen_dues t_foreseen_draw t_deal_bay t_deal_best t_deal_worth t_deal_free t_deal_count x1 x2 x3) := by
  refine MT.of 0 [some (.ref (a 0)), some (.int x1), some (.int x2), some (.int x3)] (by decide) (Nat.le_of_ble_eq_true rfl) rfl ?_
  unfold f_X6_latest
  refine G.aload_n dX6_latest_0 rfl ?_
  refine G.get fl_6_10 0 rfl rfl dX6_latest_1 ?_
  refine G.iload_n dX6_latest_4 rfl ?_
  refine G.callV (st := []) (w' := fun r5 => (w_X6nfd cI cL cC cM cS a t_now_kind t_now_used t_now_bay t_now_likes t_now_who t_now_lamp t_now_due t_now_gain t_now_count t_now_day t_now_dues t_now_draw t_foreseen_kind t_foreseen_used t_foreseen_bay t_foreseen_likes t_foreseen_who t_foreseen_lamp t_foreseen_due t_foreseen_gain t_foreseen_count t_foreseen_day t_foreseen_dues t_foreseen_draw t_hasImage t_deal_bay t_deal_best t_deal_worth t_deal_free t_deal_count)) mv_X3_has lk_6_83 (c_X3_has l D ks cI cL cC cM cS (fun k => a (1 + k)) t_now_kind t_now_used t_now_bay t_now_likes t_now_who t_now_lamp t_now_due t_now_gain t_now_count t_now_day t_now_dues t_now_draw x1) [1, 2, 3, 4, 5, 6, 7, 8, 9] [0, 10, 11, 12, 13, 14, 15, 16, 17, 18, 19, 20, 21] [0, 13, 14, 15, 16, 17, 18, 19, 20, 21, 1, 2, 3, 4, 5, 6, 7, 8, 9, 10, 11, 12] rfl rfl rfl rfl (by decide +kernel) (fun _ => rfl) rfl (by decide) (Nat.le_of_ble_eq_true rfl) dX6_latest_5 (fun r5 => [.int r5]) (fun _ => rfl) (fun r5 _ => ?_)
  refine G.if_eq 26 dX6_latest_8 (by decide) (fun h8 => ?_) (fun h8 => ?_)
  · refine G.iconst (-1) dX6_latest_26 (by decide) ?_
    exact G.iret rfl rfl dX6_latest_27
  · refine G.iload_n dX6_latest_11 rfl ?_
    refine G.iconst 0 dX6_latest_12 (by decide) ?_
    refine G.bipush 40 dX6_latest_13 (by decide) ?_
    refine G.callS (st := []) (w' := fun r15 => (w_X6nfd cI cL cC cM cS a t_now_kind t_now_used t_now_bay t_now_likes t_now_who t_now_lamp t_now_due t_now_gain t_now_count t_now_day t_now_dues t_now_draw t_foreseen_kind t_foreseen_used t_foreseen_bay t_foreseen_likes t_foreseen_who t_foreseen_lamp t_foreseen_due t_foreseen_gain t_foreseen_count t_foreseen_day t_foreseen_dues t_foreseen_draw t_hasImage t_deal_bay t_deal_best t_deal_worth t_deal_free t_deal_count)) ms_X6_within lk_6_53 (c_X6_within l D ks cI cL cC cM cS x2 0 40) [] [0, 1, 2, 3, 4, 5, 6, 7, 8, 9, 10, 11, 12, 13, 14, 15, 16, 17, 18, 19, 20, 21] [0, 1, 2, 3, 4, 5, 6, 7, 8, 9, 10, 11, 12, 13, 14, 15, 16, 17, 18, 19, 20, 21] rfl rfl rfl rfl (by decide +kernel) (fun _ => rfl) (by decide) (Nat.le_of_ble_eq_true rfl) dX6_latest_15 (fun r15 => [.int r15]) (fun _ => rfl) (fun r15 _ => ?_)
    refine G.if_eq 26 dX6_latest_18 (by decide) (fun h18 => ?_) (fun h18 => ?_)
    · refine G.iconst (-1) dX6_latest_26 (by decide) ?_
      exact G.iret rfl rfl dX6_latest_27
    · refine G.iload_n dX6_latest_21 rfl ?_
      refine G.iconst (-1) dX6_latest_22 (by decide) ?_
      refine G.icmp_ge 28 dX6_latest_23 (by decide) (fun h23 => ?_) (fun h23 => ?_)
      · refine G.iload_n dX6_latest_28 rfl ?_
        refine G.aload_n dX6_latest_29 rfl ?_
        refine G.get fl_6_10 0 rfl rfl dX6_latest_30 ?_
        refine G.get fl_6_72 1 rfl rfl dX6_latest_33 ?_
        refine G.icmp_lt 42 dX6_latest_36 (by decide) (fun h36 => ?_) (fun h36 => ?_)
        · refine G.aload_n dX6_latest_42 rfl ?_
          refine G.iload_n dX6_latest_43 rfl ?_
          refine G.iload_n dX6_latest_44 rfl ?_
          refine G.callV (st := []) (w' := fun r45 => (w_X6nfd cI cL cC cM cS a t_now_kind t_now_used t_now_bay t_now_likes t_now_who t_now_lamp t_now_due t_now_gain t_now_count t_now_day t_now_dues t_now_draw r45.1 r45.2.1 r45.2.2.1 r45.2.2.2.1 r45.2.2.2.2.1 r45.2.2.2.2.2.1 r45.2.2.2.2.2.2.1 r45.2.2.2.2.2.2.2.1 r45.2.2.2.2.2.2.2.2.1 r45.2.2.2.2.2.2.2.2.2.1 r45.2.2.2.2.2.2.2.2.2.2.1 r45.2.2.2.2.2.2.2.2.2.2.2.1 t_hasImage r45.2.2.2.2.2.2.2.2.2.2.2.2.1 r45.2.2.2.2.2.2.2.2.2.2.2.2.2.1 r45.2.2.2.2.2.2.2.2.2.2.2.2.2.2.1 r45.2.2.2.2.2.2.2.2.2.2.2.2.2.2.2.1 r45.2.2.2.2.2.2.2.2.2.2.2.2.2.2.2.2)) mv_X6_dealLeastUsed lk_6_203 (c_X6_dealLeastUsed l D ks cI cL cC cM cS a t_now_kind t_now_used t_now_bay t_now_likes t_now_who t_now_lamp t_now_due t_now_gain t_now_count t_now_day t_now_dues t_now_draw t_foreseen_kind t_foreseen_used t_foreseen_bay t_foreseen_likes t_foreseen_who t_foreseen_lamp t_foreseen_due t_foreseen_gain t_foreseen_count t_foreseen_day t_foreseen_dues t_foreseen_draw t_hasImage t_deal_bay t_deal_best t_deal_worth t_deal_free t_deal_count x1 x2) [0, 1, 2, 3, 4, 5, 6, 7, 8, 9, 10, 11, 12, 13, 14, 15, 16, 17, 18, 19, 20, 21] [] [0, 1, 2, 3, 4, 5, 6, 7, 8, 9, 10, 11, 12, 13, 14, 15, 16, 17, 18, 19, 20, 21] rfl rfl rfl rfl (by decide +kernel) (fun _ => rfl) rfl (by decide) (Nat.le_of_ble_eq_true rfl) dX6_latest_45 (fun r45 => []) (fun _ => rfl) (fun r45 _ => ?_)
          refine G.aload_n dX6_latest_48 rfl ?_
          refine G.get fl_6_35 0 rfl rfl dX6_latest_49 ?_
          refine G.iload_n dX6_latest_52 rfl ?_
          refine G.callV (st := []) (w' := fun r53 => (w_X6nfd cI cL cC cM cS a t_now_kind t_now_used t_now_bay t_now_likes t_now_who t_now_lamp t_now_due t_now_gain t_now_count t_now_day t_now_dues t_now_draw r45.1 r45.2.1 r45.2.2.1 r45.2.2.2.1 r45.2.2.2.2.1 r45.2.2.2.2.2.1 r45.2.2.2.2.2.2.1 r45.2.2.2.2.2.2.2.1 r45.2.2.2.2.2.2.2.2.1 r45.2.2.2.2.2.2.2.2.2.1 r45.2.2.2.2.2.2.2.2.2.2.1 r45.2.2.2.2.2.2.2.2.2.2.2.1 t_hasImage r45.2.2.2.2.2.2.2.2.2.2.2.2.1 r45.2.2.2.2.2.2.2.2.2.2.2.2.2.1 r45.2.2.2.2.2.2.2.2.2.2.2.2.2.2.1 r45.2.2.2.2.2.2.2.2.2.2.2.2.2.2.2.1 r45.2.2.2.2.2.2.2.2.2.2.2.2.2.2.2.2)) mv_X0_answer lk_6_191 (c_X0_answer l D ks cI cL cC cM cS (fun k => a (80 + k)) r45.2.2.2.2.2.2.2.2.2.2.2.2.1 r45.2.2.2.2.2.2.2.2.2.2.2.2.2.1 r45.2.2.2.2.2.2.2.2.2.2.2.2.2.2.1 r45.2.2.2.2.2.2.2.2.2.2.2.2.2.2.2.1 r45.2.2.2.2.2.2.2.2.2.2.2.2.2.2.2.2 x3) [19, 20, 21] [0, 1, 2, 3, 4, 5, 6, 7, 8, 9, 10, 11, 12, 13, 14, 15, 16, 17, 18] [0, 1, 2, 3, 4, 5, 6, 7, 8, 9, 10, 11, 12, 13, 14, 15, 16, 17, 18, 19, 20, 21] rfl rfl rfl rfl (by decide +kernel) (fun _ => rfl) rfl (by decide) (Nat.le_of_ble_eq_true rfl) dX6_latest_53 (fun r53 => [.int r53]) (fun _ => rfl) (fun r53 _ => ?_)
          exact G.iret rfl rfl dX6_latest_56
        · refine G.bipush (-4) dX6_latest_39 (by decide) ?_
          exact G.iret rfl rfl dX6_latest_41
      · refine G.iconst (-1) dX6_latest_26 (by decide) ?_
        exact G.iret rfl rfl dX6_latest_27
set_option maxHeartbeats 4000000 in
set_option maxRecDepth 100000 in
theorem g_X6_numbersBy_c58 (l : Launch) (D : va_G) (ks : Nat × Nat) (cI cL cC cM cS : ClassId) (a b : Nat → Nat) (t_now_gain : Nat → Int32) (t_hasImage u_lane u_size : Int32) (k6 : (Nat → Int32) → (Nat → Int32) → (Nat → Int32) → (Nat → Int32) → (Nat → Int32) → (Nat → Int32) → (Nat → Int32) → Int32 → Int32 → Int32 → Int32 → (Nat → Int32) → (Nat → Int32) → (Nat → Int32) → (Nat → Int32) → (Nat → Int32) → (Nat → Int32) → (Nat → Int32) → (Nat → Int32) → Int32 → Int32 → Int32 → Int32 → (Nat → Int64) → Int32 → Int32 → Int32 → Int32 → Int32 → Int32 → (Option (Int32 × (Nat → Int32) × (Nat → Int32) × (Nat → Int32) × (Nat → Int32) × (Nat → Int32) × (Nat → Int32) × (Nat → Int32) × (Nat → Int32) × Int32 × Int32 × Int32 × Int32))) (hk6 : ∀ (t_now_kind t_now_used t_now_bay t_now_likes t_now_who t_now_lamp t_now_due : Nat → Int32) (t_now_count t_now_day t_now_dues t_now_draw : Int32) (t_foreseen_kind t_foreseen_used t_foreseen_bay t_foreseen_likes t_foreseen_who t_foreseen_lamp t_foreseen_due t_foreseen_gain : Nat → Int32) (t_foreseen_count t_foreseen_day t_foreseen_dues t_foreseen_draw : Int32) (u_items : Nat → Int64) (x1 : Int32) (x3 : Int32) (x4 : Int32) (x5 : Int32) (x6 : Int32) (x7 : Int32), GJ l D ks (tyz cI cL cC cM cS) RX6 cX6_numbersBy 8 ((some .int)) { frames := 5, cells := 0, slots := 0, locals := 114 } (fun r : Int32 × (Nat → Int32) × (Nat → Int32) × (Nat → Int32) × (Nat → Int32) × (Nat → Int32) × (Nat → Int32) × (Nat → Int32) × (Nat → Int32) × Int32 × Int32 × Int32 × Int32 => (some (.int r.1), (w_X6nf_X4 cI cL cC cM cS a b t_now_kind t_now_used t_now_bay t_now_likes t_now_who t_now_lamp t_now_due t_now_gain t_now_count t_now_day t_now_dues t_now_draw r.2.1 r.2.2.1 r.2.2.2.1 r.2.2.2.2.1 r.2.2.2.2.2.1 r.2.2.2.2.2.2.1 r.2.2.2.2.2.2.2.1 r.2.2.2.2.2.2.2.2.1 r.2.2.2.2.2.2.2.2.2.1 r.2.2.2.2.2.2.2.2.2.2.1 r.2.2.2.2.2.2.2.2.2.2.2.1 r.2.2.2.2.2.2.2.2.2.2.2.2 t_hasImage u_items u_lane u_size))) (w_X6nf_X4 cI cL cC cM cS a b t_now_kind t_now_used t_now_bay t_now_likes t_now_who t_now_lamp t_now_due t_now_gain t_now_count t_now_day t_now_dues t_now_draw t_foreseen_kind t_foreseen_used t_foreseen_bay t_foreseen_likes t_foreseen_who t_foreseen_lamp t_foreseen_due t_foreseen_gain t_foreseen_count t_foreseen_day t_foreseen_dues t_foreseen_draw t_hasImage u_items u_lane u_size) 6 [some (.ref (a 0)), some (.int x1), some (.ref (b 0)), some (.int x3), some (.int x4), some (.int x5), some (.int x6), some (.int x7)] [] (k6 t_now_kind t_now_used t_now_bay t_now_likes t_now_who t_now_lamp t_now_due t_now_count t_now_day t_now_dues t_now_draw t_foreseen_kind t_foreseen_used t_foreseen_bay t_foreseen_likes t_foreseen_who t_foreseen_lamp t_foreseen_due t_foreseen_gain t_foreseen_count t_foreseen_day t_foreseen_dues t_foreseen_draw u_items x1 x3 x4 x5 x6 x7)) (t_now_kind t_now_used t_now_bay t_now_likes t_now_who t_now_lamp t_now_due : Nat → Int32) (t_now_count t_now_day t_now_dues t_now_draw : Int32) (t_foreseen_kind t_foreseen_used t_foreseen_bay t_foreseen_likes t_foreseen_who t_foreseen_lamp t_foreseen_due t_foreseen_gain : Nat → Int32) (t_foreseen_count t_foreseen_day t_foreseen_dues t_foreseen_draw : Int32) (u_items : Nat → Int64) (x1 : Int32) (x3 : Int32) (x4 : Int32) (x5 : Int32) (x6 : Int32) (x7 : Int32) : GJ l D ks (tyz cI cL cC cM cS) RX6 cX6_numbersBy 8 ((some .int)) { frames := 5, cells := 0, slots := 0, locals := 114 } (fun r : Int32 × (Nat → Int32) × (Nat → Int32) × (Nat → Int32) × (Nat → Int32) × (Nat → Int32) × (Nat → Int32) × (Nat → Int32) × (Nat → Int32) × Int32 × Int32 × Int32 × Int32 => (some (.int r.1), (w_X6nf_X4 cI cL cC cM cS a b t_now_kind t_now_used t_now_bay t_now_likes t_now_who t_now_lamp t_now_due t_now_gain t_now_count t_now_day t_now_dues t_now_draw r.2.1 r.2.2.1 r.2.2.2.1 r.2.2.2.2.1 r.2.2.2.2.2.1 r.2.2.2.2.2.2.1 r.2.2.2.2.2.2.2.1 r.2.2.2.2.2.2.2.2.1 r.2.2.2.2.2.2.2.2.2.1 r.2.2.2.2.2.2.2.2.2.2.1 r.2.2.2.2.2.2.2.2.2.2.2.1 r.2.2.2.2.2.2.2.2.2.2.2.2 t_hasImage u_items u_lane u_size))) (w_X6nf_X4 cI cL cC cM cS a b t_now_kind t_now_used t_now_bay t_now_likes t_now_who t_now_lamp t_now_due t_now_gain t_now_count t_now_day t_now_dues t_now_draw t_foreseen_kind t_foreseen_used t_foreseen_bay t_foreseen_likes t_foreseen_who t_foreseen_lamp t_foreseen_due t_foreseen_gain t_foreseen_count t_foreseen_day t_foreseen_dues t_foreseen_draw t_hasImage u_items u_lane u_size) 58 [some (.ref (a 0)), some (.int x1), some (.ref (b 0)), some (.int x3), some (.int x4), some (.int x5), some (.int x6), some (.int x7)] [] (f_X6_numbersBy_c58 k6 t_now_kind t_now_used t_now_bay t_now_likes t_now_who t_now_lamp t_now_due t_now_count t_now_day t_now_dues t_now_draw t_foreseen_kind t_foreseen_used t_foreseen_bay t_foreseen_likes t_foreseen_who t_foreseen_lamp t_foreseen_due t_foreseen_gain t_foreseen_count t_foreseen_day t_foreseen_dues t_foreseen_draw u_items x1 x3 x4 x5 x6 x7) := by
  unfold f_X6_numbersBy_c58
  refine G.iinc 1 (lv' := [some (.ref (a 0)), some (.int x1), some (.ref (b 0)), some (.int x3), some (.int x4), some (.int x5), some (.int x6), some (.int (x7 + 1))]) dX6_numbersBy_58 rfl (by decide) (by decide) (Nat.le_of_ble_eq_true rfl) rfl rfl ?_
  refine G.goto 6 dX6_numbersBy_61 (by decide) ?_
  exact hk6 t_now_kind t_now_used t_now_bay t_now_likes t_now_who t_now_lamp t_now_due t_now_count t_now_day t_now_dues t_now_draw t_foreseen_kind t_foreseen_used t_foreseen_bay t_foreseen_likes t_foreseen_who t_foreseen_lamp t_foreseen_due t_foreseen_gain t_foreseen_count t_foreseen_day t_foreseen_dues t_foreseen_draw u_items x1 x3 x4 x5 x6 (x7 + 1)
set_option maxHeartbeats 4000000 in
set_option maxRecDepth 100000 in
theorem g_X6_numbersBy_c6 (l : Launch) (D : va_G) (ks : Nat × Nat) (cI cL cC cM cS : ClassId) (a b : Nat → Nat) (t_now_gain : Nat → Int32) (t_hasImage u_lane u_size : Int32) : ∀ (n : Nat), ∀ (t_now_kind t_now_used t_now_bay t_now_likes t_now_who t_now_lamp t_now_due : Nat → Int32) (t_now_count t_now_day t_now_dues t_now_draw : Int32) (t_foreseen_kind t_foreseen_used t_foreseen_bay t_foreseen_likes t_foreseen_who t_foreseen_lamp t_foreseen_due t_foreseen_gain : Nat → Int32) (t_foreseen_count t_foreseen_day t_foreseen_dues t_foreseen_draw : Int32) (u_items : Nat → Int64) (x1 : Int32) (x3 : Int32) (x4 : Int32) (x5 : Int32) (x6 : Int32) (x7 : Int32), GJ l D ks (tyz cI cL cC cM cS) RX6 cX6_numbersBy 8 ((some .int)) { frames := 5, cells := 0, slots := 0, locals := 114 } (fun r : Int32 × (Nat → Int32) × (Nat → Int32) × (Nat → Int32) × (Nat → Int32) × (Nat → Int32) × (Nat → Int32) × (Nat → Int32) × (Nat → Int32) × Int32 × Int32 × Int32 × Int32 => (some (.int r.1), (w_X6nf_X4 cI cL cC cM cS a b t_now_kind t_now_used t_now_bay t_now_likes t_now_who t_now_lamp t_now_due t_now_gain t_now_count t_now_day t_now_dues t_now_draw r.2.1 r.2.2.1 r.2.2.2.1 r.2.2.2.2.1 r.2.2.2.2.2.1 r.2.2.2.2.2.2.1 r.2.2.2.2.2.2.2.1 r.2.2.2.2.2.2.2.2.1 r.2.2.2.2.2.2.2.2.2.1 r.2.2.2.2.2.2.2.2.2.2.1 r.2.2.2.2.2.2.2.2.2.2.2.1 r.2.2.2.2.2.2.2.2.2.2.2.2 t_hasImage u_items u_lane u_size))) (w_X6nf_X4 cI cL cC cM cS a b t_now_kind t_now_used t_now_bay t_now_likes t_now_who t_now_lamp t_now_due t_now_gain t_now_count t_now_day t_now_dues t_now_draw t_foreseen_kind t_foreseen_used t_foreseen_bay t_foreseen_likes t_foreseen_who t_foreseen_lamp t_foreseen_due t_foreseen_gain t_foreseen_count t_foreseen_day t_foreseen_dues t_foreseen_draw t_hasImage u_items u_lane u_size) 6 [some (.ref (a 0)), some (.int x1), some (.ref (b 0)), some (.int x3), some (.int x4), some (.int x5), some (.int x6), some (.int x7)] [] (f_X6_numbersBy_c6 n t_now_kind t_now_used t_now_bay t_now_likes t_now_who t_now_lamp t_now_due t_now_count t_now_day t_now_dues t_now_draw t_foreseen_kind t_foreseen_used t_foreseen_bay t_foreseen_likes t_foreseen_who t_foreseen_lamp t_foreseen_due t_foreseen_gain t_foreseen_count t_foreseen_day t_foreseen_dues t_foreseen_draw u_items x1 x3 x4 x5 x6 x7) := by
  intro n
  induction n with
  | zero =>
    intro t_now_kind t_now_used t_now_bay t_now_likes t_now_who t_now_lamp t_now_due t_now_count t_now_day t_now_dues t_now_draw t_foreseen_kind t_foreseen_used t_foreseen_bay t_foreseen_likes t_foreseen_who t_foreseen_lamp t_foreseen_due t_foreseen_gain t_foreseen_count t_foreseen_day t_foreseen_dues t_foreseen_draw u_items x1 x3 x4 x5 x6 x7
    exact G.no
  | succ n ih =>
    intro t_now_kind t_now_used t_now_bay t_now_likes t_now_who t_now_lamp t_now_due t_now_count t_now_day t_now_dues t_now_draw t_foreseen_kind t_foreseen_used t_foreseen_bay t_foreseen_likes t_foreseen_who t_foreseen_lamp t_foreseen_due t_foreseen_gain t_foreseen_count t_foreseen_day t_foreseen_dues t_foreseen_draw u_items x1 x3 x4 x5 x6 x7
    rw [f_X6_numbersBy_c6]
    refine G.iload dX6_numbersBy_6 rfl ?_
    refine G.bipush 99 dX6_numbersBy_8 (by decide) ?_
    refine G.icmp_gt 64 dX6_numbersBy_10 (by decide) (fun h10 => ?_) (fun h10 => ?_)
    · refine G.iload dX6_numbersBy_64 rfl ?_
      refine G.join (st := []) Value.int 76 (fun v76 => ?_) (fun hJ => ?_)
      · exact G.iret rfl rfl dX6_numbersBy_76
      · refine G.ite ?_
        refine G.if_eq 74 dX6_numbersBy_66 (by decide) (fun _ => ?_) (fun _ => ?_)
        · refine G.iload dX6_numbersBy_74 rfl ?_
          exact hJ _
        · refine G.bipush (-4) dX6_numbersBy_69 (by decide) ?_
          refine G.goto 76 dX6_numbersBy_71 (by decide) ?_
          exact hJ _
    · refine G.aload_n dX6_numbersBy_13 rfl ?_
      refine G.get fl_6_23 0 rfl rfl dX6_numbersBy_14 ?_
      refine G.aload_n dX6_numbersBy_17 rfl ?_
      refine G.get fl_6_10 0 rfl rfl dX6_numbersBy_18 ?_
      refine G.callV (st := []) (w' := fun r21 => (w_X6nf_X4 cI cL cC cM cS a b t_now_kind t_now_used t_now_bay t_now_likes t_now_who t_now_lamp t_now_due t_now_gain t_now_count t_now_day t_now_dues t_now_draw r21.1 r21.2.1 r21.2.2.1 r21.2.2.2.1 r21.2.2.2.2.1 r21.2.2.2.2.2.1 r21.2.2.2.2.2.2.1 t_foreseen_gain r21.2.2.2.2.2.2.2.1 r21.2.2.2.2.2.2.2.2.1 r21.2.2.2.2.2.2.2.2.2.1 r21.2.2.2.2.2.2.2.2.2.2 t_hasImage u_items u_lane u_size)) mv_X3_become lk_6_122 (c_X3_become l D ks cI cL cC cM cS (fun k => a (36 + k)) (fun k => a (1 + k)) t_foreseen_kind t_foreseen_used t_foreseen_bay t_foreseen_likes t_foreseen_who t_foreseen_lamp t_foreseen_due t_foreseen_gain t_foreseen_count t_foreseen_day t_foreseen_dues t_foreseen_draw t_now_kind t_now_used t_now_bay t_now_likes t_now_who t_now_lamp t_now_due t_now_gain t_now_count t_now_day t_now_dues t_now_draw) [10, 11, 12, 13, 14, 15, 16, 17, 18, 1, 2, 3, 4, 5, 6, 7, 8, 9] [0, 19, 20] [0, 12, 13, 14, 15, 16, 17, 18, 19, 20, 3, 4, 5, 6, 7, 8, 9, 10, 11, 1, 2] rfl rfl rfl rfl (by decide +kernel) (fun _ => rfl) rfl (by decide) (Nat.le_of_ble_eq_true rfl) dX6_numbersBy_21 (fun r21 => []) (fun _ => rfl) (fun r21 _ => ?_)
      refine G.aload_n dX6_numbersBy_24 rfl ?_
      refine G.get fl_6_23 0 rfl rfl dX6_numbersBy_25 ?_
      refine G.get fl_6_89 10 rfl rfl dX6_numbersBy_28 ?_
      refine G.iload_n dX6_numbersBy_31 rfl ?_
      refine G.iload dX6_numbersBy_32 rfl ?_
      refine G.chk (fun h34 => ?_)
      refine G.iastore (w' := (w_X6nf_X4 cI cL cC cM cS a b t_now_kind t_now_used t_now_bay t_now_likes t_now_who t_now_lamp t_now_due t_now_gain t_now_count t_now_day t_now_dues t_now_draw r21.1 (upd r21.2.1 x1.toNatClampNeg x7) r21.2.2.1 r21.2.2.2.1 r21.2.2.2.2.1 r21.2.2.2.2.2.1 r21.2.2.2.2.2.2.1 t_foreseen_gain r21.2.2.2.2.2.2.2.1 r21.2.2.2.2.2.2.2.2.1 r21.2.2.2.2.2.2.2.2.2.1 r21.2.2.2.2.2.2.2.2.2.2 t_hasImage u_items u_lane u_size)) 12 0 rfl rfl x1.toNatClampNeg rfl h34 rfl dX6_numbersBy_34 ?_
      refine G.aload_n dX6_numbersBy_35 rfl ?_
      refine G.iload_n dX6_numbersBy_36 rfl ?_
      refine G.aload_n dX6_numbersBy_37 rfl ?_
      refine G.iload_n dX6_numbersBy_38 rfl ?_
      refine G.iload dX6_numbersBy_39 rfl ?_
      refine G.callV (st := []) (w' := fun r41 => (w_X6nf_X4 cI cL cC cM cS a b t_now_kind t_now_used t_now_bay t_now_likes t_now_who t_now_lamp t_now_due t_now_gain t_now_count t_now_day t_now_dues t_now_draw r21.1 r41.2.1 r21.2.2.1 r21.2.2.2.1 r21.2.2.2.2.1 r21.2.2.2.2.2.1 r21.2.2.2.2.2.2.1 r41.2.2.1 r21.2.2.2.2.2.2.2.1 r41.2.2.2.1 r41.2.2.2.2 r21.2.2.2.2.2.2.2.2.2.2 t_hasImage u_items u_lane u_size)) mv_X6_goesBy lk_6_310 (c_X6_goesBy l D ks cI cL cC cM cS a b r21.1 (upd r21.2.1 x1.toNatClampNeg x7) r21.2.2.1 r21.2.2.2.1 r21.2.2.2.2.1 r21.2.2.2.2.2.1 r21.2.2.2.2.2.2.1 t_foreseen_gain r21.2.2.2.2.2.2.2.1 r21.2.2.2.2.2.2.2.2.1 r21.2.2.2.2.2.2.2.2.2.1 r21.2.2.2.2.2.2.2.2.2.2 t_hasImage u_items u_lane u_size x1 x3 x4) [0, 10, 11, 12, 13, 14, 15, 16, 17, 18, 19, 20] [1, 2, 3, 4, 5, 6, 7, 8, 9] [9, 0, 1, 2, 3, 4, 5, 6, 7, 8, 10, 11, 12, 13, 14, 15, 16, 17, 18, 19, 20] rfl rfl rfl rfl (by decide +kernel) (fun _ => rfl) rfl (by decide) (Nat.le_of_ble_eq_true rfl) dX6_numbersBy_41 (fun r41 => [.int r41.1]) (fun _ => rfl) (fun r41 _ => ?_)
      refine G.if_eq 58 dX6_numbersBy_44 (by decide) (fun h44 => ?_) (fun h44 => ?_)
      · exact g_X6_numbersBy_c58 l D ks cI cL cC cM cS a b t_now_gain t_hasImage u_lane u_size (f_X6_numbersBy_c6 n) ih t_now_kind t_now_used t_now_bay t_now_likes t_now_who t_now_lamp t_now_due t_now_count t_now_day t_now_dues t_now_draw r21.1 r41.2.1 r21.2.2.1 r21.2.2.2.1 r21.2.2.2.2.1 r21.2.2.2.2.2.1 r21.2.2.2.2.2.2.1 r41.2.2.1 r21.2.2.2.2.2.2.2.1 r41.2.2.2.1 r41.2.2.2.2 r21.2.2.2.2.2.2.2.2.2.2 u_items x1 x3 x4 x5 x6 x7
      · refine G.iload dX6_numbersBy_47 rfl ?_
        refine G.if_eq 55 dX6_numbersBy_49 (by decide) (fun h49 => ?_) (fun h49 => ?_)
        · refine G.iinc 1 (lv' := [some (.ref (a 0)), some (.int x1), some (.ref (b 0)), some (.int x3), some (.int x4), some (.int x5), some (.int (x6 + 1)), some (.int x7)]) dX6_numbersBy_55 rfl (by decide) (by decide) (Nat.le_of_ble_eq_true rfl) rfl rfl ?_
          exact g_X6_numbersBy_c58 l D ks cI cL cC cM cS a b t_now_gain t_hasImage u_lane u_size (f_X6_numbersBy_c6 n) ih t_now_kind t_now_used t_now_bay t_now_likes t_now_who t_now_lamp t_now_due t_now_count t_now_day t_now_dues t_now_draw r21.1 r41.2.1 r21.2.2.1 r21.2.2.2.1 r21.2.2.2.2.1 r21.2.2.2.2.2.1 r21.2.2.2.2.2.2.1 r41.2.2.1 r21.2.2.2.2.2.2.2.1 r41.2.2.2.1 r41.2.2.2.2 r21.2.2.2.2.2.2.2.2.2.2 u_items x1 x3 x4 x5 (x6 + 1) x7
        · refine G.iload dX6_numbersBy_52 rfl ?_
          exact G.iret rfl rfl dX6_numbersBy_54
set_option maxHeartbeats 4000000 in
set_option maxRecDepth 100000 in
theorem c_X6_numbersBy (l : Launch) (D : va_G) (ks : Nat × Nat) (cI cL cC cM cS : ClassId) (a b : Nat → Nat) (t_now_kind t_now_used t_now_bay t_now_likes t_now_who t_now_lamp t_now_due t_now_gain : Nat → Int32) (t_now_count t_now_day t_now_dues t_now_draw : Int32) (t_foreseen_kind t_foreseen_used t_foreseen_bay t_foreseen_likes t_foreseen_who t_foreseen_lamp t_foreseen_due t_foreseen_gain : Nat → Int32) (t_foreseen_count t_foreseen_day t_foreseen_dues t_foreseen_draw t_hasImage : Int32) (u_items : Nat → Int64) (u_lane u_size : Int32) (x1 : Int32) (x3 : Int32) (x4 : Int32) (x5 : Int32) : MT l D ks (tyz cI cL cC cM cS) yX6_numbersBy cX6_numbersBy 8 ((some .int)) { frames := 5, cells := 0, slots := 0, locals := 114 } [.ref (a 0), .int x1, .ref (b 0), .int x3, .int x4, .int x5] (w_X6nf_X4 cI cL cC cM cS a b t_now_kind t_now_used t_now_bay t_now_likes t_now_who t_now_lamp t_now_due t_now_gain t_now_count t_now_day t_now_dues t_now_draw t_foreseen_kind t_foreseen_used t_foreseen_bay t_foreseen_likes t_foreseen_who t_foreseen_lamp t_foreseen_due t_foreseen_gain t_foreseen_count t_foreseen_day t_foreseen_dues t_foreseen_draw t_hasImage u_items u_lane u_size) (fun r : Int32 × (Nat → Int32) × (Nat → Int32) × (Nat → Int32) × (Nat → Int32) × (Nat → Int32) × (Nat → Int32) × (Nat → Int32) × (Nat → Int32) × Int32 × Int32 × Int32 × Int32 => (some (.int r.1), (w_X6nf_X4 cI cL cC cM cS a b t_now_kind t_now_used t_now_bay t_now_likes t_now_who t_now_lamp t_now_due t_now_gain t_now_count t_now_day t_now_dues t_now_draw r.2.1 r.2.2.1 r.2.2.2.1 r.2.2.2.2.1 r.2.2.2.2.2.1 r.2.2.2.2.2.2.1 r.2.2.2.2.2.2.2.1 r.2.2.2.2.2.2.2.2.1 r.2.2.2.2.2.2.2.2.2.1 r.2.2.2.2.2.2.2.2.2.2.1 r.2.2.2.2.2.2.2.2.2.2.2.1 r.2.2.2.2.2.2.2.2.2.2.2.2 t_hasImage u_items u_lane u_size))) (f_X6_numbersBy t_now_kind t_now_used t_now_bay t_now_likes t_now_who t_now_lamp t_now_due t_now_count t_now_day t_now_dues t_now_draw t_foreseen_kind t_foreseen_used t_foreseen_bay t_foreseen_likes t_foreseen_who t_foreseen_lamp t_foreseen_due t_foreseen_gain t_foreseen_count t_foreseen_day t_foreseen_dues t_foreseen_draw u_items x1 x3 x4 x5) := by
  refine MT.of 2 [some (.ref (a 0)), some (.int x1), some (.ref (b 0)), some (.int x3), some (.int x4), some (.int x5), none, none] (by decide) (Nat.le_of_ble_eq_true rfl) rfl ?_
  unfold f_X6_numbersBy
  refine G.iconst 0 dX6_numbersBy_0 (by decide) ?_
  refine G.istore (lv' := [some (.ref (a 0)), some (.int x1), some (.ref (b 0)), some (.int x3), some (.int x4), some (.int x5), some (.int 0), none]) dX6_numbersBy_1 (by decide) (Nat.le_of_ble_eq_true rfl) rfl rfl ?_
  refine G.iconst 0 dX6_numbersBy_3 (by decide) ?_
  refine G.istore (lv' := [some (.ref (a 0)), some (.int x1), some (.ref (b 0)), some (.int x3), some (.int x4), some (.int x5), some (.int 0), some (.int 0)]) dX6_numbersBy_4 (by decide) (Nat.le_of_ble_eq_true rfl) rfl rfl ?_
  exact g_X6_numbersBy_c6 l D ks cI cL cC cM cS a b t_now_gain t_hasImage u_lane u_size fu t_now_kind t_now_used t_now_bay t_now_likes t_now_who t_now_lamp t_now_due t_now_count t_now_day t_now_dues t_now_draw t_foreseen_kind t_foreseen_used t_foreseen_bay t_foreseen_likes t_foreseen_who t_foreseen_lamp t_foreseen_due t_foreseen_gain t_foreseen_count t_foreseen_day t_foreseen_dues t_foreseen_draw u_items x1 x3 x4 x5 0 0
set_option maxHeartbeats 4000000 in
set_option maxRecDepth 100000 in
theorem c_X6_looks (l : Launch) (D : va_G) (ks : Nat × Nat) (cI cL cC cM cS : ClassId) (a : Nat → Nat) (t_now_kind t_now_used t_now_bay t_now_likes t_now_who t_now_lamp t_now_due t_now_gain : Nat → Int32) (t_now_count t_now_day t_now_dues t_now_draw : Int32) (t_foreseen_kind t_foreseen_used t_foreseen_bay t_foreseen_likes t_foreseen_who t_foreseen_lamp t_foreseen_due t_foreseen_gain : Nat → Int32) (t_foreseen_count t_foreseen_day t_foreseen_dues t_foreseen_draw t_hasImage : Int32) (t_sheets_items : Nat → Nat → Int64) (t_sheets_lane t_sheets_size : Nat → Int32) (x1 : Int32) (x2 : Int32) (x3 : Int32) (x4 : Int32) (x5 : Int32) (x6 : Int32) : MT l D ks (tyz cI cL cC cM cS) yX6_looks cX6_looks 8 ((some .int)) { frames := 6, cells := 0, slots := 0, locals := 141 } [.ref (a 0), .int x1, .int x2, .int x3, .int x4, .int x5, .int x6] (w_X6nfs cI cL cC cM cS a t_now_kind t_now_used t_now_bay t_now_likes t_now_who t_now_lamp t_now_due t_now_gain t_now_count t_now_day t_now_dues t_now_draw t_foreseen_kind t_foreseen_used t_foreseen_bay t_foreseen_likes t_foreseen_who t_foreseen_lamp t_foreseen_due t_foreseen_gain t_foreseen_count t_foreseen_day t_foreseen_dues t_foreseen_draw t_hasImage t_sheets_items t_sheets_lane t_sheets_size) (fun r : Int32 × (Nat → Int32) × (Nat → Int32) × (Nat → Int32) × (Nat → Int32) × (Nat → Int32) × (Nat → Int32) × (Nat → Int32) × (Nat → Int32) × Int32 × Int32 × Int32 × Int32 => (some (.int r.1), (w_X6nfs cI cL cC cM cS a t_now_kind t_now_used t_now_bay t_now_likes t_now_who t_now_lamp t_now_due t_now_gain t_now_count t_now_day t_now_dues t_now_draw r.2.1 r.2.2.1 r.2.2.2.1 r.2.2.2.2.1 r.2.2.2.2.2.1 r.2.2.2.2.2.2.1 r.2.2.2.2.2.2.2.1 r.2.2.2.2.2.2.2.2.1 r.2.2.2.2.2.2.2.2.2.1 r.2.2.2.2.2.2.2.2.2.2.1 r.2.2.2.2.2.2.2.2.2.2.2.1 r.2.2.2.2.2.2.2.2.2.2.2.2 t_hasImage t_sheets_items t_sheets_lane t_sheets_size))) (f_X6_looks t_now_kind t_now_used t_now_bay t_now_likes t_now_who t_now_lamp t_now_due t_now_count t_now_day t_now_dues t_now_draw t_foreseen_kind t_foreseen_used t_foreseen_bay t_foreseen_likes t_foreseen_who t_foreseen_lamp t_foreseen_due t_foreseen_gain t_foreseen_count t_foreseen_day t_foreseen_dues t_foreseen_draw t_sheets_items t_sheets_lane t_sheets_size x1 x2 x3 x4 x5 x6) := by
  refine MT.of 1 [some (.ref (a 0)), some (.int x1), some (.int x2), some (.int x3), some (.int x4), some (.int x5), some (.int x6), none] (by decide) (Nat.le_of_ble_eq_true rfl) rfl ?_
  unfold f_X6_looks
  refine G.aload_n dX6_looks_0 rfl ?_
  refine G.get fl_6_10 0 rfl rfl dX6_looks_1 ?_
  refine G.iload_n dX6_looks_4 rfl ?_
  refine G.callV (st := []) (w' := fun r5 => (w_X6nfs cI cL cC cM cS a t_now_kind t_now_used t_now_bay t_now_likes t_now_who t_now_lamp t_now_due t_now_gain t_now_count t_now_day t_now_dues t_now_draw t_foreseen_kind t_foreseen_used t_foreseen_bay t_foreseen_likes t_foreseen_who t_foreseen_lamp t_foreseen_due t_foreseen_gain t_foreseen_count t_foreseen_day t_foreseen_dues t_foreseen_draw t_hasImage t_sheets_items t_sheets_lane t_sheets_size)) mv_X3_has lk_6_83 (c_X3_has l D ks cI cL cC cM cS (fun k => a (1 + k)) t_now_kind t_now_used t_now_bay t_now_likes t_now_who t_now_lamp t_now_due t_now_gain t_now_count t_now_day t_now_dues t_now_draw x1) [1, 2, 3, 4, 5, 6, 7, 8, 9] [0, 10, 11, 12, 13, 14, 15, 16, 17, 18, 19, 20, 21, 22, 23, 24, 25, 26, 27] [0, 19, 20, 21, 22, 23, 24, 25, 26, 27, 1, 2, 3, 4, 5, 6, 7, 8, 9, 10, 11, 12, 13, 14, 15, 16, 17, 18] rfl rfl rfl rfl (by decide +kernel) (fun _ => rfl) rfl (by decide) (Nat.le_of_ble_eq_true rfl) dX6_looks_5 (fun r5 => [.int r5]) (fun _ => rfl) (fun r5 _ => ?_)
  refine G.if_eq 46 dX6_looks_8 (by decide) (fun h8 => ?_) (fun h8 => ?_)
  · refine G.iconst (-1) dX6_looks_46 (by decide) ?_
    exact G.iret rfl rfl dX6_looks_47
  · refine G.iload_n dX6_looks_11 rfl ?_
    refine G.callS (st := []) (w' := fun r12 => (w_X6nfs cI cL cC cM cS a t_now_kind t_now_used t_now_bay t_now_likes t_now_who t_now_lamp t_now_due t_now_gain t_now_count t_now_day t_now_dues t_now_draw t_foreseen_kind t_foreseen_used t_foreseen_bay t_foreseen_likes t_foreseen_who t_foreseen_lamp t_foreseen_due t_foreseen_gain t_foreseen_count t_foreseen_day t_foreseen_dues t_foreseen_draw t_hasImage t_sheets_items t_sheets_lane t_sheets_size)) ms_X6_isSheet lk_6_231 (c_X6_isSheet l D ks cI cL cC cM cS x2) [] [0, 1, 2, 3, 4, 5, 6, 7, 8, 9, 10, 11, 12, 13, 14, 15, 16, 17, 18, 19, 20, 21, 22, 23, 24, 25, 26, 27] [0, 1, 2, 3, 4, 5, 6, 7, 8, 9, 10, 11, 12, 13, 14, 15, 16, 17, 18, 19, 20, 21, 22, 23, 24, 25, 26, 27] rfl rfl rfl rfl (by decide +kernel) (fun _ => rfl) (by decide) (Nat.le_of_ble_eq_true rfl) dX6_looks_12 (fun r12 => [.int r12]) (fun _ => rfl) (fun r12 _ => ?_)
    refine G.if_eq 46 dX6_looks_15 (by decide) (fun h15 => ?_) (fun h15 => ?_)
    · refine G.iconst (-1) dX6_looks_46 (by decide) ?_
      exact G.iret rfl rfl dX6_looks_47
    · refine G.iload_n dX6_looks_18 rfl ?_
      refine G.callS (st := []) (w' := fun r19 => (w_X6nfs cI cL cC cM cS a t_now_kind t_now_used t_now_bay t_now_likes t_now_who t_now_lamp t_now_due t_now_gain t_now_count t_now_day t_now_dues t_now_draw t_foreseen_kind t_foreseen_used t_foreseen_bay t_foreseen_likes t_foreseen_who t_foreseen_lamp t_foreseen_due t_foreseen_gain t_foreseen_count t_foreseen_day t_foreseen_dues t_foreseen_draw t_hasImage t_sheets_items t_sheets_lane t_sheets_size)) ms_X6_isLane lk_6_234 (c_X6_isLane l D ks cI cL cC cM cS x3) [] [0, 1, 2, 3, 4, 5, 6, 7, 8, 9, 10, 11, 12, 13, 14, 15, 16, 17, 18, 19, 20, 21, 22, 23, 24, 25, 26, 27] [0, 1, 2, 3, 4, 5, 6, 7, 8, 9, 10, 11, 12, 13, 14, 15, 16, 17, 18, 19, 20, 21, 22, 23, 24, 25, 26, 27] rfl rfl rfl rfl (by decide +kernel) (fun _ => rfl) (by decide) (Nat.le_of_ble_eq_true rfl) dX6_looks_19 (fun r19 => [.int r19]) (fun _ => rfl) (fun r19 _ => ?_)
      refine G.if_eq 46 dX6_looks_22 (by decide) (fun h22 => ?_) (fun h22 => ?_)
      · refine G.iconst (-1) dX6_looks_46 (by decide) ?_
        exact G.iret rfl rfl dX6_looks_47
      · refine G.iload dX6_looks_25 rfl ?_
        refine G.iconst 1 dX6_looks_27 (by decide) ?_
        refine G.bipush 8 dX6_looks_28 (by decide) ?_
        refine G.callS (st := []) (w' := fun r30 => (w_X6nfs cI cL cC cM cS a t_now_kind t_now_used t_now_bay t_now_likes t_now_who t_now_lamp t_now_due t_now_gain t_now_count t_now_day t_now_dues t_now_draw t_foreseen_kind t_foreseen_used t_foreseen_bay t_foreseen_likes t_foreseen_who t_foreseen_lamp t_foreseen_due t_foreseen_gain t_foreseen_count t_foreseen_day t_foreseen_dues t_foreseen_draw t_hasImage t_sheets_items t_sheets_lane t_sheets_size)) ms_X6_within lk_6_53 (c_X6_within l D ks cI cL cC cM cS x5 1 8) [] [0, 1, 2, 3, 4, 5, 6, 7, 8, 9, 10, 11, 12, 13, 14, 15, 16, 17, 18, 19, 20, 21, 22, 23, 24, 25, 26, 27] [0, 1, 2, 3, 4, 5, 6, 7, 8, 9, 10, 11, 12, 13, 14, 15, 16, 17, 18, 19, 20, 21, 22, 23, 24, 25, 26, 27] rfl rfl rfl rfl (by decide +kernel) (fun _ => rfl) (by decide) (Nat.le_of_ble_eq_true rfl) dX6_looks_30 (fun r30 => [.int r30]) (fun _ => rfl) (fun r30 _ => ?_)
        refine G.if_eq 46 dX6_looks_33 (by decide) (fun h33 => ?_) (fun h33 => ?_)
        · refine G.iconst (-1) dX6_looks_46 (by decide) ?_
          exact G.iret rfl rfl dX6_looks_47
        · refine G.iload dX6_looks_36 rfl ?_
          refine G.iconst 0 dX6_looks_38 (by decide) ?_
          refine G.iconst 2 dX6_looks_39 (by decide) ?_
          refine G.callS (st := []) (w' := fun r40 => (w_X6nfs cI cL cC cM cS a t_now_kind t_now_used t_now_bay t_now_likes t_now_who t_now_lamp t_now_due t_now_gain t_now_count t_now_day t_now_dues t_now_draw t_foreseen_kind t_foreseen_used t_foreseen_bay t_foreseen_likes t_foreseen_who t_foreseen_lamp t_foreseen_due t_foreseen_gain t_foreseen_count t_foreseen_day t_foreseen_dues t_foreseen_draw t_hasImage t_sheets_items t_sheets_lane t_sheets_size)) ms_X6_within lk_6_53 (c_X6_within l D ks cI cL cC cM cS x6 0 2) [] [0, 1, 2, 3, 4, 5, 6, 7, 8, 9, 10, 11, 12, 13, 14, 15, 16, 17, 18, 19, 20, 21, 22, 23, 24, 25, 26, 27] [0, 1, 2, 3, 4, 5, 6, 7, 8, 9, 10, 11, 12, 13, 14, 15, 16, 17, 18, 19, 20, 21, 22, 23, 24, 25, 26, 27] rfl rfl rfl rfl (by decide +kernel) (fun _ => rfl) (by decide) (Nat.le_of_ble_eq_true rfl) dX6_looks_40 (fun r40 => [.int r40]) (fun _ => rfl) (fun r40 _ => ?_)
          refine G.if_ne 48 dX6_looks_43 (by decide) (fun h43 => ?_) (fun h43 => ?_)
          · refine G.aload_n dX6_looks_48 rfl ?_
            refine G.get fl_6_48 0 rfl rfl dX6_looks_49 ?_
            refine G.iload_n dX6_looks_52 rfl ?_
            refine G.chk (fun h53 => ?_)
            have hl53 := inb_lt h53
            generalize hj53 : x2.toNatClampNeg = j53 at hl53 ⊢
            rcases g_or4 hl53 with rfl | rfl | rfl | rfl
            · refine G.aaload 19 4 rfl rfl h53 (by rw [hj53]) dX6_looks_53 ?_
              refine G.iload_n dX6_looks_54 rfl ?_
              refine G.iload dX6_looks_55 rfl ?_
              refine G.iload dX6_looks_57 rfl ?_
              refine G.callV (st := []) (w' := fun r59 => (w_X6nfs cI cL cC cM cS a t_now_kind t_now_used t_now_bay t_now_likes t_now_who t_now_lamp t_now_due t_now_gain t_now_count t_now_day t_now_dues t_now_draw t_foreseen_kind t_foreseen_used t_foreseen_bay t_foreseen_likes t_foreseen_who t_foreseen_lamp t_foreseen_due t_foreseen_gain t_foreseen_count t_foreseen_day t_foreseen_dues t_foreseen_draw t_hasImage t_sheets_items t_sheets_lane t_sheets_size)) mv_X4_refusal lk_6_237 (c_X4_refusal l D ks cI cL cC cM cS (fun k => a (86 + k)) (t_sheets_items 0) (t_sheets_lane 0) (t_sheets_size 0) x3 x4 x5) [20, 21] [0, 1, 2, 3, 4, 5, 6, 7, 8, 9, 10, 11, 12, 13, 14, 15, 16, 17, 18, 19, 22, 23, 24, 25, 26, 27] [0, 1, 2, 3, 4, 5, 6, 7, 8, 9, 10, 11, 12, 13, 14, 15, 16, 17, 18, 19, 26, 27, 20, 21, 22, 23, 24, 25] rfl rfl rfl rfl (by decide +kernel) (fun _ => rfl) rfl (by decide) (Nat.le_of_ble_eq_true rfl) dX6_looks_59 (fun r59 => [.int r59]) (fun _ => rfl) (fun r59 _ => ?_)
              refine G.istore (lv' := [some (.ref (a 0)), some (.int x1), some (.int x2), some (.int x3), some (.int x4), some (.int x5), some (.int x6), some (.int r59)]) dX6_looks_62 (by decide) (Nat.le_of_ble_eq_true rfl) rfl rfl ?_
              refine G.iload dX6_looks_64 rfl ?_
              refine G.if_ge 72 dX6_looks_66 (by decide) (fun h66 => ?_) (fun h66 => ?_)
              · refine G.iload dX6_looks_72 rfl ?_
                refine G.if_ne 93 dX6_looks_74 (by decide) (fun h74 => ?_) (fun h74 => ?_)
                · refine G.aload_n dX6_looks_93 rfl ?_
                  refine G.iload_n dX6_looks_94 rfl ?_
                  refine G.aload_n dX6_looks_95 rfl ?_
                  refine G.get fl_6_48 0 rfl rfl dX6_looks_96 ?_
                  refine G.iload_n dX6_looks_99 rfl ?_
                  refine G.aaload 19 4 rfl rfl h53 (by rw [hj53]) dX6_looks_100 ?_
                  refine G.iload dX6_looks_101 rfl ?_
                  refine G.iload dX6_looks_103 rfl ?_
                  refine G.iload dX6_looks_105 rfl ?_
                  refine G.iconst 2 dX6_looks_107 (by decide) ?_
                  refine G.join (st := [.int x5, .int x4, .ref (a 86), .int x1, .ref (a 0)]) Value.int 116 (fun v116 => ?_) (fun hJ => ?_)
                  · refine G.callV (st := []) (w' := fun r116 => (w_X6nfs cI cL cC cM cS a t_now_kind t_now_used t_now_bay t_now_likes t_now_who t_now_lamp t_now_due t_now_gain t_now_count t_now_day t_now_dues t_now_draw r116.2.1 r116.2.2.1 r116.2.2.2.1 r116.2.2.2.2.1 r116.2.2.2.2.2.1 r116.2.2.2.2.2.2.1 r116.2.2.2.2.2.2.2.1 r116.2.2.2.2.2.2.2.2.1 r116.2.2.2.2.2.2.2.2.2.1 r116.2.2.2.2.2.2.2.2.2.2.1 r116.2.2.2.2.2.2.2.2.2.2.2.1 r116.2.2.2.2.2.2.2.2.2.2.2.2 t_hasImage t_sheets_items t_sheets_lane t_sheets_size)) mv_X6_numbersBy lk_6_245 (c_X6_numbersBy l D ks cI cL cC cM cS a (fun k => a (86 + k)) t_now_kind t_now_used t_now_bay t_now_likes t_now_who t_now_lamp t_now_due t_now_gain t_now_count t_now_day t_now_dues t_now_draw t_foreseen_kind t_foreseen_used t_foreseen_bay t_foreseen_likes t_foreseen_who t_foreseen_lamp t_foreseen_due t_foreseen_gain t_foreseen_count t_foreseen_day t_foreseen_dues t_foreseen_draw t_hasImage (t_sheets_items 0) (t_sheets_lane 0) (t_sheets_size 0) x1 x4 x5 v116) [0, 1, 2, 3, 4, 5, 6, 7, 8, 9, 10, 11, 12, 13, 14, 15, 16, 17, 18, 20, 21] [19, 22, 23, 24, 25, 26, 27] [7, 8, 9, 10, 11, 12, 13, 14, 15, 16, 17, 18, 19, 20, 21, 22, 23, 24, 25, 0, 26, 27, 1, 2, 3, 4, 5, 6] rfl rfl rfl rfl (by decide +kernel) (fun _ => rfl) rfl (by decide) (Nat.le_of_ble_eq_true rfl) dX6_looks_116 (fun r116 => [.int r116.1]) (fun _ => rfl) (fun r116 _ => ?_)
                    exact G.iret rfl rfl dX6_looks_119
                  · refine G.ite ?_
                    refine G.icmp_ne 115 dX6_looks_108 (by decide) (fun _ => ?_) (fun _ => ?_)
                    · refine G.iconst 0 dX6_looks_115 (by decide) ?_
                      exact hJ _
                    · refine G.iconst 1 dX6_looks_111 (by decide) ?_
                      refine G.goto 116 dX6_looks_112 (by decide) ?_
                      exact hJ _
                · refine G.aload_n dX6_looks_77 rfl ?_
                  refine G.iload_n dX6_looks_78 rfl ?_
                  refine G.aload_n dX6_looks_79 rfl ?_
                  refine G.get fl_6_48 0 rfl rfl dX6_looks_80 ?_
                  refine G.iload_n dX6_looks_83 rfl ?_
                  refine G.aaload 19 4 rfl rfl h53 (by rw [hj53]) dX6_looks_84 ?_
                  refine G.iload dX6_looks_85 rfl ?_
                  refine G.iload dX6_looks_87 rfl ?_
                  refine G.callV (st := []) (w' := fun r89 => (w_X6nfs cI cL cC cM cS a t_now_kind t_now_used t_now_bay t_now_likes t_now_who t_now_lamp t_now_due t_now_gain t_now_count t_now_day t_now_dues t_now_draw r89.2.1 r89.2.2.1 r89.2.2.2.1 r89.2.2.2.2.1 r89.2.2.2.2.2.1 r89.2.2.2.2.2.2.1 r89.2.2.2.2.2.2.2.1 r89.2.2.2.2.2.2.2.2.1 r89.2.2.2.2.2.2.2.2.2.1 r89.2.2.2.2.2.2.2.2.2.2.1 r89.2.2.2.2.2.2.2.2.2.2.2.1 r89.2.2.2.2.2.2.2.2.2.2.2.2 t_hasImage t_sheets_items t_sheets_lane t_sheets_size)) mv_X6_kindsBy lk_6_241 (c_X6_kindsBy l D ks cI cL cC cM cS a (fun k => a (86 + k)) t_now_kind t_now_used t_now_bay t_now_likes t_now_who t_now_lamp t_now_due t_now_gain t_now_count t_now_day t_now_dues t_now_draw t_foreseen_kind t_foreseen_used t_foreseen_bay t_foreseen_likes t_foreseen_who t_foreseen_lamp t_foreseen_due t_foreseen_gain t_foreseen_count t_foreseen_day t_foreseen_dues t_foreseen_draw t_hasImage (t_sheets_items 0) (t_sheets_lane 0) (t_sheets_size 0) x1 x4 x5) [0, 1, 2, 3, 4, 5, 6, 7, 8, 9, 10, 11, 12, 13, 14, 15, 16, 17, 18, 20, 21] [19, 22, 23, 24, 25, 26, 27] [7, 8, 9, 10, 11, 12, 13, 14, 15, 16, 17, 18, 19, 20, 21, 22, 23, 24, 25, 0, 26, 27, 1, 2, 3, 4, 5, 6] rfl rfl rfl rfl (by decide +kernel) (fun _ => rfl) rfl (by decide) (Nat.le_of_ble_eq_true rfl) dX6_looks_89 (fun r89 => [.int r89.1]) (fun _ => rfl) (fun r89 _ => ?_)
                  exact G.iret rfl rfl dX6_looks_92
              · refine G.iload dX6_looks_69 rfl ?_
                exact G.iret rfl rfl dX6_looks_71
            · refine G.aaload 19 4 rfl rfl h53 (by rw [hj53]) dX6_looks_53 ?_
              refine G.iload_n dX6_looks_54 rfl ?_
              refine G.iload dX6_looks_55 rfl ?_
              refine G.iload dX6_looks_57 rfl ?_
              refine G.callV (st := []) (w' := fun r59 => (w_X6nfs cI cL cC cM cS a t_now_kind t_now_used t_now_bay t_now_likes t_now_who t_now_lamp t_now_due t_now_gain t_now_count t_now_day t_now_dues t_now_draw t_foreseen_kind t_foreseen_used t_foreseen_bay t_foreseen_likes t_foreseen_who t_foreseen_lamp t_foreseen_due t_foreseen_gain t_foreseen_count t_foreseen_day t_foreseen_dues t_foreseen_draw t_hasImage t_sheets_items t_sheets_lane t_sheets_size)) mv_X4_refusal lk_6_237 (c_X4_refusal l D ks cI cL cC cM cS (fun k => a (88 + k)) (t_sheets_items 1) (t_sheets_lane 1) (t_sheets_size 1) x3 x4 x5) [22, 23] [0, 1, 2, 3, 4, 5, 6, 7, 8, 9, 10, 11, 12, 13, 14, 15, 16, 17, 18, 19, 20, 21, 24, 25, 26, 27] [0, 1, 2, 3, 4, 5, 6, 7, 8, 9, 10, 11, 12, 13, 14, 15, 16, 17, 18, 19, 20, 21, 26, 27, 22, 23, 24, 25] rfl rfl rfl rfl (by decide +kernel) (fun _ => rfl) rfl (by decide) (Nat.le_of_ble_eq_true rfl) dX6_looks_59 (fun r59 => [.int r59]) (fun _ => rfl) (fun r59 _ => ?_)
              refine G.istore (lv' := [some (.ref (a 0)), some (.int x1), some (.int x2), some (.int x3), some (.int x4), some (.int x5), some (.int x6), some (.int r59)]) dX6_looks_62 (by decide) (Nat.le_of_ble_eq_true rfl) rfl rfl ?_
              refine G.iload dX6_looks_64 rfl ?_
              refine G.if_ge 72 dX6_looks_66 (by decide) (fun h66 => ?_) (fun h66 => ?_)
              · refine G.iload dX6_looks_72 rfl ?_
                refine G.if_ne 93 dX6_looks_74 (by decide) (fun h74 => ?_) (fun h74 => ?_)
                · refine G.aload_n dX6_looks_93 rfl ?_
                  refine G.iload_n dX6_looks_94 rfl ?_
                  refine G.aload_n dX6_looks_95 rfl ?_
                  refine G.get fl_6_48 0 rfl rfl dX6_looks_96 ?_
                  refine G.iload_n dX6_looks_99 rfl ?_
                  refine G.aaload 19 4 rfl rfl h53 (by rw [hj53]) dX6_looks_100 ?_
                  refine G.iload dX6_looks_101 rfl ?_
                  refine G.iload dX6_looks_103 rfl ?_
                  refine G.iload dX6_looks_105 rfl ?_
                  refine G.iconst 2 dX6_looks_107 (by decide) ?_
                  refine G.join (st := [.int x5, .int x4, .ref (a 88), .int x1, .ref (a 0)]) Value.int 116 (fun v116 => ?_) (fun hJ => ?_)
                  · refine G.callV (st := []) (w' := fun r116 => (w_X6nfs cI cL cC cM cS a t_now_kind t_now_used t_now_bay t_now_likes t_now_who t_now_lamp t_now_due t_now_gain t_now_count t_now_day t_now_dues t_now_draw r116.2.1 r116.2.2.1 r116.2.2.2.1 r116.2.2.2.2.1 r116.2.2.2.2.2.1 r116.2.2.2.2.2.2.1 r116.2.2.2.2.2.2.2.1 r116.2.2.2.2.2.2.2.2.1 r116.2.2.2.2.2.2.2.2.2.1 r116.2.2.2.2.2.2.2.2.2.2.1 r116.2.2.2.2.2.2.2.2.2.2.2.1 r116.2.2.2.2.2.2.2.2.2.2.2.2 t_hasImage t_sheets_items t_sheets_lane t_sheets_size)) mv_X6_numbersBy lk_6_245 (c_X6_numbersBy l D ks cI cL cC cM cS a (fun k => a (88 + k)) t_now_kind t_now_used t_now_bay t_now_likes t_now_who t_now_lamp t_now_due t_now_gain t_now_count t_now_day t_now_dues t_now_draw t_foreseen_kind t_foreseen_used t_foreseen_bay t_foreseen_likes t_foreseen_who t_foreseen_lamp t_foreseen_due t_foreseen_gain t_foreseen_count t_foreseen_day t_foreseen_dues t_foreseen_draw t_hasImage (t_sheets_items 1) (t_sheets_lane 1) (t_sheets_size 1) x1 x4 x5 v116) [0, 1, 2, 3, 4, 5, 6, 7, 8, 9, 10, 11, 12, 13, 14, 15, 16, 17, 18, 22, 23] [19, 20, 21, 24, 25, 26, 27] [7, 8, 9, 10, 11, 12, 13, 14, 15, 16, 17, 18, 19, 20, 21, 22, 23, 24, 25, 0, 1, 2, 26, 27, 3, 4, 5, 6] rfl rfl rfl rfl (by decide +kernel) (fun _ => rfl) rfl (by decide) (Nat.le_of_ble_eq_true rfl) dX6_looks_116 (fun r116 => [.int r116.1]) (fun _ => rfl) (fun r116 _ => ?_)
                    exact G.iret rfl rfl dX6_looks_119
                  · refine G.ite ?_
                    refine G.icmp_ne 115 dX6_looks_108 (by decide) (fun _ => ?_) (fun _ => ?_)
                    · refine G.iconst 0 dX6_looks_115 (by decide) ?_
                      exact hJ _
                    · refine G.iconst 1 dX6_looks_111 (by decide) ?_
                      refine G.goto 116 dX6_looks_112 (by decide) ?_
                      exact hJ _
                · refine G.aload_n dX6_looks_77 rfl ?_
                  refine G.iload_n dX6_looks_78 rfl ?_
                  refine G.aload_n dX6_looks_79 rfl ?_
                  refine G.get fl_6_48 0 rfl rfl dX6_looks_80 ?_
                  refine G.iload_n dX6_looks_83 rfl ?_
                  refine G.aaload 19 4 rfl rfl h53 (by rw [hj53]) dX6_looks_84 ?_
                  refine G.iload dX6_looks_85 rfl ?_
                  refine G.iload dX6_looks_87 rfl ?_
                  refine G.callV (st := []) (w' := fun r89 => (w_X6nfs cI cL cC cM cS a t_now_kind t_now_used t_now_bay t_now_likes t_now_who t_now_lamp t_now_due t_now_gain t_now_count t_now_day t_now_dues t_now_draw r89.2.1 r89.2.2.1 r89.2.2.2.1 r89.2.2.2.2.1 r89.2.2.2.2.2.1 r89.2.2.2.2.2.2.1 r89.2.2.2.2.2.2.2.1 r89.2.2.2.2.2.2.2.2.1 r89.2.2.2.2.2.2.2.2.2.1 r89.2.2.2.2.2.2.2.2.2.2.1 r89.2.2.2.2.2.2.2.2.2.2.2.1 r89.2.2.2.2.2.2.2.2.2.2.2.2 t_hasImage t_sheets_items t_sheets_lane t_sheets_size)) mv_X6_kindsBy lk_6_241 (c_X6_kindsBy l D ks cI cL cC cM cS a (fun k => a (88 + k)) t_now_kind t_now_used t_now_bay t_now_likes t_now_who t_now_lamp t_now_due t_now_gain t_now_count t_now_day t_now_dues t_now_draw t_foreseen_kind t_foreseen_used t_foreseen_bay t_foreseen_likes t_foreseen_who t_foreseen_lamp t_foreseen_due t_foreseen_gain t_foreseen_count t_foreseen_day t_foreseen_dues t_foreseen_draw t_hasImage (t_sheets_items 1) (t_sheets_lane 1) (t_sheets_size 1) x1 x4 x5) [0, 1, 2, 3, 4, 5, 6, 7, 8, 9, 10, 11, 12, 13, 14, 15, 16, 17, 18, 22, 23] [19, 20, 21, 24, 25, 26, 27] [7, 8, 9, 10, 11, 12, 13, 14, 15, 16, 17, 18, 19, 20, 21, 22, 23, 24, 25, 0, 1, 2, 26, 27, 3, 4, 5, 6] rfl rfl rfl rfl (by decide +kernel) (fun _ => rfl) rfl (by decide) (Nat.le_of_ble_eq_true rfl) dX6_looks_89 (fun r89 => [.int r89.1]) (fun _ => rfl) (fun r89 _ => ?_)
                  exact G.iret rfl rfl dX6_looks_92
              · refine G.iload dX6_looks_69 rfl ?_
                exact G.iret rfl rfl dX6_looks_71
            · refine G.aaload 19 4 rfl rfl h53 (by rw [hj53]) dX6_looks_53 ?_
              refine G.iload_n dX6_looks_54 rfl ?_
              refine G.iload dX6_looks_55 rfl ?_
              refine G.iload dX6_looks_57 rfl ?_
              refine G.callV (st := []) (w' := fun r59 => (w_X6nfs cI cL cC cM cS a t_now_kind t_now_used t_now_bay t_now_likes t_now_who t_now_lamp t_now_due t_now_gain t_now_count t_now_day t_now_dues t_now_draw t_foreseen_kind t_foreseen_used t_foreseen_bay t_foreseen_likes t_foreseen_who t_foreseen_lamp t_foreseen_due t_foreseen_gain t_foreseen_count t_foreseen_day t_foreseen_dues t_foreseen_draw t_hasImage t_sheets_items t_sheets_lane t_sheets_size)) mv_X4_refusal lk_6_237 (c_X4_refusal l D ks cI cL cC cM cS (fun k => a (90 + k)) (t_sheets_items 2) (t_sheets_lane 2) (t_sheets_size 2) x3 x4 x5) [24, 25] [0, 1, 2, 3, 4, 5, 6, 7, 8, 9, 10, 11, 12, 13, 14, 15, 16, 17, 18, 19, 20, 21, 22, 23, 26, 27] [0, 1, 2, 3, 4, 5, 6, 7, 8, 9, 10, 11, 12, 13, 14, 15, 16, 17, 18, 19, 20, 21, 22, 23, 26, 27, 24, 25] rfl rfl rfl rfl (by decide +kernel) (fun _ => rfl) rfl (by decide) (Nat.le_of_ble_eq_true rfl) dX6_looks_59 (fun r59 => [.int r59]) (fun _ => rfl) (fun r59 _ => ?_)
              refine G.istore (lv' := [some (.ref (a 0)), some (.int x1), some (.int x2), some (.int x3), some (.int x4), some (.int x5), some (.int x6), some (.int r59)]) dX6_looks_62 (by decide) (Nat.le_of_ble_eq_true rfl) rfl rfl ?_
              refine G.iload dX6_looks_64 rfl ?_
              refine G.if_ge 72 dX6_looks_66 (by decide) (fun h66 => ?_) (fun h66 => ?_)
              · refine G.iload dX6_looks_72 rfl ?_
                refine G.if_ne 93 dX6_looks_74 (by decide) (fun h74 => ?_) (fun h74 => ?_)
                · refine G.aload_n dX6_looks_93 rfl ?_
                  refine G.iload_n dX6_looks_94 rfl ?_
                  refine G.aload_n dX6_looks_95 rfl ?_
                  refine G.get fl_6_48 0 rfl rfl dX6_looks_96 ?_
                  refine G.iload_n dX6_looks_99 rfl ?_
                  refine G.aaload 19 4 rfl rfl h53 (by rw [hj53]) dX6_looks_100 ?_
                  refine G.iload dX6_looks_101 rfl ?_
                  refine G.iload dX6_looks_103 rfl ?_
                  refine G.iload dX6_looks_105 rfl ?_
                  refine G.iconst 2 dX6_looks_107 (by decide) ?_
                  refine G.join (st := [.int x5, .int x4, .ref (a 90), .int x1, .ref (a 0)]) Value.int 116 (fun v116 => ?_) (fun hJ => ?_)
                  · refine G.callV (st := []) (w' := fun r116 => (w_X6nfs cI cL cC cM cS a t_now_kind t_now_used t_now_bay t_now_likes t_now_who t_now_lamp t_now_due t_now_gain t_now_count t_now_day t_now_dues t_now_draw r116.2.1 r116.2.2.1 r116.2.2.2.1 r116.2.2.2.2.1 r116.2.2.2.2.2.1 r116.2.2.2.2.2.2.1 r116.2.2.2.2.2.2.2.1 r116.2.2.2.2.2.2.2.2.1 r116.2.2.2.2.2.2.2.2.2.1 r116.2.2.2.2.2.2.2.2.2.2.1 r116.2.2.2.2.2.2.2.2.2.2.2.1 r116.2.2.2.2.2.2.2.2.2.2.2.2 t_hasImage t_sheets_items t_sheets_lane t_sheets_size)) mv_X6_numbersBy lk_6_245 (c_X6_numbersBy l D ks cI cL cC cM cS a (fun k => a (90 + k)) t_now_kind t_now_used t_now_bay t_now_likes t_now_who t_now_lamp t_now_due t_now_gain t_now_count t_now_day t_now_dues t_now_draw t_foreseen_kind t_foreseen_used t_foreseen_bay t_foreseen_likes t_foreseen_who t_foreseen_lamp t_foreseen_due t_foreseen_gain t_foreseen_count t_foreseen_day t_foreseen_dues t_foreseen_draw t_hasImage (t_sheets_items 2) (t_sheets_lane 2) (t_sheets_size 2) x1 x4 x5 v116) [0, 1, 2, 3, 4, 5, 6, 7, 8, 9, 10, 11, 12, 13, 14, 15, 16, 17, 18, 24, 25] [19, 20, 21, 22, 23, 26, 27] [7, 8, 9, 10, 11, 12, 13, 14, 15, 16, 17, 18, 19, 20, 21, 22, 23, 24, 25, 0, 1, 2, 3, 4, 26, 27, 5, 6] rfl rfl rfl rfl (by decide +kernel) (fun _ => rfl) rfl (by decide) (Nat.le_of_ble_eq_true rfl) dX6_looks_116 (fun r116 => [.int r116.1]) (fun _ => rfl) (fun r116 _ => ?_)
                    exact G.iret rfl rfl dX6_looks_119
                  · refine G.ite ?_
                    refine G.icmp_ne 115 dX6_looks_108 (by decide) (fun _ => ?_) (fun _ => ?_)
                    · refine G.iconst 0 dX6_looks_115 (by decide) ?_
                      exact hJ _
                    · refine G.iconst 1 dX6_looks_111 (by decide) ?_
                      refine G.goto 116 dX6_looks_112 (by decide) ?_
                      exact hJ _
                · refine G.aload_n dX6_looks_77 rfl ?_
                  refine G.iload_n dX6_looks_78 rfl ?_
                  refine G.aload_n dX6_looks_79 rfl ?_
                  refine G.get fl_6_48 0 rfl rfl dX6_looks_80 ?_
                  refine G.iload_n dX6_looks_83 rfl ?_
                  refine G.aaload 19 4 rfl rfl h53 (by rw [hj53]) dX6_looks_84 ?_
                  refine G.iload dX6_looks_85 rfl ?_
                  refine G.iload dX6_looks_87 rfl ?_
                  refine G.callV (st := []) (w' := fun r89 => (w_X6nfs cI cL cC cM cS a t_now_kind t_now_used t_now_bay t_now_likes t_now_who t_now_lamp t_now_due t_now_gain t_now_count t_now_day t_now_dues t_now_draw r89.2.1 r89.2.2.1 r89.2.2.2.1 r89.2.2.2.2.1 r89.2.2.2.2.2.1 r89.2.2.2.2.2.2.1 r89.2.2.2.2.2.2.2.1 r89.2.2.2.2.2.2.2.2.1 r89.2.2.2.2.2.2.2.2.2.1 r89.2.2.2.2.2.2.2.2.2.2.1 r89.2.2.2.2.2.2.2.2.2.2.2.1 r89.2.2.2.2.2.2.2.2.2.2.2.2 t_hasImage t_sheets_items t_sheets_lane t_sheets_size)) mv_X6_kindsBy lk_6_241 (c_X6_kindsBy l D ks cI cL cC cM cS a (fun k => a (90 + k)) t_now_kind t_now_used t_now_bay t_now_likes t_now_who t_now_lamp t_now_due t_now_gain t_now_count t_now_day t_now_dues t_now_draw t_foreseen_kind t_foreseen_used t_foreseen_bay t_foreseen_likes t_foreseen_who t_foreseen_lamp t_foreseen_due t_foreseen_gain t_foreseen_count t_foreseen_day t_foreseen_dues t_foreseen_draw t_hasImage (t_sheets_items 2) (t_sheets_lane 2) (t_sheets_size 2) x1 x4 x5) [0, 1, 2, 3, 4, 5, 6, 7, 8, 9, 10, 11, 12, 13, 14, 15, 16, 17, 18, 24, 25] [19, 20, 21, 22, 23, 26, 27] [7, 8, 9, 10, 11, 12, 13, 14, 15, 16, 17, 18, 19, 20, 21, 22, 23, 24, 25, 0, 1, 2, 3, 4, 26, 27, 5, 6] rfl rfl rfl rfl (by decide +kernel) (fun _ => rfl) rfl (by decide) (Nat.le_of_ble_eq_true rfl) dX6_looks_89 (fun r89 => [.int r89.1]) (fun _ => rfl) (fun r89 _ => ?_)
                  exact G.iret rfl rfl dX6_looks_92
              · refine G.iload dX6_looks_69 rfl ?_
                exact G.iret rfl rfl dX6_looks_71
            · refine G.aaload 19 4 rfl rfl h53 (by rw [hj53]) dX6_looks_53 ?_
              refine G.iload_n dX6_looks_54 rfl ?_
              refine G.iload dX6_looks_55 rfl ?_
              refine G.iload dX6_looks_57 rfl ?_
              refine G.callV (st := []) (w' := fun r59 => (w_X6nfs cI cL cC cM cS a t_now_kind t_now_used t_now_bay t_now_likes t_now_who t_now_lamp t_now_due t_now_gain t_now_count t_now_day t_now_dues t_now_draw t_foreseen_kind t_foreseen_used t_foreseen_bay t_foreseen_likes t_foreseen_who t_foreseen_lamp t_foreseen_due t_foreseen_gain t_foreseen_count t_foreseen_day t_foreseen_dues t_foreseen_draw t_hasImage t_sheets_items t_sheets_lane t_sheets_size)) mv_X4_refusal lk_6_237 (c_X4_refusal l D ks cI cL cC cM cS (fun k => a (92 + k)) (t_sheets_items 3) (t_sheets_lane 3) (t_sheets_size 3) x3 x4 x5) [26, 27] [0, 1, 2, 3, 4, 5, 6, 7, 8, 9, 10, 11, 12, 13, 14, 15, 16, 17, 18, 19, 20, 21, 22, 23, 24, 25] [0, 1, 2, 3, 4, 5, 6, 7, 8, 9, 10, 11, 12, 13, 14, 15, 16, 17, 18, 19, 20, 21, 22, 23, 24, 25, 26, 27] rfl rfl rfl rfl (by decide +kernel) (fun _ => rfl) rfl (by decide) (Nat.le_of_ble_eq_true rfl) dX6_looks_59 (fun r59 => [.int r59]) (fun _ => rfl) (fun r59 _ => ?_)
              refine G.istore (lv' := [some (.ref (a 0)), some (.int x1), some (.int x2), some (.int x3), some (.int x4), some (.int x5), some (.int x6), some (.int r59)]) dX6_looks_62 (by decide) (Nat.le_of_ble_eq_true rfl) rfl rfl ?_
              refine G.iload dX6_looks_64 rfl ?_
              refine G.if_ge 72 dX6_looks_66 (by decide) (fun h66 => ?_) (fun h66 => ?_)
              · refine G.iload dX6_looks_72 rfl ?_
                refine G.if_ne 93 dX6_looks_74 (by decide) (fun h74 => ?_) (fun h74 => ?_)
                · refine G.aload_n dX6_looks_93 rfl ?_
                  refine G.iload_n dX6_looks_94 rfl ?_
                  refine G.aload_n dX6_looks_95 rfl ?_
                  refine G.get fl_6_48 0 rfl rfl dX6_looks_96 ?_
                  refine G.iload_n dX6_looks_99 rfl ?_
                  refine G.aaload 19 4 rfl rfl h53 (by rw [hj53]) dX6_looks_100 ?_
                  refine G.iload dX6_looks_101 rfl ?_
                  refine G.iload dX6_looks_103 rfl ?_
                  refine G.iload dX6_looks_105 rfl ?_
                  refine G.iconst 2 dX6_looks_107 (by decide) ?_
                  refine G.join (st := [.int x5, .int x4, .ref (a 92), .int x1, .ref (a 0)]) Value.int 116 (fun v116 => ?_) (fun hJ => ?_)
                  · refine G.callV (st := []) (w' := fun r116 => (w_X6nfs cI cL cC cM cS a t_now_kind t_now_used t_now_bay t_now_likes t_now_who t_now_lamp t_now_due t_now_gain t_now_count t_now_day t_now_dues t_now_draw r116.2.1 r116.2.2.1 r116.2.2.2.1 r116.2.2.2.2.1 r116.2.2.2.2.2.1 r116.2.2.2.2.2.2.1 r116.2.2.2.2.2.2.2.1 r116.2.2.2.2.2.2.2.2.1 r116.2.2.2.2.2.2.2.2.2.1 r116.2.2.2.2.2.2.2.2.2.2.1 r116.2.2.2.2.2.2.2.2.2.2.2.1 r116.2.2.2.2.2.2.2.2.2.2.2.2 t_hasImage t_sheets_items t_sheets_lane t_sheets_size)) mv_X6_numbersBy lk_6_245 (c_X6_numbersBy l D ks cI cL cC cM cS a (fun k => a (92 + k)) t_now_kind t_now_used t_now_bay t_now_likes t_now_who t_now_lamp t_now_due t_now_gain t_now_count t_now_day t_now_dues t_now_draw t_foreseen_kind t_foreseen_used t_foreseen_bay t_foreseen_likes t_foreseen_who t_foreseen_lamp t_foreseen_due t_foreseen_gain t_foreseen_count t_foreseen_day t_foreseen_dues t_foreseen_draw t_hasImage (t_sheets_items 3) (t_sheets_lane 3) (t_sheets_size 3) x1 x4 x5 v116) [0, 1, 2, 3, 4, 5, 6, 7, 8, 9, 10, 11, 12, 13, 14, 15, 16, 17, 18, 26, 27] [19, 20, 21, 22, 23, 24, 25] [7, 8, 9, 10, 11, 12, 13, 14, 15, 16, 17, 18, 19, 20, 21, 22, 23, 24, 25, 0, 1, 2, 3, 4, 5, 6, 26, 27] rfl rfl rfl rfl (by decide +kernel) (fun _ => rfl) rfl (by decide) (Nat.le_of_ble_eq_true rfl) dX6_looks_116 (fun r116 => [.int r116.1]) (fun _ => rfl) (fun r116 _ => ?_)
                    exact G.iret rfl rfl dX6_looks_119
                  · refine G.ite ?_
                    refine G.icmp_ne 115 dX6_looks_108 (by decide) (fun _ => ?_) (fun _ => ?_)
                    · refine G.iconst 0 dX6_looks_115 (by decide) ?_
                      exact hJ _
                    · refine G.iconst 1 dX6_looks_111 (by decide) ?_
                      refine G.goto 116 dX6_looks_112 (by decide) ?_
                      exact hJ _
                · refine G.aload_n dX6_looks_77 rfl ?_
                  refine G.iload_n dX6_looks_78 rfl ?_
                  refine G.aload_n dX6_looks_79 rfl ?_
                  refine G.get fl_6_48 0 rfl rfl dX6_looks_80 ?_
                  refine G.iload_n dX6_looks_83 rfl ?_
                  refine G.aaload 19 4 rfl rfl h53 (by rw [hj53]) dX6_looks_84 ?_
                  refine G.iload dX6_looks_85 rfl ?_
                  refine G.iload dX6_looks_87 rfl ?_
                  refine G.callV (st := []) (w' := fun r89 => (w_X6nfs cI cL cC cM cS a t_now_kind t_now_used t_now_bay t_now_likes t_now_who t_now_lamp t_now_due t_now_gain t_now_count t_now_day t_now_dues t_now_draw r89.2.1 r89.2.2.1 r89.2.2.2.1 r89.2.2.2.2.1 r89.2.2.2.2.2.1 r89.2.2.2.2.2.2.1 r89.2.2.2.2.2.2.2.1 r89.2.2.2.2.2.2.2.2.1 r89.2.2.2.2.2.2.2.2.2.1 r89.2.2.2.2.2.2.2.2.2.2.1 r89.2.2.2.2.2.2.2.2.2.2.2.1 r89.2.2.2.2.2.2.2.2.2.2.2.2 t_hasImage t_sheets_items t_sheets_lane t_sheets_size)) mv_X6_kindsBy lk_6_241 (c_X6_kindsBy l D ks cI cL cC cM cS a (fun k => a (92 + k)) t_now_kind t_now_used t_now_bay t_now_likes t_now_who t_now_lamp t_now_due t_now_gain t_now_count t_now_day t_now_dues t_now_draw t_foreseen_kind t_foreseen_used t_foreseen_bay t_foreseen_likes t_foreseen_who t_foreseen_lamp t_foreseen_due t_foreseen_gain t_foreseen_count t_foreseen_day t_foreseen_dues t_foreseen_draw t_hasImage (t_sheets_items 3) (t_sheets_lane 3) (t_sheets_size 3) x1 x4 x5) [0, 1, 2, 3, 4, 5, 6, 7, 8, 9, 10, 11, 12, 13, 14, 15, 16, 17, 18, 26, 27] [19, 20, 21, 22, 23, 24, 25] [7, 8, 9, 10, 11, 12, 13, 14, 15, 16, 17, 18, 19, 20, 21, 22, 23, 24, 25, 0, 1, 2, 3, 4, 5, 6, 26, 27] rfl rfl rfl rfl (by decide +kernel) (fun _ => rfl) rfl (by decide) (Nat.le_of_ble_eq_true rfl) dX6_looks_89 (fun r89 => [.int r89.1]) (fun _ => rfl) (fun r89 _ => ?_)
                  exact G.iret rfl rfl dX6_looks_92
              · refine G.iload dX6_looks_69 rfl ?_
                exact G.iret rfl rfl dX6_looks_71
          · refine G.iconst (-1) dX6_looks_46 (by decide) ?_
            exact G.iret rfl rfl dX6_looks_47
set_option maxHeartbeats 4000000 in
set_option maxRecDepth 100000 in
theorem c_X6_of (l : Launch) (D : va_G) (ks : Nat × Nat) (cI cL cC cM cS : ClassId) (a : Nat → Nat) (t_now_kind t_now_used t_now_bay t_now_likes t_now_who t_now_lamp t_now_due t_now_gain : Nat → Int32) (t_now_count t_now_day t_now_dues t_now_draw t_hasImage : Int32) (x1 : Int32) (x2 : Int32) : MT l D ks (tyz cI cL cC cM cS) yX6_of cX6_of 3 ((some .int)) { frames := 3, cells := 0, slots := 0, locals := 68 } [.ref (a 0), .int x1, .int x2] (w_X6n cI cL cC cM cS a t_now_kind t_now_used t_now_bay t_now_likes t_now_who t_now_lamp t_now_due t_now_gain t_now_count t_now_day t_now_dues t_now_draw t_hasImage) (fun r : Int32 => (some (.int r), (w_X6n cI cL cC cM cS a t_now_kind t_now_used t_now_bay t_now_likes t_now_who t_now_lamp t_now_due t_now_gain t_now_count t_now_day t_now_dues t_now_draw t_hasImage))) (f_X6_of t_now_kind t_now_used t_now_bay t_now_likes t_now_who t_now_lamp t_now_count x1 x2) := by
  refine MT.of 0 [some (.ref (a 0)), some (.int x1), some (.int x2)] (by decide) (Nat.le_of_ble_eq_true rfl) rfl ?_
  unfold f_X6_of
  refine G.aload_n dX6_of_0 rfl ?_
  refine G.get fl_6_10 0 rfl rfl dX6_of_1 ?_
  refine G.iload_n dX6_of_4 rfl ?_
  refine G.callV (st := []) (w' := fun r5 => (w_X6n cI cL cC cM cS a t_now_kind t_now_used t_now_bay t_now_likes t_now_who t_now_lamp t_now_due t_now_gain t_now_count t_now_day t_now_dues t_now_draw t_hasImage)) mv_X3_has lk_6_83 (c_X3_has l D ks cI cL cC cM cS (fun k => a (1 + k)) t_now_kind t_now_used t_now_bay t_now_likes t_now_who t_now_lamp t_now_due t_now_gain t_now_count t_now_day t_now_dues t_now_draw x1) [1, 2, 3, 4, 5, 6, 7, 8, 9] [0] [0, 1, 2, 3, 4, 5, 6, 7, 8, 9] rfl rfl rfl rfl (by decide +kernel) (fun _ => rfl) rfl (by decide) (Nat.le_of_ble_eq_true rfl) dX6_of_5 (fun r5 => [.int r5]) (fun _ => rfl) (fun r5 _ => ?_)
  refine G.if_ne 13 dX6_of_8 (by decide) (fun h8 => ?_) (fun h8 => ?_)
  · refine G.iload_n dX6_of_13 rfl ?_
    by_cases h14_0 : x2 = 0
    · rw [if_pos h14_0]
      refine G.tin (off := 46) 0 60 h14_0 dX6_of_14 (by decide) (by decide) (by decide) (by decide) ?_
      refine G.aload_n dX6_of_60 rfl ?_
      refine G.get fl_6_10 0 rfl rfl dX6_of_61 ?_
      refine G.get fl_6_86 1 rfl rfl dX6_of_64 ?_
      refine G.iload_n dX6_of_67 rfl ?_
      refine G.chk (fun h68 => ?_)
      refine G.iaload 2 0 rfl rfl x1.toNatClampNeg rfl h68 dX6_of_68 ?_
      refine G.topi (fun v68 => ?_)
      exact G.iret rfl rfl dX6_of_69
    rw [if_neg h14_0]
    by_cases h14_1 : x2 = 1
    · rw [if_pos h14_1]
      refine G.tin (off := 56) 1 70 h14_1 dX6_of_14 (by decide) (by decide) (by decide) (by decide) ?_
      refine G.aload_n dX6_of_70 rfl ?_
      refine G.get fl_6_10 0 rfl rfl dX6_of_71 ?_
      refine G.get fl_6_89 1 rfl rfl dX6_of_74 ?_
      refine G.iload_n dX6_of_77 rfl ?_
      refine G.chk (fun h78 => ?_)
      refine G.iaload 3 0 rfl rfl x1.toNatClampNeg rfl h78 dX6_of_78 ?_
      refine G.topi (fun v78 => ?_)
      exact G.iret rfl rfl dX6_of_79
    rw [if_neg h14_1]
    by_cases h14_2 : x2 = 2
    · rw [if_pos h14_2]
      refine G.tin (off := 66) 2 80 h14_2 dX6_of_14 (by decide) (by decide) (by decide) (by decide) ?_
      refine G.aload_n dX6_of_80 rfl ?_
      refine G.get fl_6_10 0 rfl rfl dX6_of_81 ?_
      refine G.get fl_6_92 1 rfl rfl dX6_of_84 ?_
      refine G.iload_n dX6_of_87 rfl ?_
      refine G.chk (fun h88 => ?_)
      refine G.iaload 4 0 rfl rfl x1.toNatClampNeg rfl h88 dX6_of_88 ?_
      refine G.topi (fun v88 => ?_)
      exact G.iret rfl rfl dX6_of_89
    rw [if_neg h14_2]
    by_cases h14_3 : x2 = 3
    · rw [if_pos h14_3]
      refine G.tin (off := 76) 3 90 h14_3 dX6_of_14 (by decide) (by decide) (by decide) (by decide) ?_
      refine G.aload_n dX6_of_90 rfl ?_
      refine G.get fl_6_10 0 rfl rfl dX6_of_91 ?_
      refine G.get fl_6_95 1 rfl rfl dX6_of_94 ?_
      refine G.iload_n dX6_of_97 rfl ?_
      refine G.chk (fun h98 => ?_)
      refine G.iaload 5 0 rfl rfl x1.toNatClampNeg rfl h98 dX6_of_98 ?_
      refine G.topi (fun v98 => ?_)
      exact G.iret rfl rfl dX6_of_99
    rw [if_neg h14_3]
    by_cases h14_4 : x2 = 4
    · rw [if_pos h14_4]
      refine G.tin (off := 86) 4 100 h14_4 dX6_of_14 (by decide) (by decide) (by decide) (by decide) ?_
      refine G.aload_n dX6_of_100 rfl ?_
      refine G.get fl_6_10 0 rfl rfl dX6_of_101 ?_
      refine G.iload_n dX6_of_104 rfl ?_
      refine G.callV (st := []) (w' := fun r105 => (w_X6n cI cL cC cM cS a t_now_kind t_now_used t_now_bay t_now_likes t_now_who t_now_lamp t_now_due t_now_gain t_now_count t_now_day t_now_dues t_now_draw t_hasImage)) mv_X3_hasTaken lk_6_98 (c_X3_hasTaken l D ks cI cL cC cM cS (fun k => a (1 + k)) t_now_kind t_now_used t_now_bay t_now_likes t_now_who t_now_lamp t_now_due t_now_gain t_now_count t_now_day t_now_dues t_now_draw x1) [1, 2, 3, 4, 5, 6, 7, 8, 9] [0] [0, 1, 2, 3, 4, 5, 6, 7, 8, 9] rfl rfl rfl rfl (by decide +kernel) (fun _ => rfl) rfl (by decide) (Nat.le_of_ble_eq_true rfl) dX6_of_105 (fun r105 => [.int r105]) (fun _ => rfl) (fun r105 _ => ?_)
      refine G.join (st := []) Value.int 116 (fun v116 => ?_) (fun hJ => ?_)
      · exact G.iret rfl rfl dX6_of_116
      · refine G.ite ?_
        refine G.if_eq 115 dX6_of_108 (by decide) (fun _ => ?_) (fun _ => ?_)
        · refine G.iconst 0 dX6_of_115 (by decide) ?_
          exact hJ _
        · refine G.iconst 1 dX6_of_111 (by decide) ?_
          refine G.goto 116 dX6_of_112 (by decide) ?_
          exact hJ _
    rw [if_neg h14_4]
    by_cases h14_5 : x2 = 5
    · rw [if_pos h14_5]
      refine G.tin (off := 103) 5 117 h14_5 dX6_of_14 (by decide) (by decide) (by decide) (by decide) ?_
      refine G.aload_n dX6_of_117 rfl ?_
      refine G.get fl_6_10 0 rfl rfl dX6_of_118 ?_
      refine G.iload_n dX6_of_121 rfl ?_
      refine G.callV (st := []) (w' := fun r122 => (w_X6n cI cL cC cM cS a t_now_kind t_now_used t_now_bay t_now_likes t_now_who t_now_lamp t_now_due t_now_gain t_now_count t_now_day t_now_dues t_now_draw t_hasImage)) mv_X3_hasTaken lk_6_98 (c_X3_hasTaken l D ks cI cL cC cM cS (fun k => a (1 + k)) t_now_kind t_now_used t_now_bay t_now_likes t_now_who t_now_lamp t_now_due t_now_gain t_now_count t_now_day t_now_dues t_now_draw x1) [1, 2, 3, 4, 5, 6, 7, 8, 9] [0] [0, 1, 2, 3, 4, 5, 6, 7, 8, 9] rfl rfl rfl rfl (by decide +kernel) (fun _ => rfl) rfl (by decide) (Nat.le_of_ble_eq_true rfl) dX6_of_122 (fun r122 => [.int r122]) (fun _ => rfl) (fun r122 _ => ?_)
      refine G.if_eq 132 dX6_of_125 (by decide) (fun h125 => ?_) (fun h125 => ?_)
      · refine G.aload_n dX6_of_132 rfl ?_
        refine G.get fl_6_10 0 rfl rfl dX6_of_133 ?_
        refine G.iload_n dX6_of_136 rfl ?_
        refine G.callV (st := []) (w' := fun r137 => (w_X6n cI cL cC cM cS a t_now_kind t_now_used t_now_bay t_now_likes t_now_who t_now_lamp t_now_due t_now_gain t_now_count t_now_day t_now_dues t_now_draw t_hasImage)) mv_X3_gainOf lk_6_101 (c_X3_gainOf l D ks cI cL cC cM cS (fun k => a (1 + k)) t_now_kind t_now_used t_now_bay t_now_likes t_now_who t_now_lamp t_now_due t_now_gain t_now_count t_now_day t_now_dues t_now_draw x1) [1, 2, 3, 4, 5, 6, 7, 8, 9] [0] [0, 1, 2, 3, 4, 5, 6, 7, 8, 9] rfl rfl rfl rfl (by decide +kernel) (fun _ => rfl) rfl (by decide) (Nat.le_of_ble_eq_true rfl) dX6_of_137 (fun r137 => [.int r137]) (fun _ => rfl) (fun r137 _ => ?_)
        exact G.iret rfl rfl dX6_of_140
      · refine G.iconst 0 dX6_of_128 (by decide) ?_
        refine G.goto 140 dX6_of_129 (by decide) ?_
        exact G.iret rfl rfl dX6_of_140
    rw [if_neg h14_5]
    by_cases h14_6 : x2 = 6
    · rw [if_pos h14_6]
      refine G.tin (off := 127) 6 141 h14_6 dX6_of_14 (by decide) (by decide) (by decide) (by decide) ?_
      refine G.aload_n dX6_of_141 rfl ?_
      refine G.get fl_6_10 0 rfl rfl dX6_of_142 ?_
      refine G.iload_n dX6_of_145 rfl ?_
      refine G.callV (st := []) (w' := fun r146 => (w_X6n cI cL cC cM cS a t_now_kind t_now_used t_now_bay t_now_likes t_now_who t_now_lamp t_now_due t_now_gain t_now_count t_now_day t_now_dues t_now_draw t_hasImage)) mv_X3_besideSet lk_6_105 (c_X3_besideSet l D ks cI cL cC cM cS (fun k => a (1 + k)) t_now_kind t_now_used t_now_bay t_now_likes t_now_who t_now_lamp t_now_due t_now_gain t_now_count t_now_day t_now_dues t_now_draw x1) [1, 2, 3, 4, 5, 6, 7, 8, 9] [0] [0, 1, 2, 3, 4, 5, 6, 7, 8, 9] rfl rfl rfl rfl (by decide +kernel) (fun _ => rfl) rfl (by decide) (Nat.le_of_ble_eq_true rfl) dX6_of_146 (fun r146 => [.int r146]) (fun _ => rfl) (fun r146 _ => ?_)
      exact G.iret rfl rfl dX6_of_149
    rw [if_neg h14_6]
    by_cases h14_7 : x2 = 7
    · rw [if_pos h14_7]
      refine G.tin (off := 136) 7 150 h14_7 dX6_of_14 (by decide) (by decide) (by decide) (by decide) ?_
      refine G.aload_n dX6_of_150 rfl ?_
      refine G.get fl_6_10 0 rfl rfl dX6_of_151 ?_
      refine G.iload_n dX6_of_154 rfl ?_
      refine G.aload_n dX6_of_155 rfl ?_
      refine G.get fl_6_10 0 rfl rfl dX6_of_156 ?_
      refine G.get fl_6_92 1 rfl rfl dX6_of_159 ?_
      refine G.iload_n dX6_of_162 rfl ?_
      refine G.chk (fun h163 => ?_)
      refine G.iaload 4 0 rfl rfl x1.toNatClampNeg rfl h163 dX6_of_163 ?_
      refine G.topi (fun v163 => ?_)
      refine G.callV (st := []) (w' := fun r164 => (w_X6n cI cL cC cM cS a t_now_kind t_now_used t_now_bay t_now_likes t_now_who t_now_lamp t_now_due t_now_gain t_now_count t_now_day t_now_dues t_now_draw t_hasImage)) mv_X3_farFrom lk_6_108 (c_X3_farFrom l D ks cI cL cC cM cS (fun k => a (1 + k)) t_now_kind t_now_used t_now_bay t_now_likes t_now_who t_now_lamp t_now_due t_now_gain t_now_count t_now_day t_now_dues t_now_draw x1 v163) [1, 2, 3, 4, 5, 6, 7, 8, 9] [0] [0, 1, 2, 3, 4, 5, 6, 7, 8, 9] rfl rfl rfl rfl (by decide +kernel) (fun _ => rfl) rfl (by decide) (Nat.le_of_ble_eq_true rfl) dX6_of_164 (fun r164 => [.int r164]) (fun _ => rfl) (fun r164 _ => ?_)
      exact G.iret rfl rfl dX6_of_167
    rw [if_neg h14_7]
    refine G.tout 168 (g_o8 h14_0 h14_1 h14_2 h14_3 h14_4 h14_5 h14_6 h14_7) dX6_of_14 (by decide) ?_
    refine G.iconst (-1) dX6_of_168 (by decide) ?_
    exact G.iret rfl rfl dX6_of_169
  · refine G.iconst (-1) dX6_of_11 (by decide) ?_
    exact G.iret rfl rfl dX6_of_12
set_option maxHeartbeats 4000000 in
set_option maxRecDepth 100000 in
theorem c_X6_rule (l : Launch) (D : va_G) (ks : Nat × Nat) (cI cL cC cM cS : ClassId) (a : Nat → Nat) (t_now_kind t_now_used t_now_bay t_now_likes t_now_who t_now_lamp t_now_due t_now_gain : Nat → Int32) (t_now_count t_now_day t_now_dues t_now_draw t_hasImage : Int32) (x1 : Int32) (x2 : Int32) (x3 : Int32) : MT l D ks (tyz cI cL cC cM cS) yX6_rule cX6_rule 6 ((some .int)) { frames := 2, cells := 0, slots := 0, locals := 42 } [.ref (a 0), .int x1, .int x2, .int x3] (w_X6n cI cL cC cM cS a t_now_kind t_now_used t_now_bay t_now_likes t_now_who t_now_lamp t_now_due t_now_gain t_now_count t_now_day t_now_dues t_now_draw t_hasImage) (fun r : Int32 × (Nat → Int32) × (Nat → Int32) => (some (.int r.1), (w_X6n cI cL cC cM cS a t_now_kind t_now_used t_now_bay t_now_likes t_now_who r.2.1 r.2.2 t_now_gain t_now_count t_now_day t_now_dues t_now_draw t_hasImage))) (f_X6_rule t_now_lamp t_now_due x1 x2 x3) := by
  refine MT.of 2 [some (.ref (a 0)), some (.int x1), some (.int x2), some (.int x3), none, none] (by decide) (Nat.le_of_ble_eq_true rfl) rfl ?_
  unfold f_X6_rule
  refine G.iload_n dX6_rule_0 rfl ?_
  refine G.callS (st := []) (w' := fun r1 => (w_X6n cI cL cC cM cS a t_now_kind t_now_used t_now_bay t_now_likes t_now_who t_now_lamp t_now_due t_now_gain t_now_count t_now_day t_now_dues t_now_draw t_hasImage)) ms_X6_isBay lk_6_57 (c_X6_isBay l D ks cI cL cC cM cS x1) [] [0, 1, 2, 3, 4, 5, 6, 7, 8, 9] [0, 1, 2, 3, 4, 5, 6, 7, 8, 9] rfl rfl rfl rfl (by decide +kernel) (fun _ => rfl) (by decide) (Nat.le_of_ble_eq_true rfl) dX6_rule_1 (fun r1 => [.int r1]) (fun _ => rfl) (fun r1 _ => ?_)
  refine G.if_eq 35 dX6_rule_4 (by decide) (fun h4 => ?_) (fun h4 => ?_)
  · refine G.iconst (-1) dX6_rule_35 (by decide) ?_
    exact G.iret rfl rfl dX6_rule_36
  · refine G.iload_n dX6_rule_7 rfl ?_
    refine G.iconst 0 dX6_rule_8 (by decide) ?_
    refine G.iconst 1 dX6_rule_9 (by decide) ?_
    refine G.callS (st := []) (w' := fun r10 => (w_X6n cI cL cC cM cS a t_now_kind t_now_used t_now_bay t_now_likes t_now_who t_now_lamp t_now_due t_now_gain t_now_count t_now_day t_now_dues t_now_draw t_hasImage)) ms_X6_within lk_6_53 (c_X6_within l D ks cI cL cC cM cS x2 0 1) [] [0, 1, 2, 3, 4, 5, 6, 7, 8, 9] [0, 1, 2, 3, 4, 5, 6, 7, 8, 9] rfl rfl rfl rfl (by decide +kernel) (fun _ => rfl) (by decide) (Nat.le_of_ble_eq_true rfl) dX6_rule_10 (fun r10 => [.int r10]) (fun _ => rfl) (fun r10 _ => ?_)
    refine G.if_eq 35 dX6_rule_13 (by decide) (fun h13 => ?_) (fun h13 => ?_)
    · refine G.iconst (-1) dX6_rule_35 (by decide) ?_
      exact G.iret rfl rfl dX6_rule_36
    · refine G.iload_n dX6_rule_16 rfl ?_
      refine G.iconst 0 dX6_rule_17 (by decide) ?_
      refine G.iload_n dX6_rule_18 rfl ?_
      refine G.join (st := [.int 0, .int x3]) Value.int 29 (fun v29 => ?_) (fun hJ => ?_)
      · refine G.callS (st := []) (w' := fun r29 => (w_X6n cI cL cC cM cS a t_now_kind t_now_used t_now_bay t_now_likes t_now_who t_now_lamp t_now_due t_now_gain t_now_count t_now_day t_now_dues t_now_draw t_hasImage)) ms_X6_within lk_6_53 (c_X6_within l D ks cI cL cC cM cS x3 0 v29) [] [0, 1, 2, 3, 4, 5, 6, 7, 8, 9] [0, 1, 2, 3, 4, 5, 6, 7, 8, 9] rfl rfl rfl rfl (by decide +kernel) (fun _ => rfl) (by decide) (Nat.le_of_ble_eq_true rfl) dX6_rule_29 (fun r29 => [.int r29]) (fun _ => rfl) (fun r29 _ => ?_)
        refine G.if_ne 37 dX6_rule_32 (by decide) (fun h32 => ?_) (fun h32 => ?_)
        · refine G.iload_n dX6_rule_37 rfl ?_
          refine G.if_ne 51 dX6_rule_38 (by decide) (fun h38 => ?_) (fun h38 => ?_)
          · refine G.aload_n dX6_rule_51 rfl ?_
            refine G.get fl_6_10 0 rfl rfl dX6_rule_52 ?_
            refine G.get fl_6_80 1 rfl rfl dX6_rule_55 ?_
            refine G.astore (lv' := [some (.ref (a 0)), some (.int x1), some (.int x2), some (.int x3), some (.ref (a 8)), none]) dX6_rule_58 (by decide) (Nat.le_of_ble_eq_true rfl) rfl rfl ?_
            refine G.aload dX6_rule_60 rfl ?_
            refine G.iload_n dX6_rule_62 rfl ?_
            refine G.chk (fun h63 => ?_)
            refine G.iaload 8 0 rfl rfl x1.toNatClampNeg rfl h63 dX6_rule_63 ?_
            refine G.topi (fun v63 => ?_)
            refine G.istore (lv' := [some (.ref (a 0)), some (.int x1), some (.int x2), some (.int x3), some (.ref (a 8)), some (.int v63)]) dX6_rule_64 (by decide) (Nat.le_of_ble_eq_true rfl) rfl rfl ?_
            refine G.aload dX6_rule_66 rfl ?_
            refine G.iload_n dX6_rule_68 rfl ?_
            refine G.iload_n dX6_rule_69 rfl ?_
            refine G.iastore (w' := (w_X6n cI cL cC cM cS a t_now_kind t_now_used t_now_bay t_now_likes t_now_who t_now_lamp (upd t_now_due x1.toNatClampNeg x3) t_now_gain t_now_count t_now_day t_now_dues t_now_draw t_hasImage)) 8 0 rfl rfl x1.toNatClampNeg rfl h63 rfl dX6_rule_70 ?_
            refine G.iload dX6_rule_71 rfl ?_
            exact G.iret rfl rfl dX6_rule_73
          · refine G.aload_n dX6_rule_41 rfl ?_
            refine G.get fl_6_10 0 rfl rfl dX6_rule_42 ?_
            refine G.get fl_6_76 1 rfl rfl dX6_rule_45 ?_
            refine G.goto 58 dX6_rule_48 (by decide) ?_
            refine G.astore (lv' := [some (.ref (a 0)), some (.int x1), some (.int x2), some (.int x3), some (.ref (a 7)), none]) dX6_rule_58 (by decide) (Nat.le_of_ble_eq_true rfl) rfl rfl ?_
            refine G.aload dX6_rule_60 rfl ?_
            refine G.iload_n dX6_rule_62 rfl ?_
            refine G.chk (fun h63 => ?_)
            refine G.iaload 7 0 rfl rfl x1.toNatClampNeg rfl h63 dX6_rule_63 ?_
            refine G.topi (fun v63 => ?_)
            refine G.istore (lv' := [some (.ref (a 0)), some (.int x1), some (.int x2), some (.int x3), some (.ref (a 7)), some (.int v63)]) dX6_rule_64 (by decide) (Nat.le_of_ble_eq_true rfl) rfl rfl ?_
            refine G.aload dX6_rule_66 rfl ?_
            refine G.iload_n dX6_rule_68 rfl ?_
            refine G.iload_n dX6_rule_69 rfl ?_
            refine G.iastore (w' := (w_X6n cI cL cC cM cS a t_now_kind t_now_used t_now_bay t_now_likes t_now_who (upd t_now_lamp x1.toNatClampNeg x3) t_now_due t_now_gain t_now_count t_now_day t_now_dues t_now_draw t_hasImage)) 7 0 rfl rfl x1.toNatClampNeg rfl h63 rfl dX6_rule_70 ?_
            refine G.iload dX6_rule_71 rfl ?_
            exact G.iret rfl rfl dX6_rule_73
        · refine G.iconst (-1) dX6_rule_35 (by decide) ?_
          exact G.iret rfl rfl dX6_rule_36
      · refine G.ite ?_
        refine G.if_ne 27 dX6_rule_19 (by decide) (fun _ => ?_) (fun _ => ?_)
        · refine G.bipush 99 dX6_rule_27 (by decide) ?_
          exact hJ _
        · refine G.bipush 9 dX6_rule_22 (by decide) ?_
          refine G.goto 29 dX6_rule_24 (by decide) ?_
          exact hJ _
set_option maxHeartbeats 4000000 in
set_option maxRecDepth 100000 in
theorem c_X6_seed (l : Launch) (D : va_G) (ks : Nat × Nat) (cI cL cC cM cS : ClassId) (a : Nat → Nat) (t_now_kind t_now_used t_now_bay t_now_likes t_now_who t_now_lamp t_now_due t_now_gain : Nat → Int32) (t_now_count t_now_day t_now_dues t_now_draw t_hasImage : Int32) (x1 : Int32) : MT l D ks (tyz cI cL cC cM cS) yX6_seed cX6_seed 3 ((some .int)) { frames := 0, cells := 0, slots := 0, locals := 0 } [.ref (a 0), .int x1] (w_X6n cI cL cC cM cS a t_now_kind t_now_used t_now_bay t_now_likes t_now_who t_now_lamp t_now_due t_now_gain t_now_count t_now_day t_now_dues t_now_draw t_hasImage) (fun r : Int32 × Int32 => (some (.int r.1), (w_X6n cI cL cC cM cS a t_now_kind t_now_used t_now_bay t_now_likes t_now_who t_now_lamp t_now_due t_now_gain t_now_count t_now_day t_now_dues r.2 t_hasImage))) (f_X6_seed t_now_draw x1) := by
  refine MT.of 1 [some (.ref (a 0)), some (.int x1), none] (by decide) (Nat.le_of_ble_eq_true rfl) rfl ?_
  unfold f_X6_seed
  refine G.iload_n dX6_seed_0 rfl ?_
  refine G.if_ge 6 dX6_seed_1 (by decide) (fun h1 => ?_) (fun h1 => ?_)
  · refine G.aload_n dX6_seed_6 rfl ?_
    refine G.get fl_6_10 0 rfl rfl dX6_seed_7 ?_
    refine G.get fl_6_176 1 rfl rfl dX6_seed_10 ?_
    refine G.istore_n (lv' := [some (.ref (a 0)), some (.int x1), some (.int t_now_draw)]) dX6_seed_13 (by decide) (Nat.le_of_ble_eq_true rfl) rfl rfl ?_
    refine G.aload_n dX6_seed_14 rfl ?_
    refine G.get fl_6_10 0 rfl rfl dX6_seed_15 ?_
    refine G.iload_n dX6_seed_18 rfl ?_
    refine G.put (w' := (w_X6n cI cL cC cM cS a t_now_kind t_now_used t_now_bay t_now_likes t_now_who t_now_lamp t_now_due t_now_gain t_now_count t_now_day t_now_dues x1 t_hasImage)) fp_6_176 1 rfl (Nat.le_of_ble_eq_true rfl) rfl rfl rfl dX6_seed_19 ?_
    refine G.iload_n dX6_seed_22 rfl ?_
    exact G.iret rfl rfl dX6_seed_23
  · refine G.iconst (-1) dX6_seed_4 (by decide) ?_
    exact G.iret rfl rfl dX6_seed_5
set_option maxHeartbeats 4000000 in
set_option maxRecDepth 100000 in
theorem c_X6_sheet (l : Launch) (D : va_G) (ks : Nat × Nat) (cI cL cC cM cS : ClassId) (a : Nat → Nat) (t_hasImage : Int32) (t_sheets_items : Nat → Nat → Int64) (t_sheets_lane t_sheets_size : Nat → Int32) (x1 : Int32) (x2 : Int32) (x3 : Int32) : MT l D ks (tyz cI cL cC cM cS) yX6_sheet cX6_sheet 4 ((some .int)) { frames := 2, cells := 0, slots := 0, locals := 42 } [.ref (a 0), .int x1, .int x2, .int x3] (w_X6s cI cL cC cM cS a t_hasImage t_sheets_items t_sheets_lane t_sheets_size) (fun r : Int32 × (Nat → Nat → Int64) × (Nat → Int32) × (Nat → Int32) => (some (.int r.1), (w_X6s cI cL cC cM cS a t_hasImage r.2.1 r.2.2.1 r.2.2.2))) (f_X6_sheet t_sheets_items t_sheets_lane t_sheets_size x1 x2 x3) := by
  refine MT.of 0 [some (.ref (a 0)), some (.int x1), some (.int x2), some (.int x3)] (by decide) (Nat.le_of_ble_eq_true rfl) rfl ?_
  unfold f_X6_sheet
  refine G.iload_n dX6_sheet_0 rfl ?_
  refine G.callS (st := []) (w' := fun r1 => (w_X6s cI cL cC cM cS a t_hasImage t_sheets_items t_sheets_lane t_sheets_size)) ms_X6_isSheet lk_6_231 (c_X6_isSheet l D ks cI cL cC cM cS x1) [] [0, 1, 2, 3, 4, 5, 6, 7, 8, 9] [0, 1, 2, 3, 4, 5, 6, 7, 8, 9] rfl rfl rfl rfl (by decide +kernel) (fun _ => rfl) (by decide) (Nat.le_of_ble_eq_true rfl) dX6_sheet_1 (fun r1 => [.int r1]) (fun _ => rfl) (fun r1 _ => ?_)
  refine G.if_eq 20 dX6_sheet_4 (by decide) (fun h4 => ?_) (fun h4 => ?_)
  · refine G.iconst (-1) dX6_sheet_20 (by decide) ?_
    exact G.iret rfl rfl dX6_sheet_21
  · refine G.iload_n dX6_sheet_7 rfl ?_
    refine G.callS (st := []) (w' := fun r8 => (w_X6s cI cL cC cM cS a t_hasImage t_sheets_items t_sheets_lane t_sheets_size)) ms_X6_isLane lk_6_234 (c_X6_isLane l D ks cI cL cC cM cS x2) [] [0, 1, 2, 3, 4, 5, 6, 7, 8, 9] [0, 1, 2, 3, 4, 5, 6, 7, 8, 9] rfl rfl rfl rfl (by decide +kernel) (fun _ => rfl) (by decide) (Nat.le_of_ble_eq_true rfl) dX6_sheet_8 (fun r8 => [.int r8]) (fun _ => rfl) (fun r8 _ => ?_)
    refine G.if_eq 20 dX6_sheet_11 (by decide) (fun h11 => ?_) (fun h11 => ?_)
    · refine G.iconst (-1) dX6_sheet_20 (by decide) ?_
      exact G.iret rfl rfl dX6_sheet_21
    · refine G.iload_n dX6_sheet_14 rfl ?_
      refine G.bipush 24 dX6_sheet_15 (by decide) ?_
      refine G.icmp_le 22 dX6_sheet_17 (by decide) (fun h17 => ?_) (fun h17 => ?_)
      · refine G.iload_n dX6_sheet_22 rfl ?_
        refine G.if_ge 29 dX6_sheet_23 (by decide) (fun h23 => ?_) (fun h23 => ?_)
        · refine G.aload_n dX6_sheet_29 rfl ?_
          refine G.get fl_6_48 0 rfl rfl dX6_sheet_30 ?_
          refine G.iload_n dX6_sheet_33 rfl ?_
          refine G.chk (fun h34 => ?_)
          have hl34 := inb_lt h34
          generalize hj34 : x1.toNatClampNeg = j34 at hl34 ⊢
          rcases g_or4 hl34 with rfl | rfl | rfl | rfl
          · refine G.aaload 1 4 rfl rfl h34 (by rw [hj34]) dX6_sheet_34 ?_
            refine G.iload_n dX6_sheet_35 rfl ?_
            refine G.iload_n dX6_sheet_36 rfl ?_
            refine G.callV (st := []) (w' := fun r37 => (w_X6s cI cL cC cM cS a t_hasImage (va_up t_sheets_items 0 r37.1) (va_up t_sheets_lane 0 r37.2.1) (va_up t_sheets_size 0 r37.2.2))) mv_X4_lay lk_6_253 (c_X4_lay l D ks cI cL cC cM cS (fun k => a (86 + k)) (t_sheets_items 0) (t_sheets_lane 0) (t_sheets_size 0) x2 x3) [2, 3] [0, 1, 4, 5, 6, 7, 8, 9] [0, 1, 8, 9, 2, 3, 4, 5, 6, 7] rfl rfl rfl rfl (by decide +kernel) (fun _ => rfl) rfl (by decide) (Nat.le_of_ble_eq_true rfl) dX6_sheet_37 (fun r37 => []) (fun _ => rfl) (fun r37 _ => ?_)
            refine G.iload_n dX6_sheet_40 rfl ?_
            exact G.iret rfl rfl dX6_sheet_41
          · refine G.aaload 1 4 rfl rfl h34 (by rw [hj34]) dX6_sheet_34 ?_
            refine G.iload_n dX6_sheet_35 rfl ?_
            refine G.iload_n dX6_sheet_36 rfl ?_
            refine G.callV (st := []) (w' := fun r37 => (w_X6s cI cL cC cM cS a t_hasImage (va_up t_sheets_items 1 r37.1) (va_up t_sheets_lane 1 r37.2.1) (va_up t_sheets_size 1 r37.2.2))) mv_X4_lay lk_6_253 (c_X4_lay l D ks cI cL cC cM cS (fun k => a (88 + k)) (t_sheets_items 1) (t_sheets_lane 1) (t_sheets_size 1) x2 x3) [4, 5] [0, 1, 2, 3, 6, 7, 8, 9] [0, 1, 2, 3, 8, 9, 4, 5, 6, 7] rfl rfl rfl rfl (by decide +kernel) (fun _ => rfl) rfl (by decide) (Nat.le_of_ble_eq_true rfl) dX6_sheet_37 (fun r37 => []) (fun _ => rfl) (fun r37 _ => ?_)
            refine G.iload_n dX6_sheet_40 rfl ?_
            exact G.iret rfl rfl dX6_sheet_41
          · refine G.aaload 1 4 rfl rfl h34 (by rw [hj34]) dX6_sheet_34 ?_
            refine G.iload_n dX6_sheet_35 rfl ?_
            refine G.iload_n dX6_sheet_36 rfl ?_
            refine G.callV (st := []) (w' := fun r37 => (w_X6s cI cL cC cM cS a t_hasImage (va_up t_sheets_items 2 r37.1) (va_up t_sheets_lane 2 r37.2.1) (va_up t_sheets_size 2 r37.2.2))) mv_X4_lay lk_6_253 (c_X4_lay l D ks cI cL cC cM cS (fun k => a (90 + k)) (t_sheets_items 2) (t_sheets_lane 2) (t_sheets_size 2) x2 x3) [6, 7] [0, 1, 2, 3, 4, 5, 8, 9] [0, 1, 2, 3, 4, 5, 8, 9, 6, 7] rfl rfl rfl rfl (by decide +kernel) (fun _ => rfl) rfl (by decide) (Nat.le_of_ble_eq_true rfl) dX6_sheet_37 (fun r37 => []) (fun _ => rfl) (fun r37 _ => ?_)
            refine G.iload_n dX6_sheet_40 rfl ?_
            exact G.iret rfl rfl dX6_sheet_41
          · refine G.aaload 1 4 rfl rfl h34 (by rw [hj34]) dX6_sheet_34 ?_
            refine G.iload_n dX6_sheet_35 rfl ?_
            refine G.iload_n dX6_sheet_36 rfl ?_
            refine G.callV (st := []) (w' := fun r37 => (w_X6s cI cL cC cM cS a t_hasImage (va_up t_sheets_items 3 r37.1) (va_up t_sheets_lane 3 r37.2.1) (va_up t_sheets_size 3 r37.2.2))) mv_X4_lay lk_6_253 (c_X4_lay l D ks cI cL cC cM cS (fun k => a (92 + k)) (t_sheets_items 3) (t_sheets_lane 3) (t_sheets_size 3) x2 x3) [8, 9] [0, 1, 2, 3, 4, 5, 6, 7] [0, 1, 2, 3, 4, 5, 6, 7, 8, 9] rfl rfl rfl rfl (by decide +kernel) (fun _ => rfl) rfl (by decide) (Nat.le_of_ble_eq_true rfl) dX6_sheet_37 (fun r37 => []) (fun _ => rfl) (fun r37 _ => ?_)
            refine G.iload_n dX6_sheet_40 rfl ?_
            exact G.iret rfl rfl dX6_sheet_41
        · refine G.bipush (-14) dX6_sheet_26 (by decide) ?_
          exact G.iret rfl rfl dX6_sheet_28
      · refine G.iconst (-1) dX6_sheet_20 (by decide) ?_
        exact G.iret rfl rfl dX6_sheet_21
set_option maxHeartbeats 4000000 in
set_option maxRecDepth 100000 in
theorem g_X6_spare_c45 (l : Launch) (D : va_G) (ks : Nat × Nat) (cI cL cC cM cS : ClassId) (a : Nat → Nat) (t_now_gain : Nat → Int32) (t_hasImage : Int32) (k25 : (Nat → Int32) → (Nat → Int32) → (Nat → Int32) → (Nat → Int32) → (Nat → Int32) → (Nat → Int32) → (Nat → Int32) → Int32 → Int32 → Int32 → Int32 → (Nat → Int32) → (Nat → Int32) → (Nat → Int32) → (Nat → Int32) → (Nat → Int32) → (Nat → Int32) → (Nat → Int32) → (Nat → Int32) → Int32 → Int32 → Int32 → Int32 → Int32 → Int32 → Int32 → (Option (Int32 × (Nat → Int32) × (Nat → Int32) × (Nat → Int32) × (Nat → Int32) × (Nat → Int32) × (Nat → Int32) × (Nat → Int32) × (Nat → Int32) × Int32 × Int32 × Int32 × Int32))) (hk25 : ∀ (t_now_kind t_now_used t_now_bay t_now_likes t_now_who t_now_lamp t_now_due : Nat → Int32) (t_now_count t_now_day t_now_dues t_now_draw : Int32) (t_foreseen_kind t_foreseen_used t_foreseen_bay t_foreseen_likes t_foreseen_who t_foreseen_lamp t_foreseen_due t_foreseen_gain : Nat → Int32) (t_foreseen_count t_foreseen_day t_foreseen_dues t_foreseen_draw : Int32) (x1 : Int32) (x2 : Int32) (x3 : Int32), GJ l D ks (tyz cI cL cC cM cS) RX6 cX6_spare 5 ((some .int)) { frames := 5, cells := 0, slots := 0, locals := 111 } (fun r : Int32 × (Nat → Int32) × (Nat → Int32) × (Nat → Int32) × (Nat → Int32) × (Nat → Int32) × (Nat → Int32) × (Nat → Int32) × (Nat → Int32) × Int32 × Int32 × Int32 × Int32 => (some (.int r.1), (w_X6nf cI cL cC cM cS a t_now_kind t_now_used t_now_bay t_now_likes t_now_who t_now_lamp t_now_due t_now_gain t_now_count t_now_day t_now_dues t_now_draw r.2.1 r.2.2.1 r.2.2.2.1 r.2.2.2.2.1 r.2.2.2.2.2.1 r.2.2.2.2.2.2.1 r.2.2.2.2.2.2.2.1 r.2.2.2.2.2.2.2.2.1 r.2.2.2.2.2.2.2.2.2.1 r.2.2.2.2.2.2.2.2.2.2.1 r.2.2.2.2.2.2.2.2.2.2.2.1 r.2.2.2.2.2.2.2.2.2.2.2.2 t_hasImage))) (w_X6nf cI cL cC cM cS a t_now_kind t_now_used t_now_bay t_now_likes t_now_who t_now_lamp t_now_due t_now_gain t_now_count t_now_day t_now_dues t_now_draw t_foreseen_kind t_foreseen_used t_foreseen_bay t_foreseen_likes t_foreseen_who t_foreseen_lamp t_foreseen_due t_foreseen_gain t_foreseen_count t_foreseen_day t_foreseen_dues t_foreseen_draw t_hasImage) 25 [some (.ref (a 0)), some (.int x1), some (.int x2), some (.int x3), none] [] (k25 t_now_kind t_now_used t_now_bay t_now_likes t_now_who t_now_lamp t_now_due t_now_count t_now_day t_now_dues t_now_draw t_foreseen_kind t_foreseen_used t_foreseen_bay t_foreseen_likes t_foreseen_who t_foreseen_lamp t_foreseen_due t_foreseen_gain t_foreseen_count t_foreseen_day t_foreseen_dues t_foreseen_draw x1 x2 x3)) : ∀ (n : Nat), ∀ (t_now_kind t_now_used t_now_bay t_now_likes t_now_who t_now_lamp t_now_due : Nat → Int32) (t_now_count t_now_day t_now_dues t_now_draw : Int32) (t_foreseen_kind t_foreseen_used t_foreseen_bay t_foreseen_likes t_foreseen_who t_foreseen_lamp t_foreseen_due t_foreseen_gain : Nat → Int32) (t_foreseen_count t_foreseen_day t_foreseen_dues t_foreseen_draw : Int32) (x1 : Int32) (x2 : Int32) (x3 : Int32) (x4 : Int32), GJ l D ks (tyz cI cL cC cM cS) RX6 cX6_spare 5 ((some .int)) { frames := 5, cells := 0, slots := 0, locals := 111 } (fun r : Int32 × (Nat → Int32) × (Nat → Int32) × (Nat → Int32) × (Nat → Int32) × (Nat → Int32) × (Nat → Int32) × (Nat → Int32) × (Nat → Int32) × Int32 × Int32 × Int32 × Int32 => (some (.int r.1), (w_X6nf cI cL cC cM cS a t_now_kind t_now_used t_now_bay t_now_likes t_now_who t_now_lamp t_now_due t_now_gain t_now_count t_now_day t_now_dues t_now_draw r.2.1 r.2.2.1 r.2.2.2.1 r.2.2.2.2.1 r.2.2.2.2.2.1 r.2.2.2.2.2.2.1 r.2.2.2.2.2.2.2.1 r.2.2.2.2.2.2.2.2.1 r.2.2.2.2.2.2.2.2.2.1 r.2.2.2.2.2.2.2.2.2.2.1 r.2.2.2.2.2.2.2.2.2.2.2.1 r.2.2.2.2.2.2.2.2.2.2.2.2 t_hasImage))) (w_X6nf cI cL cC cM cS a t_now_kind t_now_used t_now_bay t_now_likes t_now_who t_now_lamp t_now_due t_now_gain t_now_count t_now_day t_now_dues t_now_draw t_foreseen_kind t_foreseen_used t_foreseen_bay t_foreseen_likes t_foreseen_who t_foreseen_lamp t_foreseen_due t_foreseen_gain t_foreseen_count t_foreseen_day t_foreseen_dues t_foreseen_draw t_hasImage) 45 [some (.ref (a 0)), some (.int x1), some (.int x2), some (.int x3), some (.int x4)] [] (f_X6_spare_c45 k25 n t_now_kind t_now_used t_now_bay t_now_likes t_now_who t_now_lamp t_now_due t_now_count t_now_day t_now_dues t_now_draw t_foreseen_kind t_foreseen_used t_foreseen_bay t_foreseen_likes t_foreseen_who t_foreseen_lamp t_foreseen_due t_foreseen_gain t_foreseen_count t_foreseen_day t_foreseen_dues t_foreseen_draw x1 x2 x3 x4) := by
  intro n
  induction n with
  | zero =>
    intro t_now_kind t_now_used t_now_bay t_now_likes t_now_who t_now_lamp t_now_due t_now_count t_now_day t_now_dues t_now_draw t_foreseen_kind t_foreseen_used t_foreseen_bay t_foreseen_likes t_foreseen_who t_foreseen_lamp t_foreseen_due t_foreseen_gain t_foreseen_count t_foreseen_day t_foreseen_dues t_foreseen_draw x1 x2 x3 x4
    exact G.no
  | succ n ih =>
    intro t_now_kind t_now_used t_now_bay t_now_likes t_now_who t_now_lamp t_now_due t_now_count t_now_day t_now_dues t_now_draw t_foreseen_kind t_foreseen_used t_foreseen_bay t_foreseen_likes t_foreseen_who t_foreseen_lamp t_foreseen_due t_foreseen_gain t_foreseen_count t_foreseen_day t_foreseen_dues t_foreseen_draw x1 x2 x3 x4
    rw [f_X6_spare_c45]
    refine G.iload dX6_spare_45 rfl ?_
    refine G.iload_n dX6_spare_47 rfl ?_
    refine G.icmp_ge 65 dX6_spare_48 (by decide) (fun h48 => ?_) (fun h48 => ?_)
    · refine G.aload_n dX6_spare_65 rfl ?_
      refine G.get fl_6_23 0 rfl rfl dX6_spare_66 ?_
      refine G.iload_n dX6_spare_69 rfl ?_
      refine G.callV (st := []) (w' := fun r70 => (w_X6nf cI cL cC cM cS a t_now_kind t_now_used t_now_bay t_now_likes t_now_who t_now_lamp t_now_due t_now_gain t_now_count t_now_day t_now_dues t_now_draw t_foreseen_kind r70.1 t_foreseen_bay t_foreseen_likes t_foreseen_who t_foreseen_lamp t_foreseen_due r70.2.1 t_foreseen_count r70.2.2.1 r70.2.2.2 t_foreseen_draw t_hasImage)) mv_X3_passDays lk_6_209 (c_X3_passDays l D ks cI cL cC cM cS (fun k => a (36 + k)) t_foreseen_kind t_foreseen_used t_foreseen_bay t_foreseen_likes t_foreseen_who t_foreseen_lamp t_foreseen_due t_foreseen_gain t_foreseen_count t_foreseen_day t_foreseen_dues t_foreseen_draw x2) [10, 11, 12, 13, 14, 15, 16, 17, 18] [0, 1, 2, 3, 4, 5, 6, 7, 8, 9] [0, 1, 2, 3, 4, 5, 6, 7, 8, 9, 10, 11, 12, 13, 14, 15, 16, 17, 18] rfl rfl rfl rfl (by decide +kernel) (fun _ => rfl) rfl (by decide) (Nat.le_of_ble_eq_true rfl) dX6_spare_70 (fun r70 => []) (fun _ => rfl) (fun r70 _ => ?_)
      refine G.aload_n dX6_spare_73 rfl ?_
      refine G.get fl_6_23 0 rfl rfl dX6_spare_74 ?_
      refine G.iload_n dX6_spare_77 rfl ?_
      refine G.callV (st := []) (w' := fun r78 => (w_X6nf cI cL cC cM cS a t_now_kind t_now_used t_now_bay t_now_likes t_now_who t_now_lamp t_now_due t_now_gain t_now_count t_now_day t_now_dues t_now_draw t_foreseen_kind r70.1 t_foreseen_bay t_foreseen_likes t_foreseen_who t_foreseen_lamp t_foreseen_due r70.2.1 t_foreseen_count r70.2.2.1 r70.2.2.2 t_foreseen_draw t_hasImage)) mv_X3_hasTaken lk_6_98 (c_X3_hasTaken l D ks cI cL cC cM cS (fun k => a (36 + k)) t_foreseen_kind r70.1 t_foreseen_bay t_foreseen_likes t_foreseen_who t_foreseen_lamp t_foreseen_due r70.2.1 t_foreseen_count r70.2.2.1 r70.2.2.2 t_foreseen_draw x1) [10, 11, 12, 13, 14, 15, 16, 17, 18] [0, 1, 2, 3, 4, 5, 6, 7, 8, 9] [0, 1, 2, 3, 4, 5, 6, 7, 8, 9, 10, 11, 12, 13, 14, 15, 16, 17, 18] rfl rfl rfl rfl (by decide +kernel) (fun _ => rfl) rfl (by decide) (Nat.le_of_ble_eq_true rfl) dX6_spare_78 (fun r78 => [.int r78]) (fun _ => rfl) (fun r78 _ => ?_)
      refine G.if_ne 86 dX6_spare_81 (by decide) (fun h81 => ?_) (fun h81 => ?_)
      · refine G.iinc 1 (lv' := [some (.ref (a 0)), some (.int x1), some (.int x2), some (.int (x3 + 1)), some (.int x4)]) dX6_spare_86 rfl (by decide) (by decide) (Nat.le_of_ble_eq_true rfl) rfl rfl ?_
        refine G.goto 25 dX6_spare_89 (by decide) ?_
        refine G.mask (lv' := [some (.ref (a 0)), some (.int x1), some (.int x2), some (.int (x3 + 1)), none]) [true, true, true, true, false] rfl ?_
        exact hk25 t_now_kind t_now_used t_now_bay t_now_likes t_now_who t_now_lamp t_now_due t_now_count t_now_day t_now_dues t_now_draw t_foreseen_kind r70.1 t_foreseen_bay t_foreseen_likes t_foreseen_who t_foreseen_lamp t_foreseen_due r70.2.1 t_foreseen_count r70.2.2.1 r70.2.2.2 t_foreseen_draw x1 x2 (x3 + 1)
      · refine G.iload_n dX6_spare_84 rfl ?_
        exact G.iret rfl rfl dX6_spare_85
    · refine G.aload_n dX6_spare_51 rfl ?_
      refine G.get fl_6_23 0 rfl rfl dX6_spare_52 ?_
      refine G.iload_n dX6_spare_55 rfl ?_
      refine G.callV (st := []) (w' := fun r56 => (w_X6nf cI cL cC cM cS a t_now_kind t_now_used t_now_bay t_now_likes t_now_who t_now_lamp t_now_due t_now_gain t_now_count t_now_day t_now_dues t_now_draw t_foreseen_kind r56 t_foreseen_bay t_foreseen_likes t_foreseen_who t_foreseen_lamp t_foreseen_due t_foreseen_gain t_foreseen_count t_foreseen_day t_foreseen_dues t_foreseen_draw t_hasImage)) mv_X3_talkTo lk_6_169 (c_X3_talkTo l D ks cI cL cC cM cS (fun k => a (36 + k)) t_foreseen_kind t_foreseen_used t_foreseen_bay t_foreseen_likes t_foreseen_who t_foreseen_lamp t_foreseen_due t_foreseen_gain t_foreseen_count t_foreseen_day t_foreseen_dues t_foreseen_draw x1) [10, 11, 12, 13, 14, 15, 16, 17, 18] [0, 1, 2, 3, 4, 5, 6, 7, 8, 9] [0, 1, 2, 3, 4, 5, 6, 7, 8, 9, 10, 11, 12, 13, 14, 15, 16, 17, 18] rfl rfl rfl rfl (by decide +kernel) (fun _ => rfl) rfl (by decide) (Nat.le_of_ble_eq_true rfl) dX6_spare_56 (fun r56 => []) (fun _ => rfl) (fun r56 _ => ?_)
      refine G.iinc 1 (lv' := [some (.ref (a 0)), some (.int x1), some (.int x2), some (.int x3), some (.int (x4 + 1))]) dX6_spare_59 rfl (by decide) (by decide) (Nat.le_of_ble_eq_true rfl) rfl rfl ?_
      refine G.goto 45 dX6_spare_62 (by decide) ?_
      exact ih t_now_kind t_now_used t_now_bay t_now_likes t_now_who t_now_lamp t_now_due t_now_count t_now_day t_now_dues t_now_draw t_foreseen_kind r56 t_foreseen_bay t_foreseen_likes t_foreseen_who t_foreseen_lamp t_foreseen_due t_foreseen_gain t_foreseen_count t_foreseen_day t_foreseen_dues t_foreseen_draw x1 x2 x3 (x4 + 1)
set_option maxHeartbeats 4000000 in
set_option maxRecDepth 100000 in
theorem g_X6_spare_c25 (l : Launch) (D : va_G) (ks : Nat × Nat) (cI cL cC cM cS : ClassId) (a : Nat → Nat) (t_now_gain : Nat → Int32) (t_hasImage : Int32) : ∀ (n : Nat), ∀ (t_now_kind t_now_used t_now_bay t_now_likes t_now_who t_now_lamp t_now_due : Nat → Int32) (t_now_count t_now_day t_now_dues t_now_draw : Int32) (t_foreseen_kind t_foreseen_used t_foreseen_bay t_foreseen_likes t_foreseen_who t_foreseen_lamp t_foreseen_due t_foreseen_gain : Nat → Int32) (t_foreseen_count t_foreseen_day t_foreseen_dues t_foreseen_draw : Int32) (x1 : Int32) (x2 : Int32) (x3 : Int32), GJ l D ks (tyz cI cL cC cM cS) RX6 cX6_spare 5 ((some .int)) { frames := 5, cells := 0, slots := 0, locals := 111 } (fun r : Int32 × (Nat → Int32) × (Nat → Int32) × (Nat → Int32) × (Nat → Int32) × (Nat → Int32) × (Nat → Int32) × (Nat → Int32) × (Nat → Int32) × Int32 × Int32 × Int32 × Int32 => (some (.int r.1), (w_X6nf cI cL cC cM cS a t_now_kind t_now_used t_now_bay t_now_likes t_now_who t_now_lamp t_now_due t_now_gain t_now_count t_now_day t_now_dues t_now_draw r.2.1 r.2.2.1 r.2.2.2.1 r.2.2.2.2.1 r.2.2.2.2.2.1 r.2.2.2.2.2.2.1 r.2.2.2.2.2.2.2.1 r.2.2.2.2.2.2.2.2.1 r.2.2.2.2.2.2.2.2.2.1 r.2.2.2.2.2.2.2.2.2.2.1 r.2.2.2.2.2.2.2.2.2.2.2.1 r.2.2.2.2.2.2.2.2.2.2.2.2 t_hasImage))) (w_X6nf cI cL cC cM cS a t_now_kind t_now_used t_now_bay t_now_likes t_now_who t_now_lamp t_now_due t_now_gain t_now_count t_now_day t_now_dues t_now_draw t_foreseen_kind t_foreseen_used t_foreseen_bay t_foreseen_likes t_foreseen_who t_foreseen_lamp t_foreseen_due t_foreseen_gain t_foreseen_count t_foreseen_day t_foreseen_dues t_foreseen_draw t_hasImage) 25 [some (.ref (a 0)), some (.int x1), some (.int x2), some (.int x3), none] [] (f_X6_spare_c25 n t_now_kind t_now_used t_now_bay t_now_likes t_now_who t_now_lamp t_now_due t_now_count t_now_day t_now_dues t_now_draw t_foreseen_kind t_foreseen_used t_foreseen_bay t_foreseen_likes t_foreseen_who t_foreseen_lamp t_foreseen_due t_foreseen_gain t_foreseen_count t_foreseen_day t_foreseen_dues t_foreseen_draw x1 x2 x3) := by
  intro n
  induction n with
  | zero =>
    intro t_now_kind t_now_used t_now_bay t_now_likes t_now_who t_now_lamp t_now_due t_now_count t_now_day t_now_dues t_now_draw t_foreseen_kind t_foreseen_used t_foreseen_bay t_foreseen_likes t_foreseen_who t_foreseen_lamp t_foreseen_due t_foreseen_gain t_foreseen_count t_foreseen_day t_foreseen_dues t_foreseen_draw x1 x2 x3
    exact G.no
  | succ n ih =>
    intro t_now_kind t_now_used t_now_bay t_now_likes t_now_who t_now_lamp t_now_due t_now_count t_now_day t_now_dues t_now_draw t_foreseen_kind t_foreseen_used t_foreseen_bay t_foreseen_likes t_foreseen_who t_foreseen_lamp t_foreseen_due t_foreseen_gain t_foreseen_count t_foreseen_day t_foreseen_dues t_foreseen_draw x1 x2 x3
    rw [f_X6_spare_c25]
    refine G.iload_n dX6_spare_25 rfl ?_
    refine G.bipush 20 dX6_spare_26 (by decide) ?_
    refine G.icmp_gt 92 dX6_spare_28 (by decide) (fun h28 => ?_) (fun h28 => ?_)
    · refine G.bipush (-4) dX6_spare_92 (by decide) ?_
      exact G.iret rfl rfl dX6_spare_94
    · refine G.aload_n dX6_spare_31 rfl ?_
      refine G.get fl_6_23 0 rfl rfl dX6_spare_32 ?_
      refine G.aload_n dX6_spare_35 rfl ?_
      refine G.get fl_6_10 0 rfl rfl dX6_spare_36 ?_
      refine G.callV (st := []) (w' := fun r39 => (w_X6nf cI cL cC cM cS a t_now_kind t_now_used t_now_bay t_now_likes t_now_who t_now_lamp t_now_due t_now_gain t_now_count t_now_day t_now_dues t_now_draw r39.1 r39.2.1 r39.2.2.1 r39.2.2.2.1 r39.2.2.2.2.1 r39.2.2.2.2.2.1 r39.2.2.2.2.2.2.1 t_foreseen_gain r39.2.2.2.2.2.2.2.1 r39.2.2.2.2.2.2.2.2.1 r39.2.2.2.2.2.2.2.2.2.1 r39.2.2.2.2.2.2.2.2.2.2 t_hasImage)) mv_X3_become lk_6_122 (c_X3_become l D ks cI cL cC cM cS (fun k => a (36 + k)) (fun k => a (1 + k)) t_foreseen_kind t_foreseen_used t_foreseen_bay t_foreseen_likes t_foreseen_who t_foreseen_lamp t_foreseen_due t_foreseen_gain t_foreseen_count t_foreseen_day t_foreseen_dues t_foreseen_draw t_now_kind t_now_used t_now_bay t_now_likes t_now_who t_now_lamp t_now_due t_now_gain t_now_count t_now_day t_now_dues t_now_draw) [10, 11, 12, 13, 14, 15, 16, 17, 18, 1, 2, 3, 4, 5, 6, 7, 8, 9] [0] [0, 10, 11, 12, 13, 14, 15, 16, 17, 18, 1, 2, 3, 4, 5, 6, 7, 8, 9] rfl rfl rfl rfl (by decide +kernel) (fun _ => rfl) rfl (by decide) (Nat.le_of_ble_eq_true rfl) dX6_spare_39 (fun r39 => []) (fun _ => rfl) (fun r39 _ => ?_)
      refine G.iconst 0 dX6_spare_42 (by decide) ?_
      refine G.istore (lv' := [some (.ref (a 0)), some (.int x1), some (.int x2), some (.int x3), some (.int 0)]) dX6_spare_43 (by decide) (Nat.le_of_ble_eq_true rfl) rfl rfl ?_
      exact g_X6_spare_c45 l D ks cI cL cC cM cS a t_now_gain t_hasImage (f_X6_spare_c25 n) ih fu t_now_kind t_now_used t_now_bay t_now_likes t_now_who t_now_lamp t_now_due t_now_count t_now_day t_now_dues t_now_draw r39.1 r39.2.1 r39.2.2.1 r39.2.2.2.1 r39.2.2.2.2.1 r39.2.2.2.2.2.1 r39.2.2.2.2.2.2.1 t_foreseen_gain r39.2.2.2.2.2.2.2.1 r39.2.2.2.2.2.2.2.2.1 r39.2.2.2.2.2.2.2.2.2.1 r39.2.2.2.2.2.2.2.2.2.2 x1 x2 x3 0
set_option maxHeartbeats 4000000 in
set_option maxRecDepth 100000 in
theorem c_X6_spare (l : Launch) (D : va_G) (ks : Nat × Nat) (cI cL cC cM cS : ClassId) (a : Nat → Nat) (t_now_kind t_now_used t_now_bay t_now_likes t_now_who t_now_lamp t_now_due t_now_gain : Nat → Int32) (t_now_count t_now_day t_now_dues t_now_draw : Int32) (t_foreseen_kind t_foreseen_used t_foreseen_bay t_foreseen_likes t_foreseen_who t_foreseen_lamp t_foreseen_due t_foreseen_gain : Nat → Int32) (t_foreseen_count t_foreseen_day t_foreseen_dues t_foreseen_draw t_hasImage : Int32) (x1 : Int32) (x2 : Int32) : MT l D ks (tyz cI cL cC cM cS) yX6_spare cX6_spare 5 ((some .int)) { frames := 5, cells := 0, slots := 0, locals := 111 } [.ref (a 0), .int x1, .int x2] (w_X6nf cI cL cC cM cS a t_now_kind t_now_used t_now_bay t_now_likes t_now_who t_now_lamp t_now_due t_now_gain t_now_count t_now_day t_now_dues t_now_draw t_foreseen_kind t_foreseen_used t_foreseen_bay t_foreseen_likes t_foreseen_who t_foreseen_lamp t_foreseen_due t_foreseen_gain t_foreseen_count t_foreseen_day t_foreseen_dues t_foreseen_draw t_hasImage) (fun r : Int32 × (Nat → Int32) × (Nat → Int32) × (Nat → Int32) × (Nat → Int32) × (Nat → Int32) × (Nat → Int32) × (Nat → Int32) × (Nat → Int32) × Int32 × Int32 × Int32 × Int32 => (some (.int r.1), (w_X6nf cI cL cC cM cS a t_now_kind t_now_used t_now_bay t_now_likes t_now_who t_now_lamp t_now_due t_now_gain t_now_count t_now_day t_now_dues t_now_draw r.2.1 r.2.2.1 r.2.2.2.1 r.2.2.2.2.1 r.2.2.2.2.2.1 r.2.2.2.2.2.2.1 r.2.2.2.2.2.2.2.1 r.2.2.2.2.2.2.2.2.1 r.2.2.2.2.2.2.2.2.2.1 r.2.2.2.2.2.2.2.2.2.2.1 r.2.2.2.2.2.2.2.2.2.2.2.1 r.2.2.2.2.2.2.2.2.2.2.2.2 t_hasImage))) (f_X6_spare t_now_kind t_now_used t_now_bay t_now_likes t_now_who t_now_lamp t_now_due t_now_count t_now_day t_now_dues t_now_draw t_foreseen_kind t_foreseen_used t_foreseen_bay t_foreseen_likes t_foreseen_who t_foreseen_lamp t_foreseen_due t_foreseen_gain t_foreseen_count t_foreseen_day t_foreseen_dues t_foreseen_draw x1 x2) := by
  refine MT.of 2 [some (.ref (a 0)), some (.int x1), some (.int x2), none, none] (by decide) (Nat.le_of_ble_eq_true rfl) rfl ?_
  unfold f_X6_spare
  refine G.aload_n dX6_spare_0 rfl ?_
  refine G.get fl_6_10 0 rfl rfl dX6_spare_1 ?_
  refine G.iload_n dX6_spare_4 rfl ?_
  refine G.callV (st := []) (w' := fun r5 => (w_X6nf cI cL cC cM cS a t_now_kind t_now_used t_now_bay t_now_likes t_now_who t_now_lamp t_now_due t_now_gain t_now_count t_now_day t_now_dues t_now_draw t_foreseen_kind t_foreseen_used t_foreseen_bay t_foreseen_likes t_foreseen_who t_foreseen_lamp t_foreseen_due t_foreseen_gain t_foreseen_count t_foreseen_day t_foreseen_dues t_foreseen_draw t_hasImage)) mv_X3_has lk_6_83 (c_X3_has l D ks cI cL cC cM cS (fun k => a (1 + k)) t_now_kind t_now_used t_now_bay t_now_likes t_now_who t_now_lamp t_now_due t_now_gain t_now_count t_now_day t_now_dues t_now_draw x1) [1, 2, 3, 4, 5, 6, 7, 8, 9] [0, 10, 11, 12, 13, 14, 15, 16, 17, 18] [0, 10, 11, 12, 13, 14, 15, 16, 17, 18, 1, 2, 3, 4, 5, 6, 7, 8, 9] rfl rfl rfl rfl (by decide +kernel) (fun _ => rfl) rfl (by decide) (Nat.le_of_ble_eq_true rfl) dX6_spare_5 (fun r5 => [.int r5]) (fun _ => rfl) (fun r5 _ => ?_)
  refine G.if_eq 21 dX6_spare_8 (by decide) (fun h8 => ?_) (fun h8 => ?_)
  · refine G.iconst (-1) dX6_spare_21 (by decide) ?_
    exact G.iret rfl rfl dX6_spare_22
  · refine G.iload_n dX6_spare_11 rfl ?_
    refine G.iconst 1 dX6_spare_12 (by decide) ?_
    refine G.bipush 40 dX6_spare_13 (by decide) ?_
    refine G.callS (st := []) (w' := fun r15 => (w_X6nf cI cL cC cM cS a t_now_kind t_now_used t_now_bay t_now_likes t_now_who t_now_lamp t_now_due t_now_gain t_now_count t_now_day t_now_dues t_now_draw t_foreseen_kind t_foreseen_used t_foreseen_bay t_foreseen_likes t_foreseen_who t_foreseen_lamp t_foreseen_due t_foreseen_gain t_foreseen_count t_foreseen_day t_foreseen_dues t_foreseen_draw t_hasImage)) ms_X6_within lk_6_53 (c_X6_within l D ks cI cL cC cM cS x2 1 40) [] [0, 1, 2, 3, 4, 5, 6, 7, 8, 9, 10, 11, 12, 13, 14, 15, 16, 17, 18] [0, 1, 2, 3, 4, 5, 6, 7, 8, 9, 10, 11, 12, 13, 14, 15, 16, 17, 18] rfl rfl rfl rfl (by decide +kernel) (fun _ => rfl) (by decide) (Nat.le_of_ble_eq_true rfl) dX6_spare_15 (fun r15 => [.int r15]) (fun _ => rfl) (fun r15 _ => ?_)
    refine G.if_ne 23 dX6_spare_18 (by decide) (fun h18 => ?_) (fun h18 => ?_)
    · refine G.iconst 0 dX6_spare_23 (by decide) ?_
      refine G.istore_n (lv' := [some (.ref (a 0)), some (.int x1), some (.int x2), some (.int 0), none]) dX6_spare_24 (by decide) (Nat.le_of_ble_eq_true rfl) rfl rfl ?_
      exact g_X6_spare_c25 l D ks cI cL cC cM cS a t_now_gain t_hasImage fu t_now_kind t_now_used t_now_bay t_now_likes t_now_who t_now_lamp t_now_due t_now_count t_now_day t_now_dues t_now_draw t_foreseen_kind t_foreseen_used t_foreseen_bay t_foreseen_likes t_foreseen_who t_foreseen_lamp t_foreseen_due t_foreseen_gain t_foreseen_count t_foreseen_day t_foreseen_dues t_foreseen_draw x1 x2 0
    · refine G.iconst (-1) dX6_spare_21 (by decide) ?_
      exact G.iret rfl rfl dX6_spare_22
set_option maxHeartbeats 4000000 in
set_option maxRecDepth 100000 in
theorem g_X6_swapsTillCalm_c13 (l : Launch) (D : va_G) (ks : Nat × Nat) (cI cL cC cM cS : ClassId) (a : Nat → Nat) (t_now_gain t_foreseen_gain : Nat → Int32) (t_hasImage : Int32) : ∀ (n : Nat), ∀ (t_now_kind t_now_used t_now_bay t_now_likes t_now_who t_now_lamp t_now_due : Nat → Int32) (t_now_count t_now_day t_now_dues t_now_draw : Int32) (t_foreseen_kind t_foreseen_used t_foreseen_bay t_foreseen_likes t_foreseen_who t_foreseen_lamp t_foreseen_due : Nat → Int32) (t_foreseen_count t_foreseen_day t_foreseen_dues t_foreseen_draw : Int32) (x1 : Int32), GJ l D ks (tyz cI cL cC cM cS) RX6 cX6_swapsTillCalm 3 ((some .int)) { frames := 4, cells := 0, slots := 0, locals := 87 } (fun r : Int32 × (Nat → Int32) × (Nat → Int32) × (Nat → Int32) × (Nat → Int32) × (Nat → Int32) × (Nat → Int32) × (Nat → Int32) × Int32 × Int32 × Int32 × Int32 => (some (.int r.1), (w_X6nf cI cL cC cM cS a t_now_kind t_now_used t_now_bay t_now_likes t_now_who t_now_lamp t_now_due t_now_gain t_now_count t_now_day t_now_dues t_now_draw r.2.1 r.2.2.1 r.2.2.2.1 r.2.2.2.2.1 r.2.2.2.2.2.1 r.2.2.2.2.2.2.1 r.2.2.2.2.2.2.2.1 t_foreseen_gain r.2.2.2.2.2.2.2.2.1 r.2.2.2.2.2.2.2.2.2.1 r.2.2.2.2.2.2.2.2.2.2.1 r.2.2.2.2.2.2.2.2.2.2.2 t_hasImage))) (w_X6nf cI cL cC cM cS a t_now_kind t_now_used t_now_bay t_now_likes t_now_who t_now_lamp t_now_due t_now_gain t_now_count t_now_day t_now_dues t_now_draw t_foreseen_kind t_foreseen_used t_foreseen_bay t_foreseen_likes t_foreseen_who t_foreseen_lamp t_foreseen_due t_foreseen_gain t_foreseen_count t_foreseen_day t_foreseen_dues t_foreseen_draw t_hasImage) 13 [some (.ref (a 0)), some (.int x1), none] [] (f_X6_swapsTillCalm_c13 n t_now_kind t_now_used t_now_bay t_now_likes t_now_who t_now_lamp t_now_due t_now_count t_now_day t_now_dues t_now_draw t_foreseen_kind t_foreseen_used t_foreseen_bay t_foreseen_likes t_foreseen_who t_foreseen_lamp t_foreseen_due t_foreseen_count t_foreseen_day t_foreseen_dues t_foreseen_draw x1) := by
  intro n
  induction n with
  | zero =>
    intro t_now_kind t_now_used t_now_bay t_now_likes t_now_who t_now_lamp t_now_due t_now_count t_now_day t_now_dues t_now_draw t_foreseen_kind t_foreseen_used t_foreseen_bay t_foreseen_likes t_foreseen_who t_foreseen_lamp t_foreseen_due t_foreseen_count t_foreseen_day t_foreseen_dues t_foreseen_draw x1
    exact G.no
  | succ n ih =>
    intro t_now_kind t_now_used t_now_bay t_now_likes t_now_who t_now_lamp t_now_due t_now_count t_now_day t_now_dues t_now_draw t_foreseen_kind t_foreseen_used t_foreseen_bay t_foreseen_likes t_foreseen_who t_foreseen_lamp t_foreseen_due t_foreseen_count t_foreseen_day t_foreseen_dues t_foreseen_draw x1
    rw [f_X6_swapsTillCalm_c13]
    refine G.iload_n dX6_swapsTillCalm_13 rfl ?_
    refine G.bipush 15 dX6_swapsTillCalm_14 (by decide) ?_
    refine G.icmp_ge 56 dX6_swapsTillCalm_16 (by decide) (fun h16 => ?_) (fun h16 => ?_)
    · refine G.bipush 15 dX6_swapsTillCalm_56 (by decide) ?_
      exact G.iret rfl rfl dX6_swapsTillCalm_58
    · refine G.aload_n dX6_swapsTillCalm_19 rfl ?_
      refine G.get fl_6_23 0 rfl rfl dX6_swapsTillCalm_20 ?_
      refine G.callV (st := []) (w' := fun r23 => (w_X6nf cI cL cC cM cS a t_now_kind t_now_used t_now_bay t_now_likes t_now_who t_now_lamp t_now_due t_now_gain t_now_count t_now_day t_now_dues t_now_draw t_foreseen_kind t_foreseen_used t_foreseen_bay t_foreseen_likes t_foreseen_who t_foreseen_lamp t_foreseen_due t_foreseen_gain t_foreseen_count t_foreseen_day t_foreseen_dues t_foreseen_draw t_hasImage)) mv_X3_firstSwap lk_6_197 (c_X3_firstSwap l D ks cI cL cC cM cS (fun k => a (36 + k)) t_foreseen_kind t_foreseen_used t_foreseen_bay t_foreseen_likes t_foreseen_who t_foreseen_lamp t_foreseen_due t_foreseen_gain t_foreseen_count t_foreseen_day t_foreseen_dues t_foreseen_draw) [10, 11, 12, 13, 14, 15, 16, 17, 18] [0, 1, 2, 3, 4, 5, 6, 7, 8, 9] [0, 1, 2, 3, 4, 5, 6, 7, 8, 9, 10, 11, 12, 13, 14, 15, 16, 17, 18] rfl rfl rfl rfl (by decide +kernel) (fun _ => rfl) rfl (by decide) (Nat.le_of_ble_eq_true rfl) dX6_swapsTillCalm_23 (fun r23 => [.int r23]) (fun _ => rfl) (fun r23 _ => ?_)
      refine G.istore_n (lv' := [some (.ref (a 0)), some (.int x1), some (.int r23)]) dX6_swapsTillCalm_26 (by decide) (Nat.le_of_ble_eq_true rfl) rfl rfl ?_
      refine G.iload_n dX6_swapsTillCalm_27 rfl ?_
      refine G.bipush (-4) dX6_swapsTillCalm_28 (by decide) ?_
      refine G.icmp_ne 35 dX6_swapsTillCalm_30 (by decide) (fun h30 => ?_) (fun h30 => ?_)
      · refine G.aload_n dX6_swapsTillCalm_35 rfl ?_
        refine G.get fl_6_23 0 rfl rfl dX6_swapsTillCalm_36 ?_
        refine G.iload_n dX6_swapsTillCalm_39 rfl ?_
        refine G.bipush 10 dX6_swapsTillCalm_40 (by decide) ?_
        refine G.idiv dX6_swapsTillCalm_42 (by decide) ?_
        refine G.iload_n dX6_swapsTillCalm_43 rfl ?_
        refine G.bipush 10 dX6_swapsTillCalm_44 (by decide) ?_
        refine G.irem dX6_swapsTillCalm_46 (by decide) ?_
        refine G.callV (st := []) (w' := fun r47 => (w_X6nf cI cL cC cM cS a t_now_kind t_now_used t_now_bay t_now_likes t_now_who t_now_lamp t_now_due t_now_gain t_now_count t_now_day t_now_dues t_now_draw t_foreseen_kind t_foreseen_used r47.1 t_foreseen_likes r47.2 t_foreseen_lamp t_foreseen_due t_foreseen_gain t_foreseen_count t_foreseen_day t_foreseen_dues t_foreseen_draw t_hasImage)) mv_X3_swapBays lk_6_162 (c_X3_swapBays l D ks cI cL cC cM cS (fun k => a (36 + k)) t_foreseen_kind t_foreseen_used t_foreseen_bay t_foreseen_likes t_foreseen_who t_foreseen_lamp t_foreseen_due t_foreseen_gain t_foreseen_count t_foreseen_day t_foreseen_dues t_foreseen_draw (r23 / 10) (r23 - r23 / 10 * 10)) [10, 11, 12, 13, 14, 15, 16, 17, 18] [0, 1, 2, 3, 4, 5, 6, 7, 8, 9] [0, 1, 2, 3, 4, 5, 6, 7, 8, 9, 10, 11, 12, 13, 14, 15, 16, 17, 18] rfl rfl rfl rfl (by decide +kernel) (fun _ => rfl) rfl (by decide) (Nat.le_of_ble_eq_true rfl) dX6_swapsTillCalm_47 (fun r47 => []) (fun _ => rfl) (fun r47 _ => ?_)
        refine G.iinc 1 (lv' := [some (.ref (a 0)), some (.int (x1 + 1)), some (.int r23)]) dX6_swapsTillCalm_50 rfl (by decide) (by decide) (Nat.le_of_ble_eq_true rfl) rfl rfl ?_
        refine G.goto 13 dX6_swapsTillCalm_53 (by decide) ?_
        refine G.mask (lv' := [some (.ref (a 0)), some (.int (x1 + 1)), none]) [true, true, false] rfl ?_
        exact ih t_now_kind t_now_used t_now_bay t_now_likes t_now_who t_now_lamp t_now_due t_now_count t_now_day t_now_dues t_now_draw t_foreseen_kind t_foreseen_used r47.1 t_foreseen_likes r47.2 t_foreseen_lamp t_foreseen_due t_foreseen_count t_foreseen_day t_foreseen_dues t_foreseen_draw (x1 + 1)
      · refine G.iload_n dX6_swapsTillCalm_33 rfl ?_
        exact G.iret rfl rfl dX6_swapsTillCalm_34
set_option maxHeartbeats 4000000 in
set_option maxRecDepth 100000 in
theorem c_X6_swapsTillCalm (l : Launch) (D : va_G) (ks : Nat × Nat) (cI cL cC cM cS : ClassId) (a : Nat → Nat) (t_now_kind t_now_used t_now_bay t_now_likes t_now_who t_now_lamp t_now_due t_now_gain : Nat → Int32) (t_now_count t_now_day t_now_dues t_now_draw : Int32) (t_foreseen_kind t_foreseen_used t_foreseen_bay t_foreseen_likes t_foreseen_who t_foreseen_lamp t_foreseen_due t_foreseen_gain : Nat → Int32) (t_foreseen_count t_foreseen_day t_foreseen_dues t_foreseen_draw t_hasImage : Int32) : MT l D ks (tyz cI cL cC cM cS) yX6_swapsTillCalm cX6_swapsTillCalm 3 ((some .int)) { frames := 4, cells := 0, slots := 0, locals := 87 } [.ref (a 0)] (w_X6nf cI cL cC cM cS a t_now_kind t_now_used t_now_bay t_now_likes t_now_who t_now_lamp t_now_due t_now_gain t_now_count t_now_day t_now_dues t_now_draw t_foreseen_kind t_foreseen_used t_foreseen_bay t_foreseen_likes t_foreseen_who t_foreseen_lamp t_foreseen_due t_foreseen_gain t_foreseen_count t_foreseen_day t_foreseen_dues t_foreseen_draw t_hasImage) (fun r : Int32 × (Nat → Int32) × (Nat → Int32) × (Nat → Int32) × (Nat → Int32) × (Nat → Int32) × (Nat → Int32) × (Nat → Int32) × Int32 × Int32 × Int32 × Int32 => (some (.int r.1), (w_X6nf cI cL cC cM cS a t_now_kind t_now_used t_now_bay t_now_likes t_now_who t_now_lamp t_now_due t_now_gain t_now_count t_now_day t_now_dues t_now_draw r.2.1 r.2.2.1 r.2.2.2.1 r.2.2.2.2.1 r.2.2.2.2.2.1 r.2.2.2.2.2.2.1 r.2.2.2.2.2.2.2.1 t_foreseen_gain r.2.2.2.2.2.2.2.2.1 r.2.2.2.2.2.2.2.2.2.1 r.2.2.2.2.2.2.2.2.2.2.1 r.2.2.2.2.2.2.2.2.2.2.2 t_hasImage))) (f_X6_swapsTillCalm t_now_kind t_now_used t_now_bay t_now_likes t_now_who t_now_lamp t_now_due t_now_count t_now_day t_now_dues t_now_draw t_foreseen_kind t_foreseen_used t_foreseen_bay t_foreseen_likes t_foreseen_who t_foreseen_lamp t_foreseen_due t_foreseen_count t_foreseen_day t_foreseen_dues t_foreseen_draw) := by
  refine MT.of 2 [some (.ref (a 0)), none, none] (by decide) (Nat.le_of_ble_eq_true rfl) rfl ?_
  unfold f_X6_swapsTillCalm
  refine G.aload_n dX6_swapsTillCalm_0 rfl ?_
  refine G.get fl_6_23 0 rfl rfl dX6_swapsTillCalm_1 ?_
  refine G.aload_n dX6_swapsTillCalm_4 rfl ?_
  refine G.get fl_6_10 0 rfl rfl dX6_swapsTillCalm_5 ?_
  refine G.callV (st := []) (w' := fun r8 => (w_X6nf cI cL cC cM cS a t_now_kind t_now_used t_now_bay t_now_likes t_now_who t_now_lamp t_now_due t_now_gain t_now_count t_now_day t_now_dues t_now_draw r8.1 r8.2.1 r8.2.2.1 r8.2.2.2.1 r8.2.2.2.2.1 r8.2.2.2.2.2.1 r8.2.2.2.2.2.2.1 t_foreseen_gain r8.2.2.2.2.2.2.2.1 r8.2.2.2.2.2.2.2.2.1 r8.2.2.2.2.2.2.2.2.2.1 r8.2.2.2.2.2.2.2.2.2.2 t_hasImage)) mv_X3_become lk_6_122 (c_X3_become l D ks cI cL cC cM cS (fun k => a (36 + k)) (fun k => a (1 + k)) t_foreseen_kind t_foreseen_used t_foreseen_bay t_foreseen_likes t_foreseen_who t_foreseen_lamp t_foreseen_due t_foreseen_gain t_foreseen_count t_foreseen_day t_foreseen_dues t_foreseen_draw t_now_kind t_now_used t_now_bay t_now_likes t_now_who t_now_lamp t_now_due t_now_gain t_now_count t_now_day t_now_dues t_now_draw) [10, 11, 12, 13, 14, 15, 16, 17, 18, 1, 2, 3, 4, 5, 6, 7, 8, 9] [0] [0, 10, 11, 12, 13, 14, 15, 16, 17, 18, 1, 2, 3, 4, 5, 6, 7, 8, 9] rfl rfl rfl rfl (by decide +kernel) (fun _ => rfl) rfl (by decide) (Nat.le_of_ble_eq_true rfl) dX6_swapsTillCalm_8 (fun r8 => []) (fun _ => rfl) (fun r8 _ => ?_)
  refine G.iconst 0 dX6_swapsTillCalm_11 (by decide) ?_
  refine G.istore_n (lv' := [some (.ref (a 0)), some (.int 0), none]) dX6_swapsTillCalm_12 (by decide) (Nat.le_of_ble_eq_true rfl) rfl rfl ?_
  exact g_X6_swapsTillCalm_c13 l D ks cI cL cC cM cS a t_now_gain t_foreseen_gain t_hasImage fu t_now_kind t_now_used t_now_bay t_now_likes t_now_who t_now_lamp t_now_due t_now_count t_now_day t_now_dues t_now_draw r8.1 r8.2.1 r8.2.2.1 r8.2.2.2.1 r8.2.2.2.2.1 r8.2.2.2.2.2.1 r8.2.2.2.2.2.2.1 r8.2.2.2.2.2.2.2.1 r8.2.2.2.2.2.2.2.2.1 r8.2.2.2.2.2.2.2.2.2.1 r8.2.2.2.2.2.2.2.2.2.2 0
set_option maxHeartbeats 4000000 in
set_option maxRecDepth 100000 in
theorem c_X6_swaps (l : Launch) (D : va_G) (ks : Nat × Nat) (cI cL cC cM cS : ClassId) (a : Nat → Nat) (t_now_kind t_now_used t_now_bay t_now_likes t_now_who t_now_lamp t_now_due t_now_gain : Nat → Int32) (t_now_count t_now_day t_now_dues t_now_draw : Int32) (t_foreseen_kind t_foreseen_used t_foreseen_bay t_foreseen_likes t_foreseen_who t_foreseen_lamp t_foreseen_due t_foreseen_gain : Nat → Int32) (t_foreseen_count t_foreseen_day t_foreseen_dues t_foreseen_draw t_hasImage : Int32) (x1 : Int32) : MT l D ks (tyz cI cL cC cM cS) yX6_swaps cX6_swaps 2 ((some .int)) { frames := 5, cells := 0, slots := 0, locals := 109 } [.ref (a 0), .int x1] (w_X6nf cI cL cC cM cS a t_now_kind t_now_used t_now_bay t_now_likes t_now_who t_now_lamp t_now_due t_now_gain t_now_count t_now_day t_now_dues t_now_draw t_foreseen_kind t_foreseen_used t_foreseen_bay t_foreseen_likes t_foreseen_who t_foreseen_lamp t_foreseen_due t_foreseen_gain t_foreseen_count t_foreseen_day t_foreseen_dues t_foreseen_draw t_hasImage) (fun r : Int32 × (Nat → Int32) × (Nat → Int32) × (Nat → Int32) × (Nat → Int32) × (Nat → Int32) × (Nat → Int32) × (Nat → Int32) × Int32 × Int32 × Int32 × Int32 => (some (.int r.1), (w_X6nf cI cL cC cM cS a t_now_kind t_now_used t_now_bay t_now_likes t_now_who t_now_lamp t_now_due t_now_gain t_now_count t_now_day t_now_dues t_now_draw r.2.1 r.2.2.1 r.2.2.2.1 r.2.2.2.2.1 r.2.2.2.2.2.1 r.2.2.2.2.2.2.1 r.2.2.2.2.2.2.2.1 t_foreseen_gain r.2.2.2.2.2.2.2.2.1 r.2.2.2.2.2.2.2.2.2.1 r.2.2.2.2.2.2.2.2.2.2.1 r.2.2.2.2.2.2.2.2.2.2.2 t_hasImage))) (f_X6_swaps t_now_kind t_now_used t_now_bay t_now_likes t_now_who t_now_lamp t_now_due t_now_count t_now_day t_now_dues t_now_draw t_foreseen_kind t_foreseen_used t_foreseen_bay t_foreseen_likes t_foreseen_who t_foreseen_lamp t_foreseen_due t_foreseen_count t_foreseen_day t_foreseen_dues t_foreseen_draw x1) := by
  refine MT.of 0 [some (.ref (a 0)), some (.int x1)] (by decide) (Nat.le_of_ble_eq_true rfl) rfl ?_
  unfold f_X6_swaps
  refine G.iload_n dX6_swaps_0 rfl ?_
  by_cases h1_0 : x1 = 0
  · rw [if_pos h1_0]
    refine G.tin (off := 27) 0 28 h1_0 dX6_swaps_1 (by decide) (by decide) (by decide) (by decide) ?_
    refine G.aload_n dX6_swaps_28 rfl ?_
    refine G.get fl_6_10 0 rfl rfl dX6_swaps_29 ?_
    refine G.callV (st := []) (w' := fun r32 => (w_X6nf cI cL cC cM cS a t_now_kind t_now_used t_now_bay t_now_likes t_now_who t_now_lamp t_now_due t_now_gain t_now_count t_now_day t_now_dues t_now_draw t_foreseen_kind t_foreseen_used t_foreseen_bay t_foreseen_likes t_foreseen_who t_foreseen_lamp t_foreseen_due t_foreseen_gain t_foreseen_count t_foreseen_day t_foreseen_dues t_foreseen_draw t_hasImage)) mv_X3_countSwaps lk_6_194 (c_X3_countSwaps l D ks cI cL cC cM cS (fun k => a (1 + k)) t_now_kind t_now_used t_now_bay t_now_likes t_now_who t_now_lamp t_now_due t_now_gain t_now_count t_now_day t_now_dues t_now_draw) [1, 2, 3, 4, 5, 6, 7, 8, 9] [0, 10, 11, 12, 13, 14, 15, 16, 17, 18] [0, 10, 11, 12, 13, 14, 15, 16, 17, 18, 1, 2, 3, 4, 5, 6, 7, 8, 9] rfl rfl rfl rfl (by decide +kernel) (fun _ => rfl) rfl (by decide) (Nat.le_of_ble_eq_true rfl) dX6_swaps_32 (fun r32 => [.int r32]) (fun _ => rfl) (fun r32 _ => ?_)
    exact G.iret rfl rfl dX6_swaps_35
  rw [if_neg h1_0]
  by_cases h1_1 : x1 = 1
  · rw [if_pos h1_1]
    refine G.tin (off := 35) 1 36 h1_1 dX6_swaps_1 (by decide) (by decide) (by decide) (by decide) ?_
    refine G.aload_n dX6_swaps_36 rfl ?_
    refine G.get fl_6_10 0 rfl rfl dX6_swaps_37 ?_
    refine G.callV (st := []) (w' := fun r40 => (w_X6nf cI cL cC cM cS a t_now_kind t_now_used t_now_bay t_now_likes t_now_who t_now_lamp t_now_due t_now_gain t_now_count t_now_day t_now_dues t_now_draw t_foreseen_kind t_foreseen_used t_foreseen_bay t_foreseen_likes t_foreseen_who t_foreseen_lamp t_foreseen_due t_foreseen_gain t_foreseen_count t_foreseen_day t_foreseen_dues t_foreseen_draw t_hasImage)) mv_X3_firstSwap lk_6_197 (c_X3_firstSwap l D ks cI cL cC cM cS (fun k => a (1 + k)) t_now_kind t_now_used t_now_bay t_now_likes t_now_who t_now_lamp t_now_due t_now_gain t_now_count t_now_day t_now_dues t_now_draw) [1, 2, 3, 4, 5, 6, 7, 8, 9] [0, 10, 11, 12, 13, 14, 15, 16, 17, 18] [0, 10, 11, 12, 13, 14, 15, 16, 17, 18, 1, 2, 3, 4, 5, 6, 7, 8, 9] rfl rfl rfl rfl (by decide +kernel) (fun _ => rfl) rfl (by decide) (Nat.le_of_ble_eq_true rfl) dX6_swaps_40 (fun r40 => [.int r40]) (fun _ => rfl) (fun r40 _ => ?_)
    exact G.iret rfl rfl dX6_swaps_43
  rw [if_neg h1_1]
  by_cases h1_2 : x1 = 2
  · rw [if_pos h1_2]
    refine G.tin (off := 43) 2 44 h1_2 dX6_swaps_1 (by decide) (by decide) (by decide) (by decide) ?_
    refine G.aload_n dX6_swaps_44 rfl ?_
    refine G.callV (st := []) (w' := fun r45 => (w_X6nf cI cL cC cM cS a t_now_kind t_now_used t_now_bay t_now_likes t_now_who t_now_lamp t_now_due t_now_gain t_now_count t_now_day t_now_dues t_now_draw r45.2.1 r45.2.2.1 r45.2.2.2.1 r45.2.2.2.2.1 r45.2.2.2.2.2.1 r45.2.2.2.2.2.2.1 r45.2.2.2.2.2.2.2.1 t_foreseen_gain r45.2.2.2.2.2.2.2.2.1 r45.2.2.2.2.2.2.2.2.2.1 r45.2.2.2.2.2.2.2.2.2.2.1 r45.2.2.2.2.2.2.2.2.2.2.2 t_hasImage)) mv_X6_swapsTillCalm lk_6_200 (c_X6_swapsTillCalm l D ks cI cL cC cM cS a t_now_kind t_now_used t_now_bay t_now_likes t_now_who t_now_lamp t_now_due t_now_gain t_now_count t_now_day t_now_dues t_now_draw t_foreseen_kind t_foreseen_used t_foreseen_bay t_foreseen_likes t_foreseen_who t_foreseen_lamp t_foreseen_due t_foreseen_gain t_foreseen_count t_foreseen_day t_foreseen_dues t_foreseen_draw t_hasImage) [0, 1, 2, 3, 4, 5, 6, 7, 8, 9, 10, 11, 12, 13, 14, 15, 16, 17, 18] [] [0, 1, 2, 3, 4, 5, 6, 7, 8, 9, 10, 11, 12, 13, 14, 15, 16, 17, 18] rfl rfl rfl rfl (by decide +kernel) (fun _ => rfl) rfl (by decide) (Nat.le_of_ble_eq_true rfl) dX6_swaps_45 (fun r45 => [.int r45.1]) (fun _ => rfl) (fun r45 _ => ?_)
    exact G.iret rfl rfl dX6_swaps_48
  rw [if_neg h1_2]
  refine G.tout 49 (g_o3 h1_0 h1_1 h1_2) dX6_swaps_1 (by decide) ?_
  refine G.iconst (-1) dX6_swaps_49 (by decide) ?_
  exact G.iret rfl rfl dX6_swaps_50
set_option maxHeartbeats 4000000 in
set_option maxRecDepth 100000 in
theorem g_X6_takes_c26 (l : Launch) (D : va_G) (ks : Nat × Nat) (cI cL cC cM cS : ClassId) (a : Nat → Nat) (t_now_gain : Nat → Int32) (t_hasImage : Int32) : ∀ (n : Nat), ∀ (t_now_kind t_now_used t_now_bay t_now_likes t_now_who t_now_lamp t_now_due : Nat → Int32) (t_now_count t_now_day t_now_dues t_now_draw : Int32) (t_foreseen_kind t_foreseen_used t_foreseen_bay t_foreseen_likes t_foreseen_who t_foreseen_lamp t_foreseen_due t_foreseen_gain : Nat → Int32) (t_foreseen_count t_foreseen_day t_foreseen_dues t_foreseen_draw : Int32) (x1 : Int32) (x2 : Int32), GJ l D ks (tyz cI cL cC cM cS) RX6 cX6_takes 3 ((some .int)) { frames := 4, cells := 0, slots := 0, locals := 89 } (fun r : Int32 × (Nat → Int32) × (Nat → Int32) × (Nat → Int32) × (Nat → Int32) × (Nat → Int32) × (Nat → Int32) × (Nat → Int32) × (Nat → Int32) × Int32 × Int32 × Int32 × Int32 => (some (.int r.1), (w_X6nf cI cL cC cM cS a t_now_kind t_now_used t_now_bay t_now_likes t_now_who t_now_lamp t_now_due t_now_gain t_now_count t_now_day t_now_dues t_now_draw r.2.1 r.2.2.1 r.2.2.2.1 r.2.2.2.2.1 r.2.2.2.2.2.1 r.2.2.2.2.2.2.1 r.2.2.2.2.2.2.2.1 r.2.2.2.2.2.2.2.2.1 r.2.2.2.2.2.2.2.2.2.1 r.2.2.2.2.2.2.2.2.2.2.1 r.2.2.2.2.2.2.2.2.2.2.2.1 r.2.2.2.2.2.2.2.2.2.2.2.2 t_hasImage))) (w_X6nf cI cL cC cM cS a t_now_kind t_now_used t_now_bay t_now_likes t_now_who t_now_lamp t_now_due t_now_gain t_now_count t_now_day t_now_dues t_now_draw t_foreseen_kind t_foreseen_used t_foreseen_bay t_foreseen_likes t_foreseen_who t_foreseen_lamp t_foreseen_due t_foreseen_gain t_foreseen_count t_foreseen_day t_foreseen_dues t_foreseen_draw t_hasImage) 26 [some (.ref (a 0)), some (.int x1), some (.int x2)] [] (f_X6_takes_c26 n t_now_kind t_now_used t_now_bay t_now_likes t_now_who t_now_lamp t_now_due t_now_count t_now_day t_now_dues t_now_draw t_foreseen_kind t_foreseen_used t_foreseen_bay t_foreseen_likes t_foreseen_who t_foreseen_lamp t_foreseen_due t_foreseen_gain t_foreseen_count t_foreseen_day t_foreseen_dues t_foreseen_draw x1 x2) := by
  intro n
  induction n with
  | zero =>
    intro t_now_kind t_now_used t_now_bay t_now_likes t_now_who t_now_lamp t_now_due t_now_count t_now_day t_now_dues t_now_draw t_foreseen_kind t_foreseen_used t_foreseen_bay t_foreseen_likes t_foreseen_who t_foreseen_lamp t_foreseen_due t_foreseen_gain t_foreseen_count t_foreseen_day t_foreseen_dues t_foreseen_draw x1 x2
    exact G.no
  | succ n ih =>
    intro t_now_kind t_now_used t_now_bay t_now_likes t_now_who t_now_lamp t_now_due t_now_count t_now_day t_now_dues t_now_draw t_foreseen_kind t_foreseen_used t_foreseen_bay t_foreseen_likes t_foreseen_who t_foreseen_lamp t_foreseen_due t_foreseen_gain t_foreseen_count t_foreseen_day t_foreseen_dues t_foreseen_draw x1 x2
    rw [f_X6_takes_c26]
    refine G.iload_n dX6_takes_26 rfl ?_
    refine G.bipush 99 dX6_takes_27 (by decide) ?_
    refine G.icmp_gt 58 dX6_takes_29 (by decide) (fun h29 => ?_) (fun h29 => ?_)
    · refine G.bipush (-4) dX6_takes_58 (by decide) ?_
      exact G.iret rfl rfl dX6_takes_60
    · refine G.aload_n dX6_takes_32 rfl ?_
      refine G.get fl_6_23 0 rfl rfl dX6_takes_33 ?_
      refine G.iload_n dX6_takes_36 rfl ?_
      refine G.callV (st := []) (w' := fun r37 => (w_X6nf cI cL cC cM cS a t_now_kind t_now_used t_now_bay t_now_likes t_now_who t_now_lamp t_now_due t_now_gain t_now_count t_now_day t_now_dues t_now_draw t_foreseen_kind t_foreseen_used t_foreseen_bay t_foreseen_likes t_foreseen_who t_foreseen_lamp t_foreseen_due t_foreseen_gain t_foreseen_count t_foreseen_day t_foreseen_dues t_foreseen_draw t_hasImage)) mv_X3_hasTaken lk_6_98 (c_X3_hasTaken l D ks cI cL cC cM cS (fun k => a (36 + k)) t_foreseen_kind t_foreseen_used t_foreseen_bay t_foreseen_likes t_foreseen_who t_foreseen_lamp t_foreseen_due t_foreseen_gain t_foreseen_count t_foreseen_day t_foreseen_dues t_foreseen_draw x1) [10, 11, 12, 13, 14, 15, 16, 17, 18] [0, 1, 2, 3, 4, 5, 6, 7, 8, 9] [0, 1, 2, 3, 4, 5, 6, 7, 8, 9, 10, 11, 12, 13, 14, 15, 16, 17, 18] rfl rfl rfl rfl (by decide +kernel) (fun _ => rfl) rfl (by decide) (Nat.le_of_ble_eq_true rfl) dX6_takes_37 (fun r37 => [.int r37]) (fun _ => rfl) (fun r37 _ => ?_)
      refine G.if_eq 45 dX6_takes_40 (by decide) (fun h40 => ?_) (fun h40 => ?_)
      · refine G.aload_n dX6_takes_45 rfl ?_
        refine G.get fl_6_23 0 rfl rfl dX6_takes_46 ?_
        refine G.callV (st := []) (w' := fun r49 => (w_X6nf cI cL cC cM cS a t_now_kind t_now_used t_now_bay t_now_likes t_now_who t_now_lamp t_now_due t_now_gain t_now_count t_now_day t_now_dues t_now_draw t_foreseen_kind r49.1 t_foreseen_bay t_foreseen_likes t_foreseen_who t_foreseen_lamp t_foreseen_due r49.2.1 t_foreseen_count r49.2.2.1 r49.2.2.2 t_foreseen_draw t_hasImage)) mv_X3_passDay lk_6_182 (c_X3_passDay l D ks cI cL cC cM cS (fun k => a (36 + k)) t_foreseen_kind t_foreseen_used t_foreseen_bay t_foreseen_likes t_foreseen_who t_foreseen_lamp t_foreseen_due t_foreseen_gain t_foreseen_count t_foreseen_day t_foreseen_dues t_foreseen_draw) [10, 11, 12, 13, 14, 15, 16, 17, 18] [0, 1, 2, 3, 4, 5, 6, 7, 8, 9] [0, 1, 2, 3, 4, 5, 6, 7, 8, 9, 10, 11, 12, 13, 14, 15, 16, 17, 18] rfl rfl rfl rfl (by decide +kernel) (fun _ => rfl) rfl (by decide) (Nat.le_of_ble_eq_true rfl) dX6_takes_49 (fun r49 => []) (fun _ => rfl) (fun r49 _ => ?_)
        refine G.iinc 1 (lv' := [some (.ref (a 0)), some (.int x1), some (.int (x2 + 1))]) dX6_takes_52 rfl (by decide) (by decide) (Nat.le_of_ble_eq_true rfl) rfl rfl ?_
        refine G.goto 26 dX6_takes_55 (by decide) ?_
        exact ih t_now_kind t_now_used t_now_bay t_now_likes t_now_who t_now_lamp t_now_due t_now_count t_now_day t_now_dues t_now_draw t_foreseen_kind r49.1 t_foreseen_bay t_foreseen_likes t_foreseen_who t_foreseen_lamp t_foreseen_due r49.2.1 t_foreseen_count r49.2.2.1 r49.2.2.2 t_foreseen_draw x1 (x2 + 1)
      · refine G.iload_n dX6_takes_43 rfl ?_
        exact G.iret rfl rfl dX6_takes_44
set_option maxHeartbeats 4000000 in
set_option maxRecDepth 100000 in
theorem c_X6_takes (l : Launch) (D : va_G) (ks : Nat × Nat) (cI cL cC cM cS : ClassId) (a : Nat → Nat) (t_now_kind t_now_used t_now_bay t_now_likes t_now_who t_now_lamp t_now_due t_now_gain : Nat → Int32) (t_now_count t_now_day t_now_dues t_now_draw : Int32) (t_foreseen_kind t_foreseen_used t_foreseen_bay t_foreseen_likes t_foreseen_who t_foreseen_lamp t_foreseen_due t_foreseen_gain : Nat → Int32) (t_foreseen_count t_foreseen_day t_foreseen_dues t_foreseen_draw t_hasImage : Int32) (x1 : Int32) : MT l D ks (tyz cI cL cC cM cS) yX6_takes cX6_takes 3 ((some .int)) { frames := 4, cells := 0, slots := 0, locals := 89 } [.ref (a 0), .int x1] (w_X6nf cI cL cC cM cS a t_now_kind t_now_used t_now_bay t_now_likes t_now_who t_now_lamp t_now_due t_now_gain t_now_count t_now_day t_now_dues t_now_draw t_foreseen_kind t_foreseen_used t_foreseen_bay t_foreseen_likes t_foreseen_who t_foreseen_lamp t_foreseen_due t_foreseen_gain t_foreseen_count t_foreseen_day t_foreseen_dues t_foreseen_draw t_hasImage) (fun r : Int32 × (Nat → Int32) × (Nat → Int32) × (Nat → Int32) × (Nat → Int32) × (Nat → Int32) × (Nat → Int32) × (Nat → Int32) × (Nat → Int32) × Int32 × Int32 × Int32 × Int32 => (some (.int r.1), (w_X6nf cI cL cC cM cS a t_now_kind t_now_used t_now_bay t_now_likes t_now_who t_now_lamp t_now_due t_now_gain t_now_count t_now_day t_now_dues t_now_draw r.2.1 r.2.2.1 r.2.2.2.1 r.2.2.2.2.1 r.2.2.2.2.2.1 r.2.2.2.2.2.2.1 r.2.2.2.2.2.2.2.1 r.2.2.2.2.2.2.2.2.1 r.2.2.2.2.2.2.2.2.2.1 r.2.2.2.2.2.2.2.2.2.2.1 r.2.2.2.2.2.2.2.2.2.2.2.1 r.2.2.2.2.2.2.2.2.2.2.2.2 t_hasImage))) (f_X6_takes t_now_kind t_now_used t_now_bay t_now_likes t_now_who t_now_lamp t_now_due t_now_count t_now_day t_now_dues t_now_draw t_foreseen_kind t_foreseen_used t_foreseen_bay t_foreseen_likes t_foreseen_who t_foreseen_lamp t_foreseen_due t_foreseen_gain t_foreseen_count t_foreseen_day t_foreseen_dues t_foreseen_draw x1) := by
  refine MT.of 1 [some (.ref (a 0)), some (.int x1), none] (by decide) (Nat.le_of_ble_eq_true rfl) rfl ?_
  unfold f_X6_takes
  refine G.aload_n dX6_takes_0 rfl ?_
  refine G.get fl_6_10 0 rfl rfl dX6_takes_1 ?_
  refine G.iload_n dX6_takes_4 rfl ?_
  refine G.callV (st := []) (w' := fun r5 => (w_X6nf cI cL cC cM cS a t_now_kind t_now_used t_now_bay t_now_likes t_now_who t_now_lamp t_now_due t_now_gain t_now_count t_now_day t_now_dues t_now_draw t_foreseen_kind t_foreseen_used t_foreseen_bay t_foreseen_likes t_foreseen_who t_foreseen_lamp t_foreseen_due t_foreseen_gain t_foreseen_count t_foreseen_day t_foreseen_dues t_foreseen_draw t_hasImage)) mv_X3_has lk_6_83 (c_X3_has l D ks cI cL cC cM cS (fun k => a (1 + k)) t_now_kind t_now_used t_now_bay t_now_likes t_now_who t_now_lamp t_now_due t_now_gain t_now_count t_now_day t_now_dues t_now_draw x1) [1, 2, 3, 4, 5, 6, 7, 8, 9] [0, 10, 11, 12, 13, 14, 15, 16, 17, 18] [0, 10, 11, 12, 13, 14, 15, 16, 17, 18, 1, 2, 3, 4, 5, 6, 7, 8, 9] rfl rfl rfl rfl (by decide +kernel) (fun _ => rfl) rfl (by decide) (Nat.le_of_ble_eq_true rfl) dX6_takes_5 (fun r5 => [.int r5]) (fun _ => rfl) (fun r5 _ => ?_)
  refine G.if_ne 13 dX6_takes_8 (by decide) (fun h8 => ?_) (fun h8 => ?_)
  · refine G.aload_n dX6_takes_13 rfl ?_
    refine G.get fl_6_23 0 rfl rfl dX6_takes_14 ?_
    refine G.aload_n dX6_takes_17 rfl ?_
    refine G.get fl_6_10 0 rfl rfl dX6_takes_18 ?_
    refine G.callV (st := []) (w' := fun r21 => (w_X6nf cI cL cC cM cS a t_now_kind t_now_used t_now_bay t_now_likes t_now_who t_now_lamp t_now_due t_now_gain t_now_count t_now_day t_now_dues t_now_draw r21.1 r21.2.1 r21.2.2.1 r21.2.2.2.1 r21.2.2.2.2.1 r21.2.2.2.2.2.1 r21.2.2.2.2.2.2.1 t_foreseen_gain r21.2.2.2.2.2.2.2.1 r21.2.2.2.2.2.2.2.2.1 r21.2.2.2.2.2.2.2.2.2.1 r21.2.2.2.2.2.2.2.2.2.2 t_hasImage)) mv_X3_become lk_6_122 (c_X3_become l D ks cI cL cC cM cS (fun k => a (36 + k)) (fun k => a (1 + k)) t_foreseen_kind t_foreseen_used t_foreseen_bay t_foreseen_likes t_foreseen_who t_foreseen_lamp t_foreseen_due t_foreseen_gain t_foreseen_count t_foreseen_day t_foreseen_dues t_foreseen_draw t_now_kind t_now_used t_now_bay t_now_likes t_now_who t_now_lamp t_now_due t_now_gain t_now_count t_now_day t_now_dues t_now_draw) [10, 11, 12, 13, 14, 15, 16, 17, 18, 1, 2, 3, 4, 5, 6, 7, 8, 9] [0] [0, 10, 11, 12, 13, 14, 15, 16, 17, 18, 1, 2, 3, 4, 5, 6, 7, 8, 9] rfl rfl rfl rfl (by decide +kernel) (fun _ => rfl) rfl (by decide) (Nat.le_of_ble_eq_true rfl) dX6_takes_21 (fun r21 => []) (fun _ => rfl) (fun r21 _ => ?_)
    refine G.iconst 0 dX6_takes_24 (by decide) ?_
    refine G.istore_n (lv' := [some (.ref (a 0)), some (.int x1), some (.int 0)]) dX6_takes_25 (by decide) (Nat.le_of_ble_eq_true rfl) rfl rfl ?_
    exact g_X6_takes_c26 l D ks cI cL cC cM cS a t_now_gain t_hasImage fu t_now_kind t_now_used t_now_bay t_now_likes t_now_who t_now_lamp t_now_due t_now_count t_now_day t_now_dues t_now_draw r21.1 r21.2.1 r21.2.2.1 r21.2.2.2.1 r21.2.2.2.2.1 r21.2.2.2.2.2.1 r21.2.2.2.2.2.2.1 t_foreseen_gain r21.2.2.2.2.2.2.2.1 r21.2.2.2.2.2.2.2.2.1 r21.2.2.2.2.2.2.2.2.2.1 r21.2.2.2.2.2.2.2.2.2.2 x1 0
  · refine G.iconst (-1) dX6_takes_11 (by decide) ?_
    exact G.iret rfl rfl dX6_takes_12
set_option maxHeartbeats 4000000 in
set_option maxRecDepth 100000 in
theorem c_X6_then (l : Launch) (D : va_G) (ks : Nat × Nat) (cI cL cC cM cS : ClassId) (a : Nat → Nat) (t_now_kind t_now_used t_now_bay t_now_likes t_now_who t_now_lamp t_now_due t_now_gain : Nat → Int32) (t_now_count t_now_day t_now_dues t_now_draw : Int32) (t_foreseen_kind t_foreseen_used t_foreseen_bay t_foreseen_likes t_foreseen_who t_foreseen_lamp t_foreseen_due t_foreseen_gain : Nat → Int32) (t_foreseen_count t_foreseen_day t_foreseen_dues t_foreseen_draw t_hasImage : Int32) (x1 : Int32) (x2 : Int32) : MT l D ks (tyz cI cL cC cM cS) yX6_then cX6_then 3 ((some .int)) { frames := 6, cells := 0, slots := 0, locals := 132 } [.ref (a 0), .int x1, .int x2] (w_X6nf cI cL cC cM cS a t_now_kind t_now_used t_now_bay t_now_likes t_now_who t_now_lamp t_now_due t_now_gain t_now_count t_now_day t_now_dues t_now_draw t_foreseen_kind t_foreseen_used t_foreseen_bay t_foreseen_likes t_foreseen_who t_foreseen_lamp t_foreseen_due t_foreseen_gain t_foreseen_count t_foreseen_day t_foreseen_dues t_foreseen_draw t_hasImage) (fun r : Int32 × (Nat → Int32) × (Nat → Int32) × (Nat → Int32) × (Nat → Int32) × (Nat → Int32) × (Nat → Int32) × (Nat → Int32) × (Nat → Int32) × Int32 × Int32 × Int32 × Int32 => (some (.int r.1), (w_X6nf cI cL cC cM cS a t_now_kind t_now_used t_now_bay t_now_likes t_now_who t_now_lamp t_now_due t_now_gain t_now_count t_now_day t_now_dues t_now_draw r.2.1 r.2.2.1 r.2.2.2.1 r.2.2.2.2.1 r.2.2.2.2.2.1 r.2.2.2.2.2.2.1 r.2.2.2.2.2.2.2.1 r.2.2.2.2.2.2.2.2.1 r.2.2.2.2.2.2.2.2.2.1 r.2.2.2.2.2.2.2.2.2.2.1 r.2.2.2.2.2.2.2.2.2.2.2.1 r.2.2.2.2.2.2.2.2.2.2.2.2 t_hasImage))) (f_X6_then t_now_kind t_now_used t_now_bay t_now_likes t_now_who t_now_lamp t_now_due t_now_count t_now_day t_now_dues t_now_draw t_foreseen_kind t_foreseen_used t_foreseen_bay t_foreseen_likes t_foreseen_who t_foreseen_lamp t_foreseen_due t_foreseen_gain t_foreseen_count t_foreseen_day t_foreseen_dues t_foreseen_draw x1 x2) := by
  refine MT.of 0 [some (.ref (a 0)), some (.int x1), some (.int x2)] (by decide) (Nat.le_of_ble_eq_true rfl) rfl ?_
  unfold f_X6_then
  refine G.iload_n dX6_then_0 rfl ?_
  refine G.iconst 0 dX6_then_1 (by decide) ?_
  refine G.bipush 99 dX6_then_2 (by decide) ?_
  refine G.callS (st := []) (w' := fun r4 => (w_X6nf cI cL cC cM cS a t_now_kind t_now_used t_now_bay t_now_likes t_now_who t_now_lamp t_now_due t_now_gain t_now_count t_now_day t_now_dues t_now_draw t_foreseen_kind t_foreseen_used t_foreseen_bay t_foreseen_likes t_foreseen_who t_foreseen_lamp t_foreseen_due t_foreseen_gain t_foreseen_count t_foreseen_day t_foreseen_dues t_foreseen_draw t_hasImage)) ms_X6_within lk_6_53 (c_X6_within l D ks cI cL cC cM cS x1 0 99) [] [0, 1, 2, 3, 4, 5, 6, 7, 8, 9, 10, 11, 12, 13, 14, 15, 16, 17, 18] [0, 1, 2, 3, 4, 5, 6, 7, 8, 9, 10, 11, 12, 13, 14, 15, 16, 17, 18] rfl rfl rfl rfl (by decide +kernel) (fun _ => rfl) (by decide) (Nat.le_of_ble_eq_true rfl) dX6_then_4 (fun r4 => [.int r4]) (fun _ => rfl) (fun r4 _ => ?_)
  refine G.if_eq 19 dX6_then_7 (by decide) (fun h7 => ?_) (fun h7 => ?_)
  · refine G.iconst (-1) dX6_then_19 (by decide) ?_
    exact G.iret rfl rfl dX6_then_20
  · refine G.iload_n dX6_then_10 rfl ?_
    refine G.iconst 0 dX6_then_11 (by decide) ?_
    refine G.iconst 1 dX6_then_12 (by decide) ?_
    refine G.callS (st := []) (w' := fun r13 => (w_X6nf cI cL cC cM cS a t_now_kind t_now_used t_now_bay t_now_likes t_now_who t_now_lamp t_now_due t_now_gain t_now_count t_now_day t_now_dues t_now_draw t_foreseen_kind t_foreseen_used t_foreseen_bay t_foreseen_likes t_foreseen_who t_foreseen_lamp t_foreseen_due t_foreseen_gain t_foreseen_count t_foreseen_day t_foreseen_dues t_foreseen_draw t_hasImage)) ms_X6_within lk_6_53 (c_X6_within l D ks cI cL cC cM cS x2 0 1) [] [0, 1, 2, 3, 4, 5, 6, 7, 8, 9, 10, 11, 12, 13, 14, 15, 16, 17, 18] [0, 1, 2, 3, 4, 5, 6, 7, 8, 9, 10, 11, 12, 13, 14, 15, 16, 17, 18] rfl rfl rfl rfl (by decide +kernel) (fun _ => rfl) (by decide) (Nat.le_of_ble_eq_true rfl) dX6_then_13 (fun r13 => [.int r13]) (fun _ => rfl) (fun r13 _ => ?_)
    refine G.if_ne 21 dX6_then_16 (by decide) (fun h16 => ?_) (fun h16 => ?_)
    · refine G.aload_n dX6_then_21 rfl ?_
      refine G.iload_n dX6_then_22 rfl ?_
      refine G.callV (st := []) (w' := fun r23 => (w_X6nf cI cL cC cM cS a t_now_kind t_now_used t_now_bay t_now_likes t_now_who t_now_lamp t_now_due t_now_gain t_now_count t_now_day t_now_dues t_now_draw r23.1 r23.2.1 r23.2.2.1 r23.2.2.2.1 r23.2.2.2.2.1 r23.2.2.2.2.2.1 r23.2.2.2.2.2.2.1 r23.2.2.2.2.2.2.2.1 r23.2.2.2.2.2.2.2.2.1 r23.2.2.2.2.2.2.2.2.2.1 r23.2.2.2.2.2.2.2.2.2.2.1 r23.2.2.2.2.2.2.2.2.2.2.2 t_hasImage)) mv_X6_foresee lk_6_179 (c_X6_foresee l D ks cI cL cC cM cS a t_now_kind t_now_used t_now_bay t_now_likes t_now_who t_now_lamp t_now_due t_now_gain t_now_count t_now_day t_now_dues t_now_draw t_foreseen_kind t_foreseen_used t_foreseen_bay t_foreseen_likes t_foreseen_who t_foreseen_lamp t_foreseen_due t_foreseen_gain t_foreseen_count t_foreseen_day t_foreseen_dues t_foreseen_draw t_hasImage x1) [0, 1, 2, 3, 4, 5, 6, 7, 8, 9, 10, 11, 12, 13, 14, 15, 16, 17, 18] [] [0, 1, 2, 3, 4, 5, 6, 7, 8, 9, 10, 11, 12, 13, 14, 15, 16, 17, 18] rfl rfl rfl rfl (by decide +kernel) (fun _ => rfl) rfl (by decide) (Nat.le_of_ble_eq_true rfl) dX6_then_23 (fun r23 => []) (fun _ => rfl) (fun r23 _ => ?_)
      refine G.iload_n dX6_then_26 rfl ?_
      refine G.if_ne 40 dX6_then_27 (by decide) (fun h27 => ?_) (fun h27 => ?_)
      · refine G.aload_n dX6_then_40 rfl ?_
        refine G.get fl_6_23 0 rfl rfl dX6_then_41 ?_
        refine G.get fl_6_140 10 rfl rfl dX6_then_44 ?_
        exact G.iret rfl rfl dX6_then_47
      · refine G.aload_n dX6_then_30 rfl ?_
        refine G.get fl_6_23 0 rfl rfl dX6_then_31 ?_
        refine G.callV (st := []) (w' := fun r34 => (w_X6nf cI cL cC cM cS a t_now_kind t_now_used t_now_bay t_now_likes t_now_who t_now_lamp t_now_due t_now_gain t_now_count t_now_day t_now_dues t_now_draw r23.1 r23.2.1 r23.2.2.1 r23.2.2.2.1 r23.2.2.2.2.1 r23.2.2.2.2.2.1 r23.2.2.2.2.2.2.1 r23.2.2.2.2.2.2.2.1 r23.2.2.2.2.2.2.2.2.1 r23.2.2.2.2.2.2.2.2.2.1 r23.2.2.2.2.2.2.2.2.2.2.1 r23.2.2.2.2.2.2.2.2.2.2.2 t_hasImage)) mv_X3_takenSet lk_6_143 (c_X3_takenSet l D ks cI cL cC cM cS (fun k => a (36 + k)) r23.1 r23.2.1 r23.2.2.1 r23.2.2.2.1 r23.2.2.2.2.1 r23.2.2.2.2.2.1 r23.2.2.2.2.2.2.1 r23.2.2.2.2.2.2.2.1 r23.2.2.2.2.2.2.2.2.1 r23.2.2.2.2.2.2.2.2.2.1 r23.2.2.2.2.2.2.2.2.2.2.1 r23.2.2.2.2.2.2.2.2.2.2.2) [10, 11, 12, 13, 14, 15, 16, 17, 18] [0, 1, 2, 3, 4, 5, 6, 7, 8, 9] [0, 1, 2, 3, 4, 5, 6, 7, 8, 9, 10, 11, 12, 13, 14, 15, 16, 17, 18] rfl rfl rfl rfl (by decide +kernel) (fun _ => rfl) rfl (by decide) (Nat.le_of_ble_eq_true rfl) dX6_then_34 (fun r34 => [.int r34]) (fun _ => rfl) (fun r34 _ => ?_)
        refine G.goto 47 dX6_then_37 (by decide) ?_
        exact G.iret rfl rfl dX6_then_47
    · refine G.iconst (-1) dX6_then_19 (by decide) ?_
      exact G.iret rfl rfl dX6_then_20
set_option maxHeartbeats 4000000 in
set_option maxRecDepth 100000 in
theorem c_X6_type (l : Launch) (D : va_G) (ks : Nat × Nat) (cI cL cC cM cS : ClassId) (a : Nat → Nat) (t_hasImage : Int32) (t_tape_letters : Nat → Int32) (t_tape_length t_tape_place : Int32) (x1 : Int32) : MT l D ks (tyz cI cL cC cM cS) yX6_type cX6_type 2 ((some .int)) { frames := 1, cells := 0, slots := 0, locals := 22 } [.ref (a 0), .int x1] (w_X6t cI cL cC cM cS a t_hasImage t_tape_letters t_tape_length t_tape_place) (fun r : Int32 × (Nat → Int32) × Int32 => (some (.int r.1), (w_X6t cI cL cC cM cS a t_hasImage r.2.1 r.2.2 t_tape_place))) (f_X6_type t_tape_letters t_tape_length x1) := by
  refine MT.of 0 [some (.ref (a 0)), some (.int x1)] (by decide) (Nat.le_of_ble_eq_true rfl) rfl ?_
  unfold f_X6_type
  refine G.iload_n dX6_type_0 rfl ?_
  refine G.bipush 32 dX6_type_1 (by decide) ?_
  refine G.bipush 126 dX6_type_3 (by decide) ?_
  refine G.callS (st := []) (w' := fun r5 => (w_X6t cI cL cC cM cS a t_hasImage t_tape_letters t_tape_length t_tape_place)) ms_X6_within lk_6_53 (c_X6_within l D ks cI cL cC cM cS x1 32 126) [] [0, 1, 2] [0, 1, 2] rfl rfl rfl rfl (by decide +kernel) (fun _ => rfl) (by decide) (Nat.le_of_ble_eq_true rfl) dX6_type_5 (fun r5 => [.int r5]) (fun _ => rfl) (fun r5 _ => ?_)
  refine G.if_ne 13 dX6_type_8 (by decide) (fun h8 => ?_) (fun h8 => ?_)
  · refine G.aload_n dX6_type_13 rfl ?_
    refine G.get fl_6_42 0 rfl rfl dX6_type_14 ?_
    refine G.iload_n dX6_type_17 rfl ?_
    refine G.i2c dX6_type_18 ?_
    refine G.callV (st := []) (w' := fun r19 => (w_X6t cI cL cC cM cS a t_hasImage r19.2.1 r19.2.2 t_tape_place)) mv_X5_write lk_6_115 (c_X5_write l D ks cI cL cC cM cS (fun k => a (83 + k)) t_tape_letters t_tape_length t_tape_place ((x1.toUInt32 % 65536).toInt32)) [1, 2] [0] [0, 1, 2] rfl rfl rfl rfl (by decide +kernel) (fun _ => rfl) rfl (by decide) (Nat.le_of_ble_eq_true rfl) dX6_type_19 (fun r19 => [.int r19.1]) (fun _ => rfl) (fun r19 _ => ?_)
    refine G.join (st := []) Value.int 37 (fun v37 => ?_) (fun hJ => ?_)
    · exact G.iret rfl rfl dX6_type_37
    · refine G.ite ?_
      refine G.if_eq 35 dX6_type_22 (by decide) (fun _ => ?_) (fun _ => ?_)
      · refine G.bipush (-3) dX6_type_35 (by decide) ?_
        exact hJ _
      · refine G.aload_n dX6_type_25 rfl ?_
        refine G.get fl_6_42 0 rfl rfl dX6_type_26 ?_
        refine G.get fl_6_119 1 rfl rfl dX6_type_29 ?_
        refine G.goto 37 dX6_type_32 (by decide) ?_
        exact hJ _
  · refine G.iconst (-1) dX6_type_11 (by decide) ?_
    exact G.iret rfl rfl dX6_type_12
