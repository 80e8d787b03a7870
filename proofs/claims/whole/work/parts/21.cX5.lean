/-! the tape read: the contracts -/
set_option maxHeartbeats 4000000 in
set_option maxRecDepth 100000 in
theorem g_X5_readKind_c33 (l : Launch) (D : va_G) (ks : Nat × Nat) (cI cL cC cM cS : ClassId) (a : Nat → Nat) (t_letters : Nat → Int32) (t_length t_place : Int32) (s0 : Int32) : GJ l D ks (tyz cI cL cC cM cS) RX5 cX5_readKind 2 ((some .int)) { frames := 4, cells := 0, slots := 0, locals := 91 } (fun r : Int32 × Int32 => (some (.int r.1), (w_X5 cI cL cC cM cS a t_letters t_length r.2))) (w_X5 cI cL cC cM cS a t_letters t_length t_place) 33 [some (.ref (a 0)), none] [.int s0] (f_X5_readKind_c33 t_letters t_length t_place s0) := by
  unfold f_X5_readKind_c33
  refine G.istore_n (lv' := [some (.ref (a 0)), some (.int s0)]) dX5_readKind_33 (by decide) (Nat.le_of_ble_eq_true rfl) rfl rfl ?_
  refine G.iload_n dX5_readKind_34 rfl ?_
  refine G.if_lt 48 dX5_readKind_35 (by decide) (fun h35 => ?_) (fun h35 => ?_)
  · refine G.iload_n dX5_readKind_48 rfl ?_
    exact G.iret rfl rfl dX5_readKind_49
  · refine G.aload_n dX5_readKind_38 rfl ?_
    refine G.dup dX5_readKind_39 rfl ?_
    refine G.get fl_5_19 0 rfl rfl dX5_readKind_40 ?_
    refine G.iconst 1 dX5_readKind_43 (by decide) ?_
    refine G.iadd dX5_readKind_44 ?_
    refine G.put (w' := (w_X5 cI cL cC cM cS a t_letters t_length (t_place + 1))) fp_5_19 0 rfl (Nat.le_of_ble_eq_true rfl) rfl rfl rfl dX5_readKind_45 ?_
    refine G.iload_n dX5_readKind_48 rfl ?_
    exact G.iret rfl rfl dX5_readKind_49
set_option maxHeartbeats 4000000 in
set_option maxRecDepth 100000 in
theorem c_X5_readKind (l : Launch) (D : va_G) (ks : Nat × Nat) (cI cL cC cM cS : ClassId) (a : Nat → Nat) (t_letters : Nat → Int32) (t_length t_place : Int32) : MT l D ks (tyz cI cL cC cM cS) yX5_readKind cX5_readKind 2 ((some .int)) { frames := 4, cells := 0, slots := 0, locals := 91 } [.ref (a 0)] (w_X5 cI cL cC cM cS a t_letters t_length t_place) (fun r : Int32 × Int32 => (some (.int r.1), (w_X5 cI cL cC cM cS a t_letters t_length r.2))) (f_X5_readKind t_letters t_length t_place) := by
  refine MT.of 1 [some (.ref (a 0)), none] (by decide) (Nat.le_of_ble_eq_true rfl) rfl ?_
  unfold f_X5_readKind
  refine G.aload_n dX5_readKind_0 rfl ?_
  refine G.callV (st := []) (w' := fun r1 => (w_X5 cI cL cC cM cS a t_letters t_length r1)) mv_X5_skipBlanks lk_5_33 (c_X5_skipBlanks l D ks cI cL cC cM cS a t_letters t_length t_place) [0, 1] [] [0, 1] rfl rfl rfl rfl (by decide +kernel) (fun _ => rfl) rfl (by decide) (Nat.le_of_ble_eq_true rfl) dX5_readKind_1 (fun r1 => []) (fun _ => rfl) (fun r1 _ => ?_)
  refine G.aload_n dX5_readKind_4 rfl ?_
  refine G.get fl_5_19 0 rfl rfl dX5_readKind_5 ?_
  refine G.aload_n dX5_readKind_8 rfl ?_
  refine G.get fl_5_15 0 rfl rfl dX5_readKind_9 ?_
  refine G.icmp_ge 32 dX5_readKind_12 (by decide) (fun h12 => ?_) (fun h12 => ?_)
  · refine G.iconst (-1) dX5_readKind_32 (by decide) ?_
    exact g_X5_readKind_c33 l D ks cI cL cC cM cS a t_letters t_length r1 (-1)
  · refine G.kldc rfl dX5_readKind_15 ?_
    refine G.aload_n dX5_readKind_17 rfl ?_
    refine G.get fl_5_9 0 rfl rfl dX5_readKind_18 ?_
    refine G.aload_n dX5_readKind_21 rfl ?_
    refine G.get fl_5_19 0 rfl rfl dX5_readKind_22 ?_
    refine G.chk (fun h25 => ?_)
    refine G.caload 1 2 rfl rfl r1.toNatClampNeg rfl h25 dX5_readKind_25 ?_
    refine G.topi (fun v25 => ?_)
    refine G.callK (st := []) (w' := fun r26 => (w_X5 cI cL cC cM cS a t_letters t_length r1)) mk_indexOf1 lkX5_66 (c_J_i1 l D ks (tyz cI cL cC cM cS) v25) [0, 1] [0, 1] rfl rfl rfl (by decide +kernel) (fun _ => rfl) (by decide) (Nat.le_of_ble_eq_true rfl) dX5_readKind_26 (fun r26 => [.int r26]) (fun _ => rfl) (fun r26 _ => ?_)
    refine G.goto 33 dX5_readKind_29 (by decide) ?_
    exact g_X5_readKind_c33 l D ks cI cL cC cM cS a t_letters t_length r1 r26
set_option maxHeartbeats 4000000 in
set_option maxRecDepth 100000 in
theorem g_X5_readOneHolder_c64 (l : Launch) (D : va_G) (ks : Nat × Nat) (cI cL cC cM cS : ClassId) (a b : Nat → Nat) (u_lamp u_due u_gain : Nat → Int32) (u_day u_dues u_draw : Int32) (t_letters : Nat → Int32) (t_length t_place : Int32) (u_kind u_used u_bay u_likes u_who : Nat → Int32) (u_count : Int32) (x2 : Int32) (x3 : Int32) (x4 : Int32) (s0 : Int32) : GJ l D ks (tyz cI cL cC cM cS) RX5 cX5_readOneHolder 6 ((some .boolean)) { frames := 5, cells := 0, slots := 0, locals := 112 } (fun r : Int32 × Int32 × (Nat → Int32) × (Nat → Int32) × (Nat → Int32) × (Nat → Int32) × (Nat → Int32) × Int32 => (some (.int r.1), (w_X5_X3 cI cL cC cM cS a b t_letters t_length r.2.1 r.2.2.1 r.2.2.2.1 r.2.2.2.2.1 r.2.2.2.2.2.1 r.2.2.2.2.2.2.1 u_lamp u_due u_gain r.2.2.2.2.2.2.2 u_day u_dues u_draw))) (w_X5_X3 cI cL cC cM cS a b t_letters t_length t_place u_kind u_used u_bay u_likes u_who u_lamp u_due u_gain u_count u_day u_dues u_draw) 64 [none, some (.ref (b 0)), some (.int x2), some (.int x3), some (.int x4), none] [.int s0] (f_X5_readOneHolder_c64 t_letters t_length t_place u_kind u_used u_bay u_likes u_who u_count x2 x3 x4 s0) := by
  unfold f_X5_readOneHolder_c64
  refine G.istore (lv' := [none, some (.ref (b 0)), some (.int x2), some (.int x3), some (.int x4), some (.int s0)]) dX5_readOneHolder_64 (by decide) (Nat.le_of_ble_eq_true rfl) rfl rfl ?_
  refine G.iload dX5_readOneHolder_66 rfl ?_
  refine G.if_ge 73 dX5_readOneHolder_68 (by decide) (fun h68 => ?_) (fun h68 => ?_)
  · refine G.aload_n dX5_readOneHolder_73 rfl ?_
    refine G.iload_n dX5_readOneHolder_74 rfl ?_
    refine G.iload_n dX5_readOneHolder_75 rfl ?_
    refine G.iload dX5_readOneHolder_76 rfl ?_
    refine G.iload dX5_readOneHolder_78 rfl ?_
    refine G.callV (st := []) (w' := fun r80 => (w_X5_X3 cI cL cC cM cS a b t_letters t_length t_place r80.1 r80.2.1 r80.2.2.1 r80.2.2.2.1 r80.2.2.2.2.1 u_lamp u_due u_gain r80.2.2.2.2.2 u_day u_dues u_draw)) mv_X3_enter lk_5_60 (c_X3_enter l D ks cI cL cC cM cS b u_kind u_used u_bay u_likes u_who u_lamp u_due u_gain u_count u_day u_dues u_draw x2 x3 x4 s0) [2, 3, 4, 5, 6, 7, 8, 9, 10] [0, 1] [0, 1, 2, 3, 4, 5, 6, 7, 8, 9, 10] rfl rfl rfl rfl (by decide +kernel) (fun _ => rfl) rfl (by decide) (Nat.le_of_ble_eq_true rfl) dX5_readOneHolder_80 (fun r80 => []) (fun _ => rfl) (fun r80 _ => ?_)
    refine G.iconst 1 dX5_readOneHolder_83 (by decide) ?_
    exact G.zret rfl rfl rfl dX5_readOneHolder_84
  · refine G.iconst 0 dX5_readOneHolder_71 (by decide) ?_
    exact G.zret rfl rfl rfl dX5_readOneHolder_72
set_option maxHeartbeats 4000000 in
set_option maxRecDepth 100000 in
theorem c_X5_readOneHolder (l : Launch) (D : va_G) (ks : Nat × Nat) (cI cL cC cM cS : ClassId) (a b : Nat → Nat) (t_letters : Nat → Int32) (t_length t_place : Int32) (u_kind u_used u_bay u_likes u_who u_lamp u_due u_gain : Nat → Int32) (u_count u_day u_dues u_draw : Int32) : MT l D ks (tyz cI cL cC cM cS) yX5_readOneHolder cX5_readOneHolder 6 ((some .boolean)) { frames := 5, cells := 0, slots := 0, locals := 112 } [.ref (a 0), .ref (b 0)] (w_X5_X3 cI cL cC cM cS a b t_letters t_length t_place u_kind u_used u_bay u_likes u_who u_lamp u_due u_gain u_count u_day u_dues u_draw) (fun r : Int32 × Int32 × (Nat → Int32) × (Nat → Int32) × (Nat → Int32) × (Nat → Int32) × (Nat → Int32) × Int32 => (some (.int r.1), (w_X5_X3 cI cL cC cM cS a b t_letters t_length r.2.1 r.2.2.1 r.2.2.2.1 r.2.2.2.2.1 r.2.2.2.2.2.1 r.2.2.2.2.2.2.1 u_lamp u_due u_gain r.2.2.2.2.2.2.2 u_day u_dues u_draw))) (f_X5_readOneHolder t_letters t_length t_place u_kind u_used u_bay u_likes u_who u_count) := by
  refine MT.of 4 [some (.ref (a 0)), some (.ref (b 0)), none, none, none, none] (by decide) (Nat.le_of_ble_eq_true rfl) rfl ?_
  unfold f_X5_readOneHolder
  refine G.aload_n dX5_readOneHolder_0 rfl ?_
  refine G.callV (st := []) (w' := fun r1 => (w_X5_X3 cI cL cC cM cS a b t_letters t_length r1.2 u_kind u_used u_bay u_likes u_who u_lamp u_due u_gain u_count u_day u_dues u_draw)) mv_X5_readKind lk_5_49 (c_X5_readKind l D ks cI cL cC cM cS a t_letters t_length t_place) [0, 1] [2, 3, 4, 5, 6, 7, 8, 9, 10] [9, 10, 0, 1, 2, 3, 4, 5, 6, 7, 8] rfl rfl rfl rfl (by decide +kernel) (fun _ => rfl) rfl (by decide) (Nat.le_of_ble_eq_true rfl) dX5_readOneHolder_1 (fun r1 => [.int r1.1]) (fun _ => rfl) (fun r1 _ => ?_)
  refine G.istore_n (lv' := [some (.ref (a 0)), some (.ref (b 0)), some (.int r1.1), none, none, none]) dX5_readOneHolder_4 (by decide) (Nat.le_of_ble_eq_true rfl) rfl rfl ?_
  refine G.iload_n dX5_readOneHolder_5 rfl ?_
  refine G.if_ge 11 dX5_readOneHolder_6 (by decide) (fun h6 => ?_) (fun h6 => ?_)
  · refine G.aload_n dX5_readOneHolder_11 rfl ?_
    refine G.callV (st := []) (w' := fun r12 => (w_X5_X3 cI cL cC cM cS a b t_letters t_length r12.2 u_kind u_used u_bay u_likes u_who u_lamp u_due u_gain u_count u_day u_dues u_draw)) mv_X5_readNumber lk_5_53 (c_X5_readNumber l D ks cI cL cC cM cS a t_letters t_length r1.2) [0, 1] [2, 3, 4, 5, 6, 7, 8, 9, 10] [9, 10, 0, 1, 2, 3, 4, 5, 6, 7, 8] rfl rfl rfl rfl (by decide +kernel) (fun _ => rfl) rfl (by decide) (Nat.le_of_ble_eq_true rfl) dX5_readOneHolder_12 (fun r12 => [.int r12.1]) (fun _ => rfl) (fun r12 _ => ?_)
    refine G.istore_n (lv' := [some (.ref (a 0)), some (.ref (b 0)), some (.int r1.1), some (.int r12.1), none, none]) dX5_readOneHolder_15 (by decide) (Nat.le_of_ble_eq_true rfl) rfl rfl ?_
    refine G.iload_n dX5_readOneHolder_16 rfl ?_
    refine G.if_lt 29 dX5_readOneHolder_17 (by decide) (fun h17 => ?_) (fun h17 => ?_)
    · refine G.iconst 0 dX5_readOneHolder_29 (by decide) ?_
      exact G.zret rfl rfl rfl dX5_readOneHolder_30
    · refine G.aload_n dX5_readOneHolder_20 rfl ?_
      refine G.bipush 64 dX5_readOneHolder_21 (by decide) ?_
      refine G.callV (st := []) (w' := fun r23 => (w_X5_X3 cI cL cC cM cS a b t_letters t_length r23.2 u_kind u_used u_bay u_likes u_who u_lamp u_due u_gain u_count u_day u_dues u_draw)) mv_X5_takesSign lk_5_26 (c_X5_takesSign l D ks cI cL cC cM cS a t_letters t_length r12.2 64) [0, 1] [2, 3, 4, 5, 6, 7, 8, 9, 10] [9, 10, 0, 1, 2, 3, 4, 5, 6, 7, 8] rfl rfl rfl rfl (by decide +kernel) (fun _ => rfl) rfl (by decide) (Nat.le_of_ble_eq_true rfl) dX5_readOneHolder_23 (fun r23 => [.int r23.1]) (fun _ => rfl) (fun r23 _ => ?_)
      refine G.if_ne 31 dX5_readOneHolder_26 (by decide) (fun h26 => ?_) (fun h26 => ?_)
      · refine G.aload_n dX5_readOneHolder_31 rfl ?_
        refine G.aload_n dX5_readOneHolder_32 rfl ?_
        refine G.callV (st := []) (w' := fun r33 => (w_X5_X3 cI cL cC cM cS a b t_letters t_length r33.2 u_kind u_used u_bay u_likes u_who u_lamp u_due u_gain u_count u_day u_dues u_draw)) mv_X5_readFreeBay lk_5_56 (c_X5_readFreeBay l D ks cI cL cC cM cS a b t_letters t_length r23.2 u_kind u_used u_bay u_likes u_who u_lamp u_due u_gain u_count u_day u_dues u_draw) [0, 1, 2, 3, 4, 5, 6, 7, 8, 9, 10] [] [0, 1, 2, 3, 4, 5, 6, 7, 8, 9, 10] rfl rfl rfl rfl (by decide +kernel) (fun _ => rfl) rfl (by decide) (Nat.le_of_ble_eq_true rfl) dX5_readOneHolder_33 (fun r33 => [.int r33.1]) (fun _ => rfl) (fun r33 _ => ?_)
        refine G.istore (lv' := [some (.ref (a 0)), some (.ref (b 0)), some (.int r1.1), some (.int r12.1), some (.int r33.1), none]) dX5_readOneHolder_36 (by decide) (Nat.le_of_ble_eq_true rfl) rfl rfl ?_
        refine G.iload dX5_readOneHolder_38 rfl ?_
        refine G.if_ge 45 dX5_readOneHolder_40 (by decide) (fun h40 => ?_) (fun h40 => ?_)
        · refine G.aload_n dX5_readOneHolder_45 rfl ?_
          refine G.bipush 62 dX5_readOneHolder_46 (by decide) ?_
          refine G.callV (st := []) (w' := fun r48 => (w_X5_X3 cI cL cC cM cS a b t_letters t_length r48.2 u_kind u_used u_bay u_likes u_who u_lamp u_due u_gain u_count u_day u_dues u_draw)) mv_X5_takesSign lk_5_26 (c_X5_takesSign l D ks cI cL cC cM cS a t_letters t_length r33.2 62) [0, 1] [2, 3, 4, 5, 6, 7, 8, 9, 10] [9, 10, 0, 1, 2, 3, 4, 5, 6, 7, 8] rfl rfl rfl rfl (by decide +kernel) (fun _ => rfl) rfl (by decide) (Nat.le_of_ble_eq_true rfl) dX5_readOneHolder_48 (fun r48 => [.int r48.1]) (fun _ => rfl) (fun r48 _ => ?_)
          refine G.if_eq 62 dX5_readOneHolder_51 (by decide) (fun h51 => ?_) (fun h51 => ?_)
          · refine G.iload dX5_readOneHolder_62 rfl ?_
            refine G.mask (lv' := [none, some (.ref (b 0)), some (.int r1.1), some (.int r12.1), some (.int r33.1), none]) [false, true, true, true, true, false] rfl ?_
            exact g_X5_readOneHolder_c64 l D ks cI cL cC cM cS a b u_lamp u_due u_gain u_day u_dues u_draw t_letters t_length r48.2 u_kind u_used u_bay u_likes u_who u_count r1.1 r12.1 r33.1 r33.1
          · refine G.aload_n dX5_readOneHolder_54 rfl ?_
            refine G.iconst 5 dX5_readOneHolder_55 (by decide) ?_
            refine G.callV (st := []) (w' := fun r56 => (w_X5_X3 cI cL cC cM cS a b t_letters t_length r56.2 u_kind u_used u_bay u_likes u_who u_lamp u_due u_gain u_count u_day u_dues u_draw)) mv_X5_readDigit lk_5_36 (c_X5_readDigit l D ks cI cL cC cM cS a t_letters t_length r48.2 5) [0, 1] [2, 3, 4, 5, 6, 7, 8, 9, 10] [9, 10, 0, 1, 2, 3, 4, 5, 6, 7, 8] rfl rfl rfl rfl (by decide +kernel) (fun _ => rfl) rfl (by decide) (Nat.le_of_ble_eq_true rfl) dX5_readOneHolder_56 (fun r56 => [.int r56.1]) (fun _ => rfl) (fun r56 _ => ?_)
            refine G.goto 64 dX5_readOneHolder_59 (by decide) ?_
            refine G.mask (lv' := [none, some (.ref (b 0)), some (.int r1.1), some (.int r12.1), some (.int r33.1), none]) [false, true, true, true, true, false] rfl ?_
            exact g_X5_readOneHolder_c64 l D ks cI cL cC cM cS a b u_lamp u_due u_gain u_day u_dues u_draw t_letters t_length r56.2 u_kind u_used u_bay u_likes u_who u_count r1.1 r12.1 r33.1 r56.1
        · refine G.iconst 0 dX5_readOneHolder_43 (by decide) ?_
          exact G.zret rfl rfl rfl dX5_readOneHolder_44
      · refine G.iconst 0 dX5_readOneHolder_29 (by decide) ?_
        exact G.zret rfl rfl rfl dX5_readOneHolder_30
  · refine G.iconst 0 dX5_readOneHolder_9 (by decide) ?_
    exact G.zret rfl rfl rfl dX5_readOneHolder_10
set_option maxHeartbeats 4000000 in
set_option maxRecDepth 100000 in
theorem g_X5_readHolders_c2 (l : Launch) (D : va_G) (ks : Nat × Nat) (cI cL cC cM cS : ClassId) (a b : Nat → Nat) (u_lamp u_due u_gain : Nat → Int32) (u_day u_dues u_draw : Int32) : ∀ (n : Nat), ∀ (t_letters : Nat → Int32) (t_length t_place : Int32) (u_kind u_used u_bay u_likes u_who : Nat → Int32) (u_count : Int32) (x2 : Int32), GJ l D ks (tyz cI cL cC cM cS) RX5 cX5_readHolders 3 ((some .boolean)) { frames := 6, cells := 0, slots := 0, locals := 137 } (fun r : Int32 × Int32 × (Nat → Int32) × (Nat → Int32) × (Nat → Int32) × (Nat → Int32) × (Nat → Int32) × Int32 => (some (.int r.1), (w_X5_X3 cI cL cC cM cS a b t_letters t_length r.2.1 r.2.2.1 r.2.2.2.1 r.2.2.2.2.1 r.2.2.2.2.2.1 r.2.2.2.2.2.2.1 u_lamp u_due u_gain r.2.2.2.2.2.2.2 u_day u_dues u_draw))) (w_X5_X3 cI cL cC cM cS a b t_letters t_length t_place u_kind u_used u_bay u_likes u_who u_lamp u_due u_gain u_count u_day u_dues u_draw) 2 [some (.ref (a 0)), some (.ref (b 0)), some (.int x2)] [] (f_X5_readHolders_c2 n t_letters t_length t_place u_kind u_used u_bay u_likes u_who u_count x2) := by
  intro n
  induction n with
  | zero =>
    intro t_letters t_length t_place u_kind u_used u_bay u_likes u_who u_count x2
    exact G.no
  | succ n ih =>
    intro t_letters t_length t_place u_kind u_used u_bay u_likes u_who u_count x2
    rw [f_X5_readHolders_c2]
    refine G.iload_n dX5_readHolders_2 rfl ?_
    refine G.bipush 6 dX5_readHolders_3 (by decide) ?_
    refine G.icmp_ge 40 dX5_readHolders_5 (by decide) (fun h5 => ?_) (fun h5 => ?_)
    · refine G.iconst 1 dX5_readHolders_40 (by decide) ?_
      exact G.zret rfl rfl rfl dX5_readHolders_41
    · refine G.aload_n dX5_readHolders_8 rfl ?_
      refine G.aload_n dX5_readHolders_9 rfl ?_
      refine G.callV (st := []) (w' := fun r10 => (w_X5_X3 cI cL cC cM cS a b t_letters t_length r10.2.1 r10.2.2.1 r10.2.2.2.1 r10.2.2.2.2.1 r10.2.2.2.2.2.1 r10.2.2.2.2.2.2.1 u_lamp u_due u_gain r10.2.2.2.2.2.2.2 u_day u_dues u_draw)) mv_X5_readOneHolder lk_5_46 (c_X5_readOneHolder l D ks cI cL cC cM cS a b t_letters t_length t_place u_kind u_used u_bay u_likes u_who u_lamp u_due u_gain u_count u_day u_dues u_draw) [0, 1, 2, 3, 4, 5, 6, 7, 8, 9, 10] [] [0, 1, 2, 3, 4, 5, 6, 7, 8, 9, 10] rfl rfl rfl rfl (by decide +kernel) (fun _ => rfl) rfl (by decide) (Nat.le_of_ble_eq_true rfl) dX5_readHolders_10 (fun r10 => [.int r10.1]) (fun _ => rfl) (fun r10 _ => ?_)
      refine G.if_ne 18 dX5_readHolders_13 (by decide) (fun h13 => ?_) (fun h13 => ?_)
      · refine G.iload_n dX5_readHolders_18 rfl ?_
        refine G.iconst 5 dX5_readHolders_19 (by decide) ?_
        refine G.icmp_eq 32 dX5_readHolders_20 (by decide) (fun h20 => ?_) (fun h20 => ?_)
        · refine G.iconst 1 dX5_readHolders_32 (by decide) ?_
          exact G.zret rfl rfl rfl dX5_readHolders_33
        · refine G.aload_n dX5_readHolders_23 rfl ?_
          refine G.bipush 44 dX5_readHolders_24 (by decide) ?_
          refine G.callV (st := []) (w' := fun r26 => (w_X5_X3 cI cL cC cM cS a b t_letters t_length r26.2 r10.2.2.1 r10.2.2.2.1 r10.2.2.2.2.1 r10.2.2.2.2.2.1 r10.2.2.2.2.2.2.1 u_lamp u_due u_gain r10.2.2.2.2.2.2.2 u_day u_dues u_draw)) mv_X5_takesSign lk_5_26 (c_X5_takesSign l D ks cI cL cC cM cS a t_letters t_length r10.2.1 44) [0, 1] [2, 3, 4, 5, 6, 7, 8, 9, 10] [9, 10, 0, 1, 2, 3, 4, 5, 6, 7, 8] rfl rfl rfl rfl (by decide +kernel) (fun _ => rfl) rfl (by decide) (Nat.le_of_ble_eq_true rfl) dX5_readHolders_26 (fun r26 => [.int r26.1]) (fun _ => rfl) (fun r26 _ => ?_)
          refine G.if_ne 34 dX5_readHolders_29 (by decide) (fun h29 => ?_) (fun h29 => ?_)
          · refine G.iinc 1 (lv' := [some (.ref (a 0)), some (.ref (b 0)), some (.int (x2 + 1))]) dX5_readHolders_34 rfl (by decide) (by decide) (Nat.le_of_ble_eq_true rfl) rfl rfl ?_
            refine G.goto 2 dX5_readHolders_37 (by decide) ?_
            exact ih t_letters t_length r26.2 r10.2.2.1 r10.2.2.2.1 r10.2.2.2.2.1 r10.2.2.2.2.2.1 r10.2.2.2.2.2.2.1 r10.2.2.2.2.2.2.2 (x2 + 1)
          · refine G.iconst 1 dX5_readHolders_32 (by decide) ?_
            exact G.zret rfl rfl rfl dX5_readHolders_33
      · refine G.iconst 0 dX5_readHolders_16 (by decide) ?_
        exact G.zret rfl rfl rfl dX5_readHolders_17
set_option maxHeartbeats 4000000 in
set_option maxRecDepth 100000 in
theorem c_X5_readHolders (l : Launch) (D : va_G) (ks : Nat × Nat) (cI cL cC cM cS : ClassId) (a b : Nat → Nat) (t_letters : Nat → Int32) (t_length t_place : Int32) (u_kind u_used u_bay u_likes u_who u_lamp u_due u_gain : Nat → Int32) (u_count u_day u_dues u_draw : Int32) : MT l D ks (tyz cI cL cC cM cS) yX5_readHolders cX5_readHolders 3 ((some .boolean)) { frames := 6, cells := 0, slots := 0, locals := 137 } [.ref (a 0), .ref (b 0)] (w_X5_X3 cI cL cC cM cS a b t_letters t_length t_place u_kind u_used u_bay u_likes u_who u_lamp u_due u_gain u_count u_day u_dues u_draw) (fun r : Int32 × Int32 × (Nat → Int32) × (Nat → Int32) × (Nat → Int32) × (Nat → Int32) × (Nat → Int32) × Int32 => (some (.int r.1), (w_X5_X3 cI cL cC cM cS a b t_letters t_length r.2.1 r.2.2.1 r.2.2.2.1 r.2.2.2.2.1 r.2.2.2.2.2.1 r.2.2.2.2.2.2.1 u_lamp u_due u_gain r.2.2.2.2.2.2.2 u_day u_dues u_draw))) (f_X5_readHolders t_letters t_length t_place u_kind u_used u_bay u_likes u_who u_count) := by
  refine MT.of 1 [some (.ref (a 0)), some (.ref (b 0)), none] (by decide) (Nat.le_of_ble_eq_true rfl) rfl ?_
  unfold f_X5_readHolders
  refine G.iconst 0 dX5_readHolders_0 (by decide) ?_
  refine G.istore_n (lv' := [some (.ref (a 0)), some (.ref (b 0)), some (.int 0)]) dX5_readHolders_1 (by decide) (Nat.le_of_ble_eq_true rfl) rfl rfl ?_
  exact g_X5_readHolders_c2 l D ks cI cL cC cM cS a b u_lamp u_due u_gain u_day u_dues u_draw fu t_letters t_length t_place u_kind u_used u_bay u_likes u_who u_count 0
set_option maxHeartbeats 4000000 in
set_option maxRecDepth 100000 in
theorem g_X5_readInto_c34 (l : Launch) (D : va_G) (ks : Nat × Nat) (cI cL cC cM cS : ClassId) (a b : Nat → Nat) (u_due u_gain : Nat → Int32) (u_day u_dues u_draw : Int32) (t_letters : Nat → Int32) (t_length t_place : Int32) (u_kind u_used u_bay u_likes u_who u_lamp : Nat → Int32) (u_count : Int32) : GJ l D ks (tyz cI cL cC cM cS) RX5 cX5_readInto 2 ((some .boolean)) { frames := 7, cells := 0, slots := 0, locals := 159 } (fun r : Int32 × Int32 × (Nat → Int32) × (Nat → Int32) × (Nat → Int32) × (Nat → Int32) × (Nat → Int32) × (Nat → Int32) × Int32 => (some (.int r.1), (w_X5_X3 cI cL cC cM cS a b t_letters t_length r.2.1 r.2.2.1 r.2.2.2.1 r.2.2.2.2.1 r.2.2.2.2.2.1 r.2.2.2.2.2.2.1 r.2.2.2.2.2.2.2.1 u_due u_gain r.2.2.2.2.2.2.2.2 u_day u_dues u_draw))) (w_X5_X3 cI cL cC cM cS a b t_letters t_length t_place u_kind u_used u_bay u_likes u_who u_lamp u_due u_gain u_count u_day u_dues u_draw) 34 [some (.ref (a 0)), none] [] (f_X5_readInto_c34 t_letters t_length t_place u_kind u_used u_bay u_likes u_who u_lamp u_count) := by
  unfold f_X5_readInto_c34
  refine G.aload_n dX5_readInto_34 rfl ?_
  refine G.callV (st := []) (w' := fun r35 => (w_X5_X3 cI cL cC cM cS a b t_letters t_length r35 u_kind u_used u_bay u_likes u_who u_lamp u_due u_gain u_count u_day u_dues u_draw)) mv_X5_skipBlanks lk_5_33 (c_X5_skipBlanks l D ks cI cL cC cM cS a t_letters t_length t_place) [0, 1] [2, 3, 4, 5, 6, 7, 8, 9, 10] [9, 10, 0, 1, 2, 3, 4, 5, 6, 7, 8] rfl rfl rfl rfl (by decide +kernel) (fun _ => rfl) rfl (by decide) (Nat.le_of_ble_eq_true rfl) dX5_readInto_35 (fun r35 => []) (fun _ => rfl) (fun r35 _ => ?_)
  refine G.aload_n dX5_readInto_38 rfl ?_
  refine G.get fl_5_19 0 rfl rfl dX5_readInto_39 ?_
  refine G.aload_n dX5_readInto_42 rfl ?_
  refine G.get fl_5_15 0 rfl rfl dX5_readInto_43 ?_
  refine G.join (st := []) Value.int 54 (fun v54 => ?_) (fun hJ => ?_)
  · refine G.chk (fun h54 => ?_)
    exact G.zret rfl rfl (isb_n h54) dX5_readInto_54
  · refine G.ite ?_
    refine G.icmp_ne 53 dX5_readInto_46 (by decide) (fun _ => ?_) (fun _ => ?_)
    · refine G.iconst 0 dX5_readInto_53 (by decide) ?_
      exact hJ _
    · refine G.iconst 1 dX5_readInto_49 (by decide) ?_
      refine G.goto 54 dX5_readInto_50 (by decide) ?_
      exact hJ _
set_option maxHeartbeats 4000000 in
set_option maxRecDepth 100000 in
theorem c_X5_readInto (l : Launch) (D : va_G) (ks : Nat × Nat) (cI cL cC cM cS : ClassId) (a b : Nat → Nat) (t_letters : Nat → Int32) (t_length t_place : Int32) (u_kind u_used u_bay u_likes u_who u_lamp u_due u_gain : Nat → Int32) (u_count u_day u_dues u_draw : Int32) : MT l D ks (tyz cI cL cC cM cS) yX5_readInto cX5_readInto 2 ((some .boolean)) { frames := 7, cells := 0, slots := 0, locals := 159 } [.ref (a 0), .ref (b 0)] (w_X5_X3 cI cL cC cM cS a b t_letters t_length t_place u_kind u_used u_bay u_likes u_who u_lamp u_due u_gain u_count u_day u_dues u_draw) (fun r : Int32 × Int32 × (Nat → Int32) × (Nat → Int32) × (Nat → Int32) × (Nat → Int32) × (Nat → Int32) × (Nat → Int32) × Int32 => (some (.int r.1), (w_X5_X3 cI cL cC cM cS a b t_letters t_length r.2.1 r.2.2.1 r.2.2.2.1 r.2.2.2.2.1 r.2.2.2.2.2.1 r.2.2.2.2.2.2.1 r.2.2.2.2.2.2.2.1 u_due u_gain r.2.2.2.2.2.2.2.2 u_day u_dues u_draw))) (f_X5_readInto t_letters t_length t_place u_kind u_used u_bay u_likes u_who u_lamp u_count) := by
  refine MT.of 0 [some (.ref (a 0)), some (.ref (b 0))] (by decide) (Nat.le_of_ble_eq_true rfl) rfl ?_
  unfold f_X5_readInto
  refine G.aload_n dX5_readInto_0 rfl ?_
  refine G.iconst 0 dX5_readInto_1 (by decide) ?_
  refine G.put (w' := (w_X5_X3 cI cL cC cM cS a b t_letters t_length 0 u_kind u_used u_bay u_likes u_who u_lamp u_due u_gain u_count u_day u_dues u_draw)) fp_5_19 0 rfl (Nat.le_of_ble_eq_true rfl) rfl rfl rfl dX5_readInto_2 ?_
  refine G.aload_n dX5_readInto_5 rfl ?_
  refine G.aload_n dX5_readInto_6 rfl ?_
  refine G.callV (st := []) (w' := fun r7 => (w_X5_X3 cI cL cC cM cS a b t_letters t_length r7.2.1 u_kind u_used u_bay u_likes u_who r7.2.2 u_due u_gain u_count u_day u_dues u_draw)) mv_X5_readLamps lk_5_22 (c_X5_readLamps l D ks cI cL cC cM cS a b t_letters t_length 0 u_kind u_used u_bay u_likes u_who u_lamp u_due u_gain u_count u_day u_dues u_draw) [0, 1, 2, 3, 4, 5, 6, 7, 8, 9, 10] [] [0, 1, 2, 3, 4, 5, 6, 7, 8, 9, 10] rfl rfl rfl rfl (by decide +kernel) (fun _ => rfl) rfl (by decide) (Nat.le_of_ble_eq_true rfl) dX5_readInto_7 (fun r7 => [.int r7.1]) (fun _ => rfl) (fun r7 _ => ?_)
  refine G.if_ne 15 dX5_readInto_10 (by decide) (fun h10 => ?_) (fun h10 => ?_)
  · refine G.aload_n dX5_readInto_15 rfl ?_
    refine G.bipush 59 dX5_readInto_16 (by decide) ?_
    refine G.callV (st := []) (w' := fun r18 => (w_X5_X3 cI cL cC cM cS a b t_letters t_length r18.2 u_kind u_used u_bay u_likes u_who r7.2.2 u_due u_gain u_count u_day u_dues u_draw)) mv_X5_takesSign lk_5_26 (c_X5_takesSign l D ks cI cL cC cM cS a t_letters t_length r7.2.1 59) [0, 1] [2, 3, 4, 5, 6, 7, 8, 9, 10] [9, 10, 0, 1, 2, 3, 4, 5, 6, 7, 8] rfl rfl rfl rfl (by decide +kernel) (fun _ => rfl) rfl (by decide) (Nat.le_of_ble_eq_true rfl) dX5_readInto_18 (fun r18 => [.int r18.1]) (fun _ => rfl) (fun r18 _ => ?_)
    refine G.if_eq 34 dX5_readInto_21 (by decide) (fun h21 => ?_) (fun h21 => ?_)
    · refine G.mask (lv' := [some (.ref (a 0)), none]) [true, false] rfl ?_
      exact g_X5_readInto_c34 l D ks cI cL cC cM cS a b u_due u_gain u_day u_dues u_draw t_letters t_length r18.2 u_kind u_used u_bay u_likes u_who r7.2.2 u_count
    · refine G.aload_n dX5_readInto_24 rfl ?_
      refine G.aload_n dX5_readInto_25 rfl ?_
      refine G.callV (st := []) (w' := fun r26 => (w_X5_X3 cI cL cC cM cS a b t_letters t_length r26.2.1 r26.2.2.1 r26.2.2.2.1 r26.2.2.2.2.1 r26.2.2.2.2.2.1 r26.2.2.2.2.2.2.1 r7.2.2 u_due u_gain r26.2.2.2.2.2.2.2 u_day u_dues u_draw)) mv_X5_readHolders lk_5_30 (c_X5_readHolders l D ks cI cL cC cM cS a b t_letters t_length r18.2 u_kind u_used u_bay u_likes u_who r7.2.2 u_due u_gain u_count u_day u_dues u_draw) [0, 1, 2, 3, 4, 5, 6, 7, 8, 9, 10] [] [0, 1, 2, 3, 4, 5, 6, 7, 8, 9, 10] rfl rfl rfl rfl (by decide +kernel) (fun _ => rfl) rfl (by decide) (Nat.le_of_ble_eq_true rfl) dX5_readInto_26 (fun r26 => [.int r26.1]) (fun _ => rfl) (fun r26 _ => ?_)
      refine G.if_ne 34 dX5_readInto_29 (by decide) (fun h29 => ?_) (fun h29 => ?_)
      · refine G.mask (lv' := [some (.ref (a 0)), none]) [true, false] rfl ?_
        exact g_X5_readInto_c34 l D ks cI cL cC cM cS a b u_due u_gain u_day u_dues u_draw t_letters t_length r26.2.1 r26.2.2.1 r26.2.2.2.1 r26.2.2.2.2.1 r26.2.2.2.2.2.1 r26.2.2.2.2.2.2.1 r7.2.2 r26.2.2.2.2.2.2.2
      · refine G.iconst 0 dX5_readInto_32 (by decide) ?_
        exact G.zret rfl rfl rfl dX5_readInto_33
  · refine G.iconst 0 dX5_readInto_13 (by decide) ?_
    exact G.zret rfl rfl rfl dX5_readInto_14
