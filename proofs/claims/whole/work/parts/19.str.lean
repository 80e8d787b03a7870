/-! the String constant "psmly" and String.indexOf on it -/
section GST
variable {ρ : Type} {l : Launch} {D : va_G} {ks : Nat × Nat} {tys : List (ClassId × FieldType)} {own : String} {cc : ByteArray} {nL : Nat} {ret : Option FieldType} {rm : Room} {φ : ρ → Option Value × va_W} {w : va_W} {pc : Nat} {lv : List (Option Value)} {st : List Value} {o : Option ρ}
def kb (j : Nat) : Int32 := ([112, 115, 109, 108, 121] : List Int32).getD j 0
theorem G.kval {index : Nat} (hlk : Cond.fieldLink own index "java/lang/String" "value" "[B" ∈ ut_bl) (hd : decode cc pc = .ok (.getfield index, 3)) (k : GJ l D ks tys own cc nL ret rm φ w (pc + 3) lv (.ref ks.2 :: st) o) : GJ l D ks tys own cc nL ret rm φ w pc lv (.ref ks.1 :: st) o :=
  fun r hr p e s m args below meth c A X H locs ls hP hD hS hl => vk_getf X.1 X.2.1 (X.2.2.2.2.2.2.2.2.2.2.1.1 0 (by decide)).2.2.1 hS X.2.2.2.1 (X.2.2.2.2.1 _ hlk) (fun _ h => h) hd (k r hr p e s m args below meth c A X H locs ls hP hD hS hl)
theorem G.kcod {index : Nat} (hlk : Cond.fieldLink own index "java/lang/String" "coder" "B" ∈ ut_bl) (hd : decode cc pc = .ok (.getfield index, 3)) (k : GJ l D ks tys own cc nL ret rm φ w (pc + 3) lv (.int 0 :: st) o) : GJ l D ks tys own cc nL ret rm φ w pc lv (.ref ks.1 :: st) o :=
  fun r hr p e s m args below meth c A X H locs ls hP hD hS hl => vk_getf X.1 X.2.1 (X.2.2.2.2.2.2.2.2.2.2.1.1 0 (by decide)).2.1 hS X.2.2.2.1 (X.2.2.2.2.1 _ hlk) (fun _ h => h) hd (k r hr p e s m args below meth c A X H locs ls hP hD hS hl)
theorem G.kstat {index : Nat} (hlk : Cond.fieldLink own index "java/lang/String" "COMPACT_STRINGS" "Z" ∈ ut_bl) (hd : decode cc pc = .ok (.getstatic index, 3)) (k : GJ l D ks tys own cc nL ret rm φ w (pc + 3) lv (.int 1 :: st) o) : GJ l D ks tys own cc nL ret rm φ w pc lv st o :=
  fun r hr p e s m args below meth c A X H locs ls hP hD hS hl => va_gets X.1 X.2.1 X.2.2.2.2.2.2.2.2.2.1 hS X.2.2.2.1 (X.2.2.2.2.1 _ hlk) (fun _ h => h) hd (k r hr p e s m args below meth c A X H locs ls hP hD hS hl)
theorem G.klen (hd : decode cc pc = .ok (.arraylength, 1)) (k : GJ l D ks tys own cc nL ret rm φ w (pc + 1) lv (.int 5 :: st) o) : GJ l D ks tys own cc nL ret rm φ w pc lv (.ref ks.2 :: st) o :=
  fun r hr p e s m args below meth c A X H locs ls hP hD hS hl => va_tlen X.1 X.2.1 (X.2.2.2.2.2.2.2.2.2.2.1.1 0 (by decide)).2.2.2 hS (v := 5) rfl hd (k r hr p e s m args below meth c A X H locs ls hP hD hS hl)
theorem G.kbyt {i : Int32} (hin : inb i 5 = true) (hd : decode cc pc = .ok (.baload, 1)) (k : GJ l D ks tys own cc nL ret rm φ w (pc + 1) lv (.int (kb i.toNatClampNeg) :: st) o) : GJ l D ks tys own cc nL ret rm φ w pc lv (.int i :: .ref ks.2 :: st) o :=
  fun r hr p e s m args below meth c A X H locs ls hP hD hS hl => va_tb X.1 X.2.1 (X.2.2.2.2.2.2.2.2.2.2.1.1 0 (by decide)).2.2.2 hS (inb_vp hin) (v := .int (kb i.toNatClampNeg)) rfl hd (k r hr p e s m args below meth c A X H locs ls hP hD hS hl)
theorem G.kldc (ho : own = "CryptBays$Tape") (hd : decode cc pc = .ok (.ldc 64, 2)) (k : GJ l D ks tys own cc nL ret rm φ w (pc + 2) lv (.ref ks.1 :: st) o) : GJ l D ks tys own cc nL ret rm φ w pc lv st o := by
  subst ho
  exact fun r hr p e s m args below meth c A X H locs ls hP hD hS hl => va_ldcS X.1 X.2.1 X.2.2.2.1 X.2.2.2.2.2.2.2.2.2.2.2 hd (k r hr p e s m args below meth c A X H locs ls hP hD hS hl)
def MK (y : MethodName) (cb : ByteArray) (nb : Nat) (rb : Option FieldType) (n : Nat) : Prop := Cond.instanceMethod y ∈ ut_bl ∧ Cond.selects "java/lang/String" y y ∈ ut_bl ∧ Cond.initialized y.cls ∈ ut_bl ∧ Cond.code y cb nb rb ∈ ut_bl ∧ (y.cls ≠ "java/lang/invoke/MethodHandle" ∧ y.cls ≠ "java/lang/invoke/VarHandle" ∧ (parseMethodDescriptor y.desc).map (fun d => d.parameters.length) = some n)
theorem G.callK {σ : Type} {ψ : σ → Option Value × va_W} {oc : Option σ} {kc : σ → Option ρ} {y : MethodName} {cb : ByteArray} {nb n index : Nat} {rb : Option FieldType} {rmc : Room} {As st0 : List Value} {w' : σ → va_W} (hm : MK y cb nb rb n) (hlk : Cond.methodLink own index y ∈ ut_bl) (hM : MT l D ks tys y cb nb rb rmc (.ref ks.1 :: As) [] ψ oc)
    (isR pm : List Nat) (hst : st0 = As.reverse ++ .ref ks.1 :: st) (hAs : As.length = n) (hR : isR.map (fun i => w[i]?) = (isR.filterMap (fun i => w[i]?)).map some) (hpl : plc [] isR pm = true) (hpm : ∀ x, pm.map (fun i => (isR.filterMap (fun i => w[i]?) ++ (ψ x).2)[i]?) = (w' x).map some) (hro : rmc.cells = 0 ∧ rmc.slots = 0 ∧ rmc.frames + 1 ≤ rm.frames ∧ 8 + (nb + 11) + rmc.locals ≤ rm.locals) (hw8 : (st.map fun v => v.category).sum ≤ 8) (hd : decode cc pc = .ok (.invokevirtual index, 3))
    (s' : σ → List Value) (hs' : ∀ x, (ψ x).1.toList ++ st = s' x) (k : ∀ x, oc = some x → GJ l D ks tys own cc nL ret rm φ (w' x) (pc + 3) lv (s' x) (kc x)) : GJ l D ks tys own cc nL ret rm φ w pc lv st0 (oc.bind kc) := by
  obtain ⟨hn, hnC, hdis, hp⟩ := plc_of hpl
  obtain ⟨m1, m2, m3, m4, m5⟩ := hm
  intro r hr p e s m args below meth c A X H locs ls hP hD hS hl
  cases ho : oc with
  | none => rw [ho] at hr; cases hr
  | some x =>
    rw [ho] at hr
    subst hst
    have hts := X.2.2.2.2.1
    have hK := X.2.2.2.2.2.2.2.1
    have hC : ([] : List Nat).map (fun i => w[i]?) = ([] : va_W).map some := rfl
    have hPc : va_P D vwCl [] H := hP.sub [] (g_fm hC)
    have hDc : va_D A [] := hD.sub [] hnC hC
    refine G.back X.2.2.2.2.2.2.2.2.1 hP hD hS [] isR pm hC hR hn hdis hp (hpm x) (va_runV (As := As) (rest := st) (C := "java/lang/String") ⟨X.1, X.2.1, X.2.2.1, X.2.2.2.1, hts⟩ (hM x ho H.size) ⟨callB_of n hts (ug_in (fun _ h => h) m4) rfl hro.1 hro.2.1 (hts _ m3) (hts _ hlk) m5 hro.2.2, hts _ m1, hts _ m2⟩ ⟨MP.blind, vk_recv X.2.2.2.2.2.2.2.2.2.2.1 (i := 0) (by decide) hS, fun U hU hW => ⟨rfl, by rw [hU], by rw [hU]; exact hPc, va_K.moved hW.alike hK, hDc.weaken (fun _ _ _ _ => trivial), KS.into X.2.2.2.2.2.2.2.2.2 hS (va_free (wc := []) hD hS X.2.2.2.2.2.2.2.2.1 [] hC) hU hW⟩⟩ rfl hAs hl.1 rfl (lv_room hw8) hd ⟨Nat.zero_le _, Nat.zero_le _⟩) ?_
    intro H1 locs1 hP1 hD1 hS1
    rw [hs' x]
    exact k x ho r hr p e s m args below meth c A X H1 locs1 ls hP1 hD1 hS1 hl
end GST
theorem mk_coder : MK yJ0_coder_7d493 cJ0_coder_7d493 1 (some .byte) 0 := ⟨(um_2 _ (List.mem_of_getElem? (i := 135) rfl) rfl), (um_2 _ (List.mem_of_getElem? (i := 136) rfl) rfl), (um_1 _ (List.mem_of_getElem? (i := 11) rfl) rfl), (um_2 _ (List.mem_of_getElem? (i := 137) rfl) rfl), by decide, by decide, by decide⟩
theorem mk_isLatin1 : MK yJ0_isLatin1_aae02 cJ0_isLatin1_aae02 1 (some .boolean) 0 := ⟨(um_2 _ (List.mem_of_getElem? (i := 125) rfl) rfl), (um_2 _ (List.mem_of_getElem? (i := 126) rfl) rfl), (um_1 _ (List.mem_of_getElem? (i := 11) rfl) rfl), (um_2 _ (List.mem_of_getElem? (i := 127) rfl) rfl), by decide, by decide, by decide⟩
theorem mk_length : MK yJ0_length_8abf5 cJ0_length_8abf5 1 (some .int) 0 := ⟨(um_2 _ (List.mem_of_getElem? (i := 131) rfl) rfl), (um_2 _ (List.mem_of_getElem? (i := 132) rfl) rfl), (um_1 _ (List.mem_of_getElem? (i := 11) rfl) rfl), (um_2 _ (List.mem_of_getElem? (i := 133) rfl) rfl), by decide, by decide, by decide⟩
theorem mk_indexOf1 : MK yJ0_indexOf_0f7a4 cJ0_indexOf_0f7a4 2 (some .int) 1 := ⟨(um_2 _ (List.mem_of_getElem? (i := 117) rfl) rfl), (um_2 _ (List.mem_of_getElem? (i := 118) rfl) rfl), (um_1 _ (List.mem_of_getElem? (i := 11) rfl) rfl), (um_2 _ (List.mem_of_getElem? (i := 119) rfl) rfl), by decide, by decide, by decide⟩
theorem mk_indexOf2 : MK yJ0_indexOf_7cf53 cJ0_indexOf_7cf53 3 (some .int) 2 := ⟨(um_2 _ (List.mem_of_getElem? (i := 121) rfl) rfl), (um_2 _ (List.mem_of_getElem? (i := 122) rfl) rfl), (um_1 _ (List.mem_of_getElem? (i := 11) rfl) rfl), (um_2 _ (List.mem_of_getElem? (i := 123) rfl) rfl), by decide, by decide, by decide⟩
theorem msJ_canEncode : MS yJ1_canEncode_9a6ad cJ1_canEncode_9a6ad 1 (some .boolean) 1 := ⟨(um_2 _ (List.mem_of_getElem? (i := 142) rfl) rfl), (um_1 _ (List.mem_of_getElem? (i := 12) rfl) rfl), (um_2 _ (List.mem_of_getElem? (i := 143) rfl) rfl), by decide, by decide, by decide⟩
theorem msJ_indexOfChar : MS yJ1_indexOfChar_4cfef cJ1_indexOfChar_4cfef 6 (some .int) 4 := ⟨(um_2 _ (List.mem_of_getElem? (i := 147) rfl) rfl), (um_1 _ (List.mem_of_getElem? (i := 12) rfl) rfl), (um_2 _ (List.mem_of_getElem? (i := 148) rfl) rfl), by decide, by decide, by decide⟩
theorem msJ_indexOf : MS yJ1_indexOf_4cfef cJ1_indexOf_4cfef 4 (some .int) 4 := ⟨(um_2 _ (List.mem_of_getElem? (i := 139) rfl) rfl), (um_1 _ (List.mem_of_getElem? (i := 12) rfl) rfl), (um_2 _ (List.mem_of_getElem? (i := 140) rfl) rfl), by decide, by decide, by decide⟩
theorem flJ_38 : Cond.fieldLink RJ0 38 "java/lang/String" "COMPACT_STRINGS" "Z" ∈ ut_bl := (um_2 _ (List.mem_of_getElem? (i := 128) rfl) rfl)
theorem flJ_15 : Cond.fieldLink RJ0 15 "java/lang/String" "coder" "B" ∈ ut_bl := (um_5 _ (List.mem_of_getElem? (i := 199) rfl) rfl)
theorem flJ_9 : Cond.fieldLink RJ0 9 "java/lang/String" "value" "[B" ∈ ut_bl := (um_5 _ (List.mem_of_getElem? (i := 200) rfl) rfl)
theorem lkJ_633 : Cond.methodLink RJ0 633 yJ0_indexOf_7cf53 ∈ ut_bl := (um_2 _ (List.mem_of_getElem? (i := 120) rfl) rfl)
theorem lkJ_492 : Cond.methodLink RJ0 492 yJ0_isLatin1_aae02 ∈ ut_bl := (um_2 _ (List.mem_of_getElem? (i := 124) rfl) rfl)
theorem lkJ_505 : Cond.methodLink RJ0 505 yJ0_length_8abf5 ∈ ut_bl := (um_2 _ (List.mem_of_getElem? (i := 130) rfl) rfl)
theorem lkJ_335 : Cond.methodLink RJ0 335 yJ0_coder_7d493 ∈ ut_bl := (um_2 _ (List.mem_of_getElem? (i := 134) rfl) rfl)
theorem lkJ_637 : Cond.methodLink RJ0 637 yJ1_indexOf_4cfef ∈ ut_bl := (um_2 _ (List.mem_of_getElem? (i := 138) rfl) rfl)
theorem lkJ1_88 : Cond.methodLink RJ1 88 yJ1_canEncode_9a6ad ∈ ut_bl := (um_2 _ (List.mem_of_getElem? (i := 141) rfl) rfl)
theorem lkJ1_92 : Cond.methodLink RJ1 92 Lib.Math.max.name ∈ ut_bl := (um_2 _ (List.mem_of_getElem? (i := 144) rfl) rfl)
theorem lkJ1_38 : Cond.methodLink RJ1 38 Lib.Math.min.name ∈ ut_bl := (um_2 _ (List.mem_of_getElem? (i := 145) rfl) rfl)
theorem lkJ1_95 : Cond.methodLink RJ1 95 yJ1_indexOfChar_4cfef ∈ ut_bl := (um_2 _ (List.mem_of_getElem? (i := 146) rfl) rfl)
theorem lkX5_66 : Cond.methodLink RX5 66 yJ0_indexOf_0f7a4 ∈ ut_bl := (um_2 _ (List.mem_of_getElem? (i := 116) rfl) rfl)
theorem c_J_coder (l : Launch) (D : va_G) (ks : Nat × Nat) (tys : List (ClassId × FieldType)) : MT l D ks tys yJ0_coder_7d493 cJ0_coder_7d493 1 (some .byte) { frames := 0, cells := 0, slots := 0, locals := 0 } [.ref ks.1] [] (fun r : Int32 => (some (.int r), [])) (some 0) := by
  refine MT.of 0 [some (.ref ks.1)] (by decide) (Nat.le_of_ble_eq_true rfl) rfl ?_
  refine G.kstat flJ_38 dJ0_coder_7d493_0 ?_
  refine G.if_eq_f 13 (by decide) dJ0_coder_7d493_3 (by decide) ?_
  refine G.aload_n dJ0_coder_7d493_6 rfl ?_
  refine G.kcod flJ_15 dJ0_coder_7d493_7 ?_
  refine G.goto 14 dJ0_coder_7d493_10 (by decide) ?_
  exact G.zret rfl rfl rfl dJ0_coder_7d493_14
theorem c_J_isLatin1 (l : Launch) (D : va_G) (ks : Nat × Nat) (tys : List (ClassId × FieldType)) : MT l D ks tys yJ0_isLatin1_aae02 cJ0_isLatin1_aae02 1 (some .boolean) { frames := 0, cells := 0, slots := 0, locals := 0 } [.ref ks.1] [] (fun r : Int32 => (some (.int r), [])) (some 1) := by
  refine MT.of 0 [some (.ref ks.1)] (by decide) (Nat.le_of_ble_eq_true rfl) rfl ?_
  refine G.kstat flJ_38 dJ0_isLatin1_aae02_0 ?_
  refine G.if_eq_f 17 (by decide) dJ0_isLatin1_aae02_3 (by decide) ?_
  refine G.aload_n dJ0_isLatin1_aae02_6 rfl ?_
  refine G.kcod flJ_15 dJ0_isLatin1_aae02_7 ?_
  refine G.if_ne_f 17 rfl dJ0_isLatin1_aae02_10 (by decide) ?_
  refine G.iconst 1 dJ0_isLatin1_aae02_13 (by decide) ?_
  refine G.goto 18 dJ0_isLatin1_aae02_14 (by decide) ?_
  exact G.zret rfl rfl rfl dJ0_isLatin1_aae02_18
def f_J_length : Option Int32 := (some (0 : Int32)).bind fun r => some ((5 : Int32) >>> (r &&& 31))
theorem c_J_length (l : Launch) (D : va_G) (ks : Nat × Nat) (tys : List (ClassId × FieldType)) : MT l D ks tys yJ0_length_8abf5 cJ0_length_8abf5 1 (some .int) { frames := 1, cells := 0, slots := 0, locals := 20 } [.ref ks.1] [] (fun r : Int32 => (some (.int r), [])) f_J_length := by
  refine MT.of 0 [some (.ref ks.1)] (by decide) (Nat.le_of_ble_eq_true rfl) rfl ?_
  unfold f_J_length
  refine G.aload_n dJ0_length_8abf5_0 rfl ?_
  refine G.kval flJ_9 dJ0_length_8abf5_1 ?_
  refine G.klen dJ0_length_8abf5_4 ?_
  refine G.aload_n dJ0_length_8abf5_5 rfl ?_
  refine G.callK (st := [.int 5]) (w' := fun _ => []) mk_coder lkJ_335 (c_J_coder l D ks tys) [] [] rfl rfl rfl (by decide) (fun _ => rfl) (by decide) (Nat.le_of_ble_eq_true rfl) dJ0_length_8abf5_6 (fun r => [.int r, .int 5]) (fun _ => rfl) (fun r _ => ?_)
  refine G.ishr dJ0_length_8abf5_9 ?_
  exact G.iret rfl rfl dJ0_length_8abf5_10
def f_J_canEncode (x0 : Int32) : Option Int32 := if x0 < 0 then some 0 else if 255 < x0 then some 0 else some 1
theorem c_J_canEncode (l : Launch) (D : va_G) (ks : Nat × Nat) (tys : List (ClassId × FieldType)) (x0 : Int32) : MT l D ks tys yJ1_canEncode_9a6ad cJ1_canEncode_9a6ad 1 (some .boolean) { frames := 0, cells := 0, slots := 0, locals := 0 } [.int x0] [] (fun r : Int32 => (some (.int r), [])) (f_J_canEncode x0) := by
  refine MT.of 0 [some (.int x0)] (by decide) (Nat.le_of_ble_eq_true rfl) rfl ?_
  unfold f_J_canEncode
  refine G.iload_n dJ1_canEncode_9a6ad_0 rfl ?_
  refine G.if_lt 15 dJ1_canEncode_9a6ad_1 (by decide) (fun _ => ?_) (fun _ => ?_)
  · refine G.iconst 0 dJ1_canEncode_9a6ad_15 (by decide) ?_
    exact G.zret rfl rfl rfl dJ1_canEncode_9a6ad_16
  · refine G.iload_n dJ1_canEncode_9a6ad_4 rfl ?_
    refine G.sipush 255 dJ1_canEncode_9a6ad_5 (by decide) ?_
    refine G.icmp_gt 15 dJ1_canEncode_9a6ad_8 (by decide) (fun _ => ?_) (fun _ => ?_)
    · refine G.iconst 0 dJ1_canEncode_9a6ad_15 (by decide) ?_
      exact G.zret rfl rfl rfl dJ1_canEncode_9a6ad_16
    · refine G.iconst 1 dJ1_canEncode_9a6ad_11 (by decide) ?_
      refine G.goto 16 dJ1_canEncode_9a6ad_12 (by decide) ?_
      exact G.zret rfl rfl rfl dJ1_canEncode_9a6ad_16
def f_J_ioc_c7 : Nat → Int32 → Int32 → Int32 → Option Int32
  | 0, _, _, _ => none
  | n + 1, x3, x4, x5 => (if x5 < x3 then (if inb x5 5 = true then (if kb x5.toNatClampNeg = x4 then some x5 else f_J_ioc_c7 n x3 x4 (x5 + 1)) else none) else some (-1))
def f_J_ioc (x1 x2 x3 : Int32) : Option Int32 := f_J_ioc_c7 fu x3 x1.toInt8.toInt32 x2
theorem g_J_ioc_c7 (l : Launch) (D : va_G) (ks : Nat × Nat) (tys : List (ClassId × FieldType)) (x1 x2 : Int32) : ∀ (n : Nat) (x3 x4 x5 : Int32), GJ l D ks tys RJ1 cJ1_indexOfChar_4cfef 6 (some .int) { frames := 0, cells := 0, slots := 0, locals := 0 } (fun r : Int32 => (some (.int r), [])) [] 7 [some (.ref ks.2), some (.int x1), some (.int x2), some (.int x3), some (.int x4), some (.int x5)] [] (f_J_ioc_c7 n x3 x4 x5) := by
  intro n
  induction n with
  | zero =>
    intro x3 x4 x5
    exact G.no
  | succ n ih =>
    intro x3 x4 x5
    rw [f_J_ioc_c7]
    refine G.iload dJ1_indexOfChar_4cfef_7 rfl ?_
    refine G.iload_n dJ1_indexOfChar_4cfef_9 rfl ?_
    refine G.icmp_ge 31 dJ1_indexOfChar_4cfef_10 (by decide) (fun _ => ?_) (fun _ => ?_)
    · refine G.iconst (-1) dJ1_indexOfChar_4cfef_31 (by decide) ?_
      exact G.iret rfl rfl dJ1_indexOfChar_4cfef_32
    · refine G.aload_n dJ1_indexOfChar_4cfef_13 rfl ?_
      refine G.iload dJ1_indexOfChar_4cfef_14 rfl ?_
      refine G.chk (fun h => ?_)
      refine G.kbyt h dJ1_indexOfChar_4cfef_16 ?_
      refine G.iload dJ1_indexOfChar_4cfef_17 rfl ?_
      refine G.icmp_ne 25 dJ1_indexOfChar_4cfef_19 (by decide) (fun _ => ?_) (fun _ => ?_)
      · refine G.iinc 1 (lv' := [some (.ref ks.2), some (.int x1), some (.int x2), some (.int x3), some (.int x4), some (.int (x5 + 1))]) dJ1_indexOfChar_4cfef_25 rfl (by decide) (by decide) (Nat.le_of_ble_eq_true rfl) rfl rfl ?_
        refine G.goto 7 dJ1_indexOfChar_4cfef_28 (by decide) ?_
        exact ih x3 x4 (x5 + 1)
      · refine G.iload dJ1_indexOfChar_4cfef_22 rfl ?_
        exact G.iret rfl rfl dJ1_indexOfChar_4cfef_24
theorem c_J_ioc (l : Launch) (D : va_G) (ks : Nat × Nat) (tys : List (ClassId × FieldType)) (x1 x2 x3 : Int32) : MT l D ks tys yJ1_indexOfChar_4cfef cJ1_indexOfChar_4cfef 6 (some .int) { frames := 0, cells := 0, slots := 0, locals := 0 } [.ref ks.2, .int x1, .int x2, .int x3] [] (fun r : Int32 => (some (.int r), [])) (f_J_ioc x1 x2 x3) := by
  refine MT.of 2 [some (.ref ks.2), some (.int x1), some (.int x2), some (.int x3), none, none] (by decide) (Nat.le_of_ble_eq_true rfl) rfl ?_
  unfold f_J_ioc
  refine G.iload_n dJ1_indexOfChar_4cfef_0 rfl ?_
  refine G.i2b dJ1_indexOfChar_4cfef_1 ?_
  refine G.istore (lv' := [some (.ref ks.2), some (.int x1), some (.int x2), some (.int x3), some (.int x1.toInt8.toInt32), none]) dJ1_indexOfChar_4cfef_2 (by decide) (Nat.le_of_ble_eq_true rfl) rfl rfl ?_
  refine G.iload_n dJ1_indexOfChar_4cfef_4 rfl ?_
  refine G.istore (lv' := [some (.ref ks.2), some (.int x1), some (.int x2), some (.int x3), some (.int x1.toInt8.toInt32), some (.int x2)]) dJ1_indexOfChar_4cfef_5 (by decide) (Nat.le_of_ble_eq_true rfl) rfl rfl ?_
  exact g_J_ioc_c7 l D ks tys x1 x2 fu x3 x1.toInt8.toInt32 x2
def f_J_io (x1 x2 x3 : Int32) : Option Int32 := (f_J_canEncode x1).bind fun r1 => (if r1 = 0 then some (-1) else (jn (if x2 < 0 then 0 else x2) fun v2 => (jn (if 5 < x3 then 5 else x3) fun v3 => (if v2 < v3 then ((f_J_ioc x1 v2 v3).bind fun r => some r) else some (-1)))))
theorem c_J_io (l : Launch) (D : va_G) (ks : Nat × Nat) (tys : List (ClassId × FieldType)) (x1 x2 x3 : Int32) : MT l D ks tys yJ1_indexOf_4cfef cJ1_indexOf_4cfef 4 (some .int) { frames := 1, cells := 0, slots := 0, locals := 25 } [.ref ks.2, .int x1, .int x2, .int x3] [] (fun r : Int32 => (some (.int r), [])) (f_J_io x1 x2 x3) := by
  refine MT.of 0 [some (.ref ks.2), some (.int x1), some (.int x2), some (.int x3)] (by decide) (Nat.le_of_ble_eq_true rfl) rfl ?_
  unfold f_J_io
  refine G.iload_n dJ1_indexOf_4cfef_0 rfl ?_
  refine G.callS (st := []) (w' := fun _ => []) msJ_canEncode lkJ1_88 (c_J_canEncode l D ks tys x1) [] [] [] rfl rfl rfl rfl (by decide) (fun _ => rfl) (by decide) (Nat.le_of_ble_eq_true rfl) dJ1_indexOf_4cfef_1 (fun r => [.int r]) (fun _ => rfl) (fun r1 _ => ?_)
  refine G.if_ne 9 dJ1_indexOf_4cfef_4 (by decide) (fun _ => ?_) (fun _ => ?_)
  · refine G.iload_n dJ1_indexOf_4cfef_9 rfl ?_
    refine G.iconst 0 dJ1_indexOf_4cfef_10 (by decide) ?_
    refine G.mmax lkJ1_92 mst_max mini mcd_max (by decide) (Nat.le_of_ble_eq_true rfl) dJ1_indexOf_4cfef_11 ?_
    refine G.topi (fun v2 => ?_)
    refine G.istore_n (lv' := [some (.ref ks.2), some (.int x1), some (.int v2), some (.int x3)]) dJ1_indexOf_4cfef_14 (by decide) (Nat.le_of_ble_eq_true rfl) rfl rfl ?_
    refine G.iload_n dJ1_indexOf_4cfef_15 rfl ?_
    refine G.aload_n dJ1_indexOf_4cfef_16 rfl ?_
    refine G.klen dJ1_indexOf_4cfef_17 ?_
    refine G.mmin lkJ1_38 mst_min mini mcd_min (by decide) (Nat.le_of_ble_eq_true rfl) dJ1_indexOf_4cfef_18 ?_
    refine G.topi (fun v3 => ?_)
    refine G.istore_n (lv' := [some (.ref ks.2), some (.int x1), some (.int v2), some (.int v3)]) dJ1_indexOf_4cfef_21 (by decide) (Nat.le_of_ble_eq_true rfl) rfl rfl ?_
    refine G.iload_n dJ1_indexOf_4cfef_22 rfl ?_
    refine G.iload_n dJ1_indexOf_4cfef_23 rfl ?_
    refine G.icmp_lt 29 dJ1_indexOf_4cfef_24 (by decide) (fun _ => ?_) (fun _ => ?_)
    · refine G.aload_n dJ1_indexOf_4cfef_29 rfl ?_
      refine G.iload_n dJ1_indexOf_4cfef_30 rfl ?_
      refine G.iload_n dJ1_indexOf_4cfef_31 rfl ?_
      refine G.iload_n dJ1_indexOf_4cfef_32 rfl ?_
      refine G.callS (st := []) (w' := fun _ => []) msJ_indexOfChar lkJ1_95 (c_J_ioc l D ks tys x1 v2 v3) [] [] [] rfl rfl rfl rfl (by decide) (fun _ => rfl) (by decide) (Nat.le_of_ble_eq_true rfl) dJ1_indexOf_4cfef_33 (fun r => [.int r]) (fun _ => rfl) (fun r _ => ?_)
      exact G.iret rfl rfl dJ1_indexOf_4cfef_36
    · refine G.iconst (-1) dJ1_indexOf_4cfef_27 (by decide) ?_
      exact G.iret rfl rfl dJ1_indexOf_4cfef_28
  · refine G.iconst (-1) dJ1_indexOf_4cfef_7 (by decide) ?_
    exact G.iret rfl rfl dJ1_indexOf_4cfef_8
def f_J_i2 (x1 x2 : Int32) : Option Int32 := (some (1 : Int32)).bind fun _ => (f_J_length.bind fun r2 => ((f_J_io x1 x2 r2).bind fun r => some r))
theorem c_J_i2 (l : Launch) (D : va_G) (ks : Nat × Nat) (tys : List (ClassId × FieldType)) (x1 x2 : Int32) : MT l D ks tys yJ0_indexOf_7cf53 cJ0_indexOf_7cf53 3 (some .int) { frames := 2, cells := 0, slots := 0, locals := 48 } [.ref ks.1, .int x1, .int x2] [] (fun r : Int32 => (some (.int r), [])) (f_J_i2 x1 x2) := by
  refine MT.of 0 [some (.ref ks.1), some (.int x1), some (.int x2)] (by decide) (Nat.le_of_ble_eq_true rfl) rfl ?_
  unfold f_J_i2
  refine G.aload_n dJ0_indexOf_7cf53_0 rfl ?_
  refine G.callK (st := []) (w' := fun _ => []) mk_isLatin1 lkJ_492 (c_J_isLatin1 l D ks tys) [] [] rfl rfl rfl (by decide) (fun _ => rfl) (by decide) (Nat.le_of_ble_eq_true rfl) dJ0_indexOf_7cf53_1 (fun r => [.int r]) (fun _ => rfl) (fun r hr => ?_)
  cases hr
  refine G.if_eq_f 23 (by decide) dJ0_indexOf_7cf53_4 (by decide) ?_
  refine G.aload_n dJ0_indexOf_7cf53_7 rfl ?_
  refine G.kval flJ_9 dJ0_indexOf_7cf53_8 ?_
  refine G.iload_n dJ0_indexOf_7cf53_11 rfl ?_
  refine G.iload_n dJ0_indexOf_7cf53_12 rfl ?_
  refine G.aload_n dJ0_indexOf_7cf53_13 rfl ?_
  refine G.callK (st := [.int x2, .int x1, .ref ks.2]) (w' := fun _ => []) mk_length lkJ_505 (c_J_length l D ks tys) [] [] rfl rfl rfl (by decide) (fun _ => rfl) (by decide) (Nat.le_of_ble_eq_true rfl) dJ0_indexOf_7cf53_14 (fun r => [.int r, .int x2, .int x1, .ref ks.2]) (fun _ => rfl) (fun r2 _ => ?_)
  refine G.callS (st := []) (w' := fun _ => []) msJ_indexOf lkJ_637 (c_J_io l D ks tys x1 x2 r2) [] [] [] rfl rfl rfl rfl (by decide) (fun _ => rfl) (by decide) (Nat.le_of_ble_eq_true rfl) dJ0_indexOf_7cf53_17 (fun r => [.int r]) (fun _ => rfl) (fun r _ => ?_)
  refine G.goto 36 dJ0_indexOf_7cf53_20 (by decide) ?_
  exact G.iret rfl rfl dJ0_indexOf_7cf53_36
def f_J_i1 (x1 : Int32) : Option Int32 := (f_J_i2 x1 0).bind fun r => some r
theorem c_J_i1 (l : Launch) (D : va_G) (ks : Nat × Nat) (tys : List (ClassId × FieldType)) (x1 : Int32) : MT l D ks tys yJ0_indexOf_0f7a4 cJ0_indexOf_0f7a4 2 (some .int) { frames := 3, cells := 0, slots := 0, locals := 70 } [.ref ks.1, .int x1] [] (fun r : Int32 => (some (.int r), [])) (f_J_i1 x1) := by
  refine MT.of 0 [some (.ref ks.1), some (.int x1)] (by decide) (Nat.le_of_ble_eq_true rfl) rfl ?_
  unfold f_J_i1
  refine G.aload_n dJ0_indexOf_0f7a4_0 rfl ?_
  refine G.iload_n dJ0_indexOf_0f7a4_1 rfl ?_
  refine G.iconst 0 dJ0_indexOf_0f7a4_2 (by decide) ?_
  refine G.callK (st := []) (w' := fun _ => []) mk_indexOf2 lkJ_633 (c_J_i2 l D ks tys x1 0) [] [] rfl rfl rfl (by decide) (fun _ => rfl) (by decide) (Nat.le_of_ble_eq_true rfl) dJ0_indexOf_0f7a4_3 (fun r => [.int r]) (fun _ => rfl) (fun r _ => ?_)
  exact G.iret rfl rfl dJ0_indexOf_0f7a4_6
