/-! THE JUDGEMENT OF A CONSTRUCTOR: 'GK .. Pw mc ms w kn nn pc lv st': with world w and kn cells of nn slots made so far, it comes to its end with a world that Pw says, mc cells of ms slots made -/
def KQ (D : va_G) (tys : List (ClassId × FieldType)) (A : Nat → Prop) (Pw : va_W → Prop) : Array Value → State → Outcome → State → Prop :=
  fun _ st oc t => oc = .returned none ∧ (∃ w', Pw w' ∧ va_P D vwCl w' t.heap ∧ va_D A w') ∧ va_K D vwCl tys t ∧ va_F A st t
def AO (s : State) : Prop := va_AO "CryptBays$Mark" s ∧ va_AO "CryptBays$Sheet" s
/-- a constructor's contract -/
def MC (l : Launch) (D : va_G) (ks : Nat × Nat) (tys : List (ClassId × FieldType)) (y : MethodName) (cc : ByteArray) (nL : Nat) (rm : Room) (h0 : Nat) (w : va_W) (Pw : va_W → Prop) (mc ms : Nat) : Prop :=
  ∀ sz : Nat, Met l y (.code y cc nL none :: ut_bl) rm (va_Pc [.ref h0] (fun U => MP D ks tys w sz U ∧ AO U)) (KQ D tys (va_A w sz) Pw) mc ms (va_A w sz)
def GK (l : Launch) (D : va_G) (ks : Nat × Nat) (tys : List (ClassId × FieldType)) (own : String) (cc : ByteArray) (nL : Nat) (rm : Room) (Pw : va_W → Prop) (mc ms : Nat) (w : va_W) (kn nn : Nat) (pc : Nat) (lv : List (Option Value)) (st : List Value) : Prop :=
  ∀ (p : Program) (e : Env) (s : State) (m : MethodId) (args : Array Value) (below : List Frame) (meth : Method) (c : Code) (A : Nat → Prop), GX p s m args meth c cc nL own none D ks tys A → meth.name = "<init>" → AO s →
    ∀ (H : Heap) (locs : List Loc) (ls : Array Slot), va_P D vwCl w H → va_D A w → va_S A s.heap H locs → lw_has ls nL lv →
      W p l e rm s m args below meth c H locs kn nn (MQ below (KQ D tys A Pw) args s mc ms A) (F0 m pc ls st)
theorem MC.of {l : Launch} {D : va_G} {ks : Nat × Nat} {tys : List (ClassId × FieldType)} {y : MethodName} {cc : ByteArray} {nL : Nat} {rm : Room} {h0 : Nat} {w : va_W} {Pw : va_W → Prop} {mc ms : Nat} (n : Nat) (lv : List (Option Value))
    (hy : plainName y.cls = true) (hyn : y.name = "<init>") (hav : (lg_sl [Value.ref h0]).length ≤ nL) (hlv : lw_args [Value.ref h0] ++ List.replicate n none = lv) (body : GK l D ks tys y.cls cc nL rm Pw mc ms w 0 0 0 lv []) : MC l D ks tys y cc nL rm h0 w Pw mc ms := by
  subst hlv
  intro sz
  refine Met.ofW (cc := cc) (maxL := nL) (ret := none) hy rfl ?_
  intro p e s m args below meth c s₁ B hml hv
  obtain ⟨rfl, ⟨hsz, hP, hK, hD0, hKS⟩, hao⟩ := hv
  have hts := atoms_spec (ws := .code y cc nL none :: ut_bl) B.pre
  have hown : s.vm.findClass y.cls = some m.cls := findClass_of_methodNamed B.named
  have hin : meth.name = "<init>" := ((name_of_methodNamed B.named B.method).1).trans hyn
  subst hsz
  have hl := lv_entry [Value.ref h0] (n := nL) hav
  rw [lg_entry_eq]
  refine body p e s m [Value.ref h0].toArray below meth c (va_A w s.heap.size) ⟨B.exec, B.bytes, hml, hown, fun w h => hts w (List.mem_cons_of_mem _ h), B.notSynchronized, B.returns, hK, fun q h => Or.inr h, hKS⟩ hin hao s.heap [] _ hP (hD0.self (sz := s.heap.size)) va_S.rf ?_
  unfold lw_has
  rw [lw_asc_app _ _ _ (fun x h => List.eq_of_mem_replicate h), lw_args_asc]
  exact hl
theorem KC.name {D : va_G} {cl : List vw_C} {tys : List (ClassId × FieldType)} {s : State} {t0 : Nat} {cA cB : ClassId} {ty : FieldType} (ht : tys[t0]? = some (cB, ty)) (hK : va_K D cl (tys ++ [(cA, ty)]) s) : cA = cB := by
  have hl : t0 < tys.length := (List.getElem?_eq_some_iff.mp ht).1
  have h1 := (hK.2 t0 (cB, ty) (by rw [List.getElem?_append_left hl]; exact ht)).2
  have h2 := (hK.2 tys.length (cA, ty) (by rw [List.getElem?_append_right (Nat.le_refl _)]; simp)).2
  cases ty with
  | object C =>
    obtain ⟨kA, comp, -, -, -, g1⟩ := h1
    obtain ⟨kB, comp', -, -, -, g2⟩ := h2
    exact Option.some.inj (g2.symm.trans g1)
  | _ => exact Option.some.inj (Eq.trans (Eq.symm h2) h1)
/-- behind a call on the last cell: the rest stays, the callee's world stands in that cell's place -/
theorem KC.join {A0 : Nat → Prop} {D : va_G} {cl : List vw_C} {wr w1 : va_W} {c : Nat × va_E} {H H1 : Heap} (hP : va_P D cl (wr ++ [c]) H) (hD : va_D A0 (wr ++ [c])) (hk : ∀ q : Nat, q < H.size → ¬ va_A [c] H.size q → H1[q]? = H[q]?) (hF : ∀ q, va_A [c] H.size q → A0 q) (hP1 : va_P D cl w1 H1) (hD1 : va_D (va_A [c] H.size) w1) : va_P D cl (wr ++ w1) H1 ∧ va_D A0 (wr ++ w1) := by
  have hget : ∀ (k : Nat) (q : Nat × va_E), wr[k]? = some q → (wr ++ [c])[k]? = some q := fun k q hq => by
    rw [List.getElem?_append_left (List.getElem?_eq_some_iff.mp hq).1]
    exact hq
  have hlast : (wr ++ [c])[wr.length]? = some c := by simp
  have apart : ∀ (k : Nat) (q : Nat × va_E), wr[k]? = some q → q.1 < H.size ∧ ¬ va_A [c] H.size q.1 := by
    intro k q hq
    have hl := (hP k q (hget k q hq)).lt
    refine ⟨hl, fun h => ?_⟩
    rcases h with ⟨k2, e, h⟩ | h
    · have hk2 : k2 = 0 := by
        have := (List.getElem?_eq_some_iff.mp h).1
        simpa using this
      subst hk2
      have hc : c = (q.1, e) := by simpa using h
      have hij := hD.1 k wr.length q c (hget k q hq) hlast (by rw [hc])
      have hkl := (List.getElem?_eq_some_iff.mp hq).1
      omega
    · omega
  refine ⟨va_P.app (fun k q hq => ?_) hP1, va_D.app ⟨fun i j x y hx hy hxy => hD.1 i j x y (hget i x hx) (hget j y hy) hxy, fun k q hq => hD.2 k q (hget k q hq)⟩ (hD1.weaken (fun k q _ h => hF q.1 h)) (fun i j x y hx hy hxy => ?_)⟩
  · obtain ⟨g1, g2⟩ := apart k q hq
    exact (hP k q (hget k q hq)).kept (hk q.1 g1 g2)
  · exact (apart i x hx).2 (by rw [hxy]; exact hD1.2 j y hy)
theorem KC.cell {cA : ClassId} {n : Nat} {f g : Nat → Option Nat} (h : ∀ j, j < n → f j = g j) : vp_cell cA (n, .inr (.inr (.inr (.inr f)))) = vp_cell cA (n, .inr (.inr (.inr (.inr g)))) := by
  rw [vp_cell_q, vp_cell_q]
  unfold arrV
  congr 1
  congr 1
  funext j
  exact congrArg va_rf (h j.val j.isLt)
section KR
variable {l : Launch} {D : va_G} {ks : Nat × Nat} {tys : List (ClassId × FieldType)} {own : String} {cc : ByteArray} {nL : Nat} {rm : Room} {Pw : va_W → Prop} {mc ms : Nat} {w : va_W} {kn nn : Nat} {pc : Nat} {lv : List (Option Value)} {st : List Value}
theorem K.eqw {w' : va_W} (h : w = w') (k : GK l D ks tys own cc nL rm Pw mc ms w' kn nn pc lv st) : GK l D ks tys own cc nL rm Pw mc ms w kn nn pc lv st := h ▸ k
theorem K.cell {a n : Nat} {cA : ClassId} {f g : Nat → Option Nat} {w' : va_W} (q0 : Nat) (he : w[q0]? = some (a, .inl (cA, n, .inr (.inr (.inr (.inr f)))))) (hfg : ∀ j, j < n → f j = g j) (hw : w.set q0 (a, .inl (cA, n, .inr (.inr (.inr (.inr g))))) = w') (k : GK l D ks tys own cc nL rm Pw mc ms w' kn nn pc lv st) : GK l D ks tys own cc nL rm Pw mc ms w kn nn pc lv st := by
  subst hw
  intro p e s m args below meth c A X hin hao H locs ls hP hD hS hl
  refine k p e s m args below meth c A X hin hao H locs ls (hP.set hD he ?_ (fun _ _ => rfl)) (hD.set he) hS hl
  have h1 : H[a]? = some (vp_cell cA (n, .inr (.inr (.inr (.inr f))))) := hP q0 _ he
  rw [KC.cell hfg] at h1
  exact h1
theorem K.iconst {n : Int} (v : Int32) (hd : decode cc pc = .ok (.iconst n, 1)) (hv : Int32.ofInt n = v) (k : GK l D ks tys own cc nL rm Pw mc ms w kn nn (pc + 1) lv (.int v :: st)) : GK l D ks tys own cc nL rm Pw mc ms w kn nn pc lv st := fun p e s m args below meth c A X hin hao H locs ls hP hD hS hl => lv_iconst X.1 X.2.1 hd hv (k p e s m args below meth c A X hin hao H locs ls hP hD hS hl)
theorem K.bipush {n : Int} (v : Int32) (hd : decode cc pc = .ok (.bipush n, 2)) (hv : (Int8.ofInt n).toInt32 = v) (k : GK l D ks tys own cc nL rm Pw mc ms w kn nn (pc + 2) lv (.int v :: st)) : GK l D ks tys own cc nL rm Pw mc ms w kn nn pc lv st := fun p e s m args below meth c A X hin hao H locs ls hP hD hS hl => lv_bipush X.1 X.2.1 hd hv (k p e s m args below meth c A X hin hao H locs ls hP hD hS hl)
theorem K.sipush {n : Int} (v : Int32) (hd : decode cc pc = .ok (.sipush n, 3)) (hv : (Int16.ofInt n).toInt32 = v) (k : GK l D ks tys own cc nL rm Pw mc ms w kn nn (pc + 3) lv (.int v :: st)) : GK l D ks tys own cc nL rm Pw mc ms w kn nn pc lv st := fun p e s m args below meth c A X hin hao H locs ls hP hD hS hl => lv_sipush X.1 X.2.1 hd hv (k p e s m args below meth c A X hin hao H locs ls hP hD hS hl)
theorem K.iadd {x y : Int32} (v : Int32) (hv : x + y = v) (hd : decode cc pc = .ok (.iadd, 1)) (k : GK l D ks tys own cc nL rm Pw mc ms w kn nn (pc + 1) lv (.int v :: st)) : GK l D ks tys own cc nL rm Pw mc ms w kn nn pc lv (.int y :: .int x :: st) := by
  subst hv
  exact fun p e s m args below meth c A X hin hao H locs ls hP hD hS hl => lv_iadd X.1 X.2.1 hd (k p e s m args below meth c A X hin hao H locs ls hP hD hS hl)
theorem K.dup {va : Value} (hd : decode cc pc = .ok (.dup, 1)) (hva : va.category = 1) (k : GK l D ks tys own cc nL rm Pw mc ms w kn nn (pc + 1) lv (va :: va :: st)) : GK l D ks tys own cc nL rm Pw mc ms w kn nn pc lv (va :: st) := fun p e s m args below meth c A X hin hao H locs ls hP hD hS hl => lv_dup X.1 X.2.1 hd hva (k p e s m args below meth c A X hin hao H locs ls hP hD hS hl)
theorem K.aload_n {i : Fin 4} {x : Nat} (hd : decode cc pc = .ok (.aload_n i, 1)) (hv : lv[i.val]? = some (some (.ref x))) (k : GK l D ks tys own cc nL rm Pw mc ms w kn nn (pc + 1) lv (.ref x :: st)) : GK l D ks tys own cc nL rm Pw mc ms w kn nn pc lv st := fun p e s m args below meth c A X hin hao H locs ls hP hD hS hl => lv_aload_n X.1 X.2.1 hd rfl (lw_at hl hv) (k p e s m args below meth c A X hin hao H locs ls hP hD hS hl)
theorem K.iload_n {i : Fin 4} {x : Int32} (hd : decode cc pc = .ok (.iload_n i, 1)) (hv : lv[i.val]? = some (some (.int x))) (k : GK l D ks tys own cc nL rm Pw mc ms w kn nn (pc + 1) lv (.int x :: st)) : GK l D ks tys own cc nL rm Pw mc ms w kn nn pc lv st := fun p e s m args below meth c A X hin hao H locs ls hP hD hS hl => lv_iload_n X.1 X.2.1 hd rfl (lw_at hl hv) (k p e s m args below meth c A X hin hao H locs ls hP hD hS hl)
theorem K.istore_n {i : Fin 4} {x : Int32} {lv' : List (Option Value)} (hd : decode cc pc = .ok (.istore_n i, 1)) (hn : i.val < nL) (hi : i.val < lv.length) (hk : lw_ok1 lv i.val = true) (he : lv.set i.val (some (.int x)) = lv') (k : GK l D ks tys own cc nL rm Pw mc ms w kn nn (pc + 1) lv' st) : GK l D ks tys own cc nL rm Pw mc ms w kn nn pc lv (.int x :: st) :=
  fun p e s m args below meth c A X hin hao H locs ls hP hD hS hl => lv_istore_n X.1 X.2.1 hd rfl hl hn rfl (fun ls' h' => k p e s m args below meth c A X hin hao H locs ls' hP hD hS (he ▸ lw_sub h' (lw_st1 (ls := ls) (nL := nL) hi hk)))
theorem K.iinc {i : Nat} {n : Int} {x : Int32} (v : Int32) {lv' : List (Option Value)} (hd : decode cc pc = .ok (.iinc i n, 3)) (hv : lv[i]? = some (some (.int x))) (hs : x + Int32.ofInt n = v) (hn : i < nL) (hi : i < lv.length) (hk : lw_ok1 lv i = true) (he : lv.set i (some (.int v)) = lv') (k : GK l D ks tys own cc nL rm Pw mc ms w kn nn (pc + 3) lv' st) : GK l D ks tys own cc nL rm Pw mc ms w kn nn pc lv st := by
  intro p e s m args below meth c A X hin hao H locs ls hP hD hS hl
  obtain ⟨kk, hkk⟩ := List.getElem?_of_mem ((lw_asc_mem lv 0 i (.int x)).mpr ⟨Nat.zero_le _, hv⟩)
  exact lv_iinc X.1 X.2.1 hd hl hkk hs hn rfl (fun ls' h' => k p e s m args below meth c A X hin hao H locs ls' hP hD hS (he ▸ lw_sub h' (lw_st1 (ls := ls) (nL := nL) hi hk)))
theorem K.goto {off : Int} (tgt : Nat) (hd : decode cc pc = .ok (.goto off, 3)) (ht : (pc : Int) + off = (tgt : Int)) (k : GK l D ks tys own cc nL rm Pw mc ms w kn nn tgt lv st) : GK l D ks tys own cc nL rm Pw mc ms w kn nn pc lv st := fun p e s m args below meth c A X hin hao H locs ls hP hD hS hl => lv_goto X.1 X.2.1 hd ht (k p e s m args below meth c A X hin hao H locs ls hP hD hS hl)
theorem K.icmp_ge_t {x y : Int32} {off : Int} (tgt : Nat) (hc : ¬ x < y) (hd : decode cc pc = .ok (.if_icmp .ge off, 3)) (ht : (pc : Int) + off = (tgt : Int)) (k : GK l D ks tys own cc nL rm Pw mc ms w kn nn tgt lv st) : GK l D ks tys own cc nL rm Pw mc ms w kn nn pc lv (.int y :: .int x :: st) := fun p e s m args below meth c A X hin hao H locs ls hP hD hS hl => lv_icmp_ge X.1 X.2.1 hd ht (fun _ => k p e s m args below meth c A X hin hao H locs ls hP hD hS hl) (fun h => absurd (g_lt h) hc)
theorem K.icmp_ge_f {x y : Int32} {off : Int} (tgt : Nat) (hc : x < y) (hd : decode cc pc = .ok (.if_icmp .ge off, 3)) (ht : (pc : Int) + off = (tgt : Int)) (k : GK l D ks tys own cc nL rm Pw mc ms w kn nn (pc + 3) lv st) : GK l D ks tys own cc nL rm Pw mc ms w kn nn pc lv (.int y :: .int x :: st) := fun p e s m args below meth c A X hin hao H locs ls hP hD hS hl => lv_icmp_ge X.1 X.2.1 hd ht (fun h => absurd hc (g_nlt h)) (fun _ => k p e s m args below meth c A X hin hao H locs ls hP hD hS hl)
theorem K.get {index ci kf a : Nat} {fs : List Value} {v : Value} (hf : FL own index ci kf) (q0 : Nat) (he : w[q0]? = some (a, .inr (ci, fs))) (hv : fs[kf]? = some v) (hd : decode cc pc = .ok (.getfield index, 3)) (k : GK l D ks tys own cc nL rm Pw mc ms w kn nn (pc + 3) lv (v :: st)) : GK l D ks tys own cc nL rm Pw mc ms w kn nn pc lv (.ref a :: st) := by
  obtain ⟨C, T, N, h1, h2, h3, h4⟩ := hf
  exact fun p e s m args below meth c A X hin hao H locs ls hP hD hS hl => va_get X.1 X.2.1 X.2.2.2.2.1 h3 X.2.2.2.1 X.2.2.2.2.2.2.2.1 hP q0 he h1 kf h2 (X.2.2.2.2.1 _ h4) (fun _ h9 => h9) hv hd (k p e s m args below meth c A X hin hao H locs ls hP hD hS hl)
theorem K.put {index ci kf a : Nat} {fs : List Value} {v : Value} {ty : FieldType} {w' : va_W} (hf : FP own index ci kf ty) (q0 : Nat) (he : w[q0]? = some (a, .inr (ci, fs))) (hk : kf < fs.length) (hn : narrow ty v = v) (hfit : fits ty v = true) (hw : w.set q0 (a, .inr (ci, fs.set kf v)) = w') (hd : decode cc pc = .ok (.putfield index, 3)) (k : GK l D ks tys own cc nL rm Pw mc ms w' kn nn (pc + 3) lv st) : GK l D ks tys own cc nL rm Pw mc ms w kn nn pc lv (v :: .ref a :: st) := by
  obtain ⟨C, T, N, h1, h2, h3, h4, h5, h6, ⟨ty0, h7⟩, h8⟩ := hf
  subst hw
  exact fun p e s m args below meth c A X hin hao H locs ls hP hD hS hl => va_put X.1 X.2.1 X.2.2.2.2.1 h3 ty0 h7 h8 X.2.2.2.1 X.2.2.2.2.2.2.2.1 hP hD hS q0 he h1 kf h2 (X.2.2.2.2.1 _ h4) (fun _ h9 => h9) h5 h6 hn hfit hk hd (fun H locs hP hD hS => k p e s m args below meth c A X hin hao H locs ls hP hD hS hl)
/-- a final field's link, in its own class' constructor -/
def FF (own : String) (index ci k : Nat) (ty : FieldType) : Prop := ∃ (C : String) (T : u_T) (N : Nat), vwCl[ci]? = some (C, T, N) ∧ k < N ∧ (∀ w ∈ u_ws C T N, w ∈ ut_bl) ∧ Cond.fieldLink own index (T k).1 (T k).2.1 (T k).2.2.1 ∈ ut_bl ∧ (T k).2.2.2 = true ∧ (T k).1 = own ∧ parseFieldDescriptor (T k).2.2.1 = some ty ∧
  (∃ ty0 : Nat → FieldType, ∀ k, k < N → parseFieldDescriptor (T k).2.2.1 = some (ty0 k)) ∧ ∀ a, a < N → ∀ b, b < N → a ≠ b → (T a).2.1 ≠ (T b).2.1
theorem K.putF {index ci kf a : Nat} {fs : List Value} {v : Value} {ty : FieldType} {w' : va_W} (hf : FF own index ci kf ty) (q0 : Nat) (he : w[q0]? = some (a, .inr (ci, fs))) (hk : kf < fs.length) (hn : narrow ty v = v) (hfit : fits ty v = true) (hw : w.set q0 (a, .inr (ci, fs.set kf v)) = w') (hd : decode cc pc = .ok (.putfield index, 3)) (k : GK l D ks tys own cc nL rm Pw mc ms w' kn nn (pc + 3) lv st) : GK l D ks tys own cc nL rm Pw mc ms w kn nn pc lv (v :: .ref a :: st) := by
  obtain ⟨C, T, N, h1, h2, h3, h4, h5, h5b, h6, ⟨ty0, h7⟩, h8⟩ := hf
  subst hw
  exact fun p e s m args below meth c A X hin hao H locs ls hP hD hS hl => va_putF X.1 X.2.1 X.2.2.2.2.1 h3 ty0 h7 h8 X.2.2.2.1 X.2.2.2.2.2.2.2.1 hP hD hS q0 he h1 kf h2 (X.2.2.2.2.1 _ h4) (fun _ h9 => h9) h5 hin h5b h6 hn hfit hk hd (fun H locs hP hD hS => k p e s m args below meth c A X hin hao H locs ls hP hD hS hl)
theorem K.iastore {a n : Nat} {cA : ClassId} {f : Nat → Int32} {i : Int32} {x : Int32} {w' : va_W} (q0 t0 : Nat) (ha : w[q0]? = some (a, .inl (cA, n, .inl f))) (ht : tys[t0]? = some (cA, .int)) (j : Nat) (hj : i.toNatClampNeg = j) (hi : inb i n = true) (hw : w.set q0 (a, .inl (cA, n, .inl (upd f j x))) = w') (hd : decode cc pc = .ok (.iastore, 1)) (k : GK l D ks tys own cc nL rm Pw mc ms w' kn nn (pc + 1) lv st) : GK l D ks tys own cc nL rm Pw mc ms w kn nn pc lv (.int x :: .int i :: .ref a :: st) := by
  subst hw
  subst hj
  exact fun p e s m args below meth c A X hin hao H locs ls hP hD hS hl => va_iast X.1 X.2.1 X.2.2.2.2.2.2.2.1 hP hD hS q0 t0 ha ht (inb_vp hi) hd (fun H locs hP hD hS => k p e s m args below meth c A X hin hao H locs ls hP hD hS hl)
theorem K.aastore {a n v : Nat} {cA : ClassId} {r : vw_C} {f : Nat → Option Nat} {i : Int32} {vs : List Value} {w' : va_W} (q0 t0 qk ci : Nat) (ha : w[q0]? = some (a, .inl (cA, n, .inr (.inr (.inr (.inr f)))))) (hc : vwCl[ci]? = some r) (ht : tys[t0]? = some (cA, .object r.1)) (hv : w[qk]? = some (v, .inr (ci, vs))) (j : Nat) (hj : i.toNatClampNeg = j) (hi : inb i n = true) (hw : w.set q0 (a, .inl (cA, n, .inr (.inr (.inr (.inr (va_up f j (some v))))))) = w') (hd : decode cc pc = .ok (.aastore, 1)) (k : GK l D ks tys own cc nL rm Pw mc ms w' kn nn (pc + 1) lv st) : GK l D ks tys own cc nL rm Pw mc ms w kn nn pc lv (.ref v :: .int i :: .ref a :: st) := by
  subst hw
  subst hj
  exact fun p e s m args below meth c A X hin hao H locs ls hP hD hS hl => va_astq X.1 X.2.1 X.2.2.2.2.2.2.2.1 hP hD hS q0 t0 qk ci ha ht hv hc (inb_vp hi) hd (fun H locs hP hD hS => k p e s m args below meth c A X hin hao H locs ls hP hD hS hl)
theorem K.newa {atype : ArrayType} {ty : FieldType} {n : Int32} {a0 : vp_A} {cA : ClassId} {w' : Nat → va_W} (N' t0 : Nat) (harr : Cond.arrayClass ty ∈ ut_bl) (hty : newarray.typeOf atype = ty) (ht : tys[t0]? = some (cA, ty)) (ha : ∀ cA : ClassId, vp_cell cA a0 = arrV cA N' (fun _ => defaultValue ty)) (hn : ¬ n < 0) (hN : n.toNatClampNeg = N') (hb : N' * componentBytes ty ≤ 536870912) (hc : kn + 1 ≤ rm.cells) (hs : nn + N' ≤ rm.slots) (hw : ∀ q, w ++ [(q, .inl (cA, a0))] = w' q) (hd : decode cc pc = .ok (.newarray atype, 2)) (k : ∀ q : Nat, GK l D ks tys own cc nL rm Pw mc ms (w' q) (kn + 1) (nn + N') (pc + 2) lv (.ref q :: st)) : GK l D ks tys own cc nL rm Pw mc ms w kn nn pc lv (.int n :: st) :=
  fun p e s m args below meth c A X hin hao H locs ls hP hD hS hl => va_newa X.1 X.2.1 (X.2.2.2.2.1 _ (by rw [hty]; exact harr)) hty X.2.2.2.2.2.2.2.1 hP hD hS X.2.2.2.2.2.2.2.2.1 ha hn hN hb hc hs hd (fun q cB H hKq hP hD hS => by
    have hq := KC.name ht hKq
    subst hq
    exact k q p e s m args below meth c A X hin hao H locs ls (hw q ▸ hP) (hw q ▸ hD) hS hl)
theorem K.newq {C : String} {index : Nat} {n : Int32} {cA : ClassId} {w' : Nat → va_W} (N' t0 : Nat) (hcl : Cond.classLink own index C ∈ ut_bl) (hov : ∀ s, AO s → va_AO C s) (ht : tys[t0]? = some (cA, .object C)) (hn : ¬ n < 0) (hN : n.toNatClampNeg = N') (hb : N' * 4 ≤ 536870912) (hc : kn + 1 ≤ rm.cells) (hs : nn + N' ≤ rm.slots) (hw : ∀ q, w ++ [(q, .inl (cA, N', .inr (.inr (.inr (.inr (fun _ => none))))))] = w' q) (hd : decode cc pc = .ok (.anewarray index, 3)) (k : ∀ q : Nat, GK l D ks tys own cc nL rm Pw mc ms (w' q) (kn + 1) (nn + N') (pc + 3) lv (.ref q :: st)) : GK l D ks tys own cc nL rm Pw mc ms w kn nn pc lv (.int n :: st) :=
  fun p e s m args below meth c A X hin hao H locs ls hP hD hS hl => va_newq X.1 X.2.1 X.2.2.2.1 (X.2.2.2.2.1 _ hcl) (hov s hao) X.2.2.2.2.2.2.2.1 hP hD hS X.2.2.2.2.2.2.2.2.1 hn hN hb hc hs hd (fun q cB H hKq hP hD hS => by
    have hq := KC.name ht hKq
    subst hq
    exact k q p e s m args below meth c A X hin hao H locs ls (hw q ▸ hP) (hw q ▸ hD) hS hl)
/-- a class that may be made: class ci, N fields, what they hold at first -/
def NW (own : String) (index ci N : Nat) (fs : List Value) : Prop := ∃ (C : String) (T : u_T) (ty : Nat → FieldType), vwCl[ci]? = some (C, T, N) ∧ (∀ w ∈ u_ws C T N, w ∈ ut_bl) ∧ (∀ k, k < N → parseFieldDescriptor (T k).2.2.1 = some (ty k)) ∧ Cond.classLink own index C ∈ ut_bl ∧ Cond.instantiable C N ∈ ut_bl ∧ Cond.initialized C ∈ ut_bl ∧ ∀ j, j < N → defaultValue (ty j) = vp_V fs j
theorem K.new {index ci N : Nat} {fs : List Value} {w' : Nat → va_W} (hnw : NW own index ci N fs) (hc : kn + 1 ≤ rm.cells) (hs : nn + N ≤ rm.slots) (hw : ∀ q, w ++ [(q, .inr (ci, fs))] = w' q) (hd : decode cc pc = .ok (.new index, 3)) (k : ∀ q : Nat, GK l D ks tys own cc nL rm Pw mc ms (w' q) (kn + 1) (nn + N) (pc + 3) lv (.ref q :: st)) : GK l D ks tys own cc nL rm Pw mc ms w kn nn pc lv st := by
  obtain ⟨C, T, ty, h1, h2, h3, h4, h5, h6, h7⟩ := hnw
  exact fun p e s m args below meth c A X hin hao H locs ls hP hD hS hl => va_new X.1 X.2.1 X.2.2.2.2.1 h2 ty h3 X.2.2.2.1 (X.2.2.2.2.1 _ h4) (X.2.2.2.2.1 _ h5) (X.2.2.2.2.1 _ h6) X.2.2.2.2.2.2.2.1 hP hD hS X.2.2.2.2.2.2.2.2.1 h1 h7 hc hs hd (fun q H hP hD hS => k q p e s m args below meth c A X hin hao H locs ls (hw q ▸ hP) (hw q ▸ hD) hS hl)
theorem K.obj {index a : Nat} (hlk : Cond.methodLink own index Lib.objectInit ∈ ut_bl) (hi : Cond.instanceMethod Lib.objectInit ∈ ut_bl) (hco : Cond.code Lib.objectInit ⟨#[0xb1]⟩ 1 none ∈ ut_bl) (hfr : 1 ≤ rm.frames) (hlo : 20 ≤ rm.locals) (hw8 : (st.map fun v => v.category).sum ≤ 8) (hd : decode cc pc = .ok (.invokespecial index, 3)) (k : GK l D ks tys own cc nL rm Pw mc ms w kn nn (pc + 3) lv st) : GK l D ks tys own cc nL rm Pw mc ms w kn nn pc lv (.ref a :: st) :=
  fun p e s m args below meth c A X hin hao H locs ls hP hD hS hl => W.objInit X.1 X.2.1 X.2.2.2.1 (X.2.2.2.2.1 _ hlk) (X.2.2.2.2.1 _ hi) (X.2.2.2.2.1 _ hco) rfl (hl.1.trans X.2.2.1.symm) rfl hd hfr (by have := lv_room (m := m) (pc := pc) (ls := ls) (rest := .ref a :: st) hw8; omega) (k p e s m args below meth c A X hin hao H locs ls hP hD hS hl)
theorem K.vret (hw : Pw w) (hd : decode cc pc = .ok (.return_, 1)) (hk : kn = mc) (hn : nn = ms) : GK l D ks tys own cc nL rm Pw mc ms w kn nn pc lv [] := by
  subst hk
  subst hn
  intro p e s m args below meth c A X hin hao H locs ls hP hD hS hl
  exact W.vret X.1 X.2.1 X.2.2.2.2.2.2.1 (fun t ht hW => ⟨rfl, ⟨w, hw, by rw [ht]; exact hP, hD⟩, va_K.moved hW.alike X.2.2.2.2.2.2.2.1, hS.F ht⟩) hS.2.2 hd X.2.2.2.2.2.1
/-- what the tables say of a constructor -/
def MI (y : MethodName) (cb : ByteArray) (nb : Nat) : Prop := y.name = "<init>" ∧ Cond.instanceMethod y ∈ ut_bl ∧ Cond.initialized y.cls ∈ ut_bl ∧ Cond.code y cb nb none ∈ ut_bl ∧ (y.cls ≠ "java/lang/invoke/MethodHandle" ∧ y.cls ≠ "java/lang/invoke/VarHandle" ∧ (parseMethodDescriptor y.desc).map (fun d => d.parameters.length) = some 0)
theorem K.init {y : MethodName} {cb : ByteArray} {nb index b mc' ms' : Nat} {rmc : Room} {wr : va_W} {cell : va_E} {Pc : va_W → Prop} (hm : MI y cb nb) (hlk : Cond.methodLink own index y ∈ ut_bl) (hM : MC l D ks tys y cb nb rmc b [(b, cell)] Pc mc' ms') (hww : w = wr ++ [(b, cell)]) (hro : rmc.cells = mc' ∧ rmc.slots = ms' ∧ rmc.frames + 1 ≤ rm.frames ∧ 8 + (nb + 11) + rmc.locals ≤ rm.locals) (hce : kn + mc' ≤ rm.cells ∧ nn + ms' ≤ rm.slots) (hw8 : (st.map fun v => v.category).sum ≤ 8) (hd : decode cc pc = .ok (.invokespecial index, 3))
    (k : ∀ w', Pc w' → GK l D ks tys own cc nL rm Pw mc ms (wr ++ w') (kn + mc') (nn + ms') (pc + 3) lv st) : GK l D ks tys own cc nL rm Pw mc ms w kn nn pc lv (.ref b :: st) := by
  subst hww
  obtain ⟨m0, m1, m3, m4, m5⟩ := hm
  intro p e s m args below meth c A X hin hao H locs ls hP hD hS hl
  have hts := X.2.2.2.2.1
  have hK := X.2.2.2.2.2.2.2.1
  have hlast : (wr ++ [(b, cell)])[wr.length]? = some (b, cell) := by simp
  have hPc : va_P D vwCl [(b, cell)] H := fun j q hq => by
    have hj : j = 0 := by
      have := (List.getElem?_eq_some_iff.mp hq).1
      simpa using this
    subst hj
    have : q = (b, cell) := by simpa using hq.symm
    subst this
    exact hP _ _ hlast
  have hDc : va_D A [(b, cell)] := ⟨fun i j x y hi hj _ => by
    have h1 := (List.getElem?_eq_some_iff.mp hi).1
    have h2 := (List.getElem?_eq_some_iff.mp hj).1
    simp at h1 h2
    omega, fun j q hq => by
    have hj : j = 0 := by
      have := (List.getElem?_eq_some_iff.mp hq).1
      simpa using this
    subst hj
    have : q = (b, cell) := by simpa using hq.symm
    subst this
    exact hD.2 _ _ hlast⟩
  have hF : ∀ q, va_A [(b, cell)] H.size q → A q := fun q h => by
    rcases h with ⟨j, e', h⟩ | h
    · exact hDc.2 j (q, e') h
    · exact X.2.2.2.2.2.2.2.2.1 q (Nat.le_trans hS.1 h)
  have hr := va_runI (As := []) (rest := st) (g := F0 m pc ls (.ref b :: st)) (cells := kn) (slots := nn) (locs := locs) (e := e) (below := below) (meth := meth) ⟨X.1, X.2.1, X.2.2.1, X.2.2.2.1, hts⟩ (hM H.size) ⟨callB_of 0 hts (ug_in (fun _ h => h) m4) rfl hro.1 hro.2.1 (hts _ m3) (hts _ hlk) m5 hro.2.2, m0, hts _ m1⟩ ⟨fun a U g mk q => ⟨(MP.blind (av := [.ref b]) a U g mk ⟨q.1, q.2.1⟩).1, (MP.blind (av := [.ref b]) a U g mk ⟨q.1, q.2.1⟩).2, va_AO.moved (u := U) (U := U.calling g mk a) (Vm.Alike.refl U.vm) q.2.2.1, va_AO.moved (u := U) (U := U.calling g mk a) (Vm.Alike.refl U.vm) q.2.2.2⟩, fun U hU hW => ⟨rfl, ⟨by rw [hU], by rw [hU]; exact hPc, va_K.moved hW.alike hK, hDc.weaken (fun _ _ _ _ => trivial), KS.into X.2.2.2.2.2.2.2.2.2 hS hF hU hW⟩, va_AO.moved hW.alike hao.1, va_AO.moved hW.alike hao.2⟩⟩ rfl rfl hl.1 rfl (lv_room hw8) hd hce
  intro T hT Y
  obtain ⟨v, st₀, t, T', L, h0, X', hL, e1, e2, ⟨hv, ⟨w1, hw1, hP1, hD1⟩, hK1, hz, hk⟩, stp⟩ := hr T hT Y
  cases hv
  rw [h0] at hz hk
  rw [← e1] at hP1 hz hk
  obtain ⟨hP2, hD2⟩ := KC.join hP hD hk hF hP1 hD1
  obtain ⟨t2, a1, b1⟩ := k w1 hw1 p e s m args below meth c A X hin hao T'.heap (locs ++ L) ls hP2 hD2 ⟨Nat.le_trans hS.1 hz, fun q h1 h2 => by rw [hk q (Nat.lt_of_lt_of_le h1 hS.1) (fun z => h2 (hF q z))]; exact hS.2.1 q h1 h2, fun q hq => by
      rcases List.mem_append.mp hq with h | h
      · exact hS.2.2 q h
      · exact hF _ (hL q h)⟩ hl T' rfl X'
  exact ⟨t2, stp t2 a1, b1⟩
end KR
