/-! THE JUDGEMENT. 'GJ .. φ w pc lv st o': at pc, with locals lv (by slot), stack st and world w, if the pure answer o is 'some r', the method comes to its end with the answer (φ r).1 and the world (φ r).2. 'MT': the same of a whole method, as a contract. -/
/-- the locals by slot: what is known of each -/
def lw_asc : Nat → List (Option Value) → List (Nat × Value)
  | _, [] => []
  | k, some v :: t => (k, v) :: lw_asc (k + 1) t
  | k, none :: t => lw_asc (k + 1) t
theorem lw_asc_mem : ∀ (lw : List (Option Value)) (k i : Nat) (v : Value), (i, v) ∈ lw_asc k lw ↔ k ≤ i ∧ lw[i - k]? = some (some v) := by
  intro lw
  induction lw with
  | nil => intro k i v; simp [lw_asc]
  | cons x t ih =>
    intro k i v
    cases x with
    | none =>
      simp only [lw_asc]
      rw [ih]
      constructor
      · rintro ⟨h1, h2⟩
        refine ⟨by omega, ?_⟩
        rw [show i - k = (i - (k + 1)) + 1 by omega]
        simpa using h2
      · rintro ⟨h1, h2⟩
        by_cases hk : i = k
        · subst hk
          simp at h2
        · refine ⟨by omega, ?_⟩
          rw [show i - k = (i - (k + 1)) + 1 by omega] at h2
          simpa using h2
    | some u =>
      simp only [lw_asc, List.mem_cons]
      rw [ih]
      constructor
      · rintro (h | ⟨h1, h2⟩)
        · cases h
          simp
        · refine ⟨by omega, ?_⟩
          rw [show i - k = (i - (k + 1)) + 1 by omega]
          simpa using h2
      · rintro ⟨h1, h2⟩
        by_cases hk : i = k
        · subst hk
          simp at h2
          exact Or.inl (by rw [h2])
        · refine Or.inr ⟨by omega, ?_⟩
          rw [show i - k = (i - (k + 1)) + 1 by omega] at h2
          simpa using h2
def lw_has (ls : Array Slot) (nL : Nat) (lw : List (Option Value)) : Prop := lv_has ls nL (lw_asc 0 lw)
theorem lw_at {ls : Array Slot} {nL : Nat} {lw : List (Option Value)} (h : lw_has ls nL lw) {i : Nat} {v : Value} (hi : lw[i]? = some (some v)) : ls[i]? = some (.val v) :=
  h.2.2 (i, v) ((lw_asc_mem lw 0 i v).mpr ⟨Nat.zero_le _, hi⟩)
/-- a value of one slot may be stored at i: what stands ahead of it isn't a long -/
def lw_ok1 (lw : List (Option Value)) : Nat → Bool
  | 0 => true
  | i + 1 => match lw[i]? with
    | some (some v) => v.category == 1
    | _ => true
theorem lw_st1 {ls : Array Slot} {nL : Nat} {lw : List (Option Value)} {i : Nat} {v : Value} (hi : i < lw.length) (hk : lw_ok1 lw i = true) :
    ∀ q ∈ lw_asc 0 (lw.set i (some v)), q ∈ (i, v) :: (lw_asc 0 lw).filter (fun q => !(q.1 == i) && !(q.1 + 1 == i && q.2.category == 2)) := by
  rintro ⟨j, u⟩ hq
  obtain ⟨-, hz⟩ := (lw_asc_mem _ 0 j u).mp hq
  rw [Nat.sub_zero] at hz
  by_cases hj : j = i
  · subst hj
    rw [List.getElem?_set_self hi] at hz
    cases hz
    exact List.mem_cons_self
  · rw [List.getElem?_set_ne (fun h => hj h.symm)] at hz
    refine List.mem_cons_of_mem _ (List.mem_filter.mpr ⟨(lw_asc_mem _ 0 j u).mpr ⟨Nat.zero_le _, by rw [Nat.sub_zero]; exact hz⟩, ?_⟩)
    have h1 : (j == i) = false := by simpa using hj
    have h2 : (j + 1 == i && u.category == 2) = false := by
      by_cases hji : j + 1 = i
      · subst hji
        rw [lw_ok1, hz] at hk
        have : u.category = 1 := by simpa using hk
        simp [this]
      · simp [hji]
    simp [h1, h2]
/-- a long may be stored at i, i + 1 -/
theorem lw_st2 {ls : Array Slot} {nL : Nat} {lw : List (Option Value)} {i : Nat} {v : Value} (hi : i + 1 < lw.length) (hk : lw_ok1 lw i = true) :
    ∀ q ∈ lw_asc 0 ((lw.set i (some v)).set (i + 1) none), q ∈ (i, v) :: (lw_asc 0 lw).filter (fun q => !(q.1 == i) && (!(q.1 == i + 1) && !(q.1 + 1 == i && q.2.category == 2))) := by
  rintro ⟨j, u⟩ hq
  obtain ⟨-, hz⟩ := (lw_asc_mem _ 0 j u).mp hq
  rw [Nat.sub_zero] at hz
  by_cases hj1 : j = i + 1
  · subst hj1
    rw [List.getElem?_set_self (by simpa using hi)] at hz
    cases hz
  · rw [List.getElem?_set_ne (fun h => hj1 h.symm)] at hz
    by_cases hj : j = i
    · subst hj
      rw [List.getElem?_set_self (by omega)] at hz
      cases hz
      exact List.mem_cons_self
    · rw [List.getElem?_set_ne (fun h => hj h.symm)] at hz
      refine List.mem_cons_of_mem _ (List.mem_filter.mpr ⟨(lw_asc_mem _ 0 j u).mpr ⟨Nat.zero_le _, by rw [Nat.sub_zero]; exact hz⟩, ?_⟩)
      have h1 : (j == i) = false := by simpa using hj
      have h3 : (j == i + 1) = false := by simpa using hj1
      have h2 : (j + 1 == i && u.category == 2) = false := by
        by_cases hji : j + 1 = i
        · subst hji
          rw [lw_ok1, hz] at hk
          have : u.category = 1 := by simpa using hk
          simp [this]
        · simp [hji]
      simp [h1, h2, h3]
theorem lw_sub {ls : Array Slot} {nL : Nat} {l l' : List (Nat × Value)} (h : lv_has ls nL l) (hs : ∀ q ∈ l', q ∈ l) : lv_has ls nL l' := ⟨h.1, h.2.1, fun q hq => h.2.2 q (hs q hq)⟩
/-- fewer known: where lw' knows a value, lw knows it -/
def lw_le : List (Option Value) → List (Option Value) → Prop
  | [], _ => True
  | none :: t, [] => lw_le t []
  | none :: t, _ :: u => lw_le t u
  | some _ :: _, [] => False
  | some v :: t, x :: u => x = some v ∧ lw_le t u
theorem lw_le_at : ∀ (a b : List (Option Value)), lw_le a b → ∀ (i : Nat) (v : Value), a[i]? = some (some v) → b[i]? = some (some v) := by
  intro a
  induction a with
  | nil => intro b _ i v h; simp at h
  | cons x t ih =>
    intro b hb i v h
    cases x with
    | none =>
      cases i with
      | zero => simp at h
      | succ i =>
        cases b with
        | nil =>
          have := ih [] hb i v (by simpa using h)
          simp at this
        | cons y u =>
          have := ih u hb i v (by simpa using h)
          simpa using this
    | some w =>
      cases b with
      | nil => exact absurd hb (by simp [lw_le])
      | cons y u =>
        obtain ⟨h1, h2⟩ := hb
        cases i with
        | zero => simp at h; subst h; simpa using h1
        | succ i =>
          have := ih u h2 i v (by simpa using h)
          simpa using this
theorem lw_less {ls : Array Slot} {nL : Nat} {lw lw' : List (Option Value)} (h : lw_has ls nL lw) (hs : lw_le lw' lw) : lw_has ls nL lw' := by
  refine lw_sub h ?_
  rintro ⟨j, u⟩ hq
  obtain ⟨-, hq⟩ := (lw_asc_mem _ 0 j u).mp hq
  exact (lw_asc_mem _ 0 j u).mpr ⟨Nat.zero_le _, lw_le_at _ _ hs _ _ hq⟩
def GQ (D : va_G) (tys : List (ClassId × FieldType)) (A : Nat → Prop) (x : Option Value × va_W) : Array Value → State → Outcome → State → Prop :=
  fun _ st oc t => oc = .returned x.1 ∧ va_P D vwCl x.2 t.heap ∧ va_K D vwCl tys t ∧ va_D A x.2 ∧ va_F A st t
def MP (D : va_G) (tys : List (ClassId × FieldType)) (w : va_W) (sz : Nat) (U : State) : Prop := U.heap.size = sz ∧ va_P D vwCl w U.heap ∧ va_K D vwCl tys U ∧ va_D (fun _ => True) w
/-- the contract: the method y, called with av over the world w, answers as the pure o says -/
def MT {ρ : Type} (l : Launch) (D : va_G) (tys : List (ClassId × FieldType)) (y : MethodName) (cc : ByteArray) (nL : Nat) (ret : Option FieldType) (rm : Room) (av : List Value) (w : va_W) (φ : ρ → Option Value × va_W) (o : Option ρ) : Prop :=
  ∀ r, o = some r → ∀ sz : Nat, Met l y (.code y cc nL ret :: ut_bl) rm (va_Pc av (MP D tys w sz)) (GQ D tys (va_A w sz) (φ r)) 0 0 (va_A w sz)
def GX (p : Program) (s : State) (m : MethodId) (args : Array Value) (meth : Method) (c : Code) (cc : ByteArray) (nL : Nat) (own : String) (ret : Option FieldType) (D : va_G) (tys : List (ClassId × FieldType)) (A : Nat → Prop) : Prop :=
  p.tables.exec = Jvm.exec ∧ c.code = cc ∧ c.maxLocals = nL ∧ s.vm.findClass own = some m.cls ∧ (∀ w ∈ ut_bl, w.before args s = true) ∧ meth.locks = false ∧ meth.sig.returnType = ret ∧ va_K D vwCl tys s ∧ (∀ q : Nat, s.heap.size ≤ q → A q)
def GJ {ρ : Type} (l : Launch) (D : va_G) (tys : List (ClassId × FieldType)) (own : String) (cc : ByteArray) (nL : Nat) (ret : Option FieldType) (rm : Room) (φ : ρ → Option Value × va_W) (w : va_W) (pc : Nat) (lv : List (Option Value)) (st : List Value) (o : Option ρ) : Prop :=
  ∀ r, o = some r → ∀ (p : Program) (e : Env) (s : State) (m : MethodId) (args : Array Value) (below : List Frame) (meth : Method) (c : Code) (A : Nat → Prop), GX p s m args meth c cc nL own ret D tys A →
    ∀ (H : Heap) (locs : List Loc) (ls : Array Slot), va_P D vwCl w H → va_D A w → va_S A s.heap H locs → lw_has ls nL lv →
      W p l e rm s m args below meth c H locs 0 0 (MQ below (GQ D tys A (φ r)) args s 0 0 A) (F0 m pc ls st)
/-- what a list of arguments is as locals -/
def lw_args : List Value → List (Option Value)
  | [] => []
  | v :: vs => if v.category = 2 then some v :: none :: lw_args vs else some v :: lw_args vs
theorem lw_args_asc : ∀ (vs : List Value) (k : Nat), lw_asc k (lw_args vs) = lv_args k vs := by
  intro vs
  induction vs with
  | nil => intro k; rfl
  | cons v vs ih =>
    intro k
    by_cases h : v.category = 2
    · simp only [lw_args, lv_args, if_pos h, lw_asc]
      rw [ih]
    · simp only [lw_args, lv_args, if_neg h, lw_asc]
      rw [ih]
theorem lw_asc_app : ∀ (a b : List (Option Value)) (k : Nat), (∀ x ∈ b, x = none) → lw_asc k (a ++ b) = lw_asc k a := by
  intro a
  induction a with
  | nil =>
    intro b
    induction b with
    | nil => intro k _; rfl
    | cons x t ih =>
      intro k h
      have hx := h x List.mem_cons_self
      subst hx
      simp only [List.nil_append, lw_asc] at ih ⊢
      exact ih (k + 1) (fun y hy => h y (List.mem_cons_of_mem _ hy))
  | cons x t ih =>
    intro b k h
    cases x with
    | none => simp only [List.cons_append, lw_asc]; exact ih b (k + 1) h
    | some v => simp only [List.cons_append, lw_asc]; rw [ih b (k + 1) h]
/-- a contract out of the walk of its body: the locals are the arguments, then n unknown ones -/
theorem MT.of {ρ : Type} {l : Launch} {D : va_G} {tys : List (ClassId × FieldType)} {y : MethodName} {cc : ByteArray} {nL : Nat} {ret : Option FieldType} {rm : Room} {av : List Value} {w : va_W} {φ : ρ → Option Value × va_W} {o : Option ρ} (n : Nat)
    (hy : plainName y.cls = true) (hav : (lg_sl av).length ≤ nL) (body : GJ l D tys y.cls cc nL ret rm φ w 0 (lw_args av ++ List.replicate n none) [] o) : MT l D tys y cc nL ret rm av w φ o := by
  intro r hr sz
  refine Met.ofW (cc := cc) (maxL := nL) (ret := ret) hy rfl ?_
  intro p e s m args below meth c s₁ B hml hv
  obtain ⟨rfl, hsz, hP, hK, hD0⟩ := hv
  have hts := atoms_spec (ws := .code y cc nL ret :: ut_bl) B.pre
  have hown : s.vm.findClass y.cls = some m.cls := findClass_of_methodNamed B.named
  subst hsz
  have hl := lv_entry av (n := nL) hav
  rw [lg_entry_eq]
  refine body r hr p e s m av.toArray below meth c (va_A w s.heap.size) ⟨B.exec, B.bytes, hml, hown, fun w h => hts w (List.mem_cons_of_mem _ h), B.notSynchronized, B.returns, hK, fun q h => Or.inr h⟩ s.heap [] _ hP (hD0.self (sz := s.heap.size)) va_S.rf ?_
  unfold lw_has
  rw [lw_asc_app _ _ _ (fun x h => List.eq_of_mem_replicate h), lw_args_asc]
  exact hl
section GR
variable {ρ : Type} {l : Launch} {D : va_G} {tys : List (ClassId × FieldType)} {own : String} {cc : ByteArray} {nL : Nat} {ret : Option FieldType} {rm : Room} {φ : ρ → Option Value × va_W} {w : va_W} {pc : Nat} {lv : List (Option Value)} {st : List Value} {o : Option ρ}
theorem G.no : GJ l D tys own cc nL ret rm φ w pc lv st none := fun _ h => by cases h
theorem G.eq {o' : Option ρ} (h : o = o') (k : GJ l D tys own cc nL ret rm φ w pc lv st o') : GJ l D tys own cc nL ret rm φ w pc lv st o := h ▸ k
theorem G.less {lv' : List (Option Value)} (hs : lw_le lv' lv) (k : GJ l D tys own cc nL ret rm φ w pc lv' st o) : GJ l D tys own cc nL ret rm φ w pc lv st o :=
  fun r hr p e s m args below meth c A X H locs ls hP hD hS hl => k r hr p e s m args below meth c A X H locs ls hP hD hS (lw_less hl hs)
/-- a test that may fail: behind it, it held -/
theorem G.chk {b : Bool} (k : b = true → GJ l D tys own cc nL ret rm φ w pc lv st o) : GJ l D tys own cc nL ret rm φ w pc lv st (if b = true then o else none) := by
  intro r hr
  by_cases h : b = true
  · rw [if_pos h] at hr
    exact k h r hr
  · rw [if_neg h] at hr
    cases hr
-- constants
theorem G.iconst {n : Int} (v : Int32) (hd : decode cc pc = .ok (.iconst n, 1)) (hv : Int32.ofInt n = v) (k : GJ l D tys own cc nL ret rm φ w (pc + 1) lv (.int v :: st) o) : GJ l D tys own cc nL ret rm φ w pc lv st o :=
  fun r hr p e s m args below meth c A X H locs ls hP hD hS hl => lv_iconst X.1 X.2.1 hd hv (k r hr p e s m args below meth c A X H locs ls hP hD hS hl)
theorem G.bipush {n : Int} (v : Int32) (hd : decode cc pc = .ok (.bipush n, 2)) (hv : (Int8.ofInt n).toInt32 = v) (k : GJ l D tys own cc nL ret rm φ w (pc + 2) lv (.int v :: st) o) : GJ l D tys own cc nL ret rm φ w pc lv st o :=
  fun r hr p e s m args below meth c A X H locs ls hP hD hS hl => lv_bipush X.1 X.2.1 hd hv (k r hr p e s m args below meth c A X H locs ls hP hD hS hl)
theorem G.sipush {n : Int} (v : Int32) (hd : decode cc pc = .ok (.sipush n, 3)) (hv : (Int16.ofInt n).toInt32 = v) (k : GJ l D tys own cc nL ret rm φ w (pc + 3) lv (.int v :: st) o) : GJ l D tys own cc nL ret rm φ w pc lv st o :=
  fun r hr p e s m args below meth c A X H locs ls hP hD hS hl => lv_sipush X.1 X.2.1 hd hv (k r hr p e s m args below meth c A X H locs ls hP hD hS hl)
theorem G.ldc {index : Nat} {v : Int32} (hc : Cond.constant own index v ∈ ut_bl) (hd : decode cc pc = .ok (.ldc index, 2)) (k : GJ l D tys own cc nL ret rm φ w (pc + 2) lv (.int v :: st) o) : GJ l D tys own cc nL ret rm φ w pc lv st o :=
  fun r hr p e s m args below meth c A X H locs ls hP hD hS hl => lv_ldc X.1 X.2.1 X.2.2.2.1 (X.2.2.2.2.1 _ hc) hd (k r hr p e s m args below meth c A X H locs ls hP hD hS hl)
theorem G.ldc2 {index : Nat} {v : Int64} (hc : Cond.constantLong own index v ∈ ut_bl) (hd : decode cc pc = .ok (.ldc2_w index, 3)) (k : GJ l D tys own cc nL ret rm φ w (pc + 3) lv (.long v :: st) o) : GJ l D tys own cc nL ret rm φ w pc lv st o :=
  fun r hr p e s m args below meth c A X H locs ls hP hD hS hl => lv_ldc2 X.1 X.2.1 X.2.2.2.1 (X.2.2.2.2.1 _ hc) hd (k r hr p e s m args below meth c A X H locs ls hP hD hS hl)
-- locals
theorem G.iload_n {i : Fin 4} {x : Int32} (hd : decode cc pc = .ok (.iload_n i, 1)) (hl : lv[i.val]? = some (some (.int x))) (k : GJ l D tys own cc nL ret rm φ w (pc + 1) lv (.int x :: st) o) : GJ l D tys own cc nL ret rm φ w pc lv st o :=
  fun r hr p e s m args below meth c A X H locs ls hP hD hS h => lv_iload_n X.1 X.2.1 hd rfl (lw_at h hl) (k r hr p e s m args below meth c A X H locs ls hP hD hS h)
theorem G.iload {i : Nat} {x : Int32} (hd : decode cc pc = .ok (.iload i, 2)) (hl : lv[i]? = some (some (.int x))) (k : GJ l D tys own cc nL ret rm φ w (pc + 2) lv (.int x :: st) o) : GJ l D tys own cc nL ret rm φ w pc lv st o :=
  fun r hr p e s m args below meth c A X H locs ls hP hD hS h => lv_iload X.1 X.2.1 hd (lw_at h hl) (k r hr p e s m args below meth c A X H locs ls hP hD hS h)
theorem G.aload_n {i : Fin 4} {x : Nat} (hd : decode cc pc = .ok (.aload_n i, 1)) (hl : lv[i.val]? = some (some (.ref x))) (k : GJ l D tys own cc nL ret rm φ w (pc + 1) lv (.ref x :: st) o) : GJ l D tys own cc nL ret rm φ w pc lv st o :=
  fun r hr p e s m args below meth c A X H locs ls hP hD hS h => lv_aload_n X.1 X.2.1 hd rfl (lw_at h hl) (k r hr p e s m args below meth c A X H locs ls hP hD hS h)
theorem G.aload {i : Nat} {x : Nat} (hd : decode cc pc = .ok (.aload i, 2)) (hl : lv[i]? = some (some (.ref x))) (k : GJ l D tys own cc nL ret rm φ w (pc + 2) lv (.ref x :: st) o) : GJ l D tys own cc nL ret rm φ w pc lv st o :=
  fun r hr p e s m args below meth c A X H locs ls hP hD hS h => lv_aload X.1 X.2.1 hd (lw_at h hl) (k r hr p e s m args below meth c A X H locs ls hP hD hS h)
theorem G.lload_n {i : Fin 4} {x : Int64} (hd : decode cc pc = .ok (.lload_n i, 1)) (hl : lv[i.val]? = some (some (.long x))) (k : GJ l D tys own cc nL ret rm φ w (pc + 1) lv (.long x :: st) o) : GJ l D tys own cc nL ret rm φ w pc lv st o :=
  fun r hr p e s m args below meth c A X H locs ls hP hD hS h => lv_lload_n X.1 X.2.1 hd rfl (lw_at h hl) (k r hr p e s m args below meth c A X H locs ls hP hD hS h)
theorem G.lload {i : Nat} {x : Int64} (hd : decode cc pc = .ok (.lload i, 2)) (hl : lv[i]? = some (some (.long x))) (k : GJ l D tys own cc nL ret rm φ w (pc + 2) lv (.long x :: st) o) : GJ l D tys own cc nL ret rm φ w pc lv st o :=
  fun r hr p e s m args below meth c A X H locs ls hP hD hS h => lv_lload X.1 X.2.1 hd (lw_at h hl) (k r hr p e s m args below meth c A X H locs ls hP hD hS h)
theorem G.istore_n {i : Fin 4} {x : Int32} {lv' : List (Option Value)} (hd : decode cc pc = .ok (.istore_n i, 1)) (hn : i.val < nL) (hi : i.val < lv.length) (hk : lw_ok1 lv i.val = true) (he : lv.set i.val (some (.int x)) = lv') (k : GJ l D tys own cc nL ret rm φ w (pc + 1) lv' st o) : GJ l D tys own cc nL ret rm φ w pc lv (.int x :: st) o :=
  fun r hr p e s m args below meth c A X H locs ls hP hD hS h => lv_istore_n X.1 X.2.1 hd rfl h hn rfl (fun ls' h' => k r hr p e s m args below meth c A X H locs ls' hP hD hS (he ▸ lw_sub h' (lw_st1 (ls := ls) (nL := nL) hi hk)))
theorem G.istore {i : Nat} {x : Int32} {lv' : List (Option Value)} (hd : decode cc pc = .ok (.istore i, 2)) (hn : i < nL) (hi : i < lv.length) (hk : lw_ok1 lv i = true) (he : lv.set i (some (.int x)) = lv') (k : GJ l D tys own cc nL ret rm φ w (pc + 2) lv' st o) : GJ l D tys own cc nL ret rm φ w pc lv (.int x :: st) o :=
  fun r hr p e s m args below meth c A X H locs ls hP hD hS h => lv_istore X.1 X.2.1 hd h hn rfl (fun ls' h' => k r hr p e s m args below meth c A X H locs ls' hP hD hS (he ▸ lw_sub h' (lw_st1 (ls := ls) (nL := nL) hi hk)))
theorem G.astore_n {i : Fin 4} {x : Nat} {lv' : List (Option Value)} (hd : decode cc pc = .ok (.astore_n i, 1)) (hn : i.val < nL) (hi : i.val < lv.length) (hk : lw_ok1 lv i.val = true) (he : lv.set i.val (some (.ref x)) = lv') (k : GJ l D tys own cc nL ret rm φ w (pc + 1) lv' st o) : GJ l D tys own cc nL ret rm φ w pc lv (.ref x :: st) o :=
  fun r hr p e s m args below meth c A X H locs ls hP hD hS h => lv_astore_n X.1 X.2.1 hd rfl h hn rfl (fun ls' h' => k r hr p e s m args below meth c A X H locs ls' hP hD hS (he ▸ lw_sub h' (lw_st1 (ls := ls) (nL := nL) hi hk)))
theorem G.astore {i : Nat} {x : Nat} {lv' : List (Option Value)} (hd : decode cc pc = .ok (.astore i, 2)) (hn : i < nL) (hi : i < lv.length) (hk : lw_ok1 lv i = true) (he : lv.set i (some (.ref x)) = lv') (k : GJ l D tys own cc nL ret rm φ w (pc + 2) lv' st o) : GJ l D tys own cc nL ret rm φ w pc lv (.ref x :: st) o :=
  fun r hr p e s m args below meth c A X H locs ls hP hD hS h => lv_astore X.1 X.2.1 hd h hn rfl (fun ls' h' => k r hr p e s m args below meth c A X H locs ls' hP hD hS (he ▸ lw_sub h' (lw_st1 (ls := ls) (nL := nL) hi hk)))
theorem G.iinc {i : Nat} {n : Int} {x : Int32} (v : Int32) {lv' : List (Option Value)} (hd : decode cc pc = .ok (.iinc i n, 3)) (hl : lv[i]? = some (some (.int x))) (hv : x + Int32.ofInt n = v) (hn : i < nL) (hi : i < lv.length) (hk : lw_ok1 lv i = true) (he : lv.set i (some (.int v)) = lv') (k : GJ l D tys own cc nL ret rm φ w (pc + 3) lv' st o) : GJ l D tys own cc nL ret rm φ w pc lv st o := by
  intro r hr p e s m args below meth c A X H locs ls hP hD hS h
  obtain ⟨kk, hkk⟩ := List.getElem?_of_mem ((lw_asc_mem lv 0 i (.int x)).mpr ⟨Nat.zero_le _, hl⟩)
  exact lv_iinc X.1 X.2.1 hd h hkk hv hn rfl (fun ls' h' => k r hr p e s m args below meth c A X H locs ls' hP hD hS (he ▸ lw_sub h' (lw_st1 (ls := ls) (nL := nL) hi hk)))
end GR
