/-! THE JUDGEMENT. 'GJ .. φ w pc lv st o': at pc, with locals lv (by slot), stack st and world w, if the pure answer o is 'some r', the method comes to its end with the answer (φ r).1 and the world (φ r).2. 'MT': the same of a whole method, as a contract. -/
/-- the locals by slot: what is known of each -/
def lw_asc : Nat → List (Option Value) → List (Nat × Value)
  | _, [] => []
  | k, some v :: t => (k, v) :: lw_asc (k + 1) t
  | k, none :: t => lw_asc (k + 1) t
theorem lw_asc_mem : ∀ (lw : List (Option Value)) (k i : Nat) (v : Value), (i, v) ∈ lw_asc k lw ↔ k ≤ i ∧ lw[i - k]? = some (some v) := by
  intro lw
  induction lw with
  | nil => intro k i v; simp [lw_asc]
  | cons x t ih =>
    intro k i v
    cases x with
    | none =>
      simp only [lw_asc]
      rw [ih]
      constructor
      · rintro ⟨h1, h2⟩
        refine ⟨by omega, ?_⟩
        rw [show i - k = (i - (k + 1)) + 1 by omega]
        simpa using h2
      · rintro ⟨h1, h2⟩
        by_cases hk : i = k
        · subst hk
          simp at h2
        · refine ⟨by omega, ?_⟩
          rw [show i - k = (i - (k + 1)) + 1 by omega] at h2
          simpa using h2
    | some u =>
      simp only [lw_asc, List.mem_cons]
      rw [ih]
      constructor
      · rintro (h | ⟨h1, h2⟩)
        · cases h
          simp
        · refine ⟨by omega, ?_⟩
          rw [show i - k = (i - (k + 1)) + 1 by omega]
          simpa using h2
      · rintro ⟨h1, h2⟩
        by_cases hk : i = k
        · subst hk
          simp at h2
          exact Or.inl (by rw [h2])
        · refine Or.inr ⟨by omega, ?_⟩
          rw [show i - k = (i - (k + 1)) + 1 by omega] at h2
          simpa using h2
def lw_has (ls : Array Slot) (nL : Nat) (lw : List (Option Value)) : Prop := lv_has ls nL (lw_asc 0 lw)
theorem lw_at {ls : Array Slot} {nL : Nat} {lw : List (Option Value)} (h : lw_has ls nL lw) {i : Nat} {v : Value} (hi : lw[i]? = some (some v)) : ls[i]? = some (.val v) :=
  h.2.2 (i, v) ((lw_asc_mem lw 0 i v).mpr ⟨Nat.zero_le _, hi⟩)
/-- a value of one slot may be stored at i: what stands ahead of it isn't a long -/
def lw_ok1 (lw : List (Option Value)) : Nat → Bool
  | 0 => true
  | i + 1 => match lw[i]? with
    | some (some v) => v.category == 1
    | _ => true
theorem lw_st1 {ls : Array Slot} {nL : Nat} {lw : List (Option Value)} {i : Nat} {v : Value} (hi : i < lw.length) (hk : lw_ok1 lw i = true) :
    ∀ q ∈ lw_asc 0 (lw.set i (some v)), q ∈ (i, v) :: (lw_asc 0 lw).filter (fun q => !(q.1 == i) && !(q.1 + 1 == i && q.2.category == 2)) := by
  rintro ⟨j, u⟩ hq
  obtain ⟨-, hz⟩ := (lw_asc_mem _ 0 j u).mp hq
  rw [Nat.sub_zero] at hz
  by_cases hj : j = i
  · subst hj
    rw [List.getElem?_set_self hi] at hz
    cases hz
    exact List.mem_cons_self
  · rw [List.getElem?_set_ne (fun h => hj h.symm)] at hz
    refine List.mem_cons_of_mem _ (List.mem_filter.mpr ⟨(lw_asc_mem _ 0 j u).mpr ⟨Nat.zero_le _, by rw [Nat.sub_zero]; exact hz⟩, ?_⟩)
    have h1 : (j == i) = false := by simpa using hj
    have h2 : (j + 1 == i && u.category == 2) = false := by
      by_cases hji : j + 1 = i
      · subst hji
        rw [lw_ok1, hz] at hk
        have : u.category = 1 := by simpa using hk
        simp [this]
      · simp [hji]
    simp [h1, h2]
/-- a long may be stored at i, i + 1 -/
theorem lw_st2 {ls : Array Slot} {nL : Nat} {lw : List (Option Value)} {i : Nat} {v : Value} (hi : i + 1 < lw.length) (hk : lw_ok1 lw i = true) :
    ∀ q ∈ lw_asc 0 ((lw.set i (some v)).set (i + 1) none), q ∈ (i, v) :: (lw_asc 0 lw).filter (fun q => !(q.1 == i) && (!(q.1 == i + 1) && !(q.1 + 1 == i && q.2.category == 2))) := by
  rintro ⟨j, u⟩ hq
  obtain ⟨-, hz⟩ := (lw_asc_mem _ 0 j u).mp hq
  rw [Nat.sub_zero] at hz
  by_cases hj1 : j = i + 1
  · subst hj1
    rw [List.getElem?_set_self (by simpa using hi)] at hz
    cases hz
  · rw [List.getElem?_set_ne (fun h => hj1 h.symm)] at hz
    by_cases hj : j = i
    · subst hj
      rw [List.getElem?_set_self (by omega)] at hz
      cases hz
      exact List.mem_cons_self
    · rw [List.getElem?_set_ne (fun h => hj h.symm)] at hz
      refine List.mem_cons_of_mem _ (List.mem_filter.mpr ⟨(lw_asc_mem _ 0 j u).mpr ⟨Nat.zero_le _, by rw [Nat.sub_zero]; exact hz⟩, ?_⟩)
      have h1 : (j == i) = false := by simpa using hj
      have h3 : (j == i + 1) = false := by simpa using hj1
      have h2 : (j + 1 == i && u.category == 2) = false := by
        by_cases hji : j + 1 = i
        · subst hji
          rw [lw_ok1, hz] at hk
          have : u.category = 1 := by simpa using hk
          simp [this]
        · simp [hji]
      simp [h1, h2, h3]
theorem lw_sub {ls : Array Slot} {nL : Nat} {l l' : List (Nat × Value)} (h : lv_has ls nL l) (hs : ∀ q ∈ l', q ∈ l) : lv_has ls nL l' := ⟨h.1, h.2.1, fun q hq => h.2.2 q (hs q hq)⟩
/-- fewer known: what the mask leaves -/
def lw_mask : List Bool → List (Option Value) → List (Option Value)
  | true :: t, x :: u => x :: lw_mask t u
  | false :: t, _ :: u => none :: lw_mask t u
  | _, _ => []
theorem lw_mask_at : ∀ (ks : List Bool) (lv : List (Option Value)) (i : Nat) (v : Value), (lw_mask ks lv)[i]? = some (some v) → lv[i]? = some (some v) := by
  intro ks
  induction ks with
  | nil => intro lv i v h; simp [lw_mask] at h
  | cons b t ih =>
    intro lv i v h
    cases lv with
    | nil => cases b <;> simp [lw_mask] at h
    | cons x u =>
      cases b with
      | true =>
        cases i with
        | zero => simpa [lw_mask] using h
        | succ i => simp only [lw_mask, List.getElem?_cons_succ] at h ⊢; exact ih u i v h
      | false =>
        cases i with
        | zero => simp [lw_mask] at h
        | succ i => simp only [lw_mask, List.getElem?_cons_succ] at h ⊢; exact ih u i v h
theorem lw_less {ls : Array Slot} {nL : Nat} {lw : List (Option Value)} (ks : List Bool) (h : lw_has ls nL lw) : lw_has ls nL (lw_mask ks lw) := by
  refine lw_sub h ?_
  rintro ⟨j, u⟩ hq
  obtain ⟨-, hq⟩ := (lw_asc_mem _ 0 j u).mp hq
  exact (lw_asc_mem _ 0 j u).mpr ⟨Nat.zero_le _, lw_mask_at _ _ _ _ hq⟩
/-- the one String constant ("psmly", of Tape) and the one static that are read: they lie outside the worlds and stay; ks: their addresses -/
def KS (ks : Nat × Nat) (A : Nat → Prop) (U : State) (H : Heap) : Prop := va_Z "java/lang/String" "COMPACT_STRINGS" "Z" (.int 1) A U H ∧ vk_S 1 [5] [[112, 115, 109, 108, 121]] (fun _ => ks.1) (fun _ => ks.2) A U H ∧ vk_R "CryptBays$Tape" 64 "psmly" ks.1 U
theorem KS.into {ks : Nat × Nat} {A B : Nat → Prop} {s U : State} {H : Heap} {locs : List Loc} (h : KS ks A s s.heap) (hS : va_S A s.heap H locs) (hB : ∀ q, B q → A q) (hU : U.heap = H) (hW : s.WarmedH U.vm) : KS ks B U U.heap := by
  obtain ⟨h1, h2, h3⟩ := h
  rw [hU]
  exact ⟨((h1.kept hS.2.1).narrow hB).moved hW.alike, ((h2.kept hS.2.1).narrow hB).moved hW.alike, h3.warm hW⟩
def GQ (D : va_G) (tys : List (ClassId × FieldType)) (A : Nat → Prop) (x : Option Value × va_W) : Array Value → State → Outcome → State → Prop :=
  fun _ st oc t => oc = .returned x.1 ∧ va_P D vwCl x.2 t.heap ∧ va_K D vwCl tys t ∧ va_D A x.2 ∧ va_F A st t
def MP (D : va_G) (ks : Nat × Nat) (tys : List (ClassId × FieldType)) (w : va_W) (sz : Nat) (U : State) : Prop := U.heap.size = sz ∧ va_P D vwCl w U.heap ∧ va_K D vwCl tys U ∧ va_D (fun _ => True) w ∧ KS ks (va_A w sz) U U.heap
/-- the contract: the method y, called with av over the world w, answers as the pure o says -/
def MT {ρ : Type} (l : Launch) (D : va_G) (ks : Nat × Nat) (tys : List (ClassId × FieldType)) (y : MethodName) (cc : ByteArray) (nL : Nat) (ret : Option FieldType) (rm : Room) (av : List Value) (w : va_W) (φ : ρ → Option Value × va_W) (o : Option ρ) : Prop :=
  ∀ r, o = some r → ∀ sz : Nat, Met l y (.code y cc nL ret :: ut_bl) rm (va_Pc av (MP D ks tys w sz)) (GQ D tys (va_A w sz) (φ r)) 0 0 (va_A w sz)
def GX (p : Program) (s : State) (m : MethodId) (args : Array Value) (meth : Method) (c : Code) (cc : ByteArray) (nL : Nat) (own : String) (ret : Option FieldType) (D : va_G) (ks : Nat × Nat) (tys : List (ClassId × FieldType)) (A : Nat → Prop) : Prop :=
  p.tables.exec = Jvm.exec ∧ c.code = cc ∧ c.maxLocals = nL ∧ s.vm.findClass own = some m.cls ∧ (∀ w ∈ ut_bl, w.before args s = true) ∧ meth.locks = false ∧ meth.sig.returnType = ret ∧ va_K D vwCl tys s ∧ (∀ q : Nat, s.heap.size ≤ q → A q) ∧ KS ks A s s.heap
def GJ {ρ : Type} (l : Launch) (D : va_G) (ks : Nat × Nat) (tys : List (ClassId × FieldType)) (own : String) (cc : ByteArray) (nL : Nat) (ret : Option FieldType) (rm : Room) (φ : ρ → Option Value × va_W) (w : va_W) (pc : Nat) (lv : List (Option Value)) (st : List Value) (o : Option ρ) : Prop :=
  ∀ r, o = some r → ∀ (p : Program) (e : Env) (s : State) (m : MethodId) (args : Array Value) (below : List Frame) (meth : Method) (c : Code) (A : Nat → Prop), GX p s m args meth c cc nL own ret D ks tys A →
    ∀ (H : Heap) (locs : List Loc) (ls : Array Slot), va_P D vwCl w H → va_D A w → va_S A s.heap H locs → lw_has ls nL lv →
      W p l e rm s m args below meth c H locs 0 0 (MQ below (GQ D tys A (φ r)) args s 0 0 A) (F0 m pc ls st)
/-- what a list of arguments is as locals -/
def lw_args : List Value → List (Option Value)
  | [] => []
  | v :: vs => if v.category = 2 then some v :: none :: lw_args vs else some v :: lw_args vs
theorem lw_args_asc : ∀ (vs : List Value) (k : Nat), lw_asc k (lw_args vs) = lv_args k vs := by
  intro vs
  induction vs with
  | nil => intro k; rfl
  | cons v vs ih =>
    intro k
    by_cases h : v.category = 2
    · simp only [lw_args, lv_args, if_pos h, lw_asc]
      rw [ih]
    · simp only [lw_args, lv_args, if_neg h, lw_asc]
      rw [ih]
theorem lw_asc_app : ∀ (a b : List (Option Value)) (k : Nat), (∀ x ∈ b, x = none) → lw_asc k (a ++ b) = lw_asc k a := by
  intro a
  induction a with
  | nil =>
    intro b
    induction b with
    | nil => intro k _; rfl
    | cons x t ih =>
      intro k h
      have hx := h x List.mem_cons_self
      subst hx
      simp only [List.nil_append, lw_asc] at ih ⊢
      exact ih (k + 1) (fun y hy => h y (List.mem_cons_of_mem _ hy))
  | cons x t ih =>
    intro b k h
    cases x with
    | none => simp only [List.cons_append, lw_asc]; exact ih b (k + 1) h
    | some v => simp only [List.cons_append, lw_asc]; rw [ih b (k + 1) h]
/-- a contract out of the walk of its body: the locals are the arguments, then n unknown ones -/
theorem MT.of {ρ : Type} {l : Launch} {D : va_G} {ks : Nat × Nat} {tys : List (ClassId × FieldType)} {y : MethodName} {cc : ByteArray} {nL : Nat} {ret : Option FieldType} {rm : Room} {av : List Value} {w : va_W} {φ : ρ → Option Value × va_W} {o : Option ρ} (n : Nat) (lv : List (Option Value))
    (hy : plainName y.cls = true) (hav : (lg_sl av).length ≤ nL) (hlv : lw_args av ++ List.replicate n none = lv) (body : GJ l D ks tys y.cls cc nL ret rm φ w 0 lv [] o) : MT l D ks tys y cc nL ret rm av w φ o := by
  subst hlv
  intro r hr sz
  refine Met.ofW (cc := cc) (maxL := nL) (ret := ret) hy rfl ?_
  intro p e s m args below meth c s₁ B hml hv
  obtain ⟨rfl, hsz, hP, hK, hD0, hKS⟩ := hv
  have hts := atoms_spec (ws := .code y cc nL ret :: ut_bl) B.pre
  have hown : s.vm.findClass y.cls = some m.cls := findClass_of_methodNamed B.named
  subst hsz
  have hl := lv_entry av (n := nL) hav
  rw [lg_entry_eq]
  refine body r hr p e s m av.toArray below meth c (va_A w s.heap.size) ⟨B.exec, B.bytes, hml, hown, fun w h => hts w (List.mem_cons_of_mem _ h), B.notSynchronized, B.returns, hK, fun q h => Or.inr h, hKS⟩ s.heap [] _ hP (hD0.self (sz := s.heap.size)) va_S.rf ?_
  unfold lw_has
  rw [lw_asc_app _ _ _ (fun x h => List.eq_of_mem_replicate h), lw_args_asc]
  exact hl
section GR
variable {ρ : Type} {l : Launch} {D : va_G} {ks : Nat × Nat} {tys : List (ClassId × FieldType)} {own : String} {cc : ByteArray} {nL : Nat} {ret : Option FieldType} {rm : Room} {φ : ρ → Option Value × va_W} {w : va_W} {pc : Nat} {lv : List (Option Value)} {st : List Value} {o : Option ρ}
theorem G.no : GJ l D ks tys own cc nL ret rm φ w pc lv st none := fun _ h => by cases h
theorem G.eq {o' : Option ρ} (h : o = o') (k : GJ l D ks tys own cc nL ret rm φ w pc lv st o') : GJ l D ks tys own cc nL ret rm φ w pc lv st o := h ▸ k
theorem G.mask {lv' : List (Option Value)} (bs : List Bool) (hs : lw_mask bs lv = lv') (k : GJ l D ks tys own cc nL ret rm φ w pc lv' st o) : GJ l D ks tys own cc nL ret rm φ w pc lv st o :=
  fun r hr p e s m args below meth c A X H locs ls hP hD hS hl => k r hr p e s m args below meth c A X H locs ls hP hD hS (hs ▸ lw_less bs hl)
/-- a name for a value -/
def jn {α β : Type} (x : α) (f : α → β) : β := f x
theorem jn_ite {α β : Type} {c : Prop} [Decidable c] (x y : α) (f : α → β) : jn (if c then x else y) f = if c then jn x f else jn y f := by
  by_cases h : c
  · rw [if_pos h, if_pos h]
  · rw [if_neg h, if_neg h]
theorem G.topi {x : Int32} {f : Int32 → Option ρ} (k : ∀ v : Int32, GJ l D ks tys own cc nL ret rm φ w pc lv (.int v :: st) (f v)) : GJ l D ks tys own cc nL ret rm φ w pc lv (.int x :: st) (jn x f) := k x
theorem G.topl {x : Int64} {f : Int64 → Option ρ} (k : ∀ v : Int64, GJ l D ks tys own cc nL ret rm φ w pc lv (.long v :: st) (f v)) : GJ l D ks tys own cc nL ret rm φ w pc lv (.long x :: st) (jn x f) := k x
/-- two ways that meet with a value each: the way on is walked once -/
theorem G.join {α : Type} (cv : α → Value) {x : α} {f : α → Option ρ} {st0 : List Value} (pcJ : Nat) (hJ : ∀ v : α, GJ l D ks tys own cc nL ret rm φ w pcJ lv (cv v :: st) (f v)) (hB : (∀ v : α, GJ l D ks tys own cc nL ret rm φ w pcJ lv (cv v :: st) (jn v f)) → GJ l D ks tys own cc nL ret rm φ w pc lv st0 (jn x f)) : GJ l D ks tys own cc nL ret rm φ w pc lv st0 (jn x f) := hB hJ
theorem G.ite {α : Type} {c : Prop} [Decidable c] {x y : α} {f : α → Option ρ} (k : GJ l D ks tys own cc nL ret rm φ w pc lv st (if c then jn x f else jn y f)) : GJ l D ks tys own cc nL ret rm φ w pc lv st (jn (if c then x else y) f) := by
  rw [jn_ite]
  exact k
theorem G.nz {y : Int32} (k : ¬ y = 0 → GJ l D ks tys own cc nL ret rm φ w pc lv st o) : GJ l D ks tys own cc nL ret rm φ w pc lv st (if y = 0 then none else o) := by
  intro r hr
  by_cases h : y = 0
  · rw [if_pos h] at hr
    cases hr
  · rw [if_neg h] at hr
    exact k h r hr
/-- a test that may fail: behind it, it held -/
theorem G.chk {b : Bool} (k : b = true → GJ l D ks tys own cc nL ret rm φ w pc lv st o) : GJ l D ks tys own cc nL ret rm φ w pc lv st (if b = true then o else none) := by
  intro r hr
  by_cases h : b = true
  · rw [if_pos h] at hr
    exact k h r hr
  · rw [if_neg h] at hr
    cases hr
-- constants
theorem G.iconst {n : Int} (v : Int32) (hd : decode cc pc = .ok (.iconst n, 1)) (hv : Int32.ofInt n = v) (k : GJ l D ks tys own cc nL ret rm φ w (pc + 1) lv (.int v :: st) o) : GJ l D ks tys own cc nL ret rm φ w pc lv st o :=
  fun r hr p e s m args below meth c A X H locs ls hP hD hS hl => lv_iconst X.1 X.2.1 hd hv (k r hr p e s m args below meth c A X H locs ls hP hD hS hl)
theorem G.bipush {n : Int} (v : Int32) (hd : decode cc pc = .ok (.bipush n, 2)) (hv : (Int8.ofInt n).toInt32 = v) (k : GJ l D ks tys own cc nL ret rm φ w (pc + 2) lv (.int v :: st) o) : GJ l D ks tys own cc nL ret rm φ w pc lv st o :=
  fun r hr p e s m args below meth c A X H locs ls hP hD hS hl => lv_bipush X.1 X.2.1 hd hv (k r hr p e s m args below meth c A X H locs ls hP hD hS hl)
theorem G.sipush {n : Int} (v : Int32) (hd : decode cc pc = .ok (.sipush n, 3)) (hv : (Int16.ofInt n).toInt32 = v) (k : GJ l D ks tys own cc nL ret rm φ w (pc + 3) lv (.int v :: st) o) : GJ l D ks tys own cc nL ret rm φ w pc lv st o :=
  fun r hr p e s m args below meth c A X H locs ls hP hD hS hl => lv_sipush X.1 X.2.1 hd hv (k r hr p e s m args below meth c A X H locs ls hP hD hS hl)
theorem G.ldc {index : Nat} {v : Int32} (hc : Cond.constant own index v ∈ ut_bl) (hd : decode cc pc = .ok (.ldc index, 2)) (k : GJ l D ks tys own cc nL ret rm φ w (pc + 2) lv (.int v :: st) o) : GJ l D ks tys own cc nL ret rm φ w pc lv st o :=
  fun r hr p e s m args below meth c A X H locs ls hP hD hS hl => lv_ldc X.1 X.2.1 X.2.2.2.1 (X.2.2.2.2.1 _ hc) hd (k r hr p e s m args below meth c A X H locs ls hP hD hS hl)
theorem G.ldc2 {index : Nat} {v : Int64} (hc : Cond.constantLong own index v ∈ ut_bl) (hd : decode cc pc = .ok (.ldc2_w index, 3)) (k : GJ l D ks tys own cc nL ret rm φ w (pc + 3) lv (.long v :: st) o) : GJ l D ks tys own cc nL ret rm φ w pc lv st o :=
  fun r hr p e s m args below meth c A X H locs ls hP hD hS hl => lv_ldc2 X.1 X.2.1 X.2.2.2.1 (X.2.2.2.2.1 _ hc) hd (k r hr p e s m args below meth c A X H locs ls hP hD hS hl)
-- locals
theorem G.iload_n {i : Fin 4} {x : Int32} (hd : decode cc pc = .ok (.iload_n i, 1)) (hl : lv[i.val]? = some (some (.int x))) (k : GJ l D ks tys own cc nL ret rm φ w (pc + 1) lv (.int x :: st) o) : GJ l D ks tys own cc nL ret rm φ w pc lv st o :=
  fun r hr p e s m args below meth c A X H locs ls hP hD hS h => lv_iload_n X.1 X.2.1 hd rfl (lw_at h hl) (k r hr p e s m args below meth c A X H locs ls hP hD hS h)
theorem G.iload {i : Nat} {x : Int32} (hd : decode cc pc = .ok (.iload i, 2)) (hl : lv[i]? = some (some (.int x))) (k : GJ l D ks tys own cc nL ret rm φ w (pc + 2) lv (.int x :: st) o) : GJ l D ks tys own cc nL ret rm φ w pc lv st o :=
  fun r hr p e s m args below meth c A X H locs ls hP hD hS h => lv_iload X.1 X.2.1 hd (lw_at h hl) (k r hr p e s m args below meth c A X H locs ls hP hD hS h)
theorem G.aload_n {i : Fin 4} {x : Nat} (hd : decode cc pc = .ok (.aload_n i, 1)) (hl : lv[i.val]? = some (some (.ref x))) (k : GJ l D ks tys own cc nL ret rm φ w (pc + 1) lv (.ref x :: st) o) : GJ l D ks tys own cc nL ret rm φ w pc lv st o :=
  fun r hr p e s m args below meth c A X H locs ls hP hD hS h => lv_aload_n X.1 X.2.1 hd rfl (lw_at h hl) (k r hr p e s m args below meth c A X H locs ls hP hD hS h)
theorem G.aload {i : Nat} {x : Nat} (hd : decode cc pc = .ok (.aload i, 2)) (hl : lv[i]? = some (some (.ref x))) (k : GJ l D ks tys own cc nL ret rm φ w (pc + 2) lv (.ref x :: st) o) : GJ l D ks tys own cc nL ret rm φ w pc lv st o :=
  fun r hr p e s m args below meth c A X H locs ls hP hD hS h => lv_aload X.1 X.2.1 hd (lw_at h hl) (k r hr p e s m args below meth c A X H locs ls hP hD hS h)
theorem G.lload_n {i : Fin 4} {x : Int64} (hd : decode cc pc = .ok (.lload_n i, 1)) (hl : lv[i.val]? = some (some (.long x))) (k : GJ l D ks tys own cc nL ret rm φ w (pc + 1) lv (.long x :: st) o) : GJ l D ks tys own cc nL ret rm φ w pc lv st o :=
  fun r hr p e s m args below meth c A X H locs ls hP hD hS h => lv_lload_n X.1 X.2.1 hd rfl (lw_at h hl) (k r hr p e s m args below meth c A X H locs ls hP hD hS h)
theorem G.lload {i : Nat} {x : Int64} (hd : decode cc pc = .ok (.lload i, 2)) (hl : lv[i]? = some (some (.long x))) (k : GJ l D ks tys own cc nL ret rm φ w (pc + 2) lv (.long x :: st) o) : GJ l D ks tys own cc nL ret rm φ w pc lv st o :=
  fun r hr p e s m args below meth c A X H locs ls hP hD hS h => lv_lload X.1 X.2.1 hd (lw_at h hl) (k r hr p e s m args below meth c A X H locs ls hP hD hS h)
theorem G.istore_n {i : Fin 4} {x : Int32} {lv' : List (Option Value)} (hd : decode cc pc = .ok (.istore_n i, 1)) (hn : i.val < nL) (hi : i.val < lv.length) (hk : lw_ok1 lv i.val = true) (he : lv.set i.val (some (.int x)) = lv') (k : GJ l D ks tys own cc nL ret rm φ w (pc + 1) lv' st o) : GJ l D ks tys own cc nL ret rm φ w pc lv (.int x :: st) o :=
  fun r hr p e s m args below meth c A X H locs ls hP hD hS h => lv_istore_n X.1 X.2.1 hd rfl h hn rfl (fun ls' h' => k r hr p e s m args below meth c A X H locs ls' hP hD hS (he ▸ lw_sub h' (lw_st1 (ls := ls) (nL := nL) hi hk)))
theorem G.istore {i : Nat} {x : Int32} {lv' : List (Option Value)} (hd : decode cc pc = .ok (.istore i, 2)) (hn : i < nL) (hi : i < lv.length) (hk : lw_ok1 lv i = true) (he : lv.set i (some (.int x)) = lv') (k : GJ l D ks tys own cc nL ret rm φ w (pc + 2) lv' st o) : GJ l D ks tys own cc nL ret rm φ w pc lv (.int x :: st) o :=
  fun r hr p e s m args below meth c A X H locs ls hP hD hS h => lv_istore X.1 X.2.1 hd h hn rfl (fun ls' h' => k r hr p e s m args below meth c A X H locs ls' hP hD hS (he ▸ lw_sub h' (lw_st1 (ls := ls) (nL := nL) hi hk)))
theorem G.astore_n {i : Fin 4} {x : Nat} {lv' : List (Option Value)} (hd : decode cc pc = .ok (.astore_n i, 1)) (hn : i.val < nL) (hi : i.val < lv.length) (hk : lw_ok1 lv i.val = true) (he : lv.set i.val (some (.ref x)) = lv') (k : GJ l D ks tys own cc nL ret rm φ w (pc + 1) lv' st o) : GJ l D ks tys own cc nL ret rm φ w pc lv (.ref x :: st) o :=
  fun r hr p e s m args below meth c A X H locs ls hP hD hS h => lv_astore_n X.1 X.2.1 hd rfl h hn rfl (fun ls' h' => k r hr p e s m args below meth c A X H locs ls' hP hD hS (he ▸ lw_sub h' (lw_st1 (ls := ls) (nL := nL) hi hk)))
theorem G.astore {i : Nat} {x : Nat} {lv' : List (Option Value)} (hd : decode cc pc = .ok (.astore i, 2)) (hn : i < nL) (hi : i < lv.length) (hk : lw_ok1 lv i = true) (he : lv.set i (some (.ref x)) = lv') (k : GJ l D ks tys own cc nL ret rm φ w (pc + 2) lv' st o) : GJ l D ks tys own cc nL ret rm φ w pc lv (.ref x :: st) o :=
  fun r hr p e s m args below meth c A X H locs ls hP hD hS h => lv_astore X.1 X.2.1 hd h hn rfl (fun ls' h' => k r hr p e s m args below meth c A X H locs ls' hP hD hS (he ▸ lw_sub h' (lw_st1 (ls := ls) (nL := nL) hi hk)))
theorem G.iinc {i : Nat} {n : Int} {x : Int32} (cn : Int32) {lv' : List (Option Value)} (hd : decode cc pc = .ok (.iinc i n, 3)) (hl : lv[i]? = some (some (.int x))) (hv : Int32.ofInt n = cn) (hn : i < nL) (hi : i < lv.length) (hk : lw_ok1 lv i = true) (he : lv.set i (some (.int (x + cn))) = lv') (k : GJ l D ks tys own cc nL ret rm φ w (pc + 3) lv' st o) : GJ l D ks tys own cc nL ret rm φ w pc lv st o := by
  intro r hr p e s m args below meth c A X H locs ls hP hD hS h
  obtain ⟨kk, hkk⟩ := List.getElem?_of_mem ((lw_asc_mem lv 0 i (.int x)).mpr ⟨Nat.zero_le _, hl⟩)
  exact lv_iinc X.1 X.2.1 hd h hkk (by rw [hv]) hn rfl (fun ls' h' => k r hr p e s m args below meth c A X H locs ls' hP hD hS (he ▸ lw_sub h' (lw_st1 (ls := ls) (nL := nL) hi hk)))
end GR
