/-! THE CLAIM OUT OF ONE WALK OF THE LAW'S BODY. Your part is whole_start (and what it stands on); all else here is the same for every law, but numbers. -/
def R_law : String := "CryptBaysLaw"
def lw_P (b : Addr) (xs : List Int32) (args : Array Value) (s : State) : Prop := args = #[.ref b] ∧ s.IntsAt b xs ∧ xs.length ≤ 3584 ∧ (Jvm.Cond.and given_1 narrow_1).before args s = true
def lw_Q (_ : Array Value) (s : State) (o : Outcome) (t : State) : Prop := o = .returned (some (.int 1)) ∧ Framed s o t [] 600000 7302250
def lw_Z (below : List Frame) (a : Array Value) (s : State) : State → Prop := fun t => ∃ o, t.status = .running ∧ Ended t below o ∧ lw_Q a s o t
/-- the law's own end, with 1 on the stack, nothing written that was there before, its room as the claim has it -/
theorem lw_ret {p : Program} {l : Launch} {e : Env} {s : State} {m : MethodId} {below : List Frame} {meth : Method} {c : Code} {b : Nat} (hx : p.tables.exec = Jvm.exec) (hb : c.code = code) (hr : meth.sig.returnType = ret) (hlocks : meth.locks = false) {pc : Nat} {H : Heap} {ls : Array Slot} (hdg : decode code pc = .ok (.ireturn, 1)) : W p l e room_1 s m #[Value.ref b] below meth c H [] 600000 7302250 (lw_Z below #[Value.ref b] s) (F0 m pc ls [.int 1]) := by
  intro T hT X
  obtain ⟨fs, hret, hrun, hended, hW, hframe⟩ := X.leave (v := some (.int 1)) (hlocks := hlocks) (fun h => by rw [hr] at h; cases h)
  have hmeth' : T.vm.method? m = some meth := X.method'
  refine ⟨T.setFrames fs, ?_, .returned (some (.int 1)), hrun, hended, rfl, ⟨_, rfl⟩, hW, hframe⟩
  jvm_step X.here [X.here.top, hx, hb, hdg, hmeth', hr, ret, narrow_b1]
  (try refine ⟨rfl, ?_⟩); (try refine ⟨rfl, ?_⟩)
  first | (intro acts; rw [hret _ acts rfl rfl rfl]) | rw [hret _ _ rfl rfl rfl]
  exact Steps.refl _
/-- what holds at the law's entry: the machine, the code, the tables' words (any of lw_tbl by 'hts w (by decide +kernel)'), the script of L ints xs at the cell b, what the Statement gives of the start (any of its parts by flat_of_before) -/
def lw_At (p : Program) (s : State) (m : MethodId) (meth : Method) (c : Code) (b L : Nat) (xs : Nat → Int32) : Prop :=
  p.tables.exec = Jvm.exec ∧ c.code = code ∧ meth.sig.returnType = ret ∧ c.maxLocals = 4 ∧ s.vm.findClass R_law = some m.cls ∧ (∀ w ∈ lw_tbl, w.before #[Value.ref b] s = true) ∧ va_X b L xs s s.heap ∧ b < s.heap.size ∧ meth.locks = false ∧ (Jvm.Cond.and given_1 narrow_1).before #[Value.ref b] s = true
/-! THE LAW'S JUDGEMENT: 'LJ .. w kn nn pc lv st': the law, at pc with world w and kn cells of nn slots made, comes to its end with true -/
def LA (s : State) : Nat → Prop := fun q => s.heap.size ≤ q
def LX (p : Program) (s : State) (m : MethodId) (meth : Method) (c : Code) (b L : Nat) (xs : Nat → Int32) (D : va_G) (ks : Nat × Nat) (tys : List (ClassId × FieldType)) : Prop :=
  p.tables.exec = Jvm.exec ∧ c.code = code ∧ c.maxLocals = 4 ∧ s.vm.findClass RL = some m.cls ∧ (∀ w ∈ ut_bl, w.before #[Value.ref b] s = true) ∧ meth.locks = false ∧ meth.sig.returnType = ret ∧ va_K D vwCl tys s ∧ va_X b L xs s s.heap ∧ b < s.heap.size ∧ KS ks (LA s) s s.heap ∧ AO s
def LJ (l : Launch) (D : va_G) (ks : Nat × Nat) (tys : List (ClassId × FieldType)) (b L : Nat) (xs : Nat → Int32) (w : va_W) (kn nn : Nat) (pc : Nat) (lv : List (Option Value)) (st : List Value) : Prop :=
  ∀ (p : Program) (e : Env) (s : State) (m : MethodId) (below : List Frame) (meth : Method) (c : Code), LX p s m meth c b L xs D ks tys →
    ∀ (H : Heap) (locs : List Loc) (ls : Array Slot), va_P D vwCl w H → va_D (LA s) w → va_S (LA s) s.heap H locs → lw_has ls 4 lv →
      W p l e room_1 s m #[Value.ref b] below meth c H locs kn nn (lw_Z below #[Value.ref b] s) (F0 m pc ls st)
theorem P_mem {D : va_G} {cl : List vw_C} {w : va_W} {H : Heap} : va_P D cl w H ↔ ∀ q ∈ w, va_at D cl q H := by
  constructor
  · intro h q hq
    obtain ⟨i, hi⟩ := List.getElem?_of_mem hq
    exact h i q hi
  · intro h k q hk
    exact h q (List.mem_of_getElem? hk)
theorem D_nd {A : Nat → Prop} {w : va_W} : va_D A w ↔ (w.map Prod.fst).Nodup ∧ ∀ q ∈ w, A q.1 := by
  constructor
  · intro h
    refine ⟨?_, fun q hq => ?_⟩
    · rw [List.Nodup, List.pairwise_iff_getElem]
      intro i j hi hj hij heq
      rw [List.length_map] at hi hj
      rw [List.getElem_map, List.getElem_map] at heq
      have := h.1 i j _ _ (List.getElem?_eq_getElem hi) (List.getElem?_eq_getElem hj) heq
      omega
    · obtain ⟨i, hi⟩ := List.getElem?_of_mem hq
      exact h.2 i q hi
  · rintro ⟨h1, h2⟩
    refine ⟨fun i j p q hi hj hpq => ?_, fun k q hk => h2 q (List.mem_of_getElem? hk)⟩
    rw [List.Nodup, List.pairwise_iff_getElem] at h1
    obtain ⟨li, ei⟩ := List.getElem?_eq_some_iff.mp hi
    obtain ⟨lj, ej⟩ := List.getElem?_eq_some_iff.mp hj
    rcases Nat.lt_trichotomy i j with h | h | h
    · exact absurd (by rw [List.getElem_map, List.getElem_map, ei, ej]; exact hpq) (h1 i j (by rw [List.length_map]; exact li) (by rw [List.length_map]; exact lj) h)
    · exact h
    · exact absurd (by rw [List.getElem_map, List.getElem_map, ei, ej]; exact hpq.symm) (h1 j i (by rw [List.length_map]; exact lj) (by rw [List.length_map]; exact li) h)
theorem P_perm {D : va_G} {cl : List vw_C} {w w' : va_W} {H : Heap} (hp : w.Perm w') (h : va_P D cl w H) : va_P D cl w' H := P_mem.mpr (fun q hq => P_mem.mp h q (hp.mem_iff.mpr hq))
theorem D_perm {A : Nat → Prop} {w w' : va_W} (hp : w.Perm w') (h : va_D A w) : va_D A w' := by
  obtain ⟨h1, h2⟩ := D_nd.mp h
  exact D_nd.mpr ⟨(hp.map Prod.fst).nodup_iff.mp h1, fun q hq => h2 q (hp.mem_iff.mpr hq)⟩
theorem flat_perm {α : Type} {a b : List (List α)} (h : a.Perm b) : a.flatten.Perm b.flatten := by
  induction h with
  | nil => exact List.Perm.refl _
  | cons x _ ih => simp only [List.flatten_cons]; exact List.Perm.append_left x ih
  | swap x y l =>
    simp only [List.flatten_cons, ← List.append_assoc]
    exact List.Perm.append_right _ List.perm_append_comm
  | trans _ _ ih1 ih2 => exact ih1.trans ih2
theorem seg_perm (ss : List va_W) (isR isC : List Nat) (h : (List.range ss.length).isPerm (isR ++ isC) = true) : ss.flatten.Perm ((isR.map (fun i => ss.getD i [])).flatten ++ (isC.map (fun i => ss.getD i [])).flatten) := by
  have h1 : (List.range ss.length).Perm (isR ++ isC) := List.isPerm_iff.mp h
  have h2 : (List.range ss.length).map (fun i => ss.getD i []) = ss := by
    apply List.ext_getElem
    · simp
    · intro i h1 h2
      simp [h2]
  have h3 := flat_perm (h1.map (fun i => ss.getD i []))
  rw [h2, List.map_append, List.flatten_append] at h3
  exact h3
/-- behind a call on the cells wc, which stand last: the rest stays, the callee's world stands in their place -/
theorem L_join {A0 : Nat → Prop} {D : va_G} {cl : List vw_C} {wr wc w1 : va_W} {H H1 : Heap} (hP : va_P D cl (wr ++ wc) H) (hD : va_D A0 (wr ++ wc)) (hk : ∀ q : Nat, q < H.size → ¬ va_A wc H.size q → H1[q]? = H[q]?) (hF : ∀ q, va_A wc H.size q → A0 q) (hP1 : va_P D cl w1 H1) (hD1 : va_D (va_A wc H.size) w1) : va_P D cl (wr ++ w1) H1 ∧ va_D A0 (wr ++ w1) := by
  have hget : ∀ (k : Nat) (q : Nat × va_E), wr[k]? = some q → (wr ++ wc)[k]? = some q := fun k q hq => by
    rw [List.getElem?_append_left (List.getElem?_eq_some_iff.mp hq).1]
    exact hq
  have hgetc : ∀ (k : Nat) (q : Nat × va_E), wc[k]? = some q → (wr ++ wc)[wr.length + k]? = some q := fun k q hq => by
    rw [List.getElem?_append_right (by omega), Nat.add_sub_cancel_left]
    exact hq
  have apart : ∀ (k : Nat) (q : Nat × va_E), wr[k]? = some q → q.1 < H.size ∧ ¬ va_A wc H.size q.1 := by
    intro k q hq
    have hl := (hP k q (hget k q hq)).lt
    refine ⟨hl, fun h => ?_⟩
    rcases h with ⟨k2, e, h⟩ | h
    · have hij := hD.1 k (wr.length + k2) q (q.1, e) (hget k q hq) (hgetc k2 (q.1, e) h) rfl
      have hkl := (List.getElem?_eq_some_iff.mp hq).1
      omega
    · omega
  refine ⟨va_P.app (fun k q hq => ?_) hP1, va_D.app ⟨fun i j x y hx hy hxy => hD.1 i j x y (hget i x hx) (hget j y hy) hxy, fun k q hq => hD.2 k q (hget k q hq)⟩ (hD1.weaken (fun k q _ h => hF q.1 h)) (fun i j x y hx hy hxy => ?_)⟩
  · obtain ⟨g1, g2⟩ := apart k q hq
    exact (hP k q (hget k q hq)).kept (hk q.1 g1 g2)
  · exact (apart i x hx).2 (by rw [hxy]; exact hD1.2 j y hy)
section LR
variable {l : Launch} {D : va_G} {ks : Nat × Nat} {tys : List (ClassId × FieldType)} {b L : Nat} {xs : Nat → Int32} {w : va_W} {kn nn : Nat} {pc : Nat} {lv : List (Option Value)} {st : List Value}
theorem L.eqw {w' : va_W} (h : w = w') (k : LJ l D ks tys b L xs w' kn nn pc lv st) : LJ l D ks tys b L xs w kn nn pc lv st := h ▸ k
theorem L.iconst {n : Int} (v : Int32) (hd : decode code pc = .ok (.iconst n, 1)) (hv : Int32.ofInt n = v) (k : LJ l D ks tys b L xs w kn nn (pc + 1) lv (.int v :: st)) : LJ l D ks tys b L xs w kn nn pc lv st := fun p e s m below meth c X H locs ls hP hD hS hl => lv_iconst X.1 X.2.1 hd hv (k p e s m below meth c X H locs ls hP hD hS hl)
theorem L.bipush {n : Int} (v : Int32) (hd : decode code pc = .ok (.bipush n, 2)) (hv : (Int8.ofInt n).toInt32 = v) (k : LJ l D ks tys b L xs w kn nn (pc + 2) lv (.int v :: st)) : LJ l D ks tys b L xs w kn nn pc lv st := fun p e s m below meth c X H locs ls hP hD hS hl => lv_bipush X.1 X.2.1 hd hv (k p e s m below meth c X H locs ls hP hD hS hl)
theorem L.ldc2 {index : Nat} {v : Int64} (hc : Cond.constantLong RL index v ∈ ut_bl) (hd : decode code pc = .ok (.ldc2_w index, 3)) (k : LJ l D ks tys b L xs w kn nn (pc + 3) lv (.long v :: st)) : LJ l D ks tys b L xs w kn nn pc lv st := fun p e s m below meth c X H locs ls hP hD hS hl => lv_ldc2 X.1 X.2.1 X.2.2.2.1 (X.2.2.2.2.1 _ hc) hd (k p e s m below meth c X H locs ls hP hD hS hl)
theorem L.iadd {x y : Int32} (hd : decode code pc = .ok (.iadd, 1)) (k : LJ l D ks tys b L xs w kn nn (pc + 1) lv (.int (x + y) :: st)) : LJ l D ks tys b L xs w kn nn pc lv (.int y :: .int x :: st) := fun p e s m below meth c X H locs ls hP hD hS hl => lv_iadd X.1 X.2.1 hd (k p e s m below meth c X H locs ls hP hD hS hl)
theorem L.isub {x y : Int32} (hd : decode code pc = .ok (.isub, 1)) (k : LJ l D ks tys b L xs w kn nn (pc + 1) lv (.int (x - y) :: st)) : LJ l D ks tys b L xs w kn nn pc lv (.int y :: .int x :: st) := fun p e s m below meth c X H locs ls hP hD hS hl => lv_isub X.1 X.2.1 hd (k p e s m below meth c X H locs ls hP hD hS hl)
theorem L.iand {x y : Int32} (hd : decode code pc = .ok (.iand, 1)) (k : LJ l D ks tys b L xs w kn nn (pc + 1) lv (.int (x &&& y) :: st)) : LJ l D ks tys b L xs w kn nn pc lv (.int y :: .int x :: st) := fun p e s m below meth c X H locs ls hP hD hS hl => lv_iand X.1 X.2.1 hd (k p e s m below meth c X H locs ls hP hD hS hl)
theorem L.land {x y : Int64} (hd : decode code pc = .ok (.land, 1)) (k : LJ l D ks tys b L xs w kn nn (pc + 1) lv (.long (x &&& y) :: st)) : LJ l D ks tys b L xs w kn nn pc lv (.long y :: .long x :: st) := fun p e s m below meth c X H locs ls hP hD hS hl => lv_land X.1 X.2.1 hd (k p e s m below meth c X H locs ls hP hD hS hl)
theorem L.lor {x y : Int64} (hd : decode code pc = .ok (.lor, 1)) (k : LJ l D ks tys b L xs w kn nn (pc + 1) lv (.long (x ||| y) :: st)) : LJ l D ks tys b L xs w kn nn pc lv (.long y :: .long x :: st) := fun p e s m below meth c X H locs ls hP hD hS hl => lv_lor X.1 X.2.1 hd (k p e s m below meth c X H locs ls hP hD hS hl)
theorem L.lshl {x : Int64} {y : Int32} (hd : decode code pc = .ok (.lshl, 1)) (k : LJ l D ks tys b L xs w kn nn (pc + 1) lv (.long (x <<< (y.toInt64 &&& 63)) :: st)) : LJ l D ks tys b L xs w kn nn pc lv (.int y :: .long x :: st) := fun p e s m below meth c X H locs ls hP hD hS hl => lv_lshl X.1 X.2.1 hd rfl (k p e s m below meth c X H locs ls hP hD hS hl)
theorem L.i2l {x : Int32} (hd : decode code pc = .ok (.i2l, 1)) (k : LJ l D ks tys b L xs w kn nn (pc + 1) lv (.long x.toInt64 :: st)) : LJ l D ks tys b L xs w kn nn pc lv (.int x :: st) := fun p e s m below meth c X H locs ls hP hD hS hl => lv_i2l X.1 X.2.1 hd rfl (k p e s m below meth c X H locs ls hP hD hS hl)
theorem L.dup {va : Value} (hd : decode code pc = .ok (.dup, 1)) (hva : va.category = 1) (k : LJ l D ks tys b L xs w kn nn (pc + 1) lv (va :: va :: st)) : LJ l D ks tys b L xs w kn nn pc lv (va :: st) := fun p e s m below meth c X H locs ls hP hD hS hl => lv_dup X.1 X.2.1 hd hva (k p e s m below meth c X H locs ls hP hD hS hl)
theorem L.aload_n {i : Fin 4} {x : Nat} (hd : decode code pc = .ok (.aload_n i, 1)) (hv : lv[i.val]? = some (some (.ref x))) (k : LJ l D ks tys b L xs w kn nn (pc + 1) lv (.ref x :: st)) : LJ l D ks tys b L xs w kn nn pc lv st := fun p e s m below meth c X H locs ls hP hD hS hl => lv_aload_n X.1 X.2.1 hd rfl (lw_at hl hv) (k p e s m below meth c X H locs ls hP hD hS hl)
theorem L.iload_n {i : Fin 4} {x : Int32} (hd : decode code pc = .ok (.iload_n i, 1)) (hv : lv[i.val]? = some (some (.int x))) (k : LJ l D ks tys b L xs w kn nn (pc + 1) lv (.int x :: st)) : LJ l D ks tys b L xs w kn nn pc lv st := fun p e s m below meth c X H locs ls hP hD hS hl => lv_iload_n X.1 X.2.1 hd rfl (lw_at hl hv) (k p e s m below meth c X H locs ls hP hD hS hl)
theorem L.istore_n {i : Fin 4} {x : Int32} {lv' : List (Option Value)} (hd : decode code pc = .ok (.istore_n i, 1)) (hn : i.val < 4) (hi : i.val < lv.length) (hk : lw_ok1 lv i.val = true) (he : lv.set i.val (some (.int x)) = lv') (k : LJ l D ks tys b L xs w kn nn (pc + 1) lv' st) : LJ l D ks tys b L xs w kn nn pc lv (.int x :: st) :=
  fun p e s m below meth c X H locs ls hP hD hS hl => lv_istore_n X.1 X.2.1 hd rfl hl hn rfl (fun ls' h' => k p e s m below meth c X H locs ls' hP hD hS (he ▸ lw_sub h' (lw_st1 (ls := ls) (nL := 4) hi hk)))
theorem L.astore_n {i : Fin 4} {x : Nat} {lv' : List (Option Value)} (hd : decode code pc = .ok (.astore_n i, 1)) (hn : i.val < 4) (hi : i.val < lv.length) (hk : lw_ok1 lv i.val = true) (he : lv.set i.val (some (.ref x)) = lv') (k : LJ l D ks tys b L xs w kn nn (pc + 1) lv' st) : LJ l D ks tys b L xs w kn nn pc lv (.ref x :: st) :=
  fun p e s m below meth c X H locs ls hP hD hS hl => lv_astore_n X.1 X.2.1 hd rfl hl hn rfl (fun ls' h' => k p e s m below meth c X H locs ls' hP hD hS (he ▸ lw_sub h' (lw_st1 (ls := ls) (nL := 4) hi hk)))
theorem L.iinc {i : Nat} {n : Int} {x : Int32} (v : Int32) {lv' : List (Option Value)} (hd : decode code pc = .ok (.iinc i n, 3)) (hv : lv[i]? = some (some (.int x))) (hs : x + Int32.ofInt n = v) (hn : i < 4) (hi : i < lv.length) (hk : lw_ok1 lv i = true) (he : lv.set i (some (.int v)) = lv') (k : LJ l D ks tys b L xs w kn nn (pc + 3) lv' st) : LJ l D ks tys b L xs w kn nn pc lv st := by
  intro p e s m below meth c X H locs ls hP hD hS hl
  obtain ⟨kk, hkk⟩ := List.getElem?_of_mem ((lw_asc_mem lv 0 i (.int x)).mpr ⟨Nat.zero_le _, hv⟩)
  exact lv_iinc X.1 X.2.1 hd hl hkk hs hn rfl (fun ls' h' => k p e s m below meth c X H locs ls' hP hD hS (he ▸ lw_sub h' (lw_st1 (ls := ls) (nL := 4) hi hk)))
theorem L.goto {off : Int} (tgt : Nat) (hd : decode code pc = .ok (.goto off, 3)) (ht : (pc : Int) + off = (tgt : Int)) (k : LJ l D ks tys b L xs w kn nn tgt lv st) : LJ l D ks tys b L xs w kn nn pc lv st := fun p e s m below meth c X H locs ls hP hD hS hl => lv_goto X.1 X.2.1 hd ht (k p e s m below meth c X H locs ls hP hD hS hl)
theorem L.eq_t {x y : Int32} {off : Int} (tgt : Nat) (hc : x = y) (hd : decode code pc = .ok (.if_icmp .eq off, 3)) (ht : (pc : Int) + off = (tgt : Int)) (k : LJ l D ks tys b L xs w kn nn tgt lv st) : LJ l D ks tys b L xs w kn nn pc lv (.int y :: .int x :: st) := fun p e s m below meth c X H locs ls hP hD hS hl => lv_icmp_eq X.1 X.2.1 hd ht (fun _ => k p e s m below meth c X H locs ls hP hD hS hl) (fun h => absurd hc h)
theorem L.gt {x y : Int32} {off : Int} (tgt : Nat) (hd : decode code pc = .ok (.if_icmp .gt off, 3)) (ht : (pc : Int) + off = (tgt : Int)) (kt : y < x → LJ l D ks tys b L xs w kn nn tgt lv st) (kf : ¬ y < x → LJ l D ks tys b L xs w kn nn (pc + 3) lv st) : LJ l D ks tys b L xs w kn nn pc lv (.int y :: .int x :: st) := fun p e s m below meth c X H locs ls hP hD hS hl => lv_icmp_gt X.1 X.2.1 hd ht (fun h => kt h p e s m below meth c X H locs ls hP hD hS hl) (fun h => kf h p e s m below meth c X H locs ls hP hD hS hl)
theorem L.tin {dflt lo hi : Int} {offs : Array Int} {len : Nat} {x : Int32} {off : Int} (v : Int32) (tgt : Nat) (hx : x = v) (hd : decode code pc = .ok (.tableswitch dflt lo hi offs, len)) (h1 : ¬ v.toInt < lo) (h2 : ¬ hi < v.toInt) (ho : offs[(v.toInt - lo).toNat]? = some off) (ht : (pc : Int) + off = (tgt : Int)) (k : LJ l D ks tys b L xs w kn nn tgt lv st) : LJ l D ks tys b L xs w kn nn pc lv (.int x :: st) := by
  subst hx
  exact fun p e s m below meth c X H locs ls hP hD hS hl => lv_tableIn X.1 X.2.1 hd h1 h2 ho ht (k p e s m below meth c X H locs ls hP hD hS hl)
theorem L.tout {dflt lo hi : Int} {offs : Array Int} {len : Nat} {x : Int32} (tgt : Nat) (h : x.toInt < lo ∨ hi < x.toInt) (hd : decode code pc = .ok (.tableswitch dflt lo hi offs, len)) (ht : (pc : Int) + dflt = (tgt : Int)) (k : LJ l D ks tys b L xs w kn nn tgt lv st) : LJ l D ks tys b L xs w kn nn pc lv (.int x :: st) := fun p e s m below meth c X H locs ls hP hD hS hl => lv_tableOut X.1 X.2.1 hd h ht (k p e s m below meth c X H locs ls hP hD hS hl)
theorem LA_b {s : State} {b : Nat} (h : b < s.heap.size) : ¬ LA s b := Nat.not_le.mpr h
theorem L.slen (hd : decode code pc = .ok (.arraylength, 1)) (k : LJ l D ks tys b L xs w kn nn (pc + 1) lv (.int (nI L) :: st)) : LJ l D ks tys b L xs w kn nn pc lv (.ref b :: st) := fun p e s m below meth c X H locs ls hP hD hS hl => va_slen X.1 X.2.1 X.2.2.2.2.2.2.2.2.1 X.2.2.2.2.2.2.2.2.2.1 (LA_b X.2.2.2.2.2.2.2.2.2.1) hS hd (k p e s m below meth c X H locs ls hP hD hS hl)
theorem L.sld {i : Int32} (j : Nat) (hi : i = nI j) (hj : j < L) (hL : L < 2 ^ 31) (hd : decode code pc = .ok (.iaload, 1)) (k : LJ l D ks tys b L xs w kn nn (pc + 1) lv (.int (xs j) :: st)) : LJ l D ks tys b L xs w kn nn pc lv (.int i :: .ref b :: st) := by
  subst hi
  have hc : (nI j).toNatClampNeg = j := nI_clamp (by omega)
  exact fun p e s m below meth c X H locs ls hP hD hS hl => va_sld X.1 X.2.1 X.2.2.2.2.2.2.2.2.1 X.2.2.2.2.2.2.2.2.2.1 (LA_b X.2.2.2.2.2.2.2.2.2.1) hS (vp_in_nI hj hL) hd (by rw [hc]; exact k p e s m below meth c X H locs ls hP hD hS hl)
theorem L.ret (hk : kn ≤ 600000) (hn : nn ≤ 7302250) (hd : decode code pc = .ok (.ireturn, 1)) : LJ l D ks tys b L xs w kn nn pc lv [.int 1] := by
  intro p e s m below meth c X H locs ls hP hD hS hl
  refine va_forget (fun q hq => hS.2.2 q hq) ?_
  refine W.widen (k := 600000) (n := 7302250) hk hn ?_
  exact lw_ret X.1 X.2.1 X.2.2.2.2.2.2.1 X.2.2.2.2.2.1 hd
theorem L.new {index ci N : Nat} {fs : List Value} {w' : Nat → va_W} (hnw : NW RL index ci N fs) (hc : kn + 1 ≤ 600000) (hs : nn + N ≤ 7302250) (hw : ∀ q, w ++ [(q, .inr (ci, fs))] = w' q) (hd : decode code pc = .ok (.new index, 3)) (k : ∀ q : Nat, LJ l D ks tys b L xs (w' q) (kn + 1) (nn + N) (pc + 3) lv (.ref q :: st)) : LJ l D ks tys b L xs w kn nn pc lv st := by
  obtain ⟨C, T, ty, h1, h2, h3, h4, h5, h6, h7⟩ := hnw
  exact fun p e s m below meth c X H locs ls hP hD hS hl => va_new X.1 X.2.1 X.2.2.2.2.1 h2 ty h3 X.2.2.2.1 (X.2.2.2.2.1 _ h4) (X.2.2.2.2.1 _ h5) (X.2.2.2.2.1 _ h6) X.2.2.2.2.2.2.2.1 hP hD hS (fun _ h => h) h1 h7 hc hs hd (fun q H hP hD hS => k q p e s m below meth c X H locs ls (hw q ▸ hP) (hw q ▸ hD) hS hl)
theorem L.init {y : MethodName} {cb : ByteArray} {nb index b0 mc' ms' : Nat} {rmc : Room} {wr : va_W} {cell : va_E} {Pc : va_W → Prop} (hm : MI y cb nb) (hlk : Cond.methodLink RL index y ∈ ut_bl) (hM : MC l D ks tys y cb nb rmc b0 [(b0, cell)] Pc mc' ms') (hww : w = wr ++ [(b0, cell)]) (hro : rmc.cells = mc' ∧ rmc.slots = ms' ∧ rmc.frames + 1 ≤ 14 ∧ 8 + (nb + 11) + rmc.locals ≤ 546) (hce : kn + mc' ≤ 600000 ∧ nn + ms' ≤ 7302250) (hw8 : (st.map fun v => v.category).sum ≤ 8) (hd : decode code pc = .ok (.invokespecial index, 3))
    (k : ∀ w', Pc w' → LJ l D ks tys b L xs (wr ++ w') (kn + mc') (nn + ms') (pc + 3) lv st) : LJ l D ks tys b L xs w kn nn pc lv (.ref b0 :: st) := by
  subst hww
  obtain ⟨m0, m1, m3, m4, m5⟩ := hm
  intro p e s m below meth c X H locs ls hP hD hS hl
  have hts := X.2.2.2.2.1
  have hK := X.2.2.2.2.2.2.2.1
  have hao := X.2.2.2.2.2.2.2.2.2.2.2
  have hKS := X.2.2.2.2.2.2.2.2.2.2.1
  have hPc : va_P D vwCl [(b0, cell)] H := P_mem.mpr (fun q hq => P_mem.mp hP q (List.mem_append_right _ hq))
  have hDc : va_D (LA s) [(b0, cell)] := by
    have hz := D_nd.mp hD
    refine D_nd.mpr ⟨by simp, fun q hq => hz.2 q (List.mem_append_right _ hq)⟩
  have hF : ∀ q, va_A [(b0, cell)] H.size q → LA s q := fun q h => by
    rcases h with ⟨j, e', h⟩ | h
    · exact hDc.2 j (q, e') h
    · exact Nat.le_trans hS.1 h
  have hr := va_runI (R := room_1) (As := []) (rest := st) (g := F0 m pc ls (.ref b0 :: st)) (cells := kn) (slots := nn) (locs := locs) (e := e) (below := below) (meth := meth) ⟨X.1, X.2.1, X.2.2.1, X.2.2.2.1, hts⟩ (hM H.size) ⟨callB_of 0 hts (ug_in (fun _ h => h) m4) rfl hro.1 hro.2.1 (hts _ m3) (hts _ hlk) m5 hro.2.2, m0, hts _ m1⟩ ⟨fun a U g mk q => ⟨(MP.blind (av := [.ref b0]) a U g mk ⟨q.1, q.2.1⟩).1, (MP.blind (av := [.ref b0]) a U g mk ⟨q.1, q.2.1⟩).2, va_AO.moved (u := U) (U := U.calling g mk a) (Vm.Alike.refl U.vm) q.2.2.1, va_AO.moved (u := U) (U := U.calling g mk a) (Vm.Alike.refl U.vm) q.2.2.2⟩, fun U hU hW => ⟨rfl, ⟨by rw [hU], by rw [hU]; exact hPc, va_K.moved hW.alike hK, hDc.weaken (fun _ _ _ _ => trivial), KS.into hKS hS hF hU hW⟩, va_AO.moved hW.alike hao.1, va_AO.moved hW.alike hao.2⟩⟩ rfl rfl hl.1 rfl (lv_room hw8) hd hce
  intro T hT Y
  obtain ⟨v, st₀, t, T', L', h0, X', hL, e1, e2, ⟨hv, ⟨w1, hw1, hP1, hD1⟩, hK1, hz, hk⟩, stp⟩ := hr T hT Y
  cases hv
  rw [h0] at hz hk
  rw [← e1] at hP1 hz hk
  obtain ⟨hP2, hD2⟩ := L_join hP hD hk hF hP1 hD1
  obtain ⟨t2, a1, b1⟩ := k w1 hw1 p e s m below meth c X T'.heap (locs ++ L') ls hP2 hD2 ⟨Nat.le_trans hS.1 hz, fun q h1 h2 => by rw [hk q (Nat.lt_of_lt_of_le h1 hS.1) (fun z => h2 (hF q z))]; exact hS.2.1 q h1 h2, fun q hq => by
      rcases List.mem_append.mp hq with h | h
      · exact hS.2.2 q h
      · exact hF _ (hL q h)⟩ hl T' rfl X'
  exact ⟨t2, stp t2 a1, b1⟩
/-- a call in the law, over worlds cut into pieces -/
theorem L.call {σ : Type} {ψ : σ → Option Value × va_W} {oc : Option σ} {x : σ} {y : MethodName} {cb : ByteArray} {nb n ci index b0 : Nat} {rb : Option FieldType} {rmc : Room} {As st0 : List Value} {wc : va_W} {fs : List Value} {ss ss' : List va_W} (ho : oc = some x) (hm : MV y cb nb rb n ci) (hlk : Cond.methodLink RL index y ∈ ut_bl) (hM : MT l D ks tys y cb nb rb rmc (.ref b0 :: As) wc ψ oc)
    (isR isC : List Nat) (nS : Nat) (hl0 : ss.length = nS) (hlen : ss'.length = nS) (hp : (List.range nS).isPerm (isR ++ isC) = true) (hC : (isC.map (fun i => ss.getD i [])).flatten = wc) (hC' : (isC.map (fun i => ss'.getD i [])).flatten = (ψ x).2) (hR : isR.map (fun i => ss'.getD i []) = isR.map (fun i => ss.getD i [])) (hst : st0 = As.reverse ++ .ref b0 :: st) (hAs : As.length = n) (hb : wc[0]? = some (b0, .inr (ci, fs))) (hro : rmc.cells = 0 ∧ rmc.slots = 0 ∧ rmc.frames + 1 ≤ 14 ∧ 8 + (nb + 11) + rmc.locals ≤ 546) (hce : kn ≤ 600000 ∧ nn ≤ 7302250) (hw8 : (st.map fun v => v.category).sum ≤ 8) (hd : decode code pc = .ok (.invokevirtual index, 3)) (s' : List Value) (hs' : (ψ x).1.toList ++ st = s')
    (k : LJ l D ks tys b L xs ss'.flatten kn nn (pc + 3) lv s') : LJ l D ks tys b L xs ss.flatten kn nn pc lv st0 := by
  obtain ⟨m1, m2, m3, m4, m5, T0, N, m6⟩ := hm
  subst hst
  subst hs'
  intro p e s m below meth c X H locs ls hP hD hS hl
  have hts := X.2.2.2.2.1
  have hK := X.2.2.2.2.2.2.2.1
  have hKS := X.2.2.2.2.2.2.2.2.2.2.1
  have hq := seg_perm ss isR isC (by rw [hl0]; exact hp)
  rw [hC] at hq
  have hP0 := P_perm hq hP
  have hD0 := D_perm hq hD
  have hPc : va_P D vwCl wc H := P_mem.mpr (fun q hq => P_mem.mp hP0 q (List.mem_append_right _ hq))
  have hDc : va_D (LA s) wc := by
    have hz := D_nd.mp hD0
    refine D_nd.mpr ⟨?_, fun q hq => hz.2 q (List.mem_append_right _ hq)⟩
    have := hz.1
    rw [List.map_append] at this
    exact (List.nodup_append.mp this).2.1
  have hF : ∀ q, va_A wc H.size q → LA s q := fun q h => by
    rcases h with ⟨j, e', h⟩ | h
    · exact hDc.2 j (q, e') h
    · exact Nat.le_trans hS.1 h
  have hr := va_runV (R := room_1) (As := As) (rest := st) (g := F0 m pc ls (As.reverse ++ .ref b0 :: st)) (cells := kn) (slots := nn) (locs := locs) (e := e) (below := below) (meth := meth) ⟨X.1, X.2.1, X.2.2.1, X.2.2.2.1, hts⟩ (hM x ho H.size) ⟨callB_of n hts (ug_in (fun _ h => h) m4) rfl hro.1 hro.2.1 (hts _ m3) (hts _ hlk) m5 hro.2.2, hts _ m1, hts _ m2⟩ ⟨MP.blind, va_recv hK hPc m6 hb, fun U hU hW => ⟨rfl, by rw [hU], by rw [hU]; exact hPc, va_K.moved hW.alike hK, hDc.weaken (fun _ _ _ _ => trivial), KS.into hKS hS hF hU hW⟩⟩ rfl hAs hl.1 rfl (lv_room hw8) hd hce
  intro T hT Y
  obtain ⟨v, st₀, t, T', L', h0, X', hL, e1, e2, ⟨hv, hP1, hK1, hD1, hz, hk⟩, stp⟩ := hr T hT Y
  cases hv
  rw [h0] at hz hk
  rw [← e1] at hP1 hz hk
  obtain ⟨hP2, hD2⟩ := L_join hP0 hD0 hk hF hP1 hD1
  have hq' := seg_perm ss' isR isC (by rw [hlen]; exact hp)
  rw [hC', hR] at hq'
  obtain ⟨t2, a1, b1⟩ := k p e s m below meth c X T'.heap (locs ++ L') ls (P_perm hq'.symm hP2) (D_perm hq'.symm hD2) ⟨Nat.le_trans hS.1 hz, fun q h1 h2 => by rw [hk q (Nat.lt_of_lt_of_le h1 hS.1) (fun z => h2 (hF q z))]; exact hS.2.1 q h1 h2, fun q hq => by
      rcases List.mem_append.mp hq with h | h
      · exact hS.2.2 q h
      · exact hF _ (hL q h)⟩ hl T' rfl X'
  exact ⟨t2, stp t2 a1, b1⟩
end LR
