/-! the rules of the judgement: one an instruction -/
theorem g_fm {α : Type} {w : List α} {is : List Nat} {w' : List α} (h : is.map (fun i => w[i]?) = w'.map some) : is.filterMap (fun i => w[i]?) = w' := by
  induction is generalizing w' with
  | nil =>
    cases w' with
    | nil => rfl
    | cons x t => cases h
  | cons i is ih =>
    cases w' with
    | nil => cases h
    | cons x t =>
      simp only [List.map_cons, List.cons.injEq] at h
      rw [List.filterMap_cons, h.1]
      simp only [ih h.2]
section GR2
variable {ρ : Type} {l : Launch} {D : va_G} {ks : Nat × Nat} {tys : List (ClassId × FieldType)} {own : String} {cc : ByteArray} {nL : Nat} {ret : Option FieldType} {rm : Room} {φ : ρ → Option Value × va_W} {w : va_W} {pc : Nat} {lv : List (Option Value)} {st : List Value} {o : Option ρ}
theorem G.iadd {x y : Int32} (hd : decode cc pc = .ok (.iadd, 1)) (k : GJ l D ks tys own cc nL ret rm φ w (pc + 1) lv (.int (x + y) :: st) o) : GJ l D ks tys own cc nL ret rm φ w pc lv (.int y :: .int x :: st) o :=
  fun r hr p e s m args below meth c A X H locs ls hP hD hS hl => lv_iadd X.1 X.2.1 hd (k r hr p e s m args below meth c A X H locs ls hP hD hS hl)
theorem G.isub {x y : Int32} (hd : decode cc pc = .ok (.isub, 1)) (k : GJ l D ks tys own cc nL ret rm φ w (pc + 1) lv (.int (x - y) :: st) o) : GJ l D ks tys own cc nL ret rm φ w pc lv (.int y :: .int x :: st) o :=
  fun r hr p e s m args below meth c A X H locs ls hP hD hS hl => lv_isub X.1 X.2.1 hd (k r hr p e s m args below meth c A X H locs ls hP hD hS hl)
theorem G.imul {x y : Int32} (hd : decode cc pc = .ok (.imul, 1)) (k : GJ l D ks tys own cc nL ret rm φ w (pc + 1) lv (.int (x * y) :: st) o) : GJ l D ks tys own cc nL ret rm φ w pc lv (.int y :: .int x :: st) o :=
  fun r hr p e s m args below meth c A X H locs ls hP hD hS hl => lv_imul X.1 X.2.1 hd (k r hr p e s m args below meth c A X H locs ls hP hD hS hl)
theorem G.iand {x y : Int32} (hd : decode cc pc = .ok (.iand, 1)) (k : GJ l D ks tys own cc nL ret rm φ w (pc + 1) lv (.int (x &&& y) :: st) o) : GJ l D ks tys own cc nL ret rm φ w pc lv (.int y :: .int x :: st) o :=
  fun r hr p e s m args below meth c A X H locs ls hP hD hS hl => lv_iand X.1 X.2.1 hd (k r hr p e s m args below meth c A X H locs ls hP hD hS hl)
theorem G.ior {x y : Int32} (hd : decode cc pc = .ok (.ior, 1)) (k : GJ l D ks tys own cc nL ret rm φ w (pc + 1) lv (.int (x ||| y) :: st) o) : GJ l D ks tys own cc nL ret rm φ w pc lv (.int y :: .int x :: st) o :=
  fun r hr p e s m args below meth c A X H locs ls hP hD hS hl => lv_ior X.1 X.2.1 hd (k r hr p e s m args below meth c A X H locs ls hP hD hS hl)
theorem G.ixor {x y : Int32} (hd : decode cc pc = .ok (.ixor, 1)) (k : GJ l D ks tys own cc nL ret rm φ w (pc + 1) lv (.int (x ^^^ y) :: st) o) : GJ l D ks tys own cc nL ret rm φ w pc lv (.int y :: .int x :: st) o :=
  fun r hr p e s m args below meth c A X H locs ls hP hD hS hl => lv_ixor X.1 X.2.1 hd (k r hr p e s m args below meth c A X H locs ls hP hD hS hl)
theorem G.ishl {x y : Int32} (hd : decode cc pc = .ok (.ishl, 1)) (k : GJ l D ks tys own cc nL ret rm φ w (pc + 1) lv (.int (x <<< (y &&& 31)) :: st) o) : GJ l D ks tys own cc nL ret rm φ w pc lv (.int y :: .int x :: st) o :=
  fun r hr p e s m args below meth c A X H locs ls hP hD hS hl => lv_ishl X.1 X.2.1 hd (k r hr p e s m args below meth c A X H locs ls hP hD hS hl)
theorem G.ishr {x y : Int32} (hd : decode cc pc = .ok (.ishr, 1)) (k : GJ l D ks tys own cc nL ret rm φ w (pc + 1) lv (.int (x >>> (y &&& 31)) :: st) o) : GJ l D ks tys own cc nL ret rm φ w pc lv (.int y :: .int x :: st) o :=
  fun r hr p e s m args below meth c A X H locs ls hP hD hS hl => lv_ishr X.1 X.2.1 hd (k r hr p e s m args below meth c A X H locs ls hP hD hS hl)
theorem G.idiv {x y : Int32} (hd : decode cc pc = .ok (.idiv, 1)) (hne : ¬ y = 0) (k : GJ l D ks tys own cc nL ret rm φ w (pc + 1) lv (.int (x / y) :: st) o) : GJ l D ks tys own cc nL ret rm φ w pc lv (.int y :: .int x :: st) o :=
  fun r hr p e s m args below meth c A X H locs ls hP hD hS hl => lv_idiv X.1 X.2.1 hd hne (k r hr p e s m args below meth c A X H locs ls hP hD hS hl)
theorem G.irem {x y : Int32} (hd : decode cc pc = .ok (.irem, 1)) (hne : ¬ y = 0) (k : GJ l D ks tys own cc nL ret rm φ w (pc + 1) lv (.int (x - x / y * y) :: st) o) : GJ l D ks tys own cc nL ret rm φ w pc lv (.int y :: .int x :: st) o :=
  fun r hr p e s m args below meth c A X H locs ls hP hD hS hl => lv_irem X.1 X.2.1 hd hne (k r hr p e s m args below meth c A X H locs ls hP hD hS hl)
theorem G.ineg {x : Int32} (hd : decode cc pc = .ok (.ineg, 1)) (k : GJ l D ks tys own cc nL ret rm φ w (pc + 1) lv (.int (-x) :: st) o) : GJ l D ks tys own cc nL ret rm φ w pc lv (.int x :: st) o :=
  fun r hr p e s m args below meth c A X H locs ls hP hD hS hl => lv_ineg X.1 X.2.1 hd (k r hr p e s m args below meth c A X H locs ls hP hD hS hl)
theorem G.ladd {x y : Int64} (hd : decode cc pc = .ok (.ladd, 1)) (k : GJ l D ks tys own cc nL ret rm φ w (pc + 1) lv (.long (x + y) :: st) o) : GJ l D ks tys own cc nL ret rm φ w pc lv (.long y :: .long x :: st) o :=
  fun r hr p e s m args below meth c A X H locs ls hP hD hS hl => lv_ladd X.1 X.2.1 hd (k r hr p e s m args below meth c A X H locs ls hP hD hS hl)
theorem G.lmul {x y : Int64} (hd : decode cc pc = .ok (.lmul, 1)) (k : GJ l D ks tys own cc nL ret rm φ w (pc + 1) lv (.long (x * y) :: st) o) : GJ l D ks tys own cc nL ret rm φ w pc lv (.long y :: .long x :: st) o :=
  fun r hr p e s m args below meth c A X H locs ls hP hD hS hl => lv_lmul X.1 X.2.1 hd (k r hr p e s m args below meth c A X H locs ls hP hD hS hl)
theorem G.land {x y : Int64} (hd : decode cc pc = .ok (.land, 1)) (k : GJ l D ks tys own cc nL ret rm φ w (pc + 1) lv (.long (x &&& y) :: st) o) : GJ l D ks tys own cc nL ret rm φ w pc lv (.long y :: .long x :: st) o :=
  fun r hr p e s m args below meth c A X H locs ls hP hD hS hl => lv_land X.1 X.2.1 hd (k r hr p e s m args below meth c A X H locs ls hP hD hS hl)
theorem G.lor {x y : Int64} (hd : decode cc pc = .ok (.lor, 1)) (k : GJ l D ks tys own cc nL ret rm φ w (pc + 1) lv (.long (x ||| y) :: st) o) : GJ l D ks tys own cc nL ret rm φ w pc lv (.long y :: .long x :: st) o :=
  fun r hr p e s m args below meth c A X H locs ls hP hD hS hl => lv_lor X.1 X.2.1 hd (k r hr p e s m args below meth c A X H locs ls hP hD hS hl)
theorem G.lcmp {x y : Int64} (hd : decode cc pc = .ok (.lcmp, 1)) (k : GJ l D ks tys own cc nL ret rm φ w (pc + 1) lv (.int (lg_cmp x y) :: st) o) : GJ l D ks tys own cc nL ret rm φ w pc lv (.long y :: .long x :: st) o :=
  fun r hr p e s m args below meth c A X H locs ls hP hD hS hl => W.lcmp X.1 X.2.1 hd (k r hr p e s m args below meth c A X H locs ls hP hD hS hl)
theorem G.i2l {x : Int32} (hd : decode cc pc = .ok (.i2l, 1)) (k : GJ l D ks tys own cc nL ret rm φ w (pc + 1) lv (.long x.toInt64 :: st) o) : GJ l D ks tys own cc nL ret rm φ w pc lv (.int x :: st) o :=
  fun r hr p e s m args below meth c A X H locs ls hP hD hS hl => lv_i2l X.1 X.2.1 hd rfl (k r hr p e s m args below meth c A X H locs ls hP hD hS hl)
theorem G.l2i {x : Int64} (hd : decode cc pc = .ok (.l2i, 1)) (k : GJ l D ks tys own cc nL ret rm φ w (pc + 1) lv (.int x.toInt32 :: st) o) : GJ l D ks tys own cc nL ret rm φ w pc lv (.long x :: st) o :=
  fun r hr p e s m args below meth c A X H locs ls hP hD hS hl => lv_l2i X.1 X.2.1 hd rfl (k r hr p e s m args below meth c A X H locs ls hP hD hS hl)
theorem G.i2b {x : Int32} (hd : decode cc pc = .ok (.i2b, 1)) (k : GJ l D ks tys own cc nL ret rm φ w (pc + 1) lv (.int x.toInt8.toInt32 :: st) o) : GJ l D ks tys own cc nL ret rm φ w pc lv (.int x :: st) o :=
  fun r hr p e s m args below meth c A X H locs ls hP hD hS hl => lv_i2b X.1 X.2.1 hd rfl (k r hr p e s m args below meth c A X H locs ls hP hD hS hl)
theorem G.i2s {x : Int32} (hd : decode cc pc = .ok (.i2s, 1)) (k : GJ l D ks tys own cc nL ret rm φ w (pc + 1) lv (.int x.toInt16.toInt32 :: st) o) : GJ l D ks tys own cc nL ret rm φ w pc lv (.int x :: st) o :=
  fun r hr p e s m args below meth c A X H locs ls hP hD hS hl => lv_i2s X.1 X.2.1 hd rfl (k r hr p e s m args below meth c A X H locs ls hP hD hS hl)
theorem G.i2c {x : Int32} (hd : decode cc pc = .ok (.i2c, 1)) (k : GJ l D ks tys own cc nL ret rm φ w (pc + 1) lv (.int (x.toUInt32 % 65536).toInt32 :: st) o) : GJ l D ks tys own cc nL ret rm φ w pc lv (.int x :: st) o :=
  fun r hr p e s m args below meth c A X H locs ls hP hD hS hl => lv_i2c X.1 X.2.1 hd rfl (k r hr p e s m args below meth c A X H locs ls hP hD hS hl)
theorem G.lconst {n : Fin 2} (v : Int64) (hd : decode cc pc = .ok (.lconst n, 1)) (hv : Int64.ofNat n = v) (k : GJ l D ks tys own cc nL ret rm φ w (pc + 1) lv (.long v :: st) o) : GJ l D ks tys own cc nL ret rm φ w pc lv (st) o :=
  fun r hr p e s m args below meth c A X H locs ls hP hD hS hl => lv_lconst X.1 X.2.1 hd hv (k r hr p e s m args below meth c A X H locs ls hP hD hS hl)
theorem G.dup {va : Value} (hd : decode cc pc = .ok (.dup, 1)) (hva : va.category = 1) (k : GJ l D ks tys own cc nL ret rm φ w (pc + 1) lv (va :: va :: st) o) : GJ l D ks tys own cc nL ret rm φ w pc lv (va :: st) o :=
  fun r hr p e s m args below meth c A X H locs ls hP hD hS hl => lv_dup X.1 X.2.1 hd hva (k r hr p e s m args below meth c A X H locs ls hP hD hS hl)
theorem G.pop {va : Value} (hd : decode cc pc = .ok (.pop, 1)) (hva : va.category = 1) (k : GJ l D ks tys own cc nL ret rm φ w (pc + 1) lv (st) o) : GJ l D ks tys own cc nL ret rm φ w pc lv (va :: st) o :=
  fun r hr p e s m args below meth c A X H locs ls hP hD hS hl => lv_pop X.1 X.2.1 hd hva (k r hr p e s m args below meth c A X H locs ls hP hD hS hl)
theorem G.dup2 {va vb : Value} (hd : decode cc pc = .ok (.dup2, 1)) (hva : va.category = 1) (hvb : vb.category = 1) (k : GJ l D ks tys own cc nL ret rm φ w (pc + 1) lv (va :: vb :: va :: vb :: st) o) : GJ l D ks tys own cc nL ret rm φ w pc lv (va :: vb :: st) o :=
  fun r hr p e s m args below meth c A X H locs ls hP hD hS hl => lv_dup2_11 X.1 X.2.1 hd hva hvb (k r hr p e s m args below meth c A X H locs ls hP hD hS hl)
theorem G.goto {off : Int} (tgt : Nat) (hd : decode cc pc = .ok (.goto off, 3)) (ht : (pc : Int) + off = (tgt : Int)) (k : GJ l D ks tys own cc nL ret rm φ w tgt lv st o) : GJ l D ks tys own cc nL ret rm φ w pc lv st o :=
  fun r hr p e s m args below meth c A X H locs ls hP hD hS hl => lv_goto X.1 X.2.1 hd ht (k r hr p e s m args below meth c A X H locs ls hP hD hS hl)
theorem g_nlt {x y : Int32} (h : y ≤ x) : ¬ x < y := by
  rw [Int32.lt_iff_toInt_lt]
  rw [Int32.le_iff_toInt_le] at h
  omega
theorem g_lt {x y : Int32} (h : ¬ y ≤ x) : x < y := by
  rw [Int32.lt_iff_toInt_lt]
  rw [Int32.le_iff_toInt_le] at h
  omega
theorem g_nn {P : Prop} (h : ¬ ¬ P) : P := Classical.not_not.mp h
theorem G.icmp_eq {x y : Int32} {off : Int} {o1 o2 : Option ρ} (tgt : Nat) (hd : decode cc pc = .ok (.if_icmp .eq off, 3)) (ht : (pc : Int) + off = (tgt : Int)) (kt : x = y → GJ l D ks tys own cc nL ret rm φ w tgt lv st o1) (kf : ¬ x = y → GJ l D ks tys own cc nL ret rm φ w (pc + 3) lv st o2) : GJ l D ks tys own cc nL ret rm φ w pc lv (.int y :: .int x :: st) (if x = y then o1 else o2) := by
  intro r hr p e s m args below meth c A X H locs ls hP hD hS hl
  exact lv_icmp_eq X.1 X.2.1 hd ht (fun h => kt (h) r (by rw [if_pos (h)] at hr; exact hr) p e s m args below meth c A X H locs ls hP hD hS hl) (fun h => kf (h) r (by rw [if_neg (h)] at hr; exact hr) p e s m args below meth c A X H locs ls hP hD hS hl)
theorem G.icmp_eq_t {x y : Int32} {off : Int} (tgt : Nat) (hc : x = y) (hd : decode cc pc = .ok (.if_icmp .eq off, 3)) (ht : (pc : Int) + off = (tgt : Int)) (k : GJ l D ks tys own cc nL ret rm φ w tgt lv st o) : GJ l D ks tys own cc nL ret rm φ w pc lv (.int y :: .int x :: st) o :=
  fun r hr p e s m args below meth c A X H locs ls hP hD hS hl => lv_icmp_eq X.1 X.2.1 hd ht (fun _ => k r hr p e s m args below meth c A X H locs ls hP hD hS hl) (fun h => absurd hc h)
theorem G.icmp_eq_f {x y : Int32} {off : Int} (tgt : Nat) (hc : ¬ x = y) (hd : decode cc pc = .ok (.if_icmp .eq off, 3)) (ht : (pc : Int) + off = (tgt : Int)) (k : GJ l D ks tys own cc nL ret rm φ w (pc + 3) lv st o) : GJ l D ks tys own cc nL ret rm φ w pc lv (.int y :: .int x :: st) o :=
  fun r hr p e s m args below meth c A X H locs ls hP hD hS hl => lv_icmp_eq X.1 X.2.1 hd ht (fun h => absurd h hc) (fun _ => k r hr p e s m args below meth c A X H locs ls hP hD hS hl)
theorem G.icmp_ne {x y : Int32} {off : Int} {o1 o2 : Option ρ} (tgt : Nat) (hd : decode cc pc = .ok (.if_icmp .ne off, 3)) (ht : (pc : Int) + off = (tgt : Int)) (kt : ¬ x = y → GJ l D ks tys own cc nL ret rm φ w tgt lv st o2) (kf : x = y → GJ l D ks tys own cc nL ret rm φ w (pc + 3) lv st o1) : GJ l D ks tys own cc nL ret rm φ w pc lv (.int y :: .int x :: st) (if x = y then o1 else o2) := by
  intro r hr p e s m args below meth c A X H locs ls hP hD hS hl
  exact lv_icmp_ne X.1 X.2.1 hd ht (fun h => kt (h) r (by rw [if_neg (h)] at hr; exact hr) p e s m args below meth c A X H locs ls hP hD hS hl) (fun h => kf (h) r (by rw [if_pos (h)] at hr; exact hr) p e s m args below meth c A X H locs ls hP hD hS hl)
theorem G.icmp_ne_t {x y : Int32} {off : Int} (tgt : Nat) (hc : ¬ x = y) (hd : decode cc pc = .ok (.if_icmp .ne off, 3)) (ht : (pc : Int) + off = (tgt : Int)) (k : GJ l D ks tys own cc nL ret rm φ w tgt lv st o) : GJ l D ks tys own cc nL ret rm φ w pc lv (.int y :: .int x :: st) o :=
  fun r hr p e s m args below meth c A X H locs ls hP hD hS hl => lv_icmp_ne X.1 X.2.1 hd ht (fun _ => k r hr p e s m args below meth c A X H locs ls hP hD hS hl) (fun h => absurd h hc)
theorem G.icmp_ne_f {x y : Int32} {off : Int} (tgt : Nat) (hc : x = y) (hd : decode cc pc = .ok (.if_icmp .ne off, 3)) (ht : (pc : Int) + off = (tgt : Int)) (k : GJ l D ks tys own cc nL ret rm φ w (pc + 3) lv st o) : GJ l D ks tys own cc nL ret rm φ w pc lv (.int y :: .int x :: st) o :=
  fun r hr p e s m args below meth c A X H locs ls hP hD hS hl => lv_icmp_ne X.1 X.2.1 hd ht (fun h => absurd hc h) (fun _ => k r hr p e s m args below meth c A X H locs ls hP hD hS hl)
theorem G.icmp_lt {x y : Int32} {off : Int} {o1 o2 : Option ρ} (tgt : Nat) (hd : decode cc pc = .ok (.if_icmp .lt off, 3)) (ht : (pc : Int) + off = (tgt : Int)) (kt : x < y → GJ l D ks tys own cc nL ret rm φ w tgt lv st o1) (kf : ¬ x < y → GJ l D ks tys own cc nL ret rm φ w (pc + 3) lv st o2) : GJ l D ks tys own cc nL ret rm φ w pc lv (.int y :: .int x :: st) (if x < y then o1 else o2) := by
  intro r hr p e s m args below meth c A X H locs ls hP hD hS hl
  exact lv_icmp_lt X.1 X.2.1 hd ht (fun h => kt (h) r (by rw [if_pos (h)] at hr; exact hr) p e s m args below meth c A X H locs ls hP hD hS hl) (fun h => kf (h) r (by rw [if_neg (h)] at hr; exact hr) p e s m args below meth c A X H locs ls hP hD hS hl)
theorem G.icmp_lt_t {x y : Int32} {off : Int} (tgt : Nat) (hc : x < y) (hd : decode cc pc = .ok (.if_icmp .lt off, 3)) (ht : (pc : Int) + off = (tgt : Int)) (k : GJ l D ks tys own cc nL ret rm φ w tgt lv st o) : GJ l D ks tys own cc nL ret rm φ w pc lv (.int y :: .int x :: st) o :=
  fun r hr p e s m args below meth c A X H locs ls hP hD hS hl => lv_icmp_lt X.1 X.2.1 hd ht (fun _ => k r hr p e s m args below meth c A X H locs ls hP hD hS hl) (fun h => absurd hc h)
theorem G.icmp_lt_f {x y : Int32} {off : Int} (tgt : Nat) (hc : ¬ x < y) (hd : decode cc pc = .ok (.if_icmp .lt off, 3)) (ht : (pc : Int) + off = (tgt : Int)) (k : GJ l D ks tys own cc nL ret rm φ w (pc + 3) lv st o) : GJ l D ks tys own cc nL ret rm φ w pc lv (.int y :: .int x :: st) o :=
  fun r hr p e s m args below meth c A X H locs ls hP hD hS hl => lv_icmp_lt X.1 X.2.1 hd ht (fun h => absurd h hc) (fun _ => k r hr p e s m args below meth c A X H locs ls hP hD hS hl)
theorem G.icmp_ge {x y : Int32} {off : Int} {o1 o2 : Option ρ} (tgt : Nat) (hd : decode cc pc = .ok (.if_icmp .ge off, 3)) (ht : (pc : Int) + off = (tgt : Int)) (kt : ¬ x < y → GJ l D ks tys own cc nL ret rm φ w tgt lv st o2) (kf : x < y → GJ l D ks tys own cc nL ret rm φ w (pc + 3) lv st o1) : GJ l D ks tys own cc nL ret rm φ w pc lv (.int y :: .int x :: st) (if x < y then o1 else o2) := by
  intro r hr p e s m args below meth c A X H locs ls hP hD hS hl
  exact lv_icmp_ge X.1 X.2.1 hd ht (fun h => kt (g_nlt h) r (by rw [if_neg (g_nlt h)] at hr; exact hr) p e s m args below meth c A X H locs ls hP hD hS hl) (fun h => kf (g_lt h) r (by rw [if_pos (g_lt h)] at hr; exact hr) p e s m args below meth c A X H locs ls hP hD hS hl)
theorem G.icmp_ge_t {x y : Int32} {off : Int} (tgt : Nat) (hc : ¬ x < y) (hd : decode cc pc = .ok (.if_icmp .ge off, 3)) (ht : (pc : Int) + off = (tgt : Int)) (k : GJ l D ks tys own cc nL ret rm φ w tgt lv st o) : GJ l D ks tys own cc nL ret rm φ w pc lv (.int y :: .int x :: st) o :=
  fun r hr p e s m args below meth c A X H locs ls hP hD hS hl => lv_icmp_ge X.1 X.2.1 hd ht (fun _ => k r hr p e s m args below meth c A X H locs ls hP hD hS hl) (fun h => absurd (g_lt h) hc)
theorem G.icmp_ge_f {x y : Int32} {off : Int} (tgt : Nat) (hc : x < y) (hd : decode cc pc = .ok (.if_icmp .ge off, 3)) (ht : (pc : Int) + off = (tgt : Int)) (k : GJ l D ks tys own cc nL ret rm φ w (pc + 3) lv st o) : GJ l D ks tys own cc nL ret rm φ w pc lv (.int y :: .int x :: st) o :=
  fun r hr p e s m args below meth c A X H locs ls hP hD hS hl => lv_icmp_ge X.1 X.2.1 hd ht (fun h => absurd hc (g_nlt h)) (fun _ => k r hr p e s m args below meth c A X H locs ls hP hD hS hl)
theorem G.icmp_gt {x y : Int32} {off : Int} {o1 o2 : Option ρ} (tgt : Nat) (hd : decode cc pc = .ok (.if_icmp .gt off, 3)) (ht : (pc : Int) + off = (tgt : Int)) (kt : y < x → GJ l D ks tys own cc nL ret rm φ w tgt lv st o1) (kf : ¬ y < x → GJ l D ks tys own cc nL ret rm φ w (pc + 3) lv st o2) : GJ l D ks tys own cc nL ret rm φ w pc lv (.int y :: .int x :: st) (if y < x then o1 else o2) := by
  intro r hr p e s m args below meth c A X H locs ls hP hD hS hl
  exact lv_icmp_gt X.1 X.2.1 hd ht (fun h => kt (h) r (by rw [if_pos (h)] at hr; exact hr) p e s m args below meth c A X H locs ls hP hD hS hl) (fun h => kf (h) r (by rw [if_neg (h)] at hr; exact hr) p e s m args below meth c A X H locs ls hP hD hS hl)
theorem G.icmp_gt_t {x y : Int32} {off : Int} (tgt : Nat) (hc : y < x) (hd : decode cc pc = .ok (.if_icmp .gt off, 3)) (ht : (pc : Int) + off = (tgt : Int)) (k : GJ l D ks tys own cc nL ret rm φ w tgt lv st o) : GJ l D ks tys own cc nL ret rm φ w pc lv (.int y :: .int x :: st) o :=
  fun r hr p e s m args below meth c A X H locs ls hP hD hS hl => lv_icmp_gt X.1 X.2.1 hd ht (fun _ => k r hr p e s m args below meth c A X H locs ls hP hD hS hl) (fun h => absurd hc h)
theorem G.icmp_gt_f {x y : Int32} {off : Int} (tgt : Nat) (hc : ¬ y < x) (hd : decode cc pc = .ok (.if_icmp .gt off, 3)) (ht : (pc : Int) + off = (tgt : Int)) (k : GJ l D ks tys own cc nL ret rm φ w (pc + 3) lv st o) : GJ l D ks tys own cc nL ret rm φ w pc lv (.int y :: .int x :: st) o :=
  fun r hr p e s m args below meth c A X H locs ls hP hD hS hl => lv_icmp_gt X.1 X.2.1 hd ht (fun h => absurd h hc) (fun _ => k r hr p e s m args below meth c A X H locs ls hP hD hS hl)
theorem G.icmp_le {x y : Int32} {off : Int} {o1 o2 : Option ρ} (tgt : Nat) (hd : decode cc pc = .ok (.if_icmp .le off, 3)) (ht : (pc : Int) + off = (tgt : Int)) (kt : ¬ y < x → GJ l D ks tys own cc nL ret rm φ w tgt lv st o2) (kf : y < x → GJ l D ks tys own cc nL ret rm φ w (pc + 3) lv st o1) : GJ l D ks tys own cc nL ret rm φ w pc lv (.int y :: .int x :: st) (if y < x then o1 else o2) := by
  intro r hr p e s m args below meth c A X H locs ls hP hD hS hl
  exact lv_icmp_le X.1 X.2.1 hd ht (fun h => kt (g_nlt h) r (by rw [if_neg (g_nlt h)] at hr; exact hr) p e s m args below meth c A X H locs ls hP hD hS hl) (fun h => kf (g_lt h) r (by rw [if_pos (g_lt h)] at hr; exact hr) p e s m args below meth c A X H locs ls hP hD hS hl)
theorem G.icmp_le_t {x y : Int32} {off : Int} (tgt : Nat) (hc : ¬ y < x) (hd : decode cc pc = .ok (.if_icmp .le off, 3)) (ht : (pc : Int) + off = (tgt : Int)) (k : GJ l D ks tys own cc nL ret rm φ w tgt lv st o) : GJ l D ks tys own cc nL ret rm φ w pc lv (.int y :: .int x :: st) o :=
  fun r hr p e s m args below meth c A X H locs ls hP hD hS hl => lv_icmp_le X.1 X.2.1 hd ht (fun _ => k r hr p e s m args below meth c A X H locs ls hP hD hS hl) (fun h => absurd (g_lt h) hc)
theorem G.icmp_le_f {x y : Int32} {off : Int} (tgt : Nat) (hc : y < x) (hd : decode cc pc = .ok (.if_icmp .le off, 3)) (ht : (pc : Int) + off = (tgt : Int)) (k : GJ l D ks tys own cc nL ret rm φ w (pc + 3) lv st o) : GJ l D ks tys own cc nL ret rm φ w pc lv (.int y :: .int x :: st) o :=
  fun r hr p e s m args below meth c A X H locs ls hP hD hS hl => lv_icmp_le X.1 X.2.1 hd ht (fun h => absurd hc (g_nlt h)) (fun _ => k r hr p e s m args below meth c A X H locs ls hP hD hS hl)
theorem G.if_eq {x : Int32} {off : Int} {o1 o2 : Option ρ} (tgt : Nat) (hd : decode cc pc = .ok (.ifCond .eq off, 3)) (ht : (pc : Int) + off = (tgt : Int)) (kt : x = 0 → GJ l D ks tys own cc nL ret rm φ w tgt lv st o1) (kf : ¬ x = 0 → GJ l D ks tys own cc nL ret rm φ w (pc + 3) lv st o2) : GJ l D ks tys own cc nL ret rm φ w pc lv (.int x :: st) (if x = 0 then o1 else o2) := by
  intro r hr p e s m args below meth c A X H locs ls hP hD hS hl
  exact lv_if_eq X.1 X.2.1 hd ht (fun h => kt (h) r (by rw [if_pos (h)] at hr; exact hr) p e s m args below meth c A X H locs ls hP hD hS hl) (fun h => kf (h) r (by rw [if_neg (h)] at hr; exact hr) p e s m args below meth c A X H locs ls hP hD hS hl)
theorem G.if_eq_t {x : Int32} {off : Int} (tgt : Nat) (hc : x = 0) (hd : decode cc pc = .ok (.ifCond .eq off, 3)) (ht : (pc : Int) + off = (tgt : Int)) (k : GJ l D ks tys own cc nL ret rm φ w tgt lv st o) : GJ l D ks tys own cc nL ret rm φ w pc lv (.int x :: st) o :=
  fun r hr p e s m args below meth c A X H locs ls hP hD hS hl => lv_if_eq X.1 X.2.1 hd ht (fun _ => k r hr p e s m args below meth c A X H locs ls hP hD hS hl) (fun h => absurd hc h)
theorem G.if_eq_f {x : Int32} {off : Int} (tgt : Nat) (hc : ¬ x = 0) (hd : decode cc pc = .ok (.ifCond .eq off, 3)) (ht : (pc : Int) + off = (tgt : Int)) (k : GJ l D ks tys own cc nL ret rm φ w (pc + 3) lv st o) : GJ l D ks tys own cc nL ret rm φ w pc lv (.int x :: st) o :=
  fun r hr p e s m args below meth c A X H locs ls hP hD hS hl => lv_if_eq X.1 X.2.1 hd ht (fun h => absurd h hc) (fun _ => k r hr p e s m args below meth c A X H locs ls hP hD hS hl)
theorem G.if_ne {x : Int32} {off : Int} {o1 o2 : Option ρ} (tgt : Nat) (hd : decode cc pc = .ok (.ifCond .ne off, 3)) (ht : (pc : Int) + off = (tgt : Int)) (kt : ¬ x = 0 → GJ l D ks tys own cc nL ret rm φ w tgt lv st o2) (kf : x = 0 → GJ l D ks tys own cc nL ret rm φ w (pc + 3) lv st o1) : GJ l D ks tys own cc nL ret rm φ w pc lv (.int x :: st) (if x = 0 then o1 else o2) := by
  intro r hr p e s m args below meth c A X H locs ls hP hD hS hl
  exact lv_if_ne X.1 X.2.1 hd ht (fun h => kt (h) r (by rw [if_neg (h)] at hr; exact hr) p e s m args below meth c A X H locs ls hP hD hS hl) (fun h => kf (h) r (by rw [if_pos (h)] at hr; exact hr) p e s m args below meth c A X H locs ls hP hD hS hl)
theorem G.if_ne_t {x : Int32} {off : Int} (tgt : Nat) (hc : ¬ x = 0) (hd : decode cc pc = .ok (.ifCond .ne off, 3)) (ht : (pc : Int) + off = (tgt : Int)) (k : GJ l D ks tys own cc nL ret rm φ w tgt lv st o) : GJ l D ks tys own cc nL ret rm φ w pc lv (.int x :: st) o :=
  fun r hr p e s m args below meth c A X H locs ls hP hD hS hl => lv_if_ne X.1 X.2.1 hd ht (fun _ => k r hr p e s m args below meth c A X H locs ls hP hD hS hl) (fun h => absurd h hc)
theorem G.if_ne_f {x : Int32} {off : Int} (tgt : Nat) (hc : x = 0) (hd : decode cc pc = .ok (.ifCond .ne off, 3)) (ht : (pc : Int) + off = (tgt : Int)) (k : GJ l D ks tys own cc nL ret rm φ w (pc + 3) lv st o) : GJ l D ks tys own cc nL ret rm φ w pc lv (.int x :: st) o :=
  fun r hr p e s m args below meth c A X H locs ls hP hD hS hl => lv_if_ne X.1 X.2.1 hd ht (fun h => absurd hc h) (fun _ => k r hr p e s m args below meth c A X H locs ls hP hD hS hl)
theorem G.if_lt {x : Int32} {off : Int} {o1 o2 : Option ρ} (tgt : Nat) (hd : decode cc pc = .ok (.ifCond .lt off, 3)) (ht : (pc : Int) + off = (tgt : Int)) (kt : x < 0 → GJ l D ks tys own cc nL ret rm φ w tgt lv st o1) (kf : ¬ x < 0 → GJ l D ks tys own cc nL ret rm φ w (pc + 3) lv st o2) : GJ l D ks tys own cc nL ret rm φ w pc lv (.int x :: st) (if x < 0 then o1 else o2) := by
  intro r hr p e s m args below meth c A X H locs ls hP hD hS hl
  exact lv_if_lt X.1 X.2.1 hd ht (fun h => kt (h) r (by rw [if_pos (h)] at hr; exact hr) p e s m args below meth c A X H locs ls hP hD hS hl) (fun h => kf (h) r (by rw [if_neg (h)] at hr; exact hr) p e s m args below meth c A X H locs ls hP hD hS hl)
theorem G.if_lt_t {x : Int32} {off : Int} (tgt : Nat) (hc : x < 0) (hd : decode cc pc = .ok (.ifCond .lt off, 3)) (ht : (pc : Int) + off = (tgt : Int)) (k : GJ l D ks tys own cc nL ret rm φ w tgt lv st o) : GJ l D ks tys own cc nL ret rm φ w pc lv (.int x :: st) o :=
  fun r hr p e s m args below meth c A X H locs ls hP hD hS hl => lv_if_lt X.1 X.2.1 hd ht (fun _ => k r hr p e s m args below meth c A X H locs ls hP hD hS hl) (fun h => absurd hc h)
theorem G.if_lt_f {x : Int32} {off : Int} (tgt : Nat) (hc : ¬ x < 0) (hd : decode cc pc = .ok (.ifCond .lt off, 3)) (ht : (pc : Int) + off = (tgt : Int)) (k : GJ l D ks tys own cc nL ret rm φ w (pc + 3) lv st o) : GJ l D ks tys own cc nL ret rm φ w pc lv (.int x :: st) o :=
  fun r hr p e s m args below meth c A X H locs ls hP hD hS hl => lv_if_lt X.1 X.2.1 hd ht (fun h => absurd h hc) (fun _ => k r hr p e s m args below meth c A X H locs ls hP hD hS hl)
theorem G.if_ge {x : Int32} {off : Int} {o1 o2 : Option ρ} (tgt : Nat) (hd : decode cc pc = .ok (.ifCond .ge off, 3)) (ht : (pc : Int) + off = (tgt : Int)) (kt : ¬ x < 0 → GJ l D ks tys own cc nL ret rm φ w tgt lv st o2) (kf : x < 0 → GJ l D ks tys own cc nL ret rm φ w (pc + 3) lv st o1) : GJ l D ks tys own cc nL ret rm φ w pc lv (.int x :: st) (if x < 0 then o1 else o2) := by
  intro r hr p e s m args below meth c A X H locs ls hP hD hS hl
  exact lv_if_ge X.1 X.2.1 hd ht (fun h => kt (g_nlt h) r (by rw [if_neg (g_nlt h)] at hr; exact hr) p e s m args below meth c A X H locs ls hP hD hS hl) (fun h => kf (g_lt h) r (by rw [if_pos (g_lt h)] at hr; exact hr) p e s m args below meth c A X H locs ls hP hD hS hl)
theorem G.if_ge_t {x : Int32} {off : Int} (tgt : Nat) (hc : ¬ x < 0) (hd : decode cc pc = .ok (.ifCond .ge off, 3)) (ht : (pc : Int) + off = (tgt : Int)) (k : GJ l D ks tys own cc nL ret rm φ w tgt lv st o) : GJ l D ks tys own cc nL ret rm φ w pc lv (.int x :: st) o :=
  fun r hr p e s m args below meth c A X H locs ls hP hD hS hl => lv_if_ge X.1 X.2.1 hd ht (fun _ => k r hr p e s m args below meth c A X H locs ls hP hD hS hl) (fun h => absurd (g_lt h) hc)
theorem G.if_ge_f {x : Int32} {off : Int} (tgt : Nat) (hc : x < 0) (hd : decode cc pc = .ok (.ifCond .ge off, 3)) (ht : (pc : Int) + off = (tgt : Int)) (k : GJ l D ks tys own cc nL ret rm φ w (pc + 3) lv st o) : GJ l D ks tys own cc nL ret rm φ w pc lv (.int x :: st) o :=
  fun r hr p e s m args below meth c A X H locs ls hP hD hS hl => lv_if_ge X.1 X.2.1 hd ht (fun h => absurd hc (g_nlt h)) (fun _ => k r hr p e s m args below meth c A X H locs ls hP hD hS hl)
theorem G.if_gt {x : Int32} {off : Int} {o1 o2 : Option ρ} (tgt : Nat) (hd : decode cc pc = .ok (.ifCond .gt off, 3)) (ht : (pc : Int) + off = (tgt : Int)) (kt : 0 < x → GJ l D ks tys own cc nL ret rm φ w tgt lv st o1) (kf : ¬ 0 < x → GJ l D ks tys own cc nL ret rm φ w (pc + 3) lv st o2) : GJ l D ks tys own cc nL ret rm φ w pc lv (.int x :: st) (if 0 < x then o1 else o2) := by
  intro r hr p e s m args below meth c A X H locs ls hP hD hS hl
  exact lv_if_gt X.1 X.2.1 hd ht (fun h => kt (h) r (by rw [if_pos (h)] at hr; exact hr) p e s m args below meth c A X H locs ls hP hD hS hl) (fun h => kf (h) r (by rw [if_neg (h)] at hr; exact hr) p e s m args below meth c A X H locs ls hP hD hS hl)
theorem G.if_gt_t {x : Int32} {off : Int} (tgt : Nat) (hc : 0 < x) (hd : decode cc pc = .ok (.ifCond .gt off, 3)) (ht : (pc : Int) + off = (tgt : Int)) (k : GJ l D ks tys own cc nL ret rm φ w tgt lv st o) : GJ l D ks tys own cc nL ret rm φ w pc lv (.int x :: st) o :=
  fun r hr p e s m args below meth c A X H locs ls hP hD hS hl => lv_if_gt X.1 X.2.1 hd ht (fun _ => k r hr p e s m args below meth c A X H locs ls hP hD hS hl) (fun h => absurd hc h)
theorem G.if_gt_f {x : Int32} {off : Int} (tgt : Nat) (hc : ¬ 0 < x) (hd : decode cc pc = .ok (.ifCond .gt off, 3)) (ht : (pc : Int) + off = (tgt : Int)) (k : GJ l D ks tys own cc nL ret rm φ w (pc + 3) lv st o) : GJ l D ks tys own cc nL ret rm φ w pc lv (.int x :: st) o :=
  fun r hr p e s m args below meth c A X H locs ls hP hD hS hl => lv_if_gt X.1 X.2.1 hd ht (fun h => absurd h hc) (fun _ => k r hr p e s m args below meth c A X H locs ls hP hD hS hl)
theorem G.if_le {x : Int32} {off : Int} {o1 o2 : Option ρ} (tgt : Nat) (hd : decode cc pc = .ok (.ifCond .le off, 3)) (ht : (pc : Int) + off = (tgt : Int)) (kt : ¬ 0 < x → GJ l D ks tys own cc nL ret rm φ w tgt lv st o2) (kf : 0 < x → GJ l D ks tys own cc nL ret rm φ w (pc + 3) lv st o1) : GJ l D ks tys own cc nL ret rm φ w pc lv (.int x :: st) (if 0 < x then o1 else o2) := by
  intro r hr p e s m args below meth c A X H locs ls hP hD hS hl
  exact lv_if_le X.1 X.2.1 hd ht (fun h => kt (g_nlt h) r (by rw [if_neg (g_nlt h)] at hr; exact hr) p e s m args below meth c A X H locs ls hP hD hS hl) (fun h => kf (g_lt h) r (by rw [if_pos (g_lt h)] at hr; exact hr) p e s m args below meth c A X H locs ls hP hD hS hl)
theorem G.if_le_t {x : Int32} {off : Int} (tgt : Nat) (hc : ¬ 0 < x) (hd : decode cc pc = .ok (.ifCond .le off, 3)) (ht : (pc : Int) + off = (tgt : Int)) (k : GJ l D ks tys own cc nL ret rm φ w tgt lv st o) : GJ l D ks tys own cc nL ret rm φ w pc lv (.int x :: st) o :=
  fun r hr p e s m args below meth c A X H locs ls hP hD hS hl => lv_if_le X.1 X.2.1 hd ht (fun _ => k r hr p e s m args below meth c A X H locs ls hP hD hS hl) (fun h => absurd (g_lt h) hc)
theorem G.if_le_f {x : Int32} {off : Int} (tgt : Nat) (hc : 0 < x) (hd : decode cc pc = .ok (.ifCond .le off, 3)) (ht : (pc : Int) + off = (tgt : Int)) (k : GJ l D ks tys own cc nL ret rm φ w (pc + 3) lv st o) : GJ l D ks tys own cc nL ret rm φ w pc lv (.int x :: st) o :=
  fun r hr p e s m args below meth c A X H locs ls hP hD hS hl => lv_if_le X.1 X.2.1 hd ht (fun h => absurd hc (g_nlt h)) (fun _ => k r hr p e s m args below meth c A X H locs ls hP hD hS hl)
def isb (v : Int32) : Bool := v == 0 || v == 1
theorem isb_n {v : Int32} (h : isb v = true) : narrow .boolean (.int v) = .int v := by
  simp only [isb, Bool.or_eq_true, beq_iff_eq] at h
  rcases h with rfl | rfl <;> rfl
theorem isb_f {v : Int32} (h : isb v = true) : fits .boolean (.int v) = true := by
  simp only [isb, Bool.or_eq_true, beq_iff_eq] at h
  rcases h with rfl | rfl <;> rfl
def inb (i : Int32) (n : Nat) : Bool := decide (0 ≤ i) && decide (i.toNatClampNeg < n)
theorem inb_vp {i : Int32} {n : Nat} (h : inb i n = true) : vp_in i n := by
  simp only [inb, Bool.and_eq_true, decide_eq_true_eq] at h
  intro h2
  rcases h2 with h2 | h2
  · exact absurd h2 (g_nlt h.1)
  · omega
theorem G.tin {dflt lo hi : Int} {offs : Array Int} {len : Nat} {x : Int32} {off : Int} (v : Int32) (tgt : Nat) (hx : x = v) (hd : decode cc pc = .ok (.tableswitch dflt lo hi offs, len)) (h1 : ¬ v.toInt < lo) (h2 : ¬ hi < v.toInt) (ho : offs[(v.toInt - lo).toNat]? = some off) (ht : (pc : Int) + off = (tgt : Int)) (k : GJ l D ks tys own cc nL ret rm φ w tgt lv st o) : GJ l D ks tys own cc nL ret rm φ w pc lv (.int x :: st) o := by
  subst hx
  exact fun r hr p e s m args below meth c A X H locs ls hP hD hS hl => lv_tableIn X.1 X.2.1 hd h1 h2 ho ht (k r hr p e s m args below meth c A X H locs ls hP hD hS hl)
theorem g_out {x : Int32} (n : Nat) (hn : n < 1000) (h : ∀ k, k < n → ¬ x = nI k) : x.toInt < 0 ∨ (n : Int) - 1 < x.toInt := by
  by_cases h0 : x.toInt < 0
  · exact Or.inl h0
  · right
    by_cases h1 : (n : Int) - 1 < x.toInt
    · exact h1
    · exfalso
      refine h x.toInt.toNat (by omega) ?_
      apply Int32.toInt_inj.mp
      rw [nI_toInt (by omega)]
      omega
theorem g_or4 {j : Nat} (h : j < 4) : j = 0 ∨ j = 1 ∨ j = 2 ∨ j = 3 := by omega
theorem g_or8 {j : Nat} (h : j < 8) : j = 0 ∨ j = 1 ∨ j = 2 ∨ j = 3 ∨ j = 4 ∨ j = 5 ∨ j = 6 ∨ j = 7 := by omega
theorem g_o3 {x : Int32} (h0 : ¬ x = 0) (h1 : ¬ x = 1) (h2 : ¬ x = 2) : x.toInt < 0 ∨ 2 < x.toInt := by
  refine g_out 3 (by decide) (fun k hk => ?_)
  rcases (show k = 0 ∨ k = 1 ∨ k = 2 by omega) with rfl | rfl | rfl <;> assumption
theorem g_o4 {x : Int32} (h0 : ¬ x = 0) (h1 : ¬ x = 1) (h2 : ¬ x = 2) (h3 : ¬ x = 3) : x.toInt < 0 ∨ 3 < x.toInt := by
  refine g_out 4 (by decide) (fun k hk => ?_)
  rcases g_or4 hk with rfl | rfl | rfl | rfl <;> assumption
theorem g_o7 {x : Int32} (h0 : ¬ x = 0) (h1 : ¬ x = 1) (h2 : ¬ x = 2) (h3 : ¬ x = 3) (h4 : ¬ x = 4) (h5 : ¬ x = 5) (h6 : ¬ x = 6) : x.toInt < 0 ∨ 6 < x.toInt := by
  refine g_out 7 (by decide) (fun k hk => ?_)
  rcases (show k = 0 ∨ k = 1 ∨ k = 2 ∨ k = 3 ∨ k = 4 ∨ k = 5 ∨ k = 6 by omega) with rfl | rfl | rfl | rfl | rfl | rfl | rfl <;> assumption
theorem g_o8 {x : Int32} (h0 : ¬ x = 0) (h1 : ¬ x = 1) (h2 : ¬ x = 2) (h3 : ¬ x = 3) (h4 : ¬ x = 4) (h5 : ¬ x = 5) (h6 : ¬ x = 6) (h7 : ¬ x = 7) : x.toInt < 0 ∨ 7 < x.toInt := by
  refine g_out 8 (by decide) (fun k hk => ?_)
  rcases g_or8 hk with rfl | rfl | rfl | rfl | rfl | rfl | rfl | rfl <;> assumption
theorem inb_lt {i : Int32} {n : Nat} (h : inb i n = true) : i.toNatClampNeg < n := by
  simp only [inb, Bool.and_eq_true, decide_eq_true_eq] at h
  exact h.2
theorem G.tout {dflt lo hi : Int} {offs : Array Int} {len : Nat} {x : Int32} (tgt : Nat) (h : x.toInt < lo ∨ hi < x.toInt) (hd : decode cc pc = .ok (.tableswitch dflt lo hi offs, len)) (ht : (pc : Int) + dflt = (tgt : Int)) (k : GJ l D ks tys own cc nL ret rm φ w tgt lv st o) : GJ l D ks tys own cc nL ret rm φ w pc lv (.int x :: st) o :=
  fun r hr p e s m args below meth c A X H locs ls hP hD hS hl => lv_tableOut X.1 X.2.1 hd h ht (k r hr p e s m args below meth c A X H locs ls hP hD hS hl)
/-- a field's link: class ci of the worlds, place k -/
def FL (own : String) (index ci k : Nat) : Prop := ∃ (C : String) (T : u_T) (N : Nat), vwCl[ci]? = some (C, T, N) ∧ k < N ∧ (∀ w ∈ u_ws C T N, w ∈ ut_bl) ∧ Cond.fieldLink own index (T k).1 (T k).2.1 (T k).2.2.1 ∈ ut_bl
def FP (own : String) (index ci k : Nat) (ty : FieldType) : Prop := ∃ (C : String) (T : u_T) (N : Nat), vwCl[ci]? = some (C, T, N) ∧ k < N ∧ (∀ w ∈ u_ws C T N, w ∈ ut_bl) ∧ Cond.fieldLink own index (T k).1 (T k).2.1 (T k).2.2.1 ∈ ut_bl ∧ (T k).2.2.2 = false ∧ parseFieldDescriptor (T k).2.2.1 = some ty ∧
  (∃ ty0 : Nat → FieldType, ∀ k, k < N → parseFieldDescriptor (T k).2.2.1 = some (ty0 k)) ∧ ∀ a, a < N → ∀ b, b < N → a ≠ b → (T a).2.1 ≠ (T b).2.1
theorem G.get {index ci kf a : Nat} {fs : List Value} {v : Value} (hf : FL own index ci kf) (q0 : Nat) (he : w[q0]? = some (a, .inr (ci, fs))) (hv : fs[kf]? = some v) (hd : decode cc pc = .ok (.getfield index, 3)) (k : GJ l D ks tys own cc nL ret rm φ w (pc + 3) lv (v :: st) o) : GJ l D ks tys own cc nL ret rm φ w pc lv (.ref a :: st) o := by
  obtain ⟨C, T, N, h1, h2, h3, h4⟩ := hf
  exact fun r hr p e s m args below meth c A X H locs ls hP hD hS hl => va_get X.1 X.2.1 X.2.2.2.2.1 h3 X.2.2.2.1 X.2.2.2.2.2.2.2.1 hP q0 he h1 kf h2 (X.2.2.2.2.1 _ h4) (fun _ h9 => h9) hv hd (k r hr p e s m args below meth c A X H locs ls hP hD hS hl)
theorem G.put {index ci kf a : Nat} {fs : List Value} {v : Value} {ty : FieldType} {w' : va_W} (hf : FP own index ci kf ty) (q0 : Nat) (he : w[q0]? = some (a, .inr (ci, fs))) (hk : kf < fs.length) (hn : narrow ty v = v) (hfit : fits ty v = true) (hw : w.set q0 (a, .inr (ci, fs.set kf v)) = w') (hd : decode cc pc = .ok (.putfield index, 3)) (k : GJ l D ks tys own cc nL ret rm φ w' (pc + 3) lv st o) : GJ l D ks tys own cc nL ret rm φ w pc lv (v :: .ref a :: st) o := by
  obtain ⟨C, T, N, h1, h2, h3, h4, h5, h6, ⟨ty0, h7⟩, h8⟩ := hf
  subst hw
  exact fun r hr p e s m args below meth c A X H locs ls hP hD hS hl => va_put X.1 X.2.1 X.2.2.2.2.1 h3 ty0 h7 h8 X.2.2.2.1 X.2.2.2.2.2.2.2.1 hP hD hS q0 he h1 kf h2 (X.2.2.2.2.1 _ h4) (fun _ h9 => h9) h5 h6 hn hfit hk hd (fun H locs hP hD hS => k r hr p e s m args below meth c A X H locs ls hP hD hS hl)
theorem G.iaload {a n : Nat} {cA : ClassId} {f : Nat → Int32} {i : Int32} (q0 t0 : Nat) (ha : w[q0]? = some (a, .inl (cA, n, .inl f))) (ht : tys[t0]? = some (cA, .int)) (j : Nat) (hj : i.toNatClampNeg = j) (hin : inb i n = true) (hd : decode cc pc = .ok (.iaload, 1)) (k : GJ l D ks tys own cc nL ret rm φ w (pc + 1) lv (.int (f j) :: st) o) : GJ l D ks tys own cc nL ret rm φ w pc lv (.int i :: .ref a :: st) o := by
  subst hj
  exact fun r hr p e s m args below meth c A X H locs ls hP hD hS hl => va_iald X.1 X.2.1 X.2.2.2.2.2.2.2.1 hP q0 t0 ha ht (inb_vp hin) hd (k r hr p e s m args below meth c A X H locs ls hP hD hS hl)
theorem G.caload {a n : Nat} {cA : ClassId} {f : Nat → Int32} {i : Int32} (q0 t0 : Nat) (ha : w[q0]? = some (a, .inl (cA, n, .inl f))) (ht : tys[t0]? = some (cA, .char)) (j : Nat) (hj : i.toNatClampNeg = j) (hin : inb i n = true) (hd : decode cc pc = .ok (.caload, 1)) (k : GJ l D ks tys own cc nL ret rm φ w (pc + 1) lv (.int (f j) :: st) o) : GJ l D ks tys own cc nL ret rm φ w pc lv (.int i :: .ref a :: st) o := by
  subst hj
  exact fun r hr p e s m args below meth c A X H locs ls hP hD hS hl => va_cald X.1 X.2.1 X.2.2.2.2.2.2.2.1 hP q0 t0 ha ht (inb_vp hin) hd (k r hr p e s m args below meth c A X H locs ls hP hD hS hl)
theorem G.laload {a n : Nat} {cA : ClassId} {f : Nat → Int64} {i : Int32} (q0 t0 : Nat) (ha : w[q0]? = some (a, .inl (cA, n, .inr (.inl f)))) (ht : tys[t0]? = some (cA, .long)) (j : Nat) (hj : i.toNatClampNeg = j) (hin : inb i n = true) (hd : decode cc pc = .ok (.laload, 1)) (k : GJ l D ks tys own cc nL ret rm φ w (pc + 1) lv (.long (f j) :: st) o) : GJ l D ks tys own cc nL ret rm φ w pc lv (.int i :: .ref a :: st) o := by
  subst hj
  exact fun r hr p e s m args below meth c A X H locs ls hP hD hS hl => va_lald X.1 X.2.1 X.2.2.2.2.2.2.2.1 hP q0 t0 ha ht (inb_vp hin) hd (k r hr p e s m args below meth c A X H locs ls hP hD hS hl)
theorem G.iastore {a n : Nat} {cA : ClassId} {f : Nat → Int32} {i : Int32} {x : Int32} {w' : va_W} (q0 t0 : Nat) (ha : w[q0]? = some (a, .inl (cA, n, .inl (f)))) (ht : tys[t0]? = some (cA, .int)) (j : Nat) (hj : i.toNatClampNeg = j) (hin : inb i n = true) (hw : w.set q0 (a, .inl (cA, n, .inl (upd f j x))) = w') (hd : decode cc pc = .ok (.iastore, 1)) (k : GJ l D ks tys own cc nL ret rm φ w' (pc + 1) lv st o) : GJ l D ks tys own cc nL ret rm φ w pc lv (.int x :: .int i :: .ref a :: st) o := by
  subst hw
  subst hj
  exact fun r hr p e s m args below meth c A X H locs ls hP hD hS hl => va_iast X.1 X.2.1 X.2.2.2.2.2.2.2.1 hP hD hS q0 t0 ha ht (inb_vp hin) hd (fun H locs hP hD hS => k r hr p e s m args below meth c A X H locs ls hP hD hS hl)
theorem G.castore {a n : Nat} {cA : ClassId} {f : Nat → Int32} {i : Int32} {x : Int32} {w' : va_W} (q0 t0 : Nat) (ha : w[q0]? = some (a, .inl (cA, n, .inl (f)))) (ht : tys[t0]? = some (cA, .char)) (j : Nat) (hj : i.toNatClampNeg = j) (hin : inb i n = true) (hw : w.set q0 (a, .inl (cA, n, .inl (upd f j (vp_nar .char x)))) = w') (hd : decode cc pc = .ok (.castore, 1)) (k : GJ l D ks tys own cc nL ret rm φ w' (pc + 1) lv st o) : GJ l D ks tys own cc nL ret rm φ w pc lv (.int x :: .int i :: .ref a :: st) o := by
  subst hw
  subst hj
  exact fun r hr p e s m args below meth c A X H locs ls hP hD hS hl => va_cast X.1 X.2.1 X.2.2.2.2.2.2.2.1 hP hD hS q0 t0 ha ht (inb_vp hin) hd (fun H locs hP hD hS => k r hr p e s m args below meth c A X H locs ls hP hD hS hl)
theorem G.lastore {a n : Nat} {cA : ClassId} {f : Nat → Int64} {i : Int32} {x : Int64} {w' : va_W} (q0 t0 : Nat) (ha : w[q0]? = some (a, .inl (cA, n, .inr (.inl (f))))) (ht : tys[t0]? = some (cA, .long)) (j : Nat) (hj : i.toNatClampNeg = j) (hin : inb i n = true) (hw : w.set q0 (a, .inl (cA, n, .inr (.inl (vp_updL f j x)))) = w') (hd : decode cc pc = .ok (.lastore, 1)) (k : GJ l D ks tys own cc nL ret rm φ w' (pc + 1) lv st o) : GJ l D ks tys own cc nL ret rm φ w pc lv (.long x :: .int i :: .ref a :: st) o := by
  subst hw
  subst hj
  exact fun r hr p e s m args below meth c A X H locs ls hP hD hS hl => va_last X.1 X.2.1 X.2.2.2.2.2.2.2.1 hP hD hS q0 t0 ha ht (inb_vp hin) hd (fun H locs hP hD hS => k r hr p e s m args below meth c A X H locs ls hP hD hS hl)
theorem G.aaload {a n : Nat} {cA : ClassId} {C : String} {f : Nat → Option Nat} {i : Int32} {b : Nat} (q0 t0 : Nat) (ha : w[q0]? = some (a, .inl (cA, n, .inr (.inr (.inr (.inr f)))))) (ht : tys[t0]? = some (cA, .object C)) (hin : inb i n = true) (hf : f i.toNatClampNeg = some b) (hd : decode cc pc = .ok (.aaload, 1)) (k : GJ l D ks tys own cc nL ret rm φ w (pc + 1) lv (.ref b :: st) o) : GJ l D ks tys own cc nL ret rm φ w pc lv (.int i :: .ref a :: st) o :=
  fun r hr p e s m args below meth c A X H locs ls hP hD hS hl => va_aldq X.1 X.2.1 X.2.2.2.2.2.2.2.1 hP q0 t0 ha ht (inb_vp hin) hd (by rw [hf]; exact k r hr p e s m args below meth c A X H locs ls hP hD hS hl)
theorem G.mmax {x y : Int32} {index : Nat} (hlk : Cond.methodLink own index Lib.Math.max.name ∈ ut_bl) (hs : Cond.static Lib.Math.max.name ∈ ut_bl) (hi : Cond.initialized "java/lang/Math" ∈ ut_bl) (hcode : Cond.code Lib.Math.max.name Lib.Math.max.code 2 (some .int) ∈ ut_bl) (hfr : 1 ≤ rm.frames) (hlo : (st.map fun v => v.category).sum + 13 ≤ rm.locals) (hd : decode cc pc = .ok (.invokestatic index, 3)) (k : GJ l D ks tys own cc nL ret rm φ w (pc + 3) lv (.int (if x < y then y else x) :: st) o) : GJ l D ks tys own cc nL ret rm φ w pc lv (.int y :: .int x :: st) o :=
  fun r hr p e s m args below meth c A X H locs ls hP hD hS hl => va_mmax X.1 X.2.1 (X.2.2.1.trans hl.1.symm) X.2.2.2.1 (X.2.2.2.2.1 _ hlk) (X.2.2.2.2.1 _ hs) (X.2.2.2.2.1 _ hi) (X.2.2.2.2.1 _ hcode) hfr hlo (Nat.zero_le _) (Nat.zero_le _) hd (k r hr p e s m args below meth c A X H locs ls hP hD hS hl)
theorem G.mmin {x y : Int32} {index : Nat} (hlk : Cond.methodLink own index Lib.Math.min.name ∈ ut_bl) (hs : Cond.static Lib.Math.min.name ∈ ut_bl) (hi : Cond.initialized "java/lang/Math" ∈ ut_bl) (hcode : Cond.code Lib.Math.min.name Lib.Math.min.code 2 (some .int) ∈ ut_bl) (hfr : 1 ≤ rm.frames) (hlo : (st.map fun v => v.category).sum + 13 ≤ rm.locals) (hd : decode cc pc = .ok (.invokestatic index, 3)) (k : GJ l D ks tys own cc nL ret rm φ w (pc + 3) lv (.int (if y < x then y else x) :: st) o) : GJ l D ks tys own cc nL ret rm φ w pc lv (.int y :: .int x :: st) o :=
  fun r hr p e s m args below meth c A X H locs ls hP hD hS hl => va_mmin X.1 X.2.1 (X.2.2.1.trans hl.1.symm) X.2.2.2.1 (X.2.2.2.2.1 _ hlk) (X.2.2.2.2.1 _ hs) (X.2.2.2.2.1 _ hi) (X.2.2.2.2.1 _ hcode) hfr hlo (Nat.zero_le _) (Nat.zero_le _) hd (k r hr p e s m args below meth c A X H locs ls hP hD hS hl)
theorem g_abs (x : Int32) : (if 0 ≤ x then x else 0 - x) = if x < 0 then 0 - x else x := by
  by_cases h : 0 ≤ x
  · rw [if_pos h, if_neg (g_nlt h)]
  · rw [if_neg h, if_pos (g_lt h)]
theorem G.mabs {x : Int32} {index : Nat} (hlk : Cond.methodLink own index Lib.Math.abs.name ∈ ut_bl) (hs : Cond.static Lib.Math.abs.name ∈ ut_bl) (hi : Cond.initialized "java/lang/Math" ∈ ut_bl) (hcode : Cond.code Lib.Math.abs.name Lib.Math.abs.code 1 (some .int) ∈ ut_bl) (hfr : 1 ≤ rm.frames) (hlo : (st.map fun v => v.category).sum + 13 ≤ rm.locals) (hd : decode cc pc = .ok (.invokestatic index, 3)) (k : GJ l D ks tys own cc nL ret rm φ w (pc + 3) lv (.int (if x < 0 then 0 - x else x) :: st) o) : GJ l D ks tys own cc nL ret rm φ w pc lv (.int x :: st) o :=
  fun r hr p e s m args below meth c A X H locs ls hP hD hS hl => va_mabs X.1 X.2.1 (X.2.2.1.trans hl.1.symm) X.2.2.2.1 (X.2.2.2.2.1 _ hlk) (X.2.2.2.2.1 _ hs) (X.2.2.2.2.1 _ hi) (X.2.2.2.2.1 _ hcode) hfr hlo (Nat.zero_le _) (Nat.zero_le _) hd (by rw [g_abs]; exact k r hr p e s m args below meth c A X H locs ls hP hD hS hl)
theorem G.copyi {index a a0 : Nat} {c0 c1 : ClassId} {n0 n1 : Nat} {f g : Nat → Int32} {sp dp n : Int32} {w' : va_W} (q0 q1 t0 t1 : Nat) (hlk : Cond.methodLink own index arraycopyName ∈ ut_bl) (hnat : Cond.native arraycopyName ∈ ut_bl) (hst : Cond.static arraycopyName ∈ ut_bl) (hi : Cond.initialized "java/lang/System" ∈ ut_bl) (ha0 : w[q0]? = some (a0, .inl (c0, n0, .inl (f)))) (ha1 : w[q1]? = some (a, .inl (c1, n1, .inl (g)))) (ht0 : tys[t0]? = some (c0, .int)) (ht1 : tys[t1]? = some (c1, .int))
    (h1 : ¬ sp < 0) (h2 : ¬ dp < 0) (h3 : ¬ n < 0) (h4 : sp.toNatClampNeg + n.toNatClampNeg ≤ n0) (h5 : dp.toNatClampNeg + n.toNatClampNeg ≤ n1) (hfr : 1 ≤ rm.frames) (hlo : (st.map fun v => v.category).sum + (nativeFrameWords "java/lang/System" "arraycopy" 5 + 11) ≤ rm.locals) (hw : w.set q1 (a, .inl (c1, n1, .inl (va_cpy f g sp.toNatClampNeg dp.toNatClampNeg n.toNatClampNeg))) = w') (hd : decode cc pc = .ok (.invokestatic index, 3)) (k : GJ l D ks tys own cc nL ret rm φ w' (pc + 3) lv st o) : GJ l D ks tys own cc nL ret rm φ w pc lv (.int n :: .int dp :: .ref a :: .int sp :: .ref a0 :: st) o := by
  subst hw
  exact fun r hr p e s m args below meth c A X H locs ls hP hD hS hl => va_copyi X.1 X.2.1 (X.2.2.1.trans hl.1.symm) X.2.2.2.1 (X.2.2.2.2.1 _ hlk) (X.2.2.2.2.1 _ hnat) (X.2.2.2.2.1 _ hst) (X.2.2.2.2.1 _ hi) X.2.2.2.2.2.2.2.1 hP hD hS q0 q1 t0 t1 ha0 ha1 ht0 ht1 rfl h1 h2 h3 h4 h5 (fun _ _ => rfl) hfr hlo hd (fun H locs hP hD hS => k r hr p e s m args below meth c A X H locs ls hP hD hS hl)
theorem G.copyl {index a a0 : Nat} {c0 c1 : ClassId} {n0 n1 : Nat} {f g : Nat → Int64} {sp dp n : Int32} {w' : va_W} (q0 q1 t0 t1 : Nat) (hlk : Cond.methodLink own index arraycopyName ∈ ut_bl) (hnat : Cond.native arraycopyName ∈ ut_bl) (hst : Cond.static arraycopyName ∈ ut_bl) (hi : Cond.initialized "java/lang/System" ∈ ut_bl) (ha0 : w[q0]? = some (a0, .inl (c0, n0, .inr (.inl (f))))) (ha1 : w[q1]? = some (a, .inl (c1, n1, .inr (.inl (g))))) (ht0 : tys[t0]? = some (c0, .long)) (ht1 : tys[t1]? = some (c1, .long))
    (h1 : ¬ sp < 0) (h2 : ¬ dp < 0) (h3 : ¬ n < 0) (h4 : sp.toNatClampNeg + n.toNatClampNeg ≤ n0) (h5 : dp.toNatClampNeg + n.toNatClampNeg ≤ n1) (hfr : 1 ≤ rm.frames) (hlo : (st.map fun v => v.category).sum + (nativeFrameWords "java/lang/System" "arraycopy" 5 + 11) ≤ rm.locals) (hw : w.set q1 (a, .inl (c1, n1, .inr (.inl (va_cpy f g sp.toNatClampNeg dp.toNatClampNeg n.toNatClampNeg)))) = w') (hd : decode cc pc = .ok (.invokestatic index, 3)) (k : GJ l D ks tys own cc nL ret rm φ w' (pc + 3) lv st o) : GJ l D ks tys own cc nL ret rm φ w pc lv (.int n :: .int dp :: .ref a :: .int sp :: .ref a0 :: st) o := by
  subst hw
  exact fun r hr p e s m args below meth c A X H locs ls hP hD hS hl => va_copyl X.1 X.2.1 (X.2.2.1.trans hl.1.symm) X.2.2.2.1 (X.2.2.2.2.1 _ hlk) (X.2.2.2.2.1 _ hnat) (X.2.2.2.2.1 _ hst) (X.2.2.2.2.1 _ hi) X.2.2.2.2.2.2.2.1 hP hD hS q0 q1 t0 t1 ha0 ha1 ht0 ht1 rfl h1 h2 h3 h4 h5 (fun _ _ => rfl) hfr hlo hd (fun H locs hP hD hS => k r hr p e s m args below meth c A X H locs ls hP hD hS hl)
theorem G.iret {rr : ρ} {v : Int32} (hφ : φ rr = (some (.int v), w)) (hr' : ret = some .int) (hd : decode cc pc = .ok (.ireturn, 1)) : GJ l D ks tys own cc nL ret rm φ w pc lv [.int v] (some rr) := by
  intro r hr p e s m args below meth c A X H locs ls hP hD hS hl
  cases hr
  rw [hφ]
  exact W.iret (v := v) X.1 X.2.1 (X.2.2.2.2.2.2.1.trans hr') (fun t ht hW => ⟨rfl, by rw [ht]; exact hP, va_K.moved hW.alike X.2.2.2.2.2.2.2.1, hD, hS.F ht⟩) hS.2.2 hd X.2.2.2.2.2.1
theorem G.zret {rr : ρ} {v : Int32} {ty : FieldType} (hφ : φ rr = (some (.int v), w)) (hr' : ret = some ty) (hn : narrow ty (.int v) = .int v) (hd : decode cc pc = .ok (.ireturn, 1)) : GJ l D ks tys own cc nL ret rm φ w pc lv [.int v] (some rr) := by
  intro r hr p e s m args below meth c A X H locs ls hP hD hS hl
  cases hr
  rw [hφ]
  exact W.zret (v := v) X.1 X.2.1 (X.2.2.2.2.2.2.1.trans hr') hn (fun t ht hW => ⟨rfl, by rw [ht]; exact hP, va_K.moved hW.alike X.2.2.2.2.2.2.2.1, hD, hS.F ht⟩) hS.2.2 hd X.2.2.2.2.2.1
theorem G.lret {rr : ρ} {v : Int64} (hφ : φ rr = (some (.long v), w)) (hr' : ret = some .long) (hd : decode cc pc = .ok (.lreturn, 1)) : GJ l D ks tys own cc nL ret rm φ w pc lv [.long v] (some rr) := by
  intro r hr p e s m args below meth c A X H locs ls hP hD hS hl
  cases hr
  rw [hφ]
  exact W.lret (v := v) X.1 X.2.1 (X.2.2.2.2.2.2.1.trans hr') (fun t ht hW => ⟨rfl, by rw [ht]; exact hP, va_K.moved hW.alike X.2.2.2.2.2.2.2.1, hD, hS.F ht⟩) hS.2.2 hd X.2.2.2.2.2.1
theorem G.vret {rr : ρ} (hφ : φ rr = (none, w)) (hr' : ret = none) (hd : decode cc pc = .ok (.return_, 1)) : GJ l D ks tys own cc nL ret rm φ w pc lv [] (some rr) := by
  intro r hr p e s m args below meth c A X H locs ls hP hD hS hl
  cases hr
  rw [hφ]
  exact W.vret X.1 X.2.1 (X.2.2.2.2.2.2.1.trans hr') (fun t ht hW => ⟨rfl, by rw [ht]; exact hP, va_K.moved hW.alike X.2.2.2.2.2.2.2.1, hD, hS.F ht⟩) hS.2.2 hd X.2.2.2.2.2.1
/-- what the tables say of a method: an instance one of class ci of the worlds, and a static one -/
def MV (y : MethodName) (cb : ByteArray) (nb : Nat) (rb : Option FieldType) (n ci : Nat) : Prop := Cond.instanceMethod y ∈ ut_bl ∧ Cond.selects y.cls y y ∈ ut_bl ∧ Cond.initialized y.cls ∈ ut_bl ∧ Cond.code y cb nb rb ∈ ut_bl ∧ (y.cls ≠ "java/lang/invoke/MethodHandle" ∧ y.cls ≠ "java/lang/invoke/VarHandle" ∧ (parseMethodDescriptor y.desc).map (fun d => d.parameters.length) = some n) ∧ ∃ (T : u_T) (N : Nat), vwCl[ci]? = some (y.cls, T, N)
def MS (y : MethodName) (cb : ByteArray) (nb : Nat) (rb : Option FieldType) (n : Nat) : Prop := Cond.static y ∈ ut_bl ∧ Cond.initialized y.cls ∈ ut_bl ∧ Cond.code y cb nb rb ∈ ut_bl ∧ (y.cls ≠ "java/lang/invoke/MethodHandle" ∧ y.cls ≠ "java/lang/invoke/VarHandle" ∧ (parseMethodDescriptor y.desc).map (fun d => d.parameters.length) = some n)
def plc (isC isR pm : List Nat) : Bool := va_nd isR && (va_nd isC && (isR.all (fun i => !isC.contains i) && va_nd pm))
theorem plc_of {isC isR pm : List Nat} (h : plc isC isR pm = true) : va_nd isR = true ∧ va_nd isC = true ∧ (∀ i ∈ isR, i ∉ isC) ∧ va_nd pm = true := by
  simp only [plc, Bool.and_eq_true, List.all_eq_true] at h
  obtain ⟨h1, h2, h3, h4⟩ := h
  refine ⟨h1, h2, fun i hi hc => ?_, h4⟩
  have := h3 i hi
  simp [hc] at this
theorem MP.blind {D : va_G} {ks : Nat × Nat} {tys : List (ClassId × FieldType)} {w : va_W} {sz : Nat} {av : List Value} : FrameBlind (va_Pc av (MP D ks tys w sz)) := by
  intro a U g mk q
  obtain ⟨q0, q1, qP, qK, qD, qS⟩ := q
  exact ⟨q0, q1, qP, va_K.moved (u := U) (U := U.calling g mk a) (Vm.Alike.refl U.vm) qK, qD, va_Z.moved (u := U) (U := U.calling g mk a) (Vm.Alike.refl U.vm) qS.1, vk_S.moved (u := U) (U := U.calling g mk a) (Vm.Alike.refl U.vm) qS.2.1, vk_R.same (u := U) (U := U.calling g mk a) rfl qS.2.2⟩
/-- behind a call: the answer known, the callee's cells as it left them -/
theorem G.back {σ : Type} {ψ : σ → Option Value × va_W} {x : σ} {p : Program} {e : Env} {s : State} {m : MethodId} {args : Array Value} {below : List Frame} {meth : Method} {c : Code} {A : Nat → Prop} {H : Heap} {locs : List Loc} {ls : Array Slot} {wc w' : va_W} {Q : State → Prop} {st0 : List Value} {a : Array Value}
    (hA : ∀ q : Nat, s.heap.size ≤ q → A q) (hP : va_P D vwCl w H) (hD : va_D A w) (hS : va_S A s.heap H locs) (isC isR pm : List Nat) (hC : isC.map (fun i => w[i]?) = wc.map some) (hR : isR.map (fun i => w[i]?) = (isR.filterMap (fun i => w[i]?)).map some) (hn : va_nd isR = true) (hdis : ∀ i ∈ isR, i ∉ isC) (hp : va_nd pm = true) (hpm : pm.map (fun i => (isR.filterMap (fun i => w[i]?) ++ (ψ x).2)[i]?) = w'.map some)
    (hr : va_Run p l e rm s m args below meth c H locs 0 0 0 0 (F0 m pc ls st0) st (GQ D tys (va_A wc H.size) (ψ x) a) (va_A wc H.size))
    (kk : ∀ (H1 : Heap) (locs1 : List Loc), va_P D vwCl w' H1 → va_D A w' → va_S A s.heap H1 locs1 → W p l e rm s m args below meth c H1 locs1 0 0 Q (F0 m (pc + 3) ls ((ψ x).1.toList ++ st))) : W p l e rm s m args below meth c H locs 0 0 Q (F0 m pc ls st0) := by
  intro T hT X
  have hF := va_free (wc := wc) hD hS hA isC hC
  obtain ⟨v, st₀, t, T', L, h0, X', hL, e1, e2, ⟨hv, hP1, hK1, hD1, hz, hk⟩, st⟩ := hr T hT X
  cases hv
  rw [h0] at hz hk
  rw [← e1] at hP1 hz hk
  obtain ⟨hP2, hD2⟩ := va_join hP hD isC isR hC hR hn hdis hk hF hP1 hD1
  have hP3 : va_P D vwCl w' T'.heap := hP2.sub pm (g_fm hpm)
  have hD3 : va_D A w' := hD2.sub pm hp hpm
  obtain ⟨t2, a1, b1⟩ := kk T'.heap (locs ++ L) hP3 hD3 ⟨Nat.le_trans hS.1 hz, fun q h1 h2 => by rw [hk q (Nat.lt_of_lt_of_le h1 hS.1) (fun z => h2 (hF q z))]; exact hS.2.1 q h1 h2, fun q hq => by
      rcases List.mem_append.mp hq with h | h
      · exact hS.2.2 q h
      · exact hF _ (hL q h)⟩ T' rfl X'
  exact ⟨t2, st t2 a1, b1⟩
theorem G.callV {σ : Type} {ψ : σ → Option Value × va_W} {oc : Option σ} {kc : σ → Option ρ} {y : MethodName} {cb : ByteArray} {nb n ci index b : Nat} {rb : Option FieldType} {rmc : Room} {As st0 : List Value} {wc : va_W} {fs : List Value} {w' : σ → va_W} (hm : MV y cb nb rb n ci) (hlk : Cond.methodLink own index y ∈ ut_bl) (hM : MT l D ks tys y cb nb rb rmc (.ref b :: As) wc ψ oc)
    (isC isR pm : List Nat) (hst : st0 = As.reverse ++ .ref b :: st) (hAs : As.length = n) (hC : isC.map (fun i => w[i]?) = wc.map some) (hR : isR.map (fun i => w[i]?) = (isR.filterMap (fun i => w[i]?)).map some) (hpl : plc isC isR pm = true) (hpm : ∀ x, pm.map (fun i => (isR.filterMap (fun i => w[i]?) ++ (ψ x).2)[i]?) = (w' x).map some) (hb : wc[0]? = some (b, .inr (ci, fs))) (hro : rmc.cells = 0 ∧ rmc.slots = 0 ∧ rmc.frames + 1 ≤ rm.frames ∧ 8 + (nb + 11) + rmc.locals ≤ rm.locals) (hw8 : (st.map fun v => v.category).sum ≤ 8) (hd : decode cc pc = .ok (.invokevirtual index, 3))
    (s' : σ → List Value) (hs' : ∀ x, (ψ x).1.toList ++ st = s' x) (k : ∀ x, oc = some x → GJ l D ks tys own cc nL ret rm φ (w' x) (pc + 3) lv (s' x) (kc x)) : GJ l D ks tys own cc nL ret rm φ w pc lv st0 (oc.bind kc) := by
  obtain ⟨hn, hnC, hdis, hp⟩ := plc_of hpl
  obtain ⟨m1, m2, m3, m4, m5, T, N, m6⟩ := hm
  intro r hr p e s m args below meth c A X H locs ls hP hD hS hl
  cases ho : oc with
  | none => rw [ho] at hr; cases hr
  | some x =>
    rw [ho] at hr
    subst hst
    have hts := X.2.2.2.2.1
    have hK := X.2.2.2.2.2.2.2.1
    have hPc : va_P D vwCl wc H := hP.sub isC (g_fm hC)
    have hDc : va_D A wc := hD.sub isC hnC hC
    refine G.back X.2.2.2.2.2.2.2.2.1 hP hD hS isC isR pm hC hR hn hdis hp (hpm x) (va_runV (As := As) (rest := st) ⟨X.1, X.2.1, X.2.2.1, X.2.2.2.1, hts⟩ (hM x ho H.size) ⟨callB_of n hts (ug_in (fun _ h => h) m4) rfl hro.1 hro.2.1 (hts _ m3) (hts _ hlk) m5 hro.2.2, hts _ m1, hts _ m2⟩ ⟨MP.blind, va_recv hK hPc m6 hb, fun U hU hW => ⟨rfl, by rw [hU], by rw [hU]; exact hPc, va_K.moved hW.alike hK, hDc.weaken (fun _ _ _ _ => trivial), KS.into X.2.2.2.2.2.2.2.2.2 hS (va_free (wc := wc) hD hS X.2.2.2.2.2.2.2.2.1 isC hC) hU hW⟩⟩ rfl hAs hl.1 rfl (lv_room hw8) hd ⟨Nat.zero_le _, Nat.zero_le _⟩) ?_
    intro H1 locs1 hP1 hD1 hS1
    rw [hs' x]
    exact k x ho r hr p e s m args below meth c A X H1 locs1 ls hP1 hD1 hS1 hl
theorem G.callS {σ : Type} {ψ : σ → Option Value × va_W} {oc : Option σ} {kc : σ → Option ρ} {y : MethodName} {cb : ByteArray} {nb n index : Nat} {rb : Option FieldType} {rmc : Room} {As st0 : List Value} {wc : va_W} {w' : σ → va_W} (hm : MS y cb nb rb n) (hlk : Cond.methodLink own index y ∈ ut_bl) (hM : MT l D ks tys y cb nb rb rmc As wc ψ oc)
    (isC isR pm : List Nat) (hst : st0 = As.reverse ++ st) (hAs : As.length = n) (hC : isC.map (fun i => w[i]?) = wc.map some) (hR : isR.map (fun i => w[i]?) = (isR.filterMap (fun i => w[i]?)).map some) (hpl : plc isC isR pm = true) (hpm : ∀ x, pm.map (fun i => (isR.filterMap (fun i => w[i]?) ++ (ψ x).2)[i]?) = (w' x).map some) (hro : rmc.cells = 0 ∧ rmc.slots = 0 ∧ rmc.frames + 1 ≤ rm.frames ∧ 8 + (nb + 11) + rmc.locals ≤ rm.locals) (hw8 : (st.map fun v => v.category).sum ≤ 8) (hd : decode cc pc = .ok (.invokestatic index, 3))
    (s' : σ → List Value) (hs' : ∀ x, (ψ x).1.toList ++ st = s' x) (k : ∀ x, oc = some x → GJ l D ks tys own cc nL ret rm φ (w' x) (pc + 3) lv (s' x) (kc x)) : GJ l D ks tys own cc nL ret rm φ w pc lv st0 (oc.bind kc) := by
  obtain ⟨hn, hnC, hdis, hp⟩ := plc_of hpl
  obtain ⟨m1, m3, m4, m5⟩ := hm
  intro r hr p e s m args below meth c A X H locs ls hP hD hS hl
  cases ho : oc with
  | none => rw [ho] at hr; cases hr
  | some x =>
    rw [ho] at hr
    subst hst
    have hts := X.2.2.2.2.1
    have hK := X.2.2.2.2.2.2.2.1
    have hPc : va_P D vwCl wc H := hP.sub isC (g_fm hC)
    have hDc : va_D A wc := hD.sub isC hnC hC
    refine G.back X.2.2.2.2.2.2.2.2.1 hP hD hS isC isR pm hC hR hn hdis hp (hpm x) (va_runS (As := As) (rest := st) ⟨X.1, X.2.1, X.2.2.1, X.2.2.2.1, hts⟩ (hM x ho H.size) ⟨callB_of n hts (ug_in (fun _ h => h) m4) rfl hro.1 hro.2.1 (hts _ m3) (hts _ hlk) m5 hro.2.2, hts _ m1⟩ ⟨MP.blind, fun U hU hW => ⟨rfl, by rw [hU], by rw [hU]; exact hPc, va_K.moved hW.alike hK, hDc.weaken (fun _ _ _ _ => trivial), KS.into X.2.2.2.2.2.2.2.2.2 hS (va_free (wc := wc) hD hS X.2.2.2.2.2.2.2.2.1 isC hC) hU hW⟩⟩ rfl hAs hl.1 rfl (lv_room hw8) hd ⟨Nat.zero_le _, Nat.zero_le _⟩) ?_
    intro H1 locs1 hP1 hD1 hS1
    rw [hs' x]
    exact k x ho r hr p e s m args below meth c A X H1 locs1 ls hP1 hD1 hS1 hl
end GR2
