/-! MATHEMATICS 24: deals as numbers; which deal is the next one -/
def dg (n N h : Nat) : Nat := N / 6 ^ (n - 1 - h) % 6
def injD : Nat → Nat → Nat → Bool
  | 0, _, _ => true
  | k + 1, N, s => cond (Nat.beq (Nat.land (Nat.shiftRight s (Nat.mod N 6)) 1) 0) (injD k (Nat.div N 6) (Nat.lor s (Nat.shiftLeft 1 (Nat.mod N 6)))) false
def msk (B : Nat → Nat) : Nat → Nat
  | 0 => 0
  | k + 1 => Nat.lor (msk B k) (Nat.shiftLeft 1 (B k))
/-- t: the set of bays that they hold; 64: any -/
def qd (n t N : Nat) : Bool := cond (injD n N 0) (cond (Nat.beq t 64) true (Nat.beq (msk (dg n N) n) t)) false
def frD (M n N : Nat) : Nat := Nat.xor M (msk (dg n N) n)
def dgI (n N : Nat) : Nat → Int32 := fun h => nI (dg n N h)
def agD (b : Nat → Int32) (n N : Nat) : Nat → Bool
  | 0 => true
  | k + 1 => agD b n N k && decide (b k = nI (dg n N k))
theorem agD_h {b : Nat → Int32} {n N : Nat} : ∀ {k : Nat}, agD b n N k = true → ∀ h, h < k → b h = nI (dg n N h) := by
  intro k
  induction k with
  | zero => intro _ h hh; omega
  | succ k ih =>
    intro e h hh
    rw [agD, Bool.and_eq_true, decide_eq_true_eq] at e
    by_cases c : h = k
    · subst c; exact e.2
    · exact ih e.1 h (by omega)
def okN (M n N : Nat) (o : Option (Int32 × (Nat → Int32) × Int32)) : Bool := match o with
  | some r => decide (r.1 = 1) && (decide (r.2.2 = nI (frD M n N)) && agD r.2.1 n N n)
  | none => false
def okE (o : Option (Int32 × (Nat → Int32) × Int32)) : Bool := match o with
  | some r => decide (r.1 = 0)
  | none => false
def okB (M n N : Nat) (o : Option ((Nat → Int32) × Int32 × Int32)) : Bool := match o with
  | some r => decide (r.2.1 = nI (frD M n N)) && agD r.1 n N n
  | none => false
def chkN (M n p N : Nat) : Bool := okN M n N (f_X0_next (dgI n p) (nI (frD M n p)) (nI n))
def chkE (M n p : Nat) : Bool := okE (f_X0_next (dgI n p) (nI (frD M n p)) (nI n))
def chkB (M n N : Nat) : Bool := okB M n N (f_X0_begin (fun _ => 99) 0 0 (nI n) (nI M))
/-- the d last of T numbers -/
def scn (M n t T : Nat) : Nat → Nat → Nat → Option (Nat × Nat)
  | 0, p, i => some (p, i)
  | d + 1, p, i => if qd n t (Nat.sub T (d + 1)) = true then (if (chkN M n p (Nat.sub T (d + 1)) && Nat.blt i 719) = true then scn M n t T d (Nat.sub T (d + 1)) (i + 1) else none) else scn M n t T d p i
def endD (M n : Nat) (o : Option (Nat × Nat)) : Bool := match o with
  | some r => chkE M n r.1
  | none => false
def fulD (M n t : Nat) : Bool := match fF (qd n t) (6 ^ n) 0 with
  | some N => chkB M n N && endD M n (scn M n t (6 ^ n) (6 ^ n - 1 - N) N 0)
  | none => false
def popD (m : Nat) : Nat := cnt (bitN m) 6
theorem full_c : ∀ n : Fin 6, fulD 63 n.val 64 = true := by decide +kernel
theorem full_e : ∀ m : Fin 63, fulD m.val (popD m.val) m.val = true := by decide +kernel
