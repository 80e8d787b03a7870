/-! MATHEMATICS 3: by how much one is more used by a day, on both sides -/
/-- how many of the first n -/
def cnt (P : Nat → Bool) : Nat → Nat
  | 0 => 0
  | k + 1 => cnt P k + (if P k = true then 1 else 0)
/-- a set of the first n as bits -/
def bitS (P : Nat → Bool) : Nat → Nat
  | 0 => 0
  | k + 1 => bitS P k + (if P k = true then 2 ^ k else 0)
theorem bitS_s (P : Nat → Bool) (k : Nat) : bitS P (k + 1) = bitS P k + (if P k = true then 2 ^ k else 0) := rfl
theorem cnt_s (P : Nat → Bool) (k : Nat) : cnt P (k + 1) = cnt P k + (if P k = true then 1 else 0) := rfl
theorem bitS_lt (P : Nat → Bool) : ∀ k, bitS P k < 2 ^ k := by
  intro k
  induction k with
  | zero => simp [bitS]
  | succ k ih =>
    unfold bitS
    rw [Nat.pow_succ]
    split <;> omega
theorem cnt_congr {P Q : Nat → Bool} : ∀ {n : Nat}, (∀ g, g < n → P g = Q g) → cnt P n = cnt Q n := by
  intro n
  induction n with
  | zero => intro _; rfl
  | succ n ih =>
    intro h
    unfold cnt
    rw [ih (fun g hg => h g (by omega)), h n (by omega)]
theorem bitS_congr {P Q : Nat → Bool} : ∀ {n : Nat}, (∀ g, g < n → P g = Q g) → bitS P n = bitS Q n := by
  intro n
  induction n with
  | zero => intro _; rfl
  | succ n ih =>
    intro h
    unfold bitS
    rw [ih (fun g hg => h g (by omega)), h n (by omega)]
theorem cnt_zero {P : Nat → Bool} : ∀ {n : Nat}, (∀ g, g < n → P g = false) → cnt P n = 0 := by
  intro n
  induction n with
  | zero => intro _; rfl
  | succ n ih =>
    intro h
    unfold cnt
    rw [ih (fun g hg => h g (by omega)), h n (by omega)]
    rfl
theorem cnt_one {P : Nat → Bool} {h : Nat} : ∀ {n : Nat}, h < n → (∀ g, g < n → P g = true → g = h) → cnt P n = if P h = true then 1 else 0 := by
  intro n
  induction n with
  | zero => intro hh; omega
  | succ n ih =>
    intro hh hu
    unfold cnt
    by_cases hn : h = n
    · subst hn
      rw [cnt_zero (fun g hg => by
        cases e : P g with
        | false => rfl
        | true => have := hu g (by omega) e; omega)]
      omega
    · have hPn : P n = false := by
        cases e : P n with
        | false => rfl
        | true => exact absurd (hu n (by omega) e).symm hn
      rw [ih (by omega) (fun g hg => hu g (by omega)), hPn]
      rfl
theorem cnt_add {P Q : Nat → Bool} : ∀ {n : Nat}, (∀ g, g < n → ¬ (P g = true ∧ Q g = true)) → cnt P n + cnt Q n = cnt (fun g => P g || Q g) n := by
  intro n
  induction n with
  | zero => intro _; rfl
  | succ n ih =>
    intro h
    have hn := h n (by omega)
    have := ih (fun g hg => h g (by omega))
    unfold cnt
    rw [← this]
    cases e1 : P n <;> cases e2 : Q n <;> simp_all <;> omega
theorem cnt_le {P : Nat → Bool} : ∀ n : Nat, cnt P n ≤ n := by
  intro n
  induction n with
  | zero => exact Nat.le_refl _
  | succ n ih =>
    unfold cnt
    split <;> omega
theorem cut_b (P : Nat → Bool) {n : Nat} (hn : n ≤ 6) : bitS P n = bitS (fun g => P g && decide (g < n)) 6 := by
  rcases (show n = 0 ∨ n = 1 ∨ n = 2 ∨ n = 3 ∨ n = 4 ∨ n = 5 ∨ n = 6 by omega) with rfl | rfl | rfl | rfl | rfl | rfl | rfl <;> simp [bitS]
theorem cut_c (P : Nat → Bool) {n : Nat} (hn : n ≤ 6) : cnt P n = cnt (fun g => P g && decide (g < n)) 6 := by
  rcases (show n = 0 ∨ n = 1 ∨ n = 2 ∨ n = 3 ∨ n = 4 ∨ n = 5 ∨ n = 6 by omega) with rfl | rfl | rfl | rfl | rfl | rfl | rfl <;> simp [cnt]
theorem or_bit : ∀ k : Fin 6, ∀ a : Fin 64, a.val < 2 ^ k.val → nI a.val ||| nI (2 ^ k.val) = nI (a.val + 2 ^ k.val) := by decide +kernel
theorem shl_bit : ∀ k : Fin 6, (1 : Int32) <<< (nI k.val &&& 31) = nI (2 ^ k.val) := by decide +kernel
theorem or_b (P : Nat → Bool) {k : Nat} (hk : k < 6) : nI (bitS P k) ||| (if P k = true then (1 : Int32) <<< (nI k &&& 31) else 0) = nI (bitS P (k + 1)) := by
  have h1 := bitS_lt P k
  have h2 : 2 ^ k ≤ 2 ^ 5 := Nat.pow_le_pow_right (by decide) (by omega)
  rw [bitS_s]
  by_cases hP : P k = true
  · rw [if_pos hP, if_pos hP, shl_bit ⟨k, hk⟩]
    exact or_bit ⟨k, hk⟩ ⟨bitS P k, by omega⟩ h1
  · rw [if_neg hP, if_neg hP]
    rw [Nat.add_zero]
    exact Int32.or_zero
def b2 (c : Bool) (k : Nat) : Nat := if c = true then 2 ^ k else 0
def c2 (c : Bool) : Nat := if c = true then 1 else 0
set_option maxRecDepth 100000 in
theorem many_n : ∀ c0 c1 c2' c3 c4 c5 u0 u1 u2 u3 u4 u5 : Bool, f_X7_many (nI (0 + b2 c0 0 + b2 c1 1 + b2 c2' 2 + b2 c3 3 + b2 c4 4 + b2 c5 5) &&& (nI (0 + b2 u0 0 + b2 u1 1 + b2 u2 2 + b2 u3 3 + b2 u4 4 + b2 u5 5) ^^^ (-1))) = some (nI (0 + c2 (c0 && !u0) + c2 (c1 && !u1) + c2 (c2' && !u2) + c2 (c3 && !u3) + c2 (c4 && !u4) + c2 (c5 && !u5))) := by decide +kernel
set_option maxRecDepth 100000 in
theorem many_a : ∀ c0 c1 c2' c3 c4 c5 u0 u1 u2 u3 u4 u5 : Bool, f_X7_many (nI (0 + b2 c0 0 + b2 c1 1 + b2 c2' 2 + b2 c3 3 + b2 c4 4 + b2 c5 5) &&& nI (0 + b2 u0 0 + b2 u1 1 + b2 u2 2 + b2 u3 3 + b2 u4 4 + b2 u5 5)) = some (nI (0 + c2 (c0 && u0) + c2 (c1 && u1) + c2 (c2' && u2) + c2 (c3 && u3) + c2 (c4 && u4) + c2 (c5 && u5))) := by decide +kernel
theorem many_N (c u : Nat → Bool) {n : Nat} (hn : n ≤ 6) : f_X7_many (nI (bitS c n) &&& (nI (bitS u n) ^^^ (-1))) = some (nI (cnt (fun g => c g && !u g) n)) := by
  rw [cut_b c hn, cut_b u hn, cut_c _ hn]
  have h := many_n (c 0 && decide (0 < n)) (c 1 && decide (1 < n)) (c 2 && decide (2 < n)) (c 3 && decide (3 < n)) (c 4 && decide (4 < n)) (c 5 && decide (5 < n)) (u 0 && decide (0 < n)) (u 1 && decide (1 < n)) (u 2 && decide (2 < n)) (u 3 && decide (3 < n)) (u 4 && decide (4 < n)) (u 5 && decide (5 < n))
  refine h.trans ?_
  have e : ∀ (x y : Bool) (g : Nat), ((x && decide (g < n)) && !(y && decide (g < n))) = ((x && !y) && decide (g < n)) := by
    intro x y g
    cases x <;> cases y <;> cases decide (g < n) <;> rfl
  rw [e, e, e, e, e, e]
  rfl
theorem many_A (c u : Nat → Bool) {n : Nat} (hn : n ≤ 6) : f_X7_many (nI (bitS c n) &&& nI (bitS u n)) = some (nI (cnt (fun g => c g && u g) n)) := by
  rw [cut_b c hn, cut_b u hn, cut_c _ hn]
  have h := many_a (c 0 && decide (0 < n)) (c 1 && decide (1 < n)) (c 2 && decide (2 < n)) (c 3 && decide (3 < n)) (c 4 && decide (4 < n)) (c 5 && decide (5 < n)) (u 0 && decide (0 < n)) (u 1 && decide (1 < n)) (u 2 && decide (2 < n)) (u 3 && decide (3 < n)) (u 4 && decide (4 < n)) (u 5 && decide (5 < n))
  refine h.trans ?_
  have e : ∀ (x y : Bool) (g : Nat), ((x && decide (g < n)) && (y && decide (g < n))) = ((x && y) && decide (g < n)) := by
    intro x y g
    cases x <;> cases y <;> cases decide (g < n) <;> rfl
  rw [e, e, e, e, e, e]
  rfl
/-- who is beside a bay -/
def nb (S : Sc) (b g : Nat) : Bool := decide (sB S g + 1 = b) || decide (sB S g = b + 1)
def tk (S : Sc) (g : Nat) : Bool := decide (sU S g = 99)
/-- by how much h is more used by a day -/
def gainS (S : Sc) (h : Nat) : Nat :=
  let b := sB S h
  let p := 10 - sP S b
  let nt := cnt (fun g => nb S b g && !tk S g) (sN S)
  let ta := cnt (fun g => nb S b g && tk S g) (sN S)
  let ed := if b = 0 ∨ b = 5 then 3 else 0
  if sK S h = 0 then p else if sK S h = 1 then p - nt else if sK S h = 2 then p + ed else if sK S h = 3 then min 4 (p - nt) else p + ed + 2 * ta
theorem sub_neg {a r : Nat} (ha : a < 2 ^ 30) (hr : r < 2 ^ 30) : (if nI a - nI r < 0 then 0 else nI a - nI r) = nI (a - r) := by
  by_cases h : r ≤ a
  · rw [pk_sub h, if_neg (nI_pos (by omega))]
  · rw [if_pos (pk_sneg hr (by omega)), show a - r = 0 by omega]; rfl
theorem sub_pos {a r : Nat} (ha : a < 2 ^ 30) (hr : r < 2 ^ 30) : (if 0 < nI a - nI r then nI a - nI r else 0) = nI (a - r) := by
  by_cases h : r ≤ a
  · rw [pk_sub h]
    by_cases h0 : a - r = 0
    · rw [h0]; rfl
    · rw [if_pos]
      rw [show (0 : Int32) = nI 0 from rfl, n_lt (by decide) (by omega)]
      omega
  · have h1 := pk_sneg (a := a) hr (by omega)
    rw [if_neg, show a - r = 0 by omega]
    · rfl
    · rw [l_lt] at h1 ⊢
      omega
theorem apart7 {x y : Nat} (hx : x < 2 ^ 30) (hy : y < 2 ^ 30) : f_X7_apart (nI x) (nI y) = some (nI (if x < y then y - x else x - y)) := by
  unfold f_X7_apart
  rw [jn_eq]
  by_cases h : x < y
  · rw [if_pos (nI_lt h (by omega)), if_pos h, pk_sub (by omega)]
  · rw [if_neg (nI_nlt (by omega) (by omega)), if_neg h, pk_sub (by omega)]
section M7b
variable {S : Sc} {now : Nat → Int32}
theorem ups7 (hM : isM S now) (ho : okS S) : f_X7_ups now = some (nI (bitS (tk S) (sN S))) := by
  have hn := ho.1
  unfold f_X7_ups
  refine pre_all (fun f acc k => f_X7_ups_c4 f now acc (nI k)) (fun k => nI (bitS (tk S) k)) (sN S) _ (by omega) ?_ ?_
  · intro f k hk
    show f_X7_ups_c4 (f + 1) now (nI (bitS (tk S) k)) (nI k) = f_X7_ups_c4 f now (nI (bitS (tk S) (k + 1))) (nI (k + 1))
    rw [f_X7_ups_c4, jn_eq, hM.1, if_pos (nI_lt hk (by omega)), up7 hM ho hk, sb, jn_eq, nI_1, ← or_b (tk S) (show k < 6 by omega)]
    congr 2
    unfold tk
    by_cases h9 : sU S k = 99
    · simp [h9, tf]
    · simp [h9, tf]
  · intro f
    show f_X7_ups_c4 (f + 1) now (nI (bitS (tk S) (sN S))) (nI (sN S)) = _
    rw [f_X7_ups_c4, jn_eq, hM.1, if_neg (nI_nlt (Nat.le_refl _) (by omega))]
theorem besides7 (hM : isM S now) (ho : okS S) {h : Nat} (hh : h < sN S) : f_X7_besides now (nI h) = some (nI (bitS (nb S (sB S h)) (sN S))) := by
  have hn := ho.1
  have hB := (ho.2.1 h hh).2.2.1
  unfold f_X7_besides
  refine pre_all (fun f acc k => f_X7_besides_c4 f now (nI h) acc (nI k)) (fun k => nI (bitS (nb S (sB S h)) k)) (sN S) _ (by omega) ?_ ?_
  · intro f k hk
    have hBk := (ho.2.1 k hk).2.2.1
    show f_X7_besides_c4 (f + 1) now (nI h) (nI (bitS (nb S (sB S h)) k)) (nI k) = f_X7_besides_c4 f now (nI h) (nI (bitS (nb S (sB S h)) (k + 1))) (nI (k + 1))
    rw [f_X7_besides_c4, jn_eq, hM.1, if_pos (nI_lt hk (by omega)), bay7 hM ho hk, sb, bay7 hM ho hh, sb, apart7 (by omega) (by omega), sb, jn_eq, nI_1, ← or_b (nb S (sB S h)) (show k < 6 by omega)]
    congr 2
    unfold nb
    have e : (nI (if sB S k < sB S h then sB S h - sB S k else sB S k - sB S h) = 1) = ((decide (sB S k + 1 = sB S h) || decide (sB S k = sB S h + 1)) = true) := by
      rw [show (1 : Int32) = nI 1 from rfl, n_eq (by split <;> omega) (by decide)]
      simp only [Bool.or_eq_true, decide_eq_true_eq]
      apply propext
      split <;> omega
    simp only [e]
  · intro f
    show f_X7_besides_c4 (f + 1) now (nI h) (nI (bitS (nb S (sB S h)) (sN S))) (nI (sN S)) = _
    rw [f_X7_besides_c4, jn_eq, hM.1, if_neg (nI_nlt (Nat.le_refl _) (by omega))]
end M7b
