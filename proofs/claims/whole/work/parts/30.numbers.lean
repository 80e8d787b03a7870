/-! MATHEMATICS 1: numbers; the options' binds; small functions of both sides -/
theorem jn_eq {α β : Type} (x : α) (f : α → β) : jn x f = f x := rfl
theorem sb {α β : Type} (x : α) (f : α → Option β) : (some x).bind f = f x := rfl
theorem inb_nI {k n : Nat} (h : k < n) (hn : n < 2 ^ 31) : inb (nI k) n = true := by
  simp only [inb, Bool.and_eq_true, decide_eq_true_eq]
  refine ⟨nI_pos' (by omega), ?_⟩
  rw [nI_clamp (by omega)]
  exact h
theorem nI_cl {k : Nat} (h : k < 2 ^ 31) : (nI k).toNatClampNeg = k := nI_clamp h
theorem l_lt (a b : Int32) : a < b ↔ a.toInt < b.toInt := Int32.lt_iff_toInt_lt
theorem l_le (a b : Int32) : a ≤ b ↔ a.toInt ≤ b.toInt := Int32.le_iff_toInt_le
theorem l_eq (a b : Int32) : a = b ↔ a.toInt = b.toInt := ⟨fun h => by rw [h], fun h => Int32.toInt_inj.mp h⟩
theorem l_rng (a : Int32) : -2147483648 ≤ a.toInt ∧ a.toInt < 2147483648 := ⟨Int32.le_toInt a, Int32.toInt_lt a⟩
theorem l_lit {n : Nat} (h : n < 2 ^ 31) : (nI n).toInt = n := nI_toInt h
/-- an int between two bounds is a small number -/
theorem l_of {x : Int32} {m : Nat} (h0 : 0 ≤ x.toInt) (h1 : x.toInt ≤ m) : ∃ k : Nat, k ≤ m ∧ x = nI k := by
  have hr := l_rng x
  refine ⟨x.toInt.toNat, by omega, ?_⟩
  rw [l_eq, l_lit (by omega)]
  omega
theorem w_toInt (a : Int32) : a.toInt64.toInt = a.toInt := Int32.toInt_toInt64 a
theorem ll_lt (a b : Int64) : a < b ↔ a.toInt < b.toInt := Int64.lt_iff_toInt_lt
theorem ll_eq (a b : Int64) : a = b ↔ a.toInt = b.toInt := ⟨fun h => by rw [h], fun h => Int64.toInt_inj.mp h⟩
theorem cmp_lt (x y : Int64) : lg_cmp x y < 0 ↔ x.toInt < y.toInt := by
  unfold lg_cmp
  by_cases h1 : y < x
  · rw [if_pos h1]
    rw [ll_lt] at h1
    constructor
    · intro h; exact absurd h (by decide)
    · intro h; omega
  · rw [if_neg h1]
    rw [ll_lt] at h1
    by_cases h2 : x = y
    · rw [if_pos h2]
      subst h2
      constructor
      · intro h; exact absurd h (by decide)
      · intro h; omega
    · rw [if_neg h2]
      have h3 : x.toInt ≠ y.toInt := fun h => h2 ((ll_eq x y).mpr h)
      constructor
      · intro _; omega
      · intro _; decide
theorem cmp_gt (x y : Int64) : 0 < lg_cmp x y ↔ y.toInt < x.toInt := by
  unfold lg_cmp
  by_cases h1 : y < x
  · rw [if_pos h1]
    rw [ll_lt] at h1
    constructor
    · intro _; exact h1
    · intro _; decide
  · rw [if_neg h1]
    rw [ll_lt] at h1
    by_cases h2 : x = y
    · rw [if_pos h2]
      constructor
      · intro h; exact absurd h (by decide)
      · intro h; exact absurd h h1
    · rw [if_neg h2]
      constructor
      · intro h; exact absurd h (by decide)
      · intro h; exact absurd h h1
/-- a truth as 1 or 0 -/
def tf (b : Bool) : Int32 := if b = true then 1 else 0
theorem tf_0 (b : Bool) : tf b = 0 ↔ b = false := by cases b <;> decide
theorem tf_isb (b : Bool) : isb (tf b) = true := by cases b <;> rfl
theorem in7 (x a b : Int64) : f_X7_in x a b = some (tf (decide (a.toInt ≤ x.toInt ∧ x.toInt ≤ b.toInt))) := by
  unfold f_X7_in jn
  by_cases h1 : lg_cmp x a < 0
  · rw [if_pos h1]
    rw [cmp_lt] at h1
    have h2 : decide (a.toInt ≤ x.toInt ∧ x.toInt ≤ b.toInt) = false := by simp; omega
    rw [h2]; rfl
  · rw [if_neg h1]
    rw [cmp_lt] at h1
    by_cases h3 : 0 < lg_cmp x b
    · rw [if_pos h3]
      rw [cmp_gt] at h3
      have h2 : decide (a.toInt ≤ x.toInt ∧ x.toInt ≤ b.toInt) = false := by simp; omega
      rw [h2]; rfl
    · rw [if_neg h3]
      rw [cmp_gt] at h3
      have h2 : decide (a.toInt ≤ x.toInt ∧ x.toInt ≤ b.toInt) = true := by simp; omega
      rw [h2]; rfl
theorem in7w (x : Int32) (a b : Int64) : f_X7_in x.toInt64 a b = some (tf (decide (a.toInt ≤ x.toInt ∧ x.toInt ≤ b.toInt))) := by
  rw [in7, w_toInt]
theorem within6 (x a b : Int32) : f_X6_within x a b = some (tf (decide (a.toInt ≤ x.toInt ∧ x.toInt ≤ b.toInt))) := by
  unfold f_X6_within jn
  by_cases h1 : x < a
  · rw [if_pos h1]
    rw [l_lt] at h1
    have h2 : decide (a.toInt ≤ x.toInt ∧ x.toInt ≤ b.toInt) = false := by simp; omega
    rw [h2]; rfl
  · rw [if_neg h1]
    rw [l_lt] at h1
    by_cases h3 : b < x
    · rw [if_pos h3]
      rw [l_lt] at h3
      have h2 : decide (a.toInt ≤ x.toInt ∧ x.toInt ≤ b.toInt) = false := by simp; omega
      rw [h2]; rfl
    · rw [if_neg h3]
      rw [l_lt] at h3
      have h2 : decide (a.toInt ≤ x.toInt ∧ x.toInt ≤ b.toInt) = true := by simp; omega
      rw [h2]; rfl
