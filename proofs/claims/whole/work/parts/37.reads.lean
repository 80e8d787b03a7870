/-! MATHEMATICS 8: what reads alone: sets, sums, far; of, at, count, seed, rule -/
theorem isBay6 (x : Int32) : f_X6_isBay x = some (tf (decide (0 ≤ x.toInt ∧ x.toInt ≤ 5))) := by
  unfold f_X6_isBay
  rw [within6, sb, if_pos (tf_isb _)]
  rfl
theorem isBay7 (x : Int32) : f_X7_isBay x = some (tf (decide (0 ≤ x.toInt ∧ x.toInt ≤ 5))) := by
  unfold f_X7_isBay
  rw [in7w, sb, if_pos (tf_isb _)]
  rfl
def dist (x y : Nat) : Nat := if x < y then y - x else x - y
theorem absd {x y : Nat} (hx : x < 2 ^ 30) (hy : y < 2 ^ 30) : (if nI x - nI y < 0 then 0 - (nI x - nI y) else nI x - nI y) = nI (dist x y) := by
  unfold dist
  by_cases h : x < y
  · rw [if_pos h, if_pos (pk_sneg hy h)]
    have e : (0 : Int32) - (nI x - nI y) = nI y - nI x := by
      apply Int32.toBitVec_inj.mp
      simp [Int32.toBitVec_sub]
    rw [e, pk_sub (by omega)]
  · rw [if_neg h, pk_sub (by omega), if_neg (nI_pos (by omega))]
theorem bit_zero {P : Nat → Bool} : ∀ {n : Nat}, (∀ g, g < n → P g = false) → bitS P n = 0 := by
  intro n
  induction n with
  | zero => intro _; rfl
  | succ n ih =>
    intro h
    rw [bitS_s, ih (fun g hg => h g (by omega)), h n (by omega)]
    rfl
theorem bit_one {P : Nat → Bool} {h : Nat} : ∀ {n : Nat}, h < n → (∀ g, g < n → P g = true → g = h) → bitS P n = if P h = true then 2 ^ h else 0 := by
  intro n
  induction n with
  | zero => intro hh; omega
  | succ n ih =>
    intro hh hu
    rw [bitS_s]
    by_cases hn : h = n
    · subst hn
      rw [bit_zero (fun g hg => by
        cases e : P g with
        | false => rfl
        | true => have := hu g (by omega) e; omega)]
      omega
    · have hPn : P n = false := by
        cases e : P n with
        | false => rfl
        | true => exact absurd (hu n (by omega) e).symm hn
      rw [ih (by omega) (fun g hg => hu g (by omega)), hPn]
      rfl
theorem bit_add {P Q : Nat → Bool} : ∀ {n : Nat}, (∀ g, g < n → ¬ (P g = true ∧ Q g = true)) → bitS P n + bitS Q n = bitS (fun g => P g || Q g) n := by
  intro n
  induction n with
  | zero => intro _; rfl
  | succ n ih =>
    intro h
    have hn := h n (by omega)
    have := ih (fun g hg => h g (by omega))
    rw [bitS_s, bitS_s, bitS_s, ← this]
    cases e1 : P n <;> cases e2 : Q n <;> simp_all <;> omega
/-- the bit of who is there -/
def ob (o : Option Nat) : Nat := match o with
  | some h => 2 ^ h
  | none => 0
theorem or_two : ∀ l r : Fin 6, l ≠ r → nI (2 ^ l.val) ||| nI (2 ^ r.val) = nI (2 ^ l.val + 2 ^ r.val) := by decide +kernel
section X3c
variable {S : Sc} {kind used bay likes who lamp due : Nat → Int32} {count day dues draw : Int32}
theorem bit_o (ho : okS S) (x : Nat) : bitS (fun g => decide (sB S g = x)) (sN S) = ob (wf (sB S) x (sN S)) := by
  cases e : wf (sB S) x (sN S) with
  | none => exact bit_zero (fun g hg => by simp [wf_none e g hg])
  | some h =>
    obtain ⟨h1, h2⟩ := wf_some e
    rw [bit_one (h := h) h1 (fun g hg hp => by
      simp only [decide_eq_true_eq] at hp
      exact ho.2.2.1 g h hg h1 (by rw [hp, h2]))]
    simp [h2, ob]
theorem bit_oL (ho : okS S) (b : Nat) : bitS (fun g => decide (sB S g + 1 = b)) (sN S) = ob (wfL S b) := by
  cases b with
  | zero => exact bit_zero (fun g _ => by simp)
  | succ b =>
    have e : ob (wfL S (b + 1)) = ob (wf (sB S) b (sN S)) := rfl
    rw [e, ← bit_o ho b]
    exact bitS_congr (fun g _ => by simp)
theorem wI_bit {o : Option Nat} (ho : ∀ h, o = some h → h < 6) : (if wI o (-1) = (-1) then (0 : Int32) else 1 <<< (wI o (-1) &&& 31)) = nI (ob o) := by
  cases o with
  | none => rfl
  | some h =>
    have hh := ho h rfl
    rw [if_neg (show ¬ wI (some h) (-1) = (-1) from wI_ne hh)]
    exact shl_bit ⟨h, hh⟩
theorem besideSet3 (hX : isX S kind used bay likes who lamp due count day dues draw) (ho : okS S) {h : Nat} (hh : h < sN S) : f_X3_besideSet bay who (nI h) = some (nI (bitS (nb S (sB S h)) (sN S))) := by
  have hn := ho.1
  have hB := (ho.2.1 h hh).2.2.1
  have x3 := (hX.2.2.2.2.1 h hh).2.2.1
  have hl : ∀ g, wfL S (sB S h) = some g → g < 6 := fun g e => by have := wfL_lt ho e; omega
  have hr : ∀ g, wf (sB S) (sB S h + 1) (sN S) = some g → g < 6 := fun g e => by have := (wf_some e).1; omega
  unfold f_X3_besideSet
  rw [if_pos (inb_nI (by omega) (by decide)), nI_cl (by omega), x3, jn_eq, whoL3 hX hB, sb, jn_eq, whoR3 hX ho hB, sb, jn_eq, jn_eq, wI_bit hl, wI_bit hr]
  congr 1
  have e : bitS (nb S (sB S h)) (sN S) = ob (wfL S (sB S h)) + ob (wf (sB S) (sB S h + 1) (sN S)) := by
    rw [← bit_oL ho, ← bit_o ho, bit_add (fun g _ => by simp; omega)]
    rfl
  rw [e]
  cases e1 : wfL S (sB S h) with
  | none =>
    show (0 : Int32) ||| _ = nI (0 + _)
    rw [Nat.zero_add]
    exact Int32.zero_or
  | some l =>
    cases e2 : wf (sB S) (sB S h + 1) (sN S) with
    | none =>
      show _ ||| (0 : Int32) = nI (_ + 0)
      exact Int32.or_zero
    | some r =>
      refine or_two ⟨l, hl l e1⟩ ⟨r, hr r e2⟩ (fun e => ?_)
      have elr : l = r := congrArg Fin.val e
      subst elr
      have h2 := (wf_some e2).2
      cases hb : sB S h with
      | zero => rw [hb] at e1; cases e1
      | succ b =>
        rw [hb] at e1 h2
        have h1 := (wf_some (show wf (sB S) b (sN S) = some l from e1)).2
        omega
theorem takenSet3 (hX : isX S kind used bay likes who lamp due count day dues draw) (ho : okS S) : f_X3_takenSet used count = some (nI (bitS (tk S) (sN S))) := by
  have hn := ho.1
  unfold f_X3_takenSet
  refine pre_all (fun f acc k => f_X3_takenSet_c4 f used count acc (nI k)) (fun k => nI (bitS (tk S) k)) (sN S) _ (by omega) ?_ ?_
  · intro f k hk
    show f_X3_takenSet_c4 (f + 1) used count (nI (bitS (tk S) k)) (nI k) = f_X3_takenSet_c4 f used count (nI (bitS (tk S) (k + 1))) (nI (k + 1))
    rw [f_X3_takenSet_c4, hX.1, if_pos (nI_lt hk (by omega)), taken3 hX ho hk, sb, ← or_b (tk S) (show k < 6 by omega)]
    unfold f_X3_takenSet_c26
    rw [nI_1]
    cases e : tk S k
    · rw [if_pos (show tf false = 0 from rfl), if_neg (by decide), Int32.or_zero]
    · rw [if_neg (show ¬ tf true = 0 by decide), if_pos rfl]
  · intro f
    show f_X3_takenSet_c4 (f + 1) used count (nI (bitS (tk S) (sN S))) (nI (sN S)) = _
    rw [f_X3_takenSet_c4, hX.1, if_neg (nI_nlt (Nat.le_refl _) (by omega))]
theorem farFrom3 (hX : isX S kind used bay likes who lamp due count day dues draw) (ho : okS S) {h b : Nat} (hh : h < sN S) (hb : b < 2 ^ 30) : f_X3_farFrom likes (nI h) (nI b) = some (nI (dist b (sL S h))) := by
  have hn := ho.1
  have hL := (ho.2.1 h hh).2.2.2
  unfold f_X3_farFrom
  rw [if_pos (inb_nI (by omega) (by decide)), nI_cl (by omega), (hX.2.2.2.2.1 h hh).2.2.2, jn_eq, absd hb (by omega), jn_eq]
theorem usedTog3 (hX : isX S kind used bay likes who lamp due count day dues draw) (ho : okS S) : f_X3_usedTogether used count = some (nI (sumN (sU S) (sN S))) := by
  have hn := ho.1
  unfold f_X3_usedTogether
  refine pre_all (fun f acc k => f_X3_usedTogether_c4 f used count acc (nI k)) (fun k => nI (sumN (sU S) k)) (sN S) _ (by omega) ?_ ?_
  · intro f k hk
    show f_X3_usedTogether_c4 (f + 1) used count (nI (sumN (sU S) k)) (nI k) = f_X3_usedTogether_c4 f used count (nI (sumN (sU S) (k + 1))) (nI (k + 1))
    rw [f_X3_usedTogether_c4, hX.1, if_pos (nI_lt hk (by omega)), if_pos (inb_nI (by omega) (by decide)), nI_cl (by omega), (hX.2.2.2.2.1 k hk).2.1, jn_eq, n_add, nI_1]
    rfl
  · intro f
    show f_X3_usedTogether_c4 (f + 1) used count (nI (sumN (sU S) (sN S))) (nI (sN S)) = _
    rw [f_X3_usedTogether_c4, hX.1, if_neg (nI_nlt (Nat.le_refl _) (by omega))]
/-- how far h is -/
def farS (S : Sc) (h : Nat) : Nat := dist (sB S h) (sL S h)
theorem farTog3 (hX : isX S kind used bay likes who lamp due count day dues draw) (ho : okS S) : f_X3_farTogether bay likes count = some (nI (sumN (farS S) (sN S))) := by
  have hn := ho.1
  unfold f_X3_farTogether
  refine pre_all (fun f acc k => f_X3_farTogether_c4 f bay likes count acc (nI k)) (fun k => nI (sumN (farS S) k)) (sN S) _ (by omega) ?_ ?_
  · intro f k hk
    have hB := (ho.2.1 k hk).2.2.1
    show f_X3_farTogether_c4 (f + 1) bay likes count (nI (sumN (farS S) k)) (nI k) = f_X3_farTogether_c4 f bay likes count (nI (sumN (farS S) (k + 1))) (nI (k + 1))
    rw [f_X3_farTogether_c4, hX.1, if_pos (nI_lt hk (by omega)), if_pos (inb_nI (by omega) (by decide)), nI_cl (by omega), (hX.2.2.2.2.1 k hk).2.2.1, jn_eq, farFrom3 hX ho hk (by omega), sb, n_add, nI_1]
    rfl
  · intro f
    show f_X3_farTogether_c4 (f + 1) bay likes count (nI (sumN (farS S) (sN S))) (nI (sN S)) = _
    rw [f_X3_farTogether_c4, hX.1, if_neg (nI_nlt (Nat.le_refl _) (by omega))]
end X3c
section M7e
variable {S : Sc} {now : Nat → Int32}
theorem likes7 (hM : isM S now) (ho : okS S) {h : Nat} (hh : h < sN S) : f_X7_told now (nI h) 3 = some (nI (sL S h)) := by
  have hn := ho.1
  rw [show (3 : Int32) = nI 3 from rfl, told7 now (by omega) (by decide), (hM.2.2.2.2.1 h hh).2.2.2]
theorem far7 (hM : isM S now) (ho : okS S) {h : Nat} (hh : h < sN S) : f_X7_far now (nI h) = some (nI (farS S h)) := by
  obtain ⟨hK, hU, hB, hL⟩ := ho.2.1 h hh
  unfold f_X7_far
  rw [bay7 hM ho hh, sb, likes7 hM ho hh, sb, apart7 (by omega) (by omega), sb]
  rfl
theorem farAll7 (hM : isM S now) (ho : okS S) : f_X7_farAll now = some (nI (sumN (farS S) (sN S))) := by
  have hn := ho.1
  unfold f_X7_farAll
  refine pre_all (fun f acc k => f_X7_farAll_c4 f now acc (nI k)) (fun k => nI (sumN (farS S) k)) (sN S) _ (by omega) ?_ ?_
  · intro f k hk
    show f_X7_farAll_c4 (f + 1) now (nI (sumN (farS S) k)) (nI k) = f_X7_farAll_c4 f now (nI (sumN (farS S) (k + 1))) (nI (k + 1))
    rw [f_X7_farAll_c4, jn_eq, hM.1, if_pos (nI_lt hk (by omega)), far7 hM ho hk, sb, n_add, nI_1]
    rfl
  · intro f
    show f_X7_farAll_c4 (f + 1) now (nI (sumN (farS S) (sN S))) (nI (sN S)) = _
    rw [f_X7_farAll_c4, jn_eq, hM.1, if_neg (nI_nlt (Nat.le_refl _) (by omega))]
theorem usedAll7 (hM : isM S now) (ho : okS S) : f_X7_usedAll now = some (nI (sumN (sU S) (sN S))) := by
  have hn := ho.1
  unfold f_X7_usedAll
  refine pre_all (fun f acc k => f_X7_usedAll_c4 f now acc (nI k)) (fun k => nI (sumN (sU S) k)) (sN S) _ (by omega) ?_ ?_
  · intro f k hk
    show f_X7_usedAll_c4 (f + 1) now (nI (sumN (sU S) k)) (nI k) = f_X7_usedAll_c4 f now (nI (sumN (sU S) (k + 1))) (nI (k + 1))
    rw [f_X7_usedAll_c4, jn_eq, hM.1, if_pos (nI_lt hk (by omega)), used7 hM ho hk, sb, n_add, nI_1]
    rfl
  · intro f
    show f_X7_usedAll_c4 (f + 1) now (nI (sumN (sU S) (sN S))) (nI (sN S)) = _
    rw [f_X7_usedAll_c4, jn_eq, hM.1, if_neg (nI_nlt (Nat.le_refl _) (by omega))]
end M7e
