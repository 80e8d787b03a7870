/-! MATHEMATICS 4: more (reference), gainOf (class) -/
theorem if_n_eq {α : Type} {a b : Nat} (ha : a < 2 ^ 31) (hb : b < 2 ^ 31) (x y : α) : (if nI a = nI b then x else y) = if a = b then x else y := by
  by_cases h : a = b
  · rw [if_pos h, if_pos (by rw [h])]
  · rw [if_neg h, if_neg (fun e => h ((nI_eq ha hb).mp e))]
theorem if_n_lt {α : Type} {a b : Nat} (ha : a < 2 ^ 31) (hb : b < 2 ^ 31) (x y : α) : (if nI a < nI b then x else y) = if a < b then x else y := by
  by_cases h : a < b
  · rw [if_pos h, if_pos ((nI_ltI ha hb).mpr h)]
  · rw [if_neg h, if_neg (fun e => h ((nI_ltI ha hb).mp e))]
theorem rem5 : ∀ b : Fin 6, (nI b.val - nI b.val / 5 * 5 = 0) = (b.val = 0 ∨ b.val = 5) := by decide +kernel
section M7c
variable {S : Sc} {now : Nat → Int32}
theorem more7 (hM : isM S now) (ho : okS S) {h : Nat} (hh : h < sN S) : f_X7_more now (nI h) = some (nI (if sU S h = 99 then 0 else gainS S h)) := by
  have hn := ho.1
  obtain ⟨hK, hU, hB, hL⟩ := ho.2.1 h hh
  have hP := (ho.2.2.2.1 (sB S h) hB).1
  have hnow := (hM.2.2.2.2.2 (sB S h) hB).1
  unfold f_X7_more
  rw [up7 hM ho hh, sb]
  by_cases h9 : sU S h = 99
  · rw [if_neg (by rw [tf_0]; simp [h9]), if_pos h9]; rfl
  · rw [if_pos (by rw [tf_0]; simp [h9]), if_neg h9, bay7 hM ho hh, sb]
    have e28 : (28 : Int32) + nI (sB S h) = nI (28 + sB S h) := n_add 28 (sB S h)
    have e10 : (10 : Int32) - nI (sP S (sB S h)) = nI (10 - sP S (sB S h)) := pk_sub (a := 10) (by omega)
    have hc1 := cnt_le (P := fun g => nb S (sB S h) g && !tk S g) (sN S)
    have hc2 := cnt_le (P := fun g => nb S (sB S h) g && tk S g) (sN S)
    rw [e28, if_pos (inb_nI (by omega) (by decide)), nI_cl (by omega), hnow, jn_eq, besides7 hM ho hh, sb, ups7 hM ho, sb, many_N _ _ hn, sb, jn_eq, e10, sub_neg (by omega) (by omega), sb, jn_eq]
    rw [show (0 : Int32) = nI 0 from rfl, told7 now (show h < 6 by omega) (by decide), sb, Nat.add_zero, (hM.2.2.2.2.1 h hh).1]
    have e5 := rem5 ⟨sB S h, hB⟩
    simp only at e5
    have ee : (if nI (sB S h) - nI (sB S h) / 5 * 5 = nI 0 then (3 : Int32) else nI 0) = nI (if sB S h = 0 ∨ sB S h = 5 then 3 else 0) := by
      by_cases hb5 : sB S h = 0 ∨ sB S h = 5
      · rw [if_pos hb5, if_pos (e5.symm ▸ hb5)]; rfl
      · rw [if_neg hb5, if_neg (e5.symm ▸ hb5)]
    rw [ee]
    unfold gainS
    simp only []
    rw [if_n_eq (by omega) (by decide), show (1 : Int32) = nI 1 from rfl, if_n_eq (by omega) (by decide), show (2 : Int32) = nI 2 from rfl, if_n_eq (by omega) (by decide), show (3 : Int32) = nI 3 from rfl, if_n_eq (by omega) (by decide)]
    by_cases k0 : sK S h = 0
    · rw [if_pos k0, if_pos k0]
    · rw [if_neg k0, if_neg k0]
      by_cases k1 : sK S h = 1
      · rw [if_pos k1, if_pos k1]
      · rw [if_neg k1, if_neg k1]
        by_cases k2 : sK S h = 2
        · rw [if_pos k2, if_pos k2, n_add]
        · rw [if_neg k2, if_neg k2]
          by_cases k3 : sK S h = 3
          · rw [if_pos k3, if_pos k3, jn_eq, show (4 : Int32) = nI 4 from rfl, if_n_lt (by decide) (by omega)]
            congr 1
            by_cases h4 : 4 < 10 - sP S (sB S h) - cnt (fun g => nb S (sB S h) g && !tk S g) (sN S)
            · rw [if_pos h4, Nat.min_eq_left (by omega)]
            · rw [if_neg h4, Nat.min_eq_right (by omega)]
          · rw [if_neg k3, if_neg k3, sb, many_A _ _ hn, sb, n_mul, n_add, n_add]
end M7c
section X3a
variable {S : Sc} {kind used bay likes who lamp due : Nat → Int32} {count day dues draw : Int32}
theorem has3 (hX : isX S kind used bay likes who lamp due count day dues draw) (ho : okS S) (x : Int32) : f_X3_has count x = some (tf (decide (0 ≤ x.toInt ∧ x.toInt < sN S))) := by
  have hn := ho.1
  unfold f_X3_has
  rw [jn_eq, hX.1]
  have h1 : x < nI (sN S) ↔ x.toInt < sN S := by rw [l_lt, l_lit (by omega)]
  have h0 : x < 0 ↔ x.toInt < 0 := l_lt _ _
  by_cases c0 : x < 0
  · rw [if_pos c0, decide_eq_false (by rw [h0] at c0; omega)]; rfl
  · rw [if_neg c0]
    rw [h0] at c0
    by_cases c1 : x < nI (sN S)
    · rw [if_pos c1, decide_eq_true (by rw [h1] at c1; omega)]; rfl
    · rw [if_neg c1, decide_eq_false (by rw [h1] at c1; omega)]; rfl
theorem taken3 (hX : isX S kind used bay likes who lamp due count day dues draw) (ho : okS S) {h : Nat} (hh : h < sN S) : f_X3_hasTaken used (nI h) = some (tf (tk S h)) := by
  have hn := ho.1
  have hU := (ho.2.1 h hh).2.1
  unfold f_X3_hasTaken
  rw [if_pos (inb_nI (by omega) (by decide)), nI_cl (by omega), (hX.2.2.2.2.1 h hh).2.1, jn_eq, jn_eq, show (99 : Int32) = nI 99 from rfl, if_n_lt (by omega) (by decide)]
  unfold tk
  by_cases h9 : sU S h = 99
  · rw [if_neg (show ¬ sU S h < 99 by omega), decide_eq_true h9]; rfl
  · rw [if_pos (show sU S h < 99 by omega), decide_eq_false h9]; rfl
theorem whoIn3 (hX : isX S kind used bay likes who lamp due count day dues draw) {b : Nat} (hb : b < 6) : f_X3_whoIn who (nI b) = some (wI (wf (sB S) b (sN S)) (-1)) := by
  unfold f_X3_whoIn
  rw [if_neg (nI_pos (by omega)), show (6 : Int32) = nI 6 from rfl, if_n_lt (by omega) (by decide), if_pos hb, if_pos (inb_nI hb (by decide)), nI_cl (by omega), jn_eq, hX.2.2.2.2.2.2 b hb]
theorem wf_6 (ho : okS S) : wf (sB S) 6 (sN S) = none := by
  cases e : wf (sB S) 6 (sN S) with
  | none => rfl
  | some h =>
    obtain ⟨h1, h2⟩ := wf_some e
    have := (ho.2.1 h h1).2.2.1
    omega
/-- who is in the bay below, in the bay above -/
def wfL (S : Sc) : Nat → Option Nat
  | 0 => none
  | b + 1 => wf (sB S) b (sN S)
theorem whoL3 (hX : isX S kind used bay likes who lamp due count day dues draw) {b : Nat} (hb : b < 6) : f_X3_whoIn who (nI b - 1) = some (wI (wfL S b) (-1)) := by
  cases b with
  | zero => rfl
  | succ b =>
    rw [nI_pred]
    exact whoIn3 hX (by omega)
theorem whoR3 (hX : isX S kind used bay likes who lamp due count day dues draw) (ho : okS S) {b : Nat} (hb : b < 6) : f_X3_whoIn who (nI b + 1) = some (wI (wf (sB S) (b + 1) (sN S)) (-1)) := by
  rw [nI_1]
  by_cases h5 : b = 5
  · subst h5
    rw [wf_6 ho]
    rfl
  · exact whoIn3 hX (by omega)
theorem wI_ne {h : Nat} (hh : h < 6) : ¬ nI h = (-1) := by
  rw [l_eq, l_lit (by omega)]
  have : ((-1 : Int32)).toInt = -1 := rfl
  omega
/-- 1 if somebody is there of whom Q holds -/
def oq (o : Option Nat) (Q : Nat → Bool) : Nat := match o with
  | some h => if Q h = true then 1 else 0
  | none => 0
theorem oq_le (o : Option Nat) (Q : Nat → Bool) : oq o Q ≤ 1 := by
  cases o with
  | none => exact Nat.zero_le _
  | some h =>
    unfold oq
    simp only []
    split <;> omega
theorem cnt_o (ho : okS S) (Q : Nat → Bool) (x : Nat) : cnt (fun g => decide (sB S g = x) && Q g) (sN S) = oq (wf (sB S) x (sN S)) Q := by
  cases e : wf (sB S) x (sN S) with
  | none =>
    exact cnt_zero (fun g hg => by simp [wf_none e g hg])
  | some h =>
    obtain ⟨h1, h2⟩ := wf_some e
    rw [cnt_one (h := h) h1 (fun g hg hp => by
      simp only [Bool.and_eq_true, decide_eq_true_eq] at hp
      exact ho.2.2.1 g h hg h1 (by rw [hp.1, h2]))]
    simp [h2, oq]
theorem cnt_oL (ho : okS S) (Q : Nat → Bool) (b : Nat) : cnt (fun g => decide (sB S g + 1 = b) && Q g) (sN S) = oq (wfL S b) Q := by
  cases b with
  | zero => exact cnt_zero (fun g _ => by simp)
  | succ b =>
    have e : oq (wfL S (b + 1)) Q = oq (wf (sB S) b (sN S)) Q := rfl
    rw [e, ← cnt_o ho Q b]
    exact cnt_congr (fun g _ => by simp)
theorem wfL_lt (ho : okS S) {b h : Nat} (e : wfL S b = some h) : h < sN S := by
  cases b with
  | zero => cases e
  | succ b => exact (wf_some e).1
theorem nb_split (S : Sc) (b : Nat) (Q : Nat → Bool) : cnt (fun g => nb S b g && Q g) (sN S) = cnt (fun g => decide (sB S g + 1 = b) && Q g) (sN S) + cnt (fun g => decide (sB S g = b + 1) && Q g) (sN S) := by
  rw [cnt_add (fun g _ => by simp; omega)]
  refine cnt_congr (fun g _ => ?_)
  unfold nb
  cases decide (sB S g + 1 = b) <;> cases decide (sB S g = b + 1) <;> cases Q g <;> rfl
theorem notIn (o : Option Nat) (x : Int32) (hx : f_X3_whoIn who x = some (wI o (-1))) (hX : isX S kind used bay likes who lamp due count day dues draw) (ho : okS S) (hlt : ∀ h, o = some h → h < sN S) : f_X3_notTakenIn used who x = some (nI (oq o (fun g => !tk S g))) ∧ f_X3_takenIn used who x = some (nI (oq o (tk S))) := by
  have hn := ho.1
  unfold f_X3_notTakenIn f_X3_takenIn
  rw [hx, sb, sb]
  cases o with
  | none => exact ⟨rfl, rfl⟩
  | some h =>
    have hh := hlt h rfl
    have hne : ¬ wI (some h) (-1) = (-1) := wI_ne (by omega)
    rw [if_neg hne, if_neg hne]
    have e : wI (some h) (-1) = nI h := rfl
    rw [e, taken3 hX ho hh, sb, sb, jn_eq, jn_eq]
    unfold oq
    simp only []
    exact (show ∀ b : Bool, some (if tf b = 0 then (1 : Int32) else 0) = some (nI (if (!b) = true then 1 else 0)) ∧ some (if tf b = 0 then (0 : Int32) else 1) = some (nI (if b = true then 1 else 0)) by decide) (tk S h)
theorem nt3 (hX : isX S kind used bay likes who lamp due count day dues draw) (ho : okS S) {b : Nat} (hb : b < 6) : ∃ l r : Nat, l ≤ 1 ∧ r ≤ 1 ∧ f_X3_notTakenIn used who (nI b - 1) = some (nI l) ∧ f_X3_notTakenIn used who (nI b + 1) = some (nI r) ∧ l + r = cnt (fun g => nb S b g && !tk S g) (sN S) := by
  refine ⟨_, _, oq_le _ _, oq_le _ _, (notIn (wfL S b) _ (whoL3 hX hb) hX ho (fun h e => wfL_lt ho e)).1, (notIn (wf (sB S) (b + 1) (sN S)) _ (whoR3 hX ho hb) hX ho (fun h e => (wf_some e).1)).1, ?_⟩
  rw [nb_split, cnt_oL ho, cnt_o ho]
theorem tk3 (hX : isX S kind used bay likes who lamp due count day dues draw) (ho : okS S) {b : Nat} (hb : b < 6) : ∃ l r : Nat, l ≤ 1 ∧ r ≤ 1 ∧ f_X3_takenIn used who (nI b - 1) = some (nI l) ∧ f_X3_takenIn used who (nI b + 1) = some (nI r) ∧ l + r = cnt (fun g => nb S b g && tk S g) (sN S) := by
  refine ⟨_, _, oq_le _ _, oq_le _ _, (notIn (wfL S b) _ (whoL3 hX hb) hX ho (fun h e => wfL_lt ho e)).2, (notIn (wf (sB S) (b + 1) (sN S)) _ (whoR3 hX ho hb) hX ho (fun h e => (wf_some e).1)).2, ?_⟩
  rw [nb_split, cnt_oL ho, cnt_o ho]
theorem gain44 (hX : isX S kind used bay likes who lamp due count day dues draw) (ho : okS S) {b p k : Nat} (hb : b < 6) (hp : 1 ≤ p) (hp2 : p ≤ 10) (hk : k ≤ 4) : f_X3_gainOf_c44 kind used bay who lamp (nI b) (nI p) (nI k) = some (nI (if k = 1 then p - cnt (fun g => nb S b g && !tk S g) (sN S) else min 4 (p - cnt (fun g => nb S b g && !tk S g) (sN S)))) := by
  obtain ⟨l, r, hl, hr, e1, e2, e3⟩ := nt3 hX ho hb
  unfold f_X3_gainOf_c44
  rw [e1, sb, e2, sb, jn_eq, pk_sub (a := p) (b := l) (by omega), sub_pos (by omega) (by omega), show (1 : Int32) = nI 1 from rfl, if_n_eq (by omega) (by decide), jn_eq, show (4 : Int32) = nI 4 from rfl, if_n_lt (by omega) (by decide), ← e3]
  have e : p - l - r = p - (l + r) := by omega
  rw [e]
  by_cases h1 : k = 1
  · rw [if_pos h1, if_pos h1]
  · rw [if_neg h1, if_neg h1]
    congr 1
    by_cases h4 : p - (l + r) < 4
    · rw [if_pos h4, Nat.min_eq_right (by omega)]
    · rw [if_neg h4, Nat.min_eq_left (by omega)]
theorem gain3 (hX : isX S kind used bay likes who lamp due count day dues draw) (ho : okS S) {h : Nat} (hh : h < sN S) : f_X3_gainOf kind used bay who lamp (nI h) = some (nI (gainS S h)) := by
  have hn := ho.1
  obtain ⟨hK, hU, hB, hL⟩ := ho.2.1 h hh
  have hP := (ho.2.2.2.1 (sB S h) hB).1
  obtain ⟨x1, x2, x3, x4⟩ := hX.2.2.2.2.1 h hh
  have x5 := (hX.2.2.2.2.2.1 (sB S h) hB).1
  have e10 : (10 : Int32) - nI (sP S (sB S h)) = nI (10 - sP S (sB S h)) := pk_sub (a := 10) (by omega)
  unfold f_X3_gainOf
  rw [if_pos (inb_nI (by omega) (by decide)), nI_cl (by omega), x3, jn_eq, if_pos (inb_nI hB (by decide)), nI_cl (by omega), x5, jn_eq, x1, jn_eq, e10]
  unfold gainS
  simp only []
  rw [show (0 : Int32) = nI 0 from rfl, if_n_eq (by omega) (by decide), show (1 : Int32) = nI 1 from rfl, if_n_eq (by omega) (by decide), show (3 : Int32) = nI 3 from rfl, if_n_eq (by omega) (by decide), jn_eq, show (4 : Int32) = nI 4 from rfl, if_n_eq (by omega) (by decide), show (5 : Int32) = nI 5 from rfl, if_n_eq (by omega) (by decide), if_n_eq (by omega) (by decide)]
  have ee : (if sB S h = 0 then nI (10 - sP S (sB S h)) + nI 3 else if sB S h = 5 then nI (10 - sP S (sB S h)) + nI 3 else nI (10 - sP S (sB S h))) = nI (10 - sP S (sB S h) + (if sB S h = 0 ∨ sB S h = 5 then 3 else 0)) := by
    rw [n_add]
    by_cases b0 : sB S h = 0
    · rw [if_pos b0, if_pos (Or.inl b0)]
    · rw [if_neg b0]
      by_cases b5 : sB S h = 5
      · rw [if_pos b5, if_pos (Or.inr b5)]
      · rw [if_neg b5, if_neg (by omega)]; rfl
  rw [ee]
  by_cases k0 : sK S h = 0
  · rw [if_pos k0, if_pos k0]
  · rw [if_neg k0, if_neg k0]
    by_cases k1 : sK S h = 1
    · rw [if_pos k1, if_pos k1, gain44 hX ho hB (by omega) (by omega) hK, if_pos k1]
    · rw [if_neg k1, if_neg k1]
      by_cases k3 : sK S h = 3
      · rw [if_pos k3, gain44 hX ho hB (by omega) (by omega) hK, if_neg (show ¬ sK S h = 1 by omega), if_neg (show ¬ sK S h = 2 by omega), if_pos k3]
      · rw [if_neg k3]
        by_cases k4 : sK S h = 4
        · obtain ⟨l, r, hl, hr, e1, e2, e3⟩ := tk3 hX ho hB
          rw [show nI 1 = (1 : Int32) from rfl, if_pos k4, e1, sb, e2, sb, show (2 : Int32) = nI 2 from rfl, n_add, n_mul, n_add, if_neg (show ¬ sK S h = 2 by omega), if_neg k3, e3]
        · rw [if_neg k4, if_pos (show sK S h = 2 by omega)]
end X3a
