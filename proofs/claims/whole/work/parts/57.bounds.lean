/-! MATHEMATICS 28: gains don't fall; what bounds a deal -/
theorem cnt_mono {P Q : Nat → Bool} : ∀ {n : Nat}, (∀ g, g < n → P g = true → Q g = true) → cnt P n ≤ cnt Q n := by
  intro n
  induction n with
  | zero => intro _; exact Nat.le_refl _
  | succ n ih =>
    intro h
    rw [cnt_s, cnt_s]
    have h1 := ih (fun g hg => h g (by omega))
    by_cases c : P n = true
    · rw [if_pos c, if_pos (h n (by omega) c)]
      omega
    · rw [if_neg c]
      omega
theorem pass_tk {S : Sc} {g : Nat} (h : tk S g = true) : tk (passS S) g = true := by
  unfold tk at h ⊢
  rw [decide_eq_true_eq] at h ⊢
  show min 99 (sU S g + moreS S g) = 99
  omega
theorem gain_up (S : Sc) (h : Nat) : gainS S h ≤ gainS (passS S) h := by
  have h1 : cnt (fun g => nb S (sB S h) g && !tk (passS S) g) (sN S) ≤ cnt (fun g => nb S (sB S h) g && !tk S g) (sN S) := cnt_mono (fun g _ e => by
    rw [Bool.and_eq_true] at e ⊢
    refine ⟨e.1, ?_⟩
    cases c : tk S g with
    | false => rfl
    | true => rw [pass_tk c] at e; exact absurd e.2 (by decide))
  have h2 : cnt (fun g => nb S (sB S h) g && tk S g) (sN S) ≤ cnt (fun g => nb S (sB S h) g && tk (passS S) g) (sN S) := cnt_mono (fun g _ e => by
    rw [Bool.and_eq_true] at e ⊢
    exact ⟨e.1, pass_tk e.2⟩)
  have key : ∀ k p e nt nt' ta ta' : Nat, nt' ≤ nt → ta ≤ ta' → (if k = 0 then p else if k = 1 then p - nt else if k = 2 then p + e else if k = 3 then min 4 (p - nt) else p + e + 2 * ta) ≤ (if k = 0 then p else if k = 1 then p - nt' else if k = 2 then p + e else if k = 3 then min 4 (p - nt') else p + e + 2 * ta') := by
    intro k p e nt nt' ta ta' a1 a2
    by_cases k0 : k = 0
    · rw [if_pos k0, if_pos k0]; exact Nat.le_refl _
    · rw [if_neg k0, if_neg k0]
      by_cases k1 : k = 1
      · rw [if_pos k1, if_pos k1]; omega
      · rw [if_neg k1, if_neg k1]
        by_cases k2 : k = 2
        · rw [if_pos k2, if_pos k2]; exact Nat.le_refl _
        · rw [if_neg k2, if_neg k2]
          by_cases k3 : k = 3
          · rw [if_pos k3, if_pos k3]; omega
          · rw [if_neg k3, if_neg k3]; omega
  exact key (sK S h) (10 - sP S (sB S h)) (if sB S h = 0 ∨ sB S h = 5 then 3 else 0) _ _ _ _ h1 h2
theorem used_p (S : Sc) (h : Nat) : sU (passS S) h = min 99 (sU S h + moreS S h) := rfl
theorem passN_1 (k : Nat) (S : Sc) : passN (k + 1) S = passN k (passS S) := rfl
theorem used_99 : ∀ (k : Nat) {S : Sc} {h : Nat}, sU S h = 99 → sU (passN k S) h = 99 := by
  intro k
  induction k with
  | zero => intro S h e; exact e
  | succ k ih =>
    intro S h e
    rw [passN_1]
    refine ih ?_
    rw [used_p]
    omega
theorem used_lo : ∀ (k : Nat) (S : Sc) (h : Nat), min 99 (sU S h + k * gainS S h) ≤ sU (passN k S) h := by
  intro k
  induction k with
  | zero =>
    intro S h
    show min 99 (sU S h + 0 * gainS S h) ≤ sU S h
    rw [Nat.zero_mul]
    omega
  | succ k ih =>
    intro S h
    rw [passN_1]
    refine Nat.le_trans ?_ (ih (passS S) h)
    rw [used_p]
    have h1 := Nat.mul_le_mul_left k (gain_up S h)
    have h2 := Nat.succ_mul k (gainS S h)
    rw [Nat.succ_eq_add_one] at h2
    unfold moreS
    by_cases c : sU S h = 99
    · rw [if_pos c]; omega
    · rw [if_neg c]; omega
/-- dues of k days -/
def dueN : Nat → Sc → Nat
  | 0, _ => 0
  | k + 1, S => sumN (paid S) (sN S) + dueN k (passS S)
theorem dueN_s (k : Nat) (S : Sc) : dueN (k + 1) S = sumN (paid S) (sN S) + dueN k (passS S) := rfl
theorem dueN_Z : ∀ (k : Nat) (S : Sc), sZ (passN k S) = sZ S + nI (dueN k S) := by
  intro k
  induction k with
  | zero => intro S; exact (Int32.add_zero _).symm
  | succ k ih =>
    intro S
    rw [passN_1, ih, dueN_s, ← n_add, ← Int32.add_assoc]
    rfl
theorem pass_setZ (S : Sc) (z : Int32) : passS (setZ S z) = setZ (passS S) (z + nI (sumN (paid S) (sN S))) := rfl
theorem dueN_setZ : ∀ (k : Nat) (S : Sc) (z : Int32), dueN k (setZ S z) = dueN k S := by
  intro k
  induction k with
  | zero => intro S z; rfl
  | succ k ih =>
    intro S z
    rw [dueN_s, dueN_s, pass_setZ, ih]
    rfl
theorem paid_le {S : Sc} (ho : okS S) {h : Nat} (hh : h < sN S) : paid S h ≤ 99 := by
  unfold paid
  split
  · exact Nat.zero_le _
  · exact (ho.2.2.2.1 _ (ho.2.1 h hh).2.2.1).2
theorem dueN_le : ∀ (k : Nat) {S : Sc}, okS S → dueN k S ≤ 594 * k := by
  intro k
  induction k with
  | zero => intro S _; exact Nat.zero_le _
  | succ k ih =>
    intro S ho
    have h1 : sumN (paid S) (sN S) ≤ 99 * sN S := sum_b (fun h hh => paid_le ho hh)
    have h2 := ih (ok_pass ho)
    have h3 := ho.1
    rw [dueN_s]
    omega
theorem sum_add {f g : Nat → Nat} : ∀ {n : Nat}, sumN f n + sumN g n = sumN (fun h => f h + g h) n := by
  intro n
  induction n with
  | zero => rfl
  | succ n ih =>
    rw [sumN_s, sumN_s, sumN_s, ← ih]
    omega
def bdD (k : Nat) (S : Sc) (h : Nat) : Nat := if gainS S h = 0 then k else (99 - sU S h + gainS S h - 1) / gainS S h
def bdS (k : Nat) (S : Sc) (h : Nat) : Nat := if sU S h = 99 then 0 else sD S (sB S h) * min (bdD k S h) k
theorem bd_step (k : Nat) {S : Sc} {h : Nat} (hu : sU S h ≤ 99) : paid S h + bdS k (passS S) h ≤ bdS (k + 1) S h := by
  unfold paid
  by_cases c : sU S h = 99
  · have c2 : sU (passS S) h = 99 := used_99 1 c
    unfold bdS
    rw [if_pos c, if_pos c, if_pos c2]
    exact Nat.le_refl _
  · have hU : sU (passS S) h = min 99 (sU S h + gainS S h) := by
      rw [used_p]
      unfold moreS
      rw [if_neg c]
    have hg := gain_up S h
    unfold bdS
    rw [if_neg c, if_neg c]
    show sD S (sB S h) + (if sU (passS S) h = 99 then 0 else sD S (sB S h) * min (bdD k (passS S) h) k) ≤ _
    have key : ∀ D m m' : Nat, 1 + m' ≤ m → D + D * m' ≤ D * m := by
      intro D m m' hm
      have h1 := Nat.mul_le_mul_left D hm
      rw [Nat.mul_add, Nat.mul_one] at h1
      exact h1
    have hday : 1 ≤ bdD (k + 1) S h := by
      unfold bdD
      split
      · omega
      · exact Nat.div_pos (by omega) (by omega)
    by_cases c2 : sU (passS S) h = 99
    · rw [if_pos c2]
      exact key _ _ 0 (by omega)
    · rw [if_neg c2]
      refine key _ _ _ ?_
      have h1 : 1 + min (bdD k (passS S) h) k ≤ bdD (k + 1) S h := by
        unfold bdD
        by_cases g0 : gainS S h = 0
        · rw [if_pos g0]
          omega
        · rw [if_neg g0, if_neg (by omega), hU]
          have e1 : min 99 (sU S h + gainS S h) = sU S h + gainS S h := by omega
          rw [e1]
          have e2 : 99 - (sU S h + gainS S h) + gainS (passS S) h - 1 = (98 - (sU S h + gainS S h)) + gainS (passS S) h := by omega
          have e3 : 99 - sU S h + gainS S h - 1 = (98 - (sU S h + gainS S h)) + gainS S h + gainS S h := by omega
          rw [e2, e3, Nat.add_div_right _ (by omega), Nat.add_div_right _ (by omega), Nat.add_div_right _ (by omega)]
          have e4 : (98 - (sU S h + gainS S h)) / gainS (passS S) h ≤ (98 - (sU S h + gainS S h)) / gainS S h := Nat.div_le_div_left hg (by omega)
          omega
      omega
theorem due_ub : ∀ (k : Nat) {S : Sc}, okS S → dueN k S ≤ sumN (bdS k S) (sN S) := by
  intro k
  induction k with
  | zero => intro S _; exact Nat.zero_le _
  | succ k ih =>
    intro S ho
    have h1 : dueN k (passS S) ≤ sumN (bdS k (passS S)) (sN S) := ih (ok_pass ho)
    have h2 : sumN (paid S) (sN S) + sumN (bdS k (passS S)) (sN S) = _ := sum_add
    have h3 : sumN (fun h => paid S h + bdS k (passS S) h) (sN S) ≤ sumN (bdS (k + 1) S) (sN S) := sum_le (fun h hh => bd_step k (ho.2.1 h hh).2.1)
    rw [dueN_s]
    omega
theorem bd_le {k : Nat} {S : Sc} (ho : okS S) (hk : k ≤ 40) {h : Nat} (hh : h < sN S) : bdS k S h ≤ 3960 := by
  unfold bdS
  split
  · exact Nat.zero_le _
  · have h1 : sD S (sB S h) ≤ 99 := (ho.2.2.2.1 _ (ho.2.1 h hh).2.2.1).2
    have h2 : min (bdD k S h) k ≤ 40 := by omega
    exact Nat.mul_le_mul h1 h2
theorem min_i {s k : Nat} (hs : s < 2 ^ 31) (hk : k < 2 ^ 31) : (if nI s < nI k then nI s else nI k) = nI (min s k) := by
  rw [if_n_lt hs hk]
  by_cases c : s < k
  · rw [if_pos c, Nat.min_eq_left (by omega)]
  · rw [if_neg c, Nat.min_eq_right (by omega)]
section BD
variable {kind used bay likes who lamp due : Nat → Int32} {count day dues draw : Int32} {fkind fused fbay flikes fwho flamp fdue fgain : Nat → Int32} {fcount fday fdues fdraw : Int32} {mu mb : Nat → Nat → Int32} {md mz mr : Nat → Int32} {next known : Int32} {now undone : Nat → Int32} {undos : Int32} {S : Sc}
theorem atLeast3 (hX : isX S kind used bay likes who lamp due count day dues draw) (ho : okS S) {h k : Nat} (hh : h < sN S) (hk : k ≤ 40) : f_X3_usedAtLeast kind used bay who lamp (nI h) (nI k) = some (nI (if sU S h = 99 then 99 else min 99 (sU S h + k * gainS S h))) := by
  have hn := ho.1
  have hU := (ho.2.1 h hh).2.1
  have hg := gainS_lt ho h
  have hm := Nat.mul_le_mul hk hg
  unfold f_X3_usedAtLeast
  rw [taken3 hX ho hh, sb]
  unfold tk
  by_cases c : sU S h = 99
  · rw [if_neg (tf_y c), if_pos c]
    rfl
  · rw [if_pos (tf_x c), if_neg c, if_pos (inb_nI (by omega) (by decide)), nI_cl (by omega), (hX.2.2.2.2.1 h hh).2.1, jn_eq, gain3 hX ho hh, sb, jn_eq, n_mul, n_add, min99 (by omega)]
theorem atMost3 (hX : isX S kind used bay likes who lamp due count day dues draw) (ho : okS S) {k : Nat} (hk : k ≤ 40) : f_X3_duesAtMost kind used bay who lamp due count (nI k) = some (nI (sumN (bdS k S) (sN S))) := by
  have hn := ho.1
  obtain ⟨x0, x1, x2, x3, x4, x5, x6⟩ := id hX
  unfold f_X3_duesAtMost
  refine pre_all (fun f (a : Int32) j => f_X3_duesAtMost_c4 f kind used bay who lamp due count (nI k) a (nI j)) (fun j => nI (sumN (bdS k S) j)) (sN S) _ (by omega) ?_ ?_
  · intro f j hj
    show f_X3_duesAtMost_c4 (f + 1) kind used bay who lamp due count (nI k) (nI (sumN (bdS k S) j)) (nI j) = f_X3_duesAtMost_c4 f kind used bay who lamp due count (nI k) (nI (sumN (bdS k S) (j + 1))) (nI (j + 1))
    obtain ⟨hK, hU, hB, hL⟩ := ho.2.1 j hj
    have hg := gainS_lt ho j
    rw [f_X3_duesAtMost_c4, if_pos (by rw [x0]; exact nI_lt hj (by omega)), taken3 hX ho hj, sb, sumN_s]
    unfold tk bdS
    by_cases c : sU S j = 99
    · rw [if_neg (tf_y c), if_pos c]
      unfold f_X3_duesAtMost_c76
      rw [nI_1]
      rfl
    · rw [if_pos (tf_x c), if_neg c, gain3 hX ho hj, sb]
      have e53 : ∀ s, s < 2 ^ 31 → f_X3_duesAtMost_c53 (f_X3_duesAtMost_c4 f) kind used bay who lamp due count (nI k) (nI (sumN (fun h => if sU S h = 99 then 0 else sD S (sB S h) * min (bdD k S h) k) j)) (nI j) (nI s) = f_X3_duesAtMost_c4 f kind used bay who lamp due count (nI k) (nI (sumN (fun h => if sU S h = 99 then 0 else sD S (sB S h) * min (bdD k S h) k) j + sD S (sB S j) * min s k)) (nI (j + 1)) := by
        intro s hs
        unfold f_X3_duesAtMost_c53 f_X3_duesAtMost_c76
        rw [if_pos (inb_nI (show j < 6 by omega) (by decide)), nI_cl (show j < 2 ^ 31 by omega), (x4 j hj).2.2.1, jn_eq, if_pos (inb_nI hB (by decide)), nI_cl (by omega), (x5 _ hB).2, jn_eq, jn_eq, min_i hs (by omega), n_mul, n_add, nI_1]
      unfold bdD at e53 ⊢
      by_cases g0 : gainS S j = 0
      · rw [g0, if_neg (show ¬ (0 : Int32) < nI 0 by decide), if_pos rfl]
        exact e53 k (by omega)
      · have hd : (99 - sU S j + gainS S j - 1) / gainS S j ≤ 99 - sU S j + gainS S j - 1 := Nat.div_le_self _ _
        have e9 : ((99 - nI (sU S j)) + nI (gainS S j) - 1) / nI (gainS S j) = nI ((99 - sU S j + gainS S j - 1) / gainS S j) := by
          rw [show (99 : Int32) = nI 99 from rfl, pk_sub hU, n_add, show (1 : Int32) = nI 1 from rfl, pk_sub (by omega), pk_div (by omega) (by omega) (by omega)]
        rw [if_pos (show (0 : Int32) < nI (gainS S j) from nI_lt (a := 0) (by omega) (by omega)), if_pos (inb_nI (show j < 6 by omega) (by decide)), nI_cl (show j < 2 ^ 31 by omega), (x4 j hj).2.1, jn_eq, if_neg (n_0 (by omega) (by omega)), e9, if_neg g0]
        exact e53 _ (by omega)
  · intro f
    show f_X3_duesAtMost_c4 (f + 1) kind used bay who lamp due count (nI k) (nI (sumN (bdS k S) (sN S))) (nI (sN S)) = _
    rw [f_X3_duesAtMost_c4, if_neg (by rw [x0]; exact nI_nlt (Nat.le_refl _) (by omega))]
theorem ufd28 (db : Nat → Int32) {h L : Nat} (hL : L ≤ 100) : ∀ k f {S : Sc} {fused fgain : Nat → Int32} {fday fdues : Int32}, isX S fkind fused fbay flikes fwho flamp fdue fcount fday fdues fdraw → okS S → h < sN S → k ≤ 40 → k < f → ∃ r w, f_X6_usedIfDealt_c28 f kind used bay likes who lamp due count day dues draw fkind fused fbay flikes fwho flamp fdue fgain fcount fday fdues fdraw db (nI h) (nI L) (nI k) = some r ∧ r.1 = nI w ∧ w ≤ 99 ∧ ((w < L ∧ w = sU (passN k S) h) ∨ (L ≤ w ∧ L ≤ sU (passN k S) h)) := by
  intro k
  induction k with
  | zero =>
    intro f S fused fgain fday fdues hX ho hh _ hf
    obtain ⟨f, rfl⟩ : ∃ g, f = g + 1 := ⟨f - 1, by omega⟩
    have hn := ho.1
    have hU := (ho.2.1 h hh).2.1
    rw [f_X6_usedIfDealt_c28, if_neg (show ¬ (0 : Int32) < nI 0 by decide), if_pos (inb_nI (show h < 6 by omega) (by decide)), nI_cl (by omega), (hX.2.2.2.2.1 h hh).2.1, jn_eq]
    refine ⟨_, sU S h, rfl, rfl, hU, ?_⟩
    show (sU S h < L ∧ sU S h = sU S h) ∨ (L ≤ sU S h ∧ L ≤ sU S h)
    omega
  | succ k ih =>
    intro f S fused fgain fday fdues hX ho hh hk hf
    obtain ⟨f, rfl⟩ : ∃ g, f = g + 1 := ⟨f - 1, by omega⟩
    have hn := ho.1
    have hU := (ho.2.1 h hh).2.1
    have hlo := used_lo (k + 1) S h
    have h99 : sU S h = 99 → sU (passN (k + 1) S) h = 99 := used_99 (k + 1)
    rw [f_X6_usedIfDealt_c28, if_pos (show (0 : Int32) < nI (k + 1) from nI_lt (a := 0) (by omega) (by omega)), atLeast3 hX ho hh hk, sb]
    have hA : (if sU S h = 99 then 99 else min 99 (sU S h + (k + 1) * gainS S h)) ≤ sU (passN (k + 1) S) h ∧ (if sU S h = 99 then 99 else min 99 (sU S h + (k + 1) * gainS S h)) ≤ 99 := by
      split
      · rename_i c
        rw [h99 c]
        omega
      · exact ⟨hlo, Nat.min_le_left _ _⟩
    generalize (if sU S h = 99 then 99 else min 99 (sU S h + (k + 1) * gainS S h)) = A at hA
    rw [if_n_lt (by omega) (by omega)]
    by_cases c : A < L
    · obtain ⟨q, eq, hq⟩ := passDay3 hX ho fgain
      rw [if_pos c, eq, sb, pk_m1]
      exact ih f hq (ok_pass ho) hh (by omega) (by omega)
    · rw [if_neg c]
      exact ⟨_, A, rfl, rfl, hA.2, Or.inr ⟨by omega, by omega⟩⟩
theorem lt_m1 {w y : Nat} (hw : w < 2 ^ 30) (hy : y < 2 ^ 30) : (nI w + (-1) < nI y) = (w ≤ y) := by
  apply propext
  cases w with
  | zero =>
    constructor
    · intro _; omega
    · intro _
      rw [l_lt, l_lit (by omega)]
      have : (nI 0 + (-1)).toInt = -1 := rfl
      omega
  | succ w =>
    rw [pk_m1, nI_ltI (by omega) (by omega)]
    omega
theorem due35 (db : Nat → Int32) {w : Nat} (hw : w ≤ 30000) : ∀ k f {S : Sc} {z : Nat} {fused fgain : Nat → Int32} {fday fdues : Int32}, isX S fkind fused fbay flikes fwho flamp fdue fcount fday fdues fdraw → okS S → sZ S = nI z → z + 594 * k ≤ 23760 → k ≤ 40 → k < f → ∃ r v, f_X6_duesIfDealt_c35 f kind used bay likes who lamp due count day dues draw fkind fused fbay flikes fwho flamp fdue fgain fcount fday fdues fdraw db (nI w + (-1)) (nI k) = some r ∧ r.1 = nI v ∧ v ≤ 60000 ∧ ((w ≤ v ∧ v = z + dueN k S) ∨ (v < w ∧ z + dueN k S < w)) := by
  intro k
  induction k with
  | zero =>
    intro f S z fused fgain fday fdues hX ho hz hb _ hf
    obtain ⟨f, rfl⟩ : ∃ g, f = g + 1 := ⟨f - 1, by omega⟩
    rw [f_X6_duesIfDealt_c35, if_neg (show ¬ (0 : Int32) < nI 0 by decide)]
    refine ⟨_, z, rfl, hX.2.2.1.trans hz, by omega, ?_⟩
    show (w ≤ z ∧ z = z + 0) ∨ (z < w ∧ z + 0 < w)
    omega
  | succ k ih =>
    intro f S z fused fgain fday fdues hX ho hz hb hk hf
    obtain ⟨f, rfl⟩ : ∃ g, f = g + 1 := ⟨f - 1, by omega⟩
    have hn := ho.1
    have hub := due_ub (k + 1) ho
    have hbd : sumN (bdS (k + 1) S) (sN S) ≤ 3960 * sN S := sum_b (fun h hh => bd_le ho hk hh)
    have hpd : sumN (paid S) (sN S) ≤ 99 * sN S := sum_b (fun h hh => paid_le ho hh)
    have hd : fdues = nI z := hX.2.2.1.trans hz
    rw [f_X6_duesIfDealt_c35, if_pos (show (0 : Int32) < nI (k + 1) from nI_lt (a := 0) (by omega) (by omega)), atMost3 hX ho hk, sb]
    have e1 : fdues + nI (sumN (bdS (k + 1) S) (sN S)) = nI (z + sumN (bdS (k + 1) S) (sN S)) := by rw [hd, n_add]
    rw [e1]
    by_cases c : w ≤ z + sumN (bdS (k + 1) S) (sN S)
    · obtain ⟨q, eq, hq⟩ := passDay3 hX ho fgain
      rw [if_pos (by rw [lt_m1 (by omega) (by omega)]; exact c), eq, sb, pk_m1]
      have hz2 : sZ (passS S) = nI (z + sumN (paid S) (sN S)) := by
        show sZ S + nI (sumN (paid S) (sN S)) = _
        rw [hz, n_add]
      obtain ⟨r, v, h1, h2, h3, h4⟩ := ih f hq (ok_pass ho) hz2 (by omega) (by omega) (by omega)
      refine ⟨r, v, h1, h2, h3, ?_⟩
      rw [dueN_s]
      omega
    · rw [if_neg (by rw [lt_m1 (by omega) (by omega)]; exact c)]
      exact ⟨_, _, rfl, rfl, by omega, Or.inr ⟨by omega, by omega⟩⟩
end BD
