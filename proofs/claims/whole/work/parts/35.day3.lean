/-! MATHEMATICS 6: a day of the class; days -/
theorem min99 {a : Nat} (ha : a < 2 ^ 30) : (if nI a < 99 then nI a else 99) = nI (min 99 a) := by
  rw [show (99 : Int32) = nI 99 from rfl, if_n_lt (by omega) (by decide)]
  by_cases h : a < 99
  · rw [if_pos h, Nat.min_eq_right (by omega)]
  · rw [if_neg h, Nat.min_eq_left (by omega)]
section X3b
variable {S : Sc} {kind used bay likes who lamp due gain : Nat → Int32} {count day dues draw : Int32}
theorem pass67 (ho : okS S) (hc : count = nI (sN S)) (hu : ∀ h, h < sN S → used h = nI (sU S h)) (hg : ∀ h, h < sN S → gain h = nI (moreS S h)) : ∃ used', f_X3_passDay_c67 fu kind used bay who lamp due gain count day dues 0 = some (used', gain, day + 1, dues) ∧ ∀ h, h < sN S → used' h = nI (usedS S h) := by
  have hn := ho.1
  refine inv_all (fun f a k => f_X3_passDay_c67 f kind a bay who lamp due gain count day dues (nI k)) (fun k a => ∀ h, h < sN S → a h = nI (if h < k then usedS S h else sU S h)) (sN S) (fun o => ∃ used', o = some (used', gain, day + 1, dues) ∧ ∀ h, h < sN S → used' h = nI (usedS S h)) (by omega) used ?_ ?_ ?_
  · intro h hh
    rw [if_neg (by omega)]
    exact hu h hh
  · intro f k a hk hI
    have hU := (ho.2.1 k hk).2.1
    have hG := gainS_lt ho k
    have hm : moreS S k ≤ 40 := by unfold moreS; split <;> omega
    have e1 : a k = nI (sU S k) := by rw [hI k hk, if_neg (by omega)]
    refine ⟨upd a k (nI (usedS S k)), ?_, ?_⟩
    · show f_X3_passDay_c67 (f + 1) kind a bay who lamp due gain count day dues (nI k) = f_X3_passDay_c67 f kind (upd a k (nI (usedS S k))) bay who lamp due gain count day dues (nI (k + 1))
      rw [f_X3_passDay_c67, hc, if_pos (nI_lt hk (by omega)), if_pos (inb_nI (by omega) (by decide)), nI_cl (by omega), e1, jn_eq, hg k hk, jn_eq, n_add, min99 (by omega), jn_eq, nI_1]
      rfl
    · intro h hh
      by_cases e : h = k
      · subst e
        rw [pk_us, if_pos (by omega)]
      · rw [pk_un e, hI h hh]
        by_cases e2 : h < k
        · rw [if_pos e2, if_pos (by omega)]
        · rw [if_neg e2, if_neg (by omega)]
  · intro f a hI
    refine ⟨a, ?_, fun h hh => by rw [hI h hh, if_pos hh]⟩
    show f_X3_passDay_c67 (f + 1) kind a bay who lamp due gain count day dues (nI (sN S)) = _
    rw [f_X3_passDay_c67, hc, if_neg (nI_nlt (Nat.le_refl _) (by omega))]
theorem passDay3 (hX : isX S kind used bay likes who lamp due count day dues draw) (ho : okS S) (gain : Nat → Int32) : ∃ r, f_X3_passDay kind used bay who lamp due gain count day dues = some r ∧ isX (passS S) kind r.1 bay likes who lamp due count r.2.2.1 r.2.2.2 draw := by
  have hn := ho.1
  obtain ⟨x0, x1, x2, x3, x4, x5, x6⟩ := id hX
  unfold f_X3_passDay
  refine inv_all (fun f (a : (Nat → Int32) × Int32) k => f_X3_passDay_c2 f kind used bay who lamp due a.1 count day a.2 (nI k)) (fun k a => a.2 = sZ S + nI (sumN (paid S) k) ∧ ∀ h, h < k → a.1 h = nI (moreS S h)) (sN S) (fun o => ∃ r, o = some r ∧ isX (passS S) kind r.1 bay likes who lamp due count r.2.2.1 r.2.2.2 draw) (by omega) (gain, dues) ?_ ?_ ?_
  · refine ⟨?_, fun h hh => by omega⟩
    show dues = sZ S + nI 0
    rw [x2]
    exact (Int32.add_zero _).symm
  · rintro f k ⟨g, z⟩ hk ⟨hz, hg⟩
    have hz : z = sZ S + nI (sumN (paid S) k) := hz
    have hg : ∀ h, h < k → g h = nI (moreS S h) := hg
    have hB := (ho.2.1 k hk).2.2.1
    refine ⟨(upd g k (nI (moreS S k)), sZ S + nI (sumN (paid S) (k + 1))), ?_, rfl, ?_⟩
    · show f_X3_passDay_c2 (f + 1) kind used bay who lamp due g count day z (nI k) = f_X3_passDay_c2 f kind used bay who lamp due (upd g k (nI (moreS S k))) count day (sZ S + nI (sumN (paid S) (k + 1))) (nI (k + 1))
      rw [f_X3_passDay_c2, x0, if_pos (nI_lt hk (by omega)), taken3 hX ho hk, sb, sumN_s, ← n_add, hz]
      unfold f_X3_passDay_c59 paid moreS tk
      by_cases h9 : sU S k = 99
      · rw [if_neg (by rw [tf_0]; simp [h9]), if_pos h9, if_pos h9, if_pos (inb_nI (by omega) (by decide)), nI_cl (by omega), nI_1]
        rw [show nI 0 = (0 : Int32) from rfl, Int32.add_zero]
      · rw [if_pos (by rw [tf_0]; simp [h9]), if_neg h9, if_neg h9, gain3 hX ho hk, sb, if_pos (inb_nI (by omega) (by decide)), nI_cl (by omega), (x4 k hk).2.2.1, jn_eq, if_pos (inb_nI hB (by decide)), nI_cl (by omega), (x5 _ hB).2, jn_eq, nI_1, Int32.add_assoc]
    · intro h hh
      show upd g k (nI (moreS S k)) h = nI (moreS S h)
      by_cases e : h = k
      · subst e; exact pk_us
      · rw [pk_un e]; exact hg h (by omega)
  · rintro f ⟨g, z⟩ ⟨hz, hg⟩
    have hz : z = sZ S + nI (sumN (paid S) (sN S)) := hz
    have hg : ∀ h, h < sN S → g h = nI (moreS S h) := hg
    obtain ⟨u', e1, e2⟩ := pass67 (kind := kind) (bay := bay) (who := who) (lamp := lamp) (due := due) (day := day) (dues := z) ho x0 (fun h hh => (x4 h hh).2.1) hg
    refine ⟨(u', g, day + 1, z), ?_, ?_⟩
    · show f_X3_passDay_c2 (f + 1) kind used bay who lamp due g count day z (nI (sN S)) = _
      rw [f_X3_passDay_c2, x0, if_neg (nI_nlt (Nat.le_refl _) (by omega)), ← x0, e1]
    · refine ⟨x0, ?_, hz, x3, fun h hh => ⟨(x4 h hh).1, e2 h hh, (x4 h hh).2.2.1, (x4 h hh).2.2.2⟩, x5, x6⟩
      show day + 1 = sY S + 1
      rw [x1]
end X3b
/-- n days -/
def passN : Nat → Sc → Sc
  | 0, S => S
  | k + 1, S => passN k (passS S)
theorem passN_s : ∀ (k : Nat) (S : Sc), passN (k + 1) S = passS (passN k S) := by
  intro k
  induction k with
  | zero => intro S; rfl
  | succ k ih => intro S; exact ih (passS S)
theorem ok_passN : ∀ (k : Nat) {S : Sc}, okS S → okS (passN k S) := by
  intro k
  induction k with
  | zero => intro S h; exact h
  | succ k ih => intro S h; exact ih (ok_pass h)
theorem passN_N : ∀ (k : Nat) (S : Sc), sN (passN k S) = sN S := by
  intro k
  induction k with
  | zero => intro S; rfl
  | succ k ih => intro S; exact ih (passS S)
theorem goesOn7 {S : Sc} {now : Nat → Int32} (mores : Nat → Int32) (hM : isM S now) (ho : okS S) {k : Nat} (hk : k < 1000) : ∃ r, f_X7_goesOn now mores (nI k) = some r ∧ isM (passN k S) r.1 := by
  unfold f_X7_goesOn
  refine inv_all (fun f (a : (Nat → Int32) × (Nat → Int32)) j => f_X7_goesOn_c2 f a.1 a.2 (nI k) (nI j)) (fun j a => isM (passN j S) a.1) k (fun o => ∃ r, o = some r ∧ isM (passN k S) r.1) (by omega) (now, mores) hM ?_ ?_
  · rintro f j ⟨a, mo⟩ hj hI
    obtain ⟨r, e1, e2⟩ := goesBy7 mo hI (ok_passN j ho)
    refine ⟨r, ?_, ?_⟩
    · show f_X7_goesOn_c2 (f + 1) a mo (nI k) (nI j) = f_X7_goesOn_c2 f r.1 r.2 (nI k) (nI (j + 1))
      have e1 : f_X7_goesBy a mo = some r := e1
      rw [f_X7_goesOn_c2, if_pos (nI_lt hj (by omega)), e1, sb, nI_1]
    · show isM (passN (j + 1) S) r.1
      rw [passN_s]
      exact e2
  · rintro f ⟨a, mo⟩ hI
    refine ⟨(a, mo), ?_, hI⟩
    show f_X7_goesOn_c2 (f + 1) a mo (nI k) (nI k) = _
    rw [f_X7_goesOn_c2, if_neg (nI_nlt (Nat.le_refl _) (by omega))]
theorem passDays3 {S : Sc} {kind used bay likes who lamp due : Nat → Int32} {count day dues draw : Int32} (gain : Nat → Int32) (hX : isX S kind used bay likes who lamp due count day dues draw) (ho : okS S) {k : Nat} (hk : k < 1000) : ∃ r, f_X3_passDays kind used bay who lamp due gain count day dues (nI k) = some r ∧ isX (passN k S) kind r.1 bay likes who lamp due count r.2.2.1 r.2.2.2 draw := by
  unfold f_X3_passDays
  refine inv_all (fun f (a : (Nat → Int32) × (Nat → Int32) × Int32 × Int32) j => f_X3_passDays_c2 f kind a.1 bay who lamp due a.2.1 count a.2.2.1 a.2.2.2 (nI k) (nI j)) (fun j a => isX (passN j S) kind a.1 bay likes who lamp due count a.2.2.1 a.2.2.2 draw) k (fun o => ∃ r, o = some r ∧ isX (passN k S) kind r.1 bay likes who lamp due count r.2.2.1 r.2.2.2 draw) (by omega) (used, gain, day, dues) hX ?_ ?_
  · rintro f j ⟨a, g, y, z⟩ hj hI
    obtain ⟨r, e1, e2⟩ := passDay3 hI (ok_passN j ho) g
    refine ⟨r, ?_, ?_⟩
    · show f_X3_passDays_c2 (f + 1) kind a bay who lamp due g count y z (nI k) (nI j) = f_X3_passDays_c2 f kind r.1 bay who lamp due r.2.1 count r.2.2.1 r.2.2.2 (nI k) (nI (j + 1))
      have e1 : f_X3_passDay kind a bay who lamp due g count y z = some r := e1
      rw [f_X3_passDays_c2, if_pos (nI_lt hj (by omega)), e1, sb, nI_1]
    · show isX (passN (j + 1) S) kind r.1 bay likes who lamp due count r.2.2.1 r.2.2.2 draw
      rw [passN_s]
      exact e2
  · rintro f ⟨a, g, y, z⟩ hI
    refine ⟨(a, g, y, z), ?_, hI⟩
    show f_X3_passDays_c2 (f + 1) kind a bay who lamp due g count y z (nI k) (nI k) = _
    rw [f_X3_passDays_c2, if_neg (nI_nlt (Nat.le_refl _) (by omega))]
