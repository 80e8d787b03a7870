/-! MATHEMATICS 31: earn -/
def vE (S : Sc) (m N : Nat) : Nat := dueN m (withB S (dg (sN S) N))
/-- a.2: 0: nothing yet; else one more than the dues -/
def stE (v : Nat → Nat) (a : Nat × Nat) (N : Nat) : Nat × Nat := if a.2 ≤ v N then (N, v N + 1) else a
abbrev XE : Type := Nat × F12 × (Nat → Int32) × (Nat → Int32) × Int32 × Int32 × Int32 × Int32
def RpE (t n p i : Nat) (a : Nat × Nat) (x : XE) : Prop := 719 < x.1 + i ∧ x.2.2.2.2.2.2.2 = nI i ∧ (∀ h, h < n → x.2.2.1 h = nI (dg n p h)) ∧ x.2.2.2.2.2.1 = nI (frD t n p) ∧ (∀ h, h < n → x.2.2.2.1 h = nI (dg n a.1 h)) ∧ x.2.2.2.2.1 = nI (a.2 - 1) ∧ x.2.2.2.2.2.2.1 = nI a.2 + (-1) ∧ 1 ≤ a.2 ∧ a.2 ≤ 23761
section ER
variable {kind used bay likes who lamp due : Nat → Int32} {count day dues draw : Int32} {fkind fused fbay flikes fwho flamp fdue fgain : Nat → Int32} {fcount fday fdues fdraw : Int32} {mu mb : Nat → Nat → Int32} {md mz mr : Nat → Int32} {next known : Int32} {now undone : Nat → Int32} {undos : Int32} {S : Sc}
def NxE (kind used bay likes who lamp due : Nat → Int32) (count day dues draw : Int32) (n m : Nat) (x : XE) := f_X6_dealMostDues_c58 (f_X6_dealMostDues_c25 x.1) kind used bay likes who lamp due count day dues draw x.2.1.1 x.2.1.2.1 x.2.1.2.2.1 x.2.1.2.2.2.1 x.2.1.2.2.2.2.1 x.2.1.2.2.2.2.2.1 x.2.1.2.2.2.2.2.2.1 x.2.1.2.2.2.2.2.2.2.1 x.2.1.2.2.2.2.2.2.2.2.1 x.2.1.2.2.2.2.2.2.2.2.2.1 x.2.1.2.2.2.2.2.2.2.2.2.2.1 x.2.1.2.2.2.2.2.2.2.2.2.2.2 x.2.2.1 x.2.2.2.1 x.2.2.2.2.1 x.2.2.2.2.2.1 (nI n) (nI m) x.2.2.2.2.2.2.1 x.2.2.2.2.2.2.2
theorem X_setZ0 (hX : isX S kind used bay likes who lamp due count day dues draw) (z : Int32) : isX (setZ S z) kind used bay likes who lamp due count day z draw := ⟨hX.1, hX.2.1, rfl, hX.2.2.2⟩
theorem vE_le (ho : okS S) {m N : Nat} (hm : m ≤ 40) (hi : injD (sN S) N 0 = true) : vE S m N ≤ 23760 := by
  have h1 := dueN_le m (ok_dg ho hi)
  unfold vE
  omega
theorem dues6 (hX : isX S kind used bay likes who lamp due count day dues draw) (ho : okS S) {m w N : Nat} (hm : m ≤ 40) (hw : w ≤ 30000) (hi : injD (sN S) N 0 = true) (F : F12) (db : Nat → Int32) (hb : ∀ g, g < sN S → db g = nI (dg (sN S) N g)) : ∃ r v, f_X6_duesIfDealt kind used bay likes who lamp due count day dues draw F.1 F.2.1 F.2.2.1 F.2.2.2.1 F.2.2.2.2.1 F.2.2.2.2.2.1 F.2.2.2.2.2.2.1 F.2.2.2.2.2.2.2.1 F.2.2.2.2.2.2.2.2.1 F.2.2.2.2.2.2.2.2.2.1 F.2.2.2.2.2.2.2.2.2.2.1 F.2.2.2.2.2.2.2.2.2.2.2 db (nI m) (nI w + (-1)) = some r ∧ r.1 = nI v ∧ v ≤ 60000 ∧ ((w ≤ v ∧ v = vE S m N) ∨ (v < w ∧ vE S m N < w)) := by
  have hn := ho.1
  have hfu : fu = 100000 := rfl
  obtain ⟨b, eb, hb2⟩ := become3 hX ho F.1 F.2.1 F.2.2.1 F.2.2.2.1 F.2.2.2.2.1 F.2.2.2.2.2.1 F.2.2.2.2.2.2.1 F.2.2.2.2.2.2.2.2.1 F.2.2.2.2.2.2.2.2.2.1 F.2.2.2.2.2.2.2.2.2.2.1 F.2.2.2.2.2.2.2.2.2.2.2
  obtain ⟨s, es, hs1, hs2⟩ := seatAll3 b.2.2.1 b.2.2.2.2.1 db (dg (sN S) N) hn (fun g hg => ⟨dg_lt _ _ g, hb g hg⟩)
  have hX2 := X_setZ0 (X_withB hb2 hs1 hs2) 0
  unfold f_X6_duesIfDealt
  rw [eb, sb, show b.2.2.2.2.2.2.2.1 = nI (sN S) from hb2.1, es, sb, ← show b.2.2.2.2.2.2.2.1 = nI (sN S) from hb2.1]
  obtain ⟨r, v, h1, h2, h3, h4⟩ := due35 (kind := kind) (used := used) (bay := bay) (likes := likes) (who := who) (lamp := lamp) (due := due) (count := count) (day := day) (dues := dues) (draw := draw) (fgain := F.2.2.2.2.2.2.2.1) db hw m fu (z := 0) hX2 (ok_setZ (ok_dg ho hi) 0) rfl (by omega) hm (by omega)
  refine ⟨r, v, h1, h2, h3, ?_⟩
  rw [dueN_setZ, Nat.zero_add] at h4
  exact h4
theorem mostN (hX : isX S kind used bay likes who lamp due count day dues draw) (ho : okS S) {m t : Nat} (hm : m ≤ 40) : ∀ p N i a x, N < 6 ^ sN S → qd (sN S) t N = true → chkN t (sN S) p N = true → i < 719 → RpE t (sN S) p i a x → ∃ x', NxE kind used bay likes who lamp due count day dues draw (sN S) m x = NxE kind used bay likes who lamp due count day dues draw (sN S) m x' ∧ RpE t (sN S) N (i + 1) (stE (vE S m) a N) x' := by
  have hn := ho.1
  rintro p N i a ⟨f, F, b, best, worth, free, most, way⟩ hN hq hc hi ⟨q1, q2, q3, q4, q5, q6, q7, r8, r9⟩
  have r1 : 719 < f + i := q1
  have r2 : way = nI i := q2
  have r3 : ∀ h, h < sN S → b h = nI (dg (sN S) p h) := q3
  have r4 : free = nI (frD t (sN S) p) := q4
  have r5 : ∀ h, h < sN S → best h = nI (dg (sN S) a.1 h) := q5
  have r6 : worth = nI (a.2 - 1) := q6
  have r7 : most = nI a.2 + (-1) := q7
  clear q1 q2 q3 q4 q5 q6 q7
  obtain ⟨f, rfl⟩ : ∃ g, f = g + 1 := ⟨f - 1, by omega⟩
  obtain ⟨b', eb, hb'⟩ := next_N hn r3 hc
  obtain ⟨r, v, e1, e2, e3, e4⟩ := dues6 hX ho hm (show a.2 ≤ 30000 by omega) (qd_inj hq) F b' hb'
  have hle := vE_le ho hm (qd_inj hq)
  have e5 : NxE kind used bay likes who lamp due count day dues draw (sN S) m (f + 1, F, b, best, worth, free, most, way) = (if nI a.2 + (-1) < r.1 then (f_X0_keep b' best worth r.1).bind fun r55 => f_X6_dealMostDues_c58 (f_X6_dealMostDues_c25 f) kind used bay likes who lamp due count day dues draw r.2.1 r.2.2.1 r.2.2.2.1 r.2.2.2.2.1 r.2.2.2.2.2.1 r.2.2.2.2.2.2.1 r.2.2.2.2.2.2.2.1 r.2.2.2.2.2.2.2.2.1 r.2.2.2.2.2.2.2.2.2.1 r.2.2.2.2.2.2.2.2.2.2.1 r.2.2.2.2.2.2.2.2.2.2.2.1 r.2.2.2.2.2.2.2.2.2.2.2.2 b' r55.1 r55.2 (nI (frD t (sN S) N)) (nI (sN S)) (nI m) r.1 (nI (i + 1)) else f_X6_dealMostDues_c58 (f_X6_dealMostDues_c25 f) kind used bay likes who lamp due count day dues draw r.2.1 r.2.2.1 r.2.2.2.1 r.2.2.2.2.1 r.2.2.2.2.2.1 r.2.2.2.2.2.2.1 r.2.2.2.2.2.2.2.1 r.2.2.2.2.2.2.2.2.1 r.2.2.2.2.2.2.2.2.2.1 r.2.2.2.2.2.2.2.2.2.2.1 r.2.2.2.2.2.2.2.2.2.2.2.1 r.2.2.2.2.2.2.2.2.2.2.2.2 b' best worth (nI (frD t (sN S) N)) (nI (sN S)) (nI m) (nI a.2 + (-1)) (nI (i + 1))) := by
    show (f_X0_next b free (nI (sN S))).bind (fun r66 => if r66.1 = 0 then some (F.1, F.2.1, F.2.2.1, F.2.2.2.1, F.2.2.2.2.1, F.2.2.2.2.2.1, F.2.2.2.2.2.2.1, F.2.2.2.2.2.2.2.1, F.2.2.2.2.2.2.2.2.1, F.2.2.2.2.2.2.2.2.2.1, F.2.2.2.2.2.2.2.2.2.2.1, F.2.2.2.2.2.2.2.2.2.2.2, r66.2.1, best, worth, r66.2.2, nI (sN S)) else f_X6_dealMostDues_c25 (f + 1) kind used bay likes who lamp due count day dues draw F.1 F.2.1 F.2.2.1 F.2.2.2.1 F.2.2.2.2.1 F.2.2.2.2.2.1 F.2.2.2.2.2.2.1 F.2.2.2.2.2.2.2.1 F.2.2.2.2.2.2.2.2.1 F.2.2.2.2.2.2.2.2.2.1 F.2.2.2.2.2.2.2.2.2.2.1 F.2.2.2.2.2.2.2.2.2.2.2 r66.2.1 best worth r66.2.2 (nI (sN S)) (nI m) most (way + 1)) = _
    rw [r4, eb, sb, if_neg (show ¬ (1 : Int32) = 0 by decide), r2, nI_1, f_X6_dealMostDues_c25, if_pos (show nI (i + 1) < (720 : Int32) from nI_lt (b := 720) (by omega) (by decide)), r7, e1, sb]
  rw [e5, e2]
  unfold stE
  by_cases c : a.2 ≤ v
  · have hw : v = vE S m N := by omega
    rw [if_pos (show nI a.2 + (-1) < nI v by rw [lt_m1 (by omega) (by omega)]; exact c), if_pos (show a.2 ≤ vE S m N by omega)]
    refine ⟨(f, r.2, b', va_cpy b' best 0 0 6, nI v, nI (frD t (sN S) N), nI v, nI (i + 1)), rfl, ?_, rfl, hb', rfl, fun h hh => ?_, ?_, ?_, ?_, ?_⟩
    · show 719 < f + (i + 1)
      omega
    · show va_cpy b' best 0 0 6 h = nI (dg (sN S) N h)
      rw [cp6 _ _ (by omega)]
      exact hb' h hh
    · show nI v = nI (vE S m N + 1 - 1)
      rw [hw, Nat.add_sub_cancel]
    · show nI v = nI (vE S m N + 1) + (-1)
      rw [hw, pk_m1]
    · show 1 ≤ vE S m N + 1
      omega
    · show vE S m N + 1 ≤ 23761
      omega
  · rw [if_neg (show ¬ nI a.2 + (-1) < nI v by rw [lt_m1 (by omega) (by omega)]; exact c), if_neg (show ¬ a.2 ≤ vE S m N by omega)]
    refine ⟨(f, r.2, b', best, worth, nI (frD t (sN S) N), nI a.2 + (-1), nI (i + 1)), rfl, ?_, rfl, hb', rfl, r5, r6, rfl, r8, r9⟩
    show 719 < f + (i + 1)
    omega
theorem most6d (hX : isX S kind used bay likes who lamp due count day dues draw) (ho : okS S) {m : Nat} (hm : m ≤ 40) (F : F12) (b best : Nat → Int32) (worth free dc : Int32) : ∃ (r : F12 × (Nat → Int32) × (Nat → Int32) × Int32 × Int32 × Int32), f_X6_dealMostDues kind used bay likes who lamp due count day dues draw F.1 F.2.1 F.2.2.1 F.2.2.2.1 F.2.2.2.2.1 F.2.2.2.2.2.1 F.2.2.2.2.2.2.1 F.2.2.2.2.2.2.2.1 F.2.2.2.2.2.2.2.2.1 F.2.2.2.2.2.2.2.2.2.1 F.2.2.2.2.2.2.2.2.2.2.1 F.2.2.2.2.2.2.2.2.2.2.2 b best worth free dc (nI m) = some (r.1.1, r.1.2.1, r.1.2.2.1, r.1.2.2.2.1, r.1.2.2.2.2.1, r.1.2.2.2.2.2.1, r.1.2.2.2.2.2.2.1, r.1.2.2.2.2.2.2.2.1, r.1.2.2.2.2.2.2.2.2.1, r.1.2.2.2.2.2.2.2.2.2.1, r.1.2.2.2.2.2.2.2.2.2.2.1, r.1.2.2.2.2.2.2.2.2.2.2.2, r.2) ∧ (∀ g, g < sN S → r.2.2.1 g = nI (dg (sN S) (foD (qd (sN S) (msk (sB S) (sN S))) (stE (vE S m)) (6 ^ sN S) 0 (0, 0)).1 g)) ∧ r.2.2.2.1 = nI ((foD (qd (sN S) (msk (sB S) (sN S))) (stE (vE S m)) (6 ^ sN S) 0 (0, 0)).2 - 1) ∧ r.2.2.2.2.2 = nI (sN S) ∧ 1 ≤ (foD (qd (sN S) (msk (sB S) (sN S))) (stE (vE S m)) (6 ^ sN S) 0 (0, 0)).2 ∧ (foD (qd (sN S) (msk (sB S) (sN S))) (stE (vE S m)) (6 ^ sN S) 0 (0, 0)).2 ≤ 23761 := by
  have hn := ho.1
  obtain ⟨N0, h1, h2, h3, h4⟩ := walk_all (full_S ho) (Rp := RpE (msk (sB S) (sN S)) (sN S)) (st := stE (vE S m)) (Nx := NxE kind used bay likes who lamp due count day dues draw (sN S) m) (0, 0) (mostN hX ho hm)
  obtain ⟨b', eb, hb'⟩ := begin_B b free dc h3
  obtain ⟨r, v, e1, e2, e3, e4⟩ := dues6 hX ho hm (show 0 ≤ 30000 by omega) (qd_inj h2) F b' hb'
  have hle := vE_le ho hm (qd_inj h2)
  have hw : v = vE S m N0 := by omega
  have e0 : stE (vE S m) (0, 0) N0 = (N0, vE S m N0 + 1) := by
    unfold stE
    rw [if_pos (show 0 ≤ vE S m N0 by omega)]
  obtain ⟨p, i, x', h5, h6, h7⟩ := h4 (99999, r.2, b', va_cpy b' best 0 0 6, nI v, nI (frD (msk (sB S) (sN S)) (sN S) N0), nI v, nI 0) (by
    rw [e0]
    refine ⟨by show 719 < 99999 + 0; decide, rfl, hb', rfl, fun h hh => ?_, ?_, ?_, ?_, ?_⟩
    · show va_cpy b' best 0 0 6 h = nI (dg (sN S) N0 h)
      rw [cp6 _ _ (by omega)]
      exact hb' h hh
    · show nI v = nI (vE S m N0 + 1 - 1)
      rw [hw, Nat.add_sub_cancel]
    · show nI v = nI (vE S m N0 + 1) + (-1)
      rw [hw, pk_m1]
    · show 1 ≤ vE S m N0 + 1
      omega
    · show vE S m N0 + 1 ≤ 23761
      omega)
  obtain ⟨f, F2, b2, best2, worth2, free2, most2, way2⟩ := x'
  obtain ⟨r1, r2, q3, q4, r5, r6, r7, r8, r9⟩ := h7
  have r3 : ∀ h, h < sN S → b2 h = nI (dg (sN S) p h) := q3
  have r4 : free2 = nI (frD (msk (sB S) (sN S)) (sN S) p) := q4
  obtain ⟨s, es, hs⟩ := next_E hn r3 h5
  refine ⟨(F2, s.2.1, best2, worth2, s.2.2, nI (sN S)), ?_, r5, r6, rfl, r8, r9⟩
  unfold f_X6_dealMostDues
  rw [held3 hX ho, sb, show f_X0_begin b free dc count (nI (msk (sB S) (sN S))) = f_X0_begin b free dc (nI (sN S)) (nI (msk (sB S) (sN S))) by rw [hX.1], eb, sb]
  show f_X6_dealMostDues_c25 (99999 + 1) kind used bay likes who lamp due count day dues draw F.1 F.2.1 F.2.2.1 F.2.2.2.1 F.2.2.2.2.1 F.2.2.2.2.2.1 F.2.2.2.2.2.2.1 F.2.2.2.2.2.2.2.1 F.2.2.2.2.2.2.2.2.1 F.2.2.2.2.2.2.2.2.2.1 F.2.2.2.2.2.2.2.2.2.2.1 F.2.2.2.2.2.2.2.2.2.2.2 b' best worth (nI (frD (msk (sB S) (sN S)) (sN S) N0)) (nI (sN S)) (nI m) (nI 0 + (-1)) (nI 0) = _
  rw [f_X6_dealMostDues_c25, if_pos (show nI 0 < (720 : Int32) by decide), e1, sb, e2, if_pos (show nI 0 + (-1) < nI v by rw [lt_m1 (by omega) (by omega)]; omega)]
  have e7 : NxE kind used bay likes who lamp due count day dues draw (sN S) m (f, F2, b2, best2, worth2, free2, most2, way2) = some (F2.1, F2.2.1, F2.2.2.1, F2.2.2.2.1, F2.2.2.2.2.1, F2.2.2.2.2.2.1, F2.2.2.2.2.2.2.1, F2.2.2.2.2.2.2.2.1, F2.2.2.2.2.2.2.2.2.1, F2.2.2.2.2.2.2.2.2.2.1, F2.2.2.2.2.2.2.2.2.2.2.1, F2.2.2.2.2.2.2.2.2.2.2.2, s.2.1, best2, worth2, s.2.2, nI (sN S)) := by
    show (f_X0_next b2 free2 (nI (sN S))).bind (fun r66 => if r66.1 = 0 then some (F2.1, F2.2.1, F2.2.2.1, F2.2.2.2.1, F2.2.2.2.2.1, F2.2.2.2.2.2.1, F2.2.2.2.2.2.2.1, F2.2.2.2.2.2.2.2.1, F2.2.2.2.2.2.2.2.2.1, F2.2.2.2.2.2.2.2.2.2.1, F2.2.2.2.2.2.2.2.2.2.2.1, F2.2.2.2.2.2.2.2.2.2.2.2, r66.2.1, best2, worth2, r66.2.2, nI (sN S)) else f_X6_dealMostDues_c25 f kind used bay likes who lamp due count day dues draw F2.1 F2.2.1 F2.2.2.1 F2.2.2.2.1 F2.2.2.2.2.1 F2.2.2.2.2.2.1 F2.2.2.2.2.2.2.1 F2.2.2.2.2.2.2.2.1 F2.2.2.2.2.2.2.2.2.1 F2.2.2.2.2.2.2.2.2.2.1 F2.2.2.2.2.2.2.2.2.2.2.1 F2.2.2.2.2.2.2.2.2.2.2.2 r66.2.1 best2 worth2 r66.2.2 (nI (sN S)) (nI m) most2 (way2 + 1)) = _
    rw [r4, es, sb, if_pos hs]
  refine Eq.trans ?_ e7
  rw [← h6]
  rfl
def gE (a : Nat × Nat) : Nat × Int32 := (a.1, if a.2 = 0 then 999999 else -(nI (a.2 - 1)))
theorem neg_lt_neg {a b : Nat} (ha : a < 2 ^ 30) (hb : b < 2 ^ 30) : (-(nI a) < -(nI b)) = (b < a) := by
  have h1 : (-(nI a)).toInt = -(a : Int) := by
    rw [← Int32.zero_sub]
    have := pk_sub_toInt (a := 0) (b := a) (by decide) ha
    have e : (0 : Int32) - nI a = nI 0 - nI a := rfl
    rw [e, this]
    omega
  have h2 : (-(nI b)).toInt = -(b : Int) := by
    rw [← Int32.zero_sub]
    have := pk_sub_toInt (a := 0) (b := b) (by decide) hb
    have e : (0 : Int32) - nI b = nI 0 - nI b := rfl
    rw [e, this]
    omega
  rw [l_lt, h1, h2]
  apply propext
  omega
theorem neg_lt_9 {a : Nat} (ha : a < 2 ^ 30) : -(nI a) < 999999 := by
  rw [l_lt, ← Int32.zero_sub]
  have := pk_sub_toInt (a := 0) (b := a) (by decide) ha
  have e : (0 : Int32) - nI a = nI 0 - nI a := rfl
  have e9 : (999999 : Int32).toInt = 999999 := rfl
  rw [e, this, e9]
  omega
theorem mapE {m : Nat} (hm : m ≤ 40) (d : Nat) (ho : okS S) : gE (foD (qd (sN S) (msk (sB S) (sN S))) (stE (vE S m)) d 0 (0, 0)) = foD (qd (sN S) (msk (sB S) (sN S))) (stI (fun N => vB S m (-1) (dg (sN S) N))) d 0 (0, 999999) := by
  refine (fo_map (q := qd (sN S) (msk (sB S) (sN S))) (st := stE (vE S m)) (st' := stI (fun N => vB S m (-1) (dg (sN S) N))) (g := gE) (I := fun a => a.2 ≤ 23761) ?_ d 0 (0, 0) (Nat.zero_le _)).2
  intro a N hq hI
  have hI : a.2 ≤ 23761 := hI
  have hv := vE_le ho hm (qd_inj hq)
  have e : vB S m (-1) (dg (sN S) N) = -(nI (vE S m N)) := by
    unfold vB vE
    rw [if_pos (by decide)]
  unfold stE stI
  show (if a.2 ≤ vE S m N then (N, vE S m N + 1) else a).2 ≤ 23761 ∧ _ = (if vB S m (-1) (dg (sN S) N) < (gE a).2 then (N, vB S m (-1) (dg (sN S) N)) else gE a)
  rw [e]
  have hc : (-(nI (vE S m N)) < (gE a).2) = (a.2 ≤ vE S m N) := by
    unfold gE
    show (-(nI (vE S m N)) < (if a.2 = 0 then 999999 else -(nI (a.2 - 1)))) = _
    by_cases c0 : a.2 = 0
    · rw [if_pos c0]
      apply propext
      exact ⟨fun _ => by omega, fun _ => neg_lt_9 (by omega)⟩
    · rw [if_neg c0, neg_lt_neg (by omega) (by omega)]
      apply propext
      omega
  by_cases c : a.2 ≤ vE S m N
  · rw [if_pos c, if_pos (show -(nI (vE S m N)) < (gE a).2 by rw [hc]; exact c)]
    refine ⟨?_, ?_⟩
    · show vE S m N + 1 ≤ 23761
      omega
    · show (N, if vE S m N + 1 = 0 then (999999 : Int32) else -(nI (vE S m N + 1 - 1))) = _
      rw [if_neg (by omega), Nat.add_sub_cancel]
  · rw [if_neg c, if_neg (show ¬ -(nI (vE S m N)) < (gE a).2 by rw [hc]; exact c)]
    exact ⟨hI, rfl⟩
theorem st_earn (hC : RC kind used bay likes who lamp due count day dues draw mu mb md mz mr next known now undone undos) (mores aside bays bests : Nat → Int32) (F : F12) (b best : Nat → Int32) (worth free dc : Int32) (n k : Int32) : ∃ rx rm, f_X6_earn kind used bay likes who lamp due count day dues draw F.1 F.2.1 F.2.2.1 F.2.2.2.1 F.2.2.2.2.1 F.2.2.2.2.2.1 F.2.2.2.2.2.2.1 F.2.2.2.2.2.2.2.1 F.2.2.2.2.2.2.2.2.1 F.2.2.2.2.2.2.2.2.2.1 F.2.2.2.2.2.2.2.2.2.2.1 F.2.2.2.2.2.2.2.2.2.2.2 b best worth free dc n k = some rx ∧ f_X7_earn now mores aside bays bests n k = some rm ∧ rx.1 = rm.1 ∧ RC kind used bay likes who lamp due count day dues draw mu mb md mz mr next known rm.2.1 undone undos := by
  obtain ⟨S, hs, ho, hh, hX, hM, hp, hq⟩ := id hC
  have hn := ho.1
  unfold f_X6_earn f_X7_earn
  rw [wi40, sb, in40, sb]
  by_cases c1 : 1 ≤ n.toInt ∧ n.toInt ≤ 40
  · rw [if_neg (tf_y c1), if_neg (tf_y c1)]
    by_cases c2 : k < (-1)
    · rw [if_pos c2, if_pos c2]
      exact ⟨_, _, rfl, rfl, rfl, hC⟩
    · rw [if_neg c2, if_neg c2]
      obtain ⟨m, hm, rfl⟩ := l_of (m := 40) (x := n) (by omega) (by omega)
      obtain ⟨rm, e1, e2, e3, e4⟩ := deals7 hM ho hm mores aside bays bests (-1) (Or.inl (by decide))
      have hRC : RC kind used bay likes who lamp due count day dues draw mu mb md mz mr next known rm.2.1 undone undos := RC_now hC e3
      rw [e1, sb, jn_eq, e3 0 (by decide), hM.1]
      obtain ⟨r, f1, f2, f3, f4, f5, f6⟩ := most6d hX ho hm F b best worth free dc
      have hmap := mapE hm (6 ^ sN S) ho
      rw [← hmap] at e2 e4
      generalize foD (qd (sN S) (msk (sB S) (sN S))) (stE (vE S m)) (6 ^ sN S) 0 (0, 0) = a at e2 e4 f2 f3 f5 f6
      have hg2 : (gE a).2 = -(nI (a.2 - 1)) := if_neg (by omega)
      have e4 : ∀ g, g < sN S → rm.2.2.2.2.2 g = nI (dg (sN S) a.1 g) := by
        rcases e4 with e4 | e4
        · rw [hg2] at e4
          have h9 := neg_lt_9 (a := a.2 - 1) (by omega)
          rw [e4] at h9
          exact absurd h9 (by decide)
        · exact e4
      have e2 : -rm.1 = nI (a.2 - 1) := by rw [e2, hg2, Int32.neg_neg]
      by_cases c3 : k < nI (sN S)
      · rw [if_pos (show k < count by rw [hX.1]; exact c3), if_pos c3, f1, sb]
        show ∃ rx rm', ((f_X0_answer r.2.2.1 r.2.2.2.1 r.2.2.2.2.2 k).bind _) = some rx ∧ _ ∧ _ ∧ _
        rw [f4]
        rcases answer0 r.2.2.1 r.2.2.2.1 hn k _ f2 c3 with ⟨c4, e5⟩ | ⟨c4, j, hj, rfl, e5⟩
        · rw [e5, sb, if_pos c4]
          exact ⟨_, _, rfl, rfl, f3.trans e2.symm, hRC⟩
        · rw [e5, sb, if_neg c4, if_pos (inb_nI (by omega) (by decide)), nI_cl (by omega), jn_eq]
          exact ⟨_, _, rfl, rfl, (e4 j hj).symm, hRC⟩
      · rw [if_neg (show ¬ k < count by rw [hX.1]; exact c3), if_neg c3, if_neg (fun q => c3 (neg_lt hn q))]
        exact ⟨_, _, rfl, rfl, rfl, hRC⟩
  · rw [if_pos (tf_x c1), if_pos (tf_x c1)]
    exact ⟨_, _, rfl, rfl, rfl, hC⟩
end ER
theorem S_earn : St_earn Rel := by
  intro t_now_kind t_now_used t_now_bay t_now_likes t_now_who t_now_lamp t_now_due t_now_gain t_now_count t_now_day t_now_dues t_now_draw t_past_marks_used t_past_marks_bay t_past_marks_day t_past_marks_dues t_past_marks_draw t_past_next t_past_known t_foreseen_kind t_foreseen_used t_foreseen_bay t_foreseen_likes t_foreseen_who t_foreseen_lamp t_foreseen_due t_foreseen_gain t_foreseen_count t_foreseen_day t_foreseen_dues t_foreseen_draw t_imageOfNow_kind t_imageOfNow_used t_imageOfNow_bay t_imageOfNow_likes t_imageOfNow_who t_imageOfNow_lamp t_imageOfNow_due t_imageOfNow_gain t_imageOfNow_count t_imageOfNow_day t_imageOfNow_dues t_imageOfNow_draw t_imageOfPast_marks_used t_imageOfPast_marks_bay t_imageOfPast_marks_day t_imageOfPast_marks_dues t_imageOfPast_marks_draw t_imageOfPast_next t_imageOfPast_known t_hasImage t_deal_bay t_deal_best t_deal_worth t_deal_free t_deal_count t_tape_letters t_tape_length t_tape_place t_sheets_items t_sheets_lane t_sheets_size u_now u_mores u_tape u_typed u_place u_isFault u_readLamps u_read u_undone u_undos u_aside u_bays u_bests u_kept u_keptUndos u_isKept u_lanes u_sizes u_items u_moved y0 y1 hR
  obtain ⟨hC, hI, hT, hS⟩ := hR
  obtain ⟨rx, rm, e1, e2, e3, e4⟩ := st_earn hC u_mores u_aside u_bays u_bests (t_foreseen_kind, t_foreseen_used, t_foreseen_bay, t_foreseen_likes, t_foreseen_who, t_foreseen_lamp, t_foreseen_due, t_foreseen_gain, t_foreseen_count, t_foreseen_day, t_foreseen_dues, t_foreseen_draw) t_deal_bay t_deal_best t_deal_worth t_deal_free t_deal_count y0 y1
  exact ⟨rx, rm, e1, e2, e3, e4, hI, hT, hS⟩
