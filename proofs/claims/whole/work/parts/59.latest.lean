/-! MATHEMATICS 30: latest -/
def vU (S : Sc) (m h N : Nat) : Nat := sU (passN m (withB S (dg (sN S) N))) h
abbrev XL : Type := Nat × F12 × (Nat → Int32) × (Nat → Int32) × Int32 × Int32 × Int32 × Int32
def RpL (t n p i : Nat) (a : Nat × Nat) (x : XL) : Prop := 719 < x.1 + i ∧ x.2.2.2.2.2.2.2 = nI i ∧ (∀ h, h < n → x.2.2.1 h = nI (dg n p h)) ∧ x.2.2.2.2.2.1 = nI (frD t n p) ∧ (∀ h, h < n → x.2.2.2.1 h = nI (dg n a.1 h)) ∧ x.2.2.2.2.1 = nI a.2 ∧ x.2.2.2.2.2.2.1 = nI a.2 ∧ a.2 ≤ 99
section LT
variable {kind used bay likes who lamp due : Nat → Int32} {count day dues draw : Int32} {fkind fused fbay flikes fwho flamp fdue fgain : Nat → Int32} {fcount fday fdues fdraw : Int32} {mu mb : Nat → Nat → Int32} {md mz mr : Nat → Int32} {next known : Int32} {now undone : Nat → Int32} {undos : Int32} {S : Sc}
def NxL (kind used bay likes who lamp due : Nat → Int32) (count day dues draw : Int32) (n h m : Nat) (x : XL) := f_X6_dealLeastUsed_c62 (f_X6_dealLeastUsed_c27 x.1) kind used bay likes who lamp due count day dues draw x.2.1.1 x.2.1.2.1 x.2.1.2.2.1 x.2.1.2.2.2.1 x.2.1.2.2.2.2.1 x.2.1.2.2.2.2.2.1 x.2.1.2.2.2.2.2.2.1 x.2.1.2.2.2.2.2.2.2.1 x.2.1.2.2.2.2.2.2.2.2.1 x.2.1.2.2.2.2.2.2.2.2.2.1 x.2.1.2.2.2.2.2.2.2.2.2.2.1 x.2.1.2.2.2.2.2.2.2.2.2.2.2 x.2.2.1 x.2.2.2.1 x.2.2.2.2.1 x.2.2.2.2.2.1 (nI n) (nI h) (nI m) x.2.2.2.2.2.2.1 x.2.2.2.2.2.2.2
theorem dealt6 (hX : isX S kind used bay likes who lamp due count day dues draw) (ho : okS S) {h m L N : Nat} (hh : h < sN S) (hm : m ≤ 40) (hL : L ≤ 100) (hi : injD (sN S) N 0 = true) (F : F12) (db : Nat → Int32) (hb : ∀ g, g < sN S → db g = nI (dg (sN S) N g)) : ∃ r w, f_X6_usedIfDealt kind used bay likes who lamp due count day dues draw F.1 F.2.1 F.2.2.1 F.2.2.2.1 F.2.2.2.2.1 F.2.2.2.2.2.1 F.2.2.2.2.2.2.1 F.2.2.2.2.2.2.2.1 F.2.2.2.2.2.2.2.2.1 F.2.2.2.2.2.2.2.2.2.1 F.2.2.2.2.2.2.2.2.2.2.1 F.2.2.2.2.2.2.2.2.2.2.2 db (nI h) (nI m) (nI L) = some r ∧ r.1 = nI w ∧ w ≤ 99 ∧ ((w < L ∧ w = vU S m h N) ∨ (L ≤ w ∧ L ≤ vU S m h N)) := by
  have hn := ho.1
  have hfu : fu = 100000 := rfl
  obtain ⟨b, eb, hb2⟩ := become3 hX ho F.1 F.2.1 F.2.2.1 F.2.2.2.1 F.2.2.2.2.1 F.2.2.2.2.2.1 F.2.2.2.2.2.2.1 F.2.2.2.2.2.2.2.2.1 F.2.2.2.2.2.2.2.2.2.1 F.2.2.2.2.2.2.2.2.2.2.1 F.2.2.2.2.2.2.2.2.2.2.2
  obtain ⟨s, es, hs1, hs2⟩ := seatAll3 b.2.2.1 b.2.2.2.2.1 db (dg (sN S) N) hn (fun g hg => ⟨dg_lt _ _ g, hb g hg⟩)
  have hX2 := X_withB hb2 hs1 hs2
  unfold f_X6_usedIfDealt
  rw [eb, sb, show b.2.2.2.2.2.2.2.1 = nI (sN S) from hb2.1, es, sb, ← show b.2.2.2.2.2.2.2.1 = nI (sN S) from hb2.1]
  exact ufd28 db hL m fu hX2 (ok_dg ho hi) hh hm (by omega)
theorem leastN (hX : isX S kind used bay likes who lamp due count day dues draw) (ho : okS S) {h m t : Nat} (hh : h < sN S) (hm : m ≤ 40) : ∀ p N i a x, N < 6 ^ sN S → qd (sN S) t N = true → chkN t (sN S) p N = true → i < 719 → RpL t (sN S) p i a x → ∃ x', NxL kind used bay likes who lamp due count day dues draw (sN S) h m x = NxL kind used bay likes who lamp due count day dues draw (sN S) h m x' ∧ RpL t (sN S) N (i + 1) (stC (vU S m h) a N) x' := by
  have hn := ho.1
  rintro p N i a ⟨f, F, b, best, worth, free, least, way⟩ hN hq hc hi ⟨q1, q2, q3, q4, q5, q6, q7, r8⟩
  have r1 : 719 < f + i := q1
  have r2 : way = nI i := q2
  have r3 : ∀ h, h < sN S → b h = nI (dg (sN S) p h) := q3
  have r4 : free = nI (frD t (sN S) p) := q4
  have r5 : ∀ h, h < sN S → best h = nI (dg (sN S) a.1 h) := q5
  have r6 : worth = nI a.2 := q6
  have r7 : least = nI a.2 := q7
  clear q1 q2 q3 q4 q5 q6 q7
  obtain ⟨f, rfl⟩ : ∃ g, f = g + 1 := ⟨f - 1, by omega⟩
  obtain ⟨b', eb, hb'⟩ := next_N hn r3 hc
  obtain ⟨r, w, e1, e2, e3, e4⟩ := dealt6 hX ho hh hm (show a.2 ≤ 100 by omega) (qd_inj hq) F b' hb'
  have e5 : NxL kind used bay likes who lamp due count day dues draw (sN S) h m (f + 1, F, b, best, worth, free, least, way) = (if r.1 < nI a.2 then (f_X0_keep b' best worth r.1).bind fun r59 => f_X6_dealLeastUsed_c62 (f_X6_dealLeastUsed_c27 f) kind used bay likes who lamp due count day dues draw r.2.1 r.2.2.1 r.2.2.2.1 r.2.2.2.2.1 r.2.2.2.2.2.1 r.2.2.2.2.2.2.1 r.2.2.2.2.2.2.2.1 r.2.2.2.2.2.2.2.2.1 r.2.2.2.2.2.2.2.2.2.1 r.2.2.2.2.2.2.2.2.2.2.1 r.2.2.2.2.2.2.2.2.2.2.2.1 r.2.2.2.2.2.2.2.2.2.2.2.2 b' r59.1 r59.2 (nI (frD t (sN S) N)) (nI (sN S)) (nI h) (nI m) r.1 (nI (i + 1)) else f_X6_dealLeastUsed_c62 (f_X6_dealLeastUsed_c27 f) kind used bay likes who lamp due count day dues draw r.2.1 r.2.2.1 r.2.2.2.1 r.2.2.2.2.1 r.2.2.2.2.2.1 r.2.2.2.2.2.2.1 r.2.2.2.2.2.2.2.1 r.2.2.2.2.2.2.2.2.1 r.2.2.2.2.2.2.2.2.2.1 r.2.2.2.2.2.2.2.2.2.2.1 r.2.2.2.2.2.2.2.2.2.2.2.1 r.2.2.2.2.2.2.2.2.2.2.2.2 b' best worth (nI (frD t (sN S) N)) (nI (sN S)) (nI h) (nI m) (nI a.2) (nI (i + 1))) := by
    show f_X6_dealLeastUsed_c62 (f_X6_dealLeastUsed_c27 (f + 1)) kind used bay likes who lamp due count day dues draw F.1 F.2.1 F.2.2.1 F.2.2.2.1 F.2.2.2.2.1 F.2.2.2.2.2.1 F.2.2.2.2.2.2.1 F.2.2.2.2.2.2.2.1 F.2.2.2.2.2.2.2.2.1 F.2.2.2.2.2.2.2.2.2.1 F.2.2.2.2.2.2.2.2.2.2.1 F.2.2.2.2.2.2.2.2.2.2.2 b best worth free (nI (sN S)) (nI h) (nI m) least way = _
    rw [show f_X6_dealLeastUsed_c62 (f_X6_dealLeastUsed_c27 (f + 1)) kind used bay likes who lamp due count day dues draw F.1 F.2.1 F.2.2.1 F.2.2.2.1 F.2.2.2.2.1 F.2.2.2.2.2.1 F.2.2.2.2.2.2.1 F.2.2.2.2.2.2.2.1 F.2.2.2.2.2.2.2.2.1 F.2.2.2.2.2.2.2.2.2.1 F.2.2.2.2.2.2.2.2.2.2.1 F.2.2.2.2.2.2.2.2.2.2.2 b best worth free (nI (sN S)) (nI h) (nI m) least way = (f_X0_next b free (nI (sN S))).bind (fun r66 => if r66.1 = 0 then some (F.1, F.2.1, F.2.2.1, F.2.2.2.1, F.2.2.2.2.1, F.2.2.2.2.2.1, F.2.2.2.2.2.2.1, F.2.2.2.2.2.2.2.1, F.2.2.2.2.2.2.2.2.1, F.2.2.2.2.2.2.2.2.2.1, F.2.2.2.2.2.2.2.2.2.2.1, F.2.2.2.2.2.2.2.2.2.2.2, r66.2.1, best, worth, r66.2.2, nI (sN S)) else f_X6_dealLeastUsed_c27 (f + 1) kind used bay likes who lamp due count day dues draw F.1 F.2.1 F.2.2.1 F.2.2.2.1 F.2.2.2.2.1 F.2.2.2.2.2.1 F.2.2.2.2.2.2.1 F.2.2.2.2.2.2.2.1 F.2.2.2.2.2.2.2.2.1 F.2.2.2.2.2.2.2.2.2.1 F.2.2.2.2.2.2.2.2.2.2.1 F.2.2.2.2.2.2.2.2.2.2.2 r66.2.1 best worth r66.2.2 (nI (sN S)) (nI h) (nI m) least (way + 1)) from rfl]
    rw [r4, eb, sb, if_neg (show ¬ (1 : Int32) = 0 by decide), r2, nI_1, f_X6_dealLeastUsed_c27, if_pos (show nI (i + 1) < (720 : Int32) from nI_lt (b := 720) (by omega) (by decide)), r7, e1, sb]
  rw [e5, e2, if_n_lt (by omega) (by omega)]
  unfold stC
  by_cases c : w < a.2
  · have hw : w = vU S m h N := by omega
    rw [if_pos c, if_pos (show vU S m h N < a.2 by omega)]
    refine ⟨(f, r.2, b', va_cpy b' best 0 0 6, nI w, nI (frD t (sN S) N), nI w, nI (i + 1)), rfl, ?_, rfl, hb', rfl, fun h hh => ?_, ?_, ?_, ?_⟩
    · show 719 < f + (i + 1)
      omega
    · show va_cpy b' best 0 0 6 h = nI (dg (sN S) N h)
      rw [cp6 _ _ (by omega)]
      exact hb' h hh
    · show nI w = nI (vU S m h N)
      rw [hw]
    · show nI w = nI (vU S m h N)
      rw [hw]
    · show vU S m h N ≤ 99
      omega
  · rw [if_neg c, if_neg (show ¬ vU S m h N < a.2 by omega)]
    refine ⟨(f, r.2, b', best, worth, nI (frD t (sN S) N), nI a.2, nI (i + 1)), rfl, ?_, rfl, hb', rfl, r5, r6, rfl, r8⟩
    show 719 < f + (i + 1)
    omega
theorem full_S (ho : okS S) : fulD (msk (sB S) (sN S)) (sN S) (msk (sB S) (sN S)) = true := by
  have h1 := full_E (m := msk (sB S) (sN S)) (msk_lt (fun h hh => (ho.2.1 h hh).2.2.1))
  rw [msk_pop (fun h hh => (ho.2.1 h hh).2.2.1) (fun g h hg hh e => ho.2.2.1 g h hg hh e)] at h1
  exact h1
theorem least6d (hX : isX S kind used bay likes who lamp due count day dues draw) (ho : okS S) {h m : Nat} (hh : h < sN S) (hm : m ≤ 40) (F : F12) (b best : Nat → Int32) (worth free dc : Int32) : ∃ (r : F12 × (Nat → Int32) × (Nat → Int32) × Int32 × Int32 × Int32), f_X6_dealLeastUsed kind used bay likes who lamp due count day dues draw F.1 F.2.1 F.2.2.1 F.2.2.2.1 F.2.2.2.2.1 F.2.2.2.2.2.1 F.2.2.2.2.2.2.1 F.2.2.2.2.2.2.2.1 F.2.2.2.2.2.2.2.2.1 F.2.2.2.2.2.2.2.2.2.1 F.2.2.2.2.2.2.2.2.2.2.1 F.2.2.2.2.2.2.2.2.2.2.2 b best worth free dc (nI h) (nI m) = some (r.1.1, r.1.2.1, r.1.2.2.1, r.1.2.2.2.1, r.1.2.2.2.2.1, r.1.2.2.2.2.2.1, r.1.2.2.2.2.2.2.1, r.1.2.2.2.2.2.2.2.1, r.1.2.2.2.2.2.2.2.2.1, r.1.2.2.2.2.2.2.2.2.2.1, r.1.2.2.2.2.2.2.2.2.2.2.1, r.1.2.2.2.2.2.2.2.2.2.2.2, r.2) ∧ (∀ g, g < sN S → r.2.2.1 g = nI (dg (sN S) (foD (qd (sN S) (msk (sB S) (sN S))) (stC (vU S m h)) (6 ^ sN S) 0 (0, 999999)).1 g)) ∧ r.2.2.2.1 = nI (foD (qd (sN S) (msk (sB S) (sN S))) (stC (vU S m h)) (6 ^ sN S) 0 (0, 999999)).2 ∧ r.2.2.2.2.2 = nI (sN S) ∧ (foD (qd (sN S) (msk (sB S) (sN S))) (stC (vU S m h)) (6 ^ sN S) 0 (0, 999999)).2 ≤ 99 := by
  have hn := ho.1
  obtain ⟨N0, h1, h2, h3, h4⟩ := walk_all (full_S ho) (Rp := RpL (msk (sB S) (sN S)) (sN S)) (st := stC (vU S m h)) (Nx := NxL kind used bay likes who lamp due count day dues draw (sN S) h m) (0, 999999) (leastN hX ho hh hm)
  obtain ⟨b', eb, hb'⟩ := begin_B b free dc h3
  obtain ⟨r, w, e1, e2, e3, e4⟩ := dealt6 hX ho hh hm (show 100 ≤ 100 by omega) (qd_inj h2) F b' hb'
  have hw : w = vU S m h N0 := by omega
  have e0 : stC (vU S m h) (0, 999999) N0 = (N0, vU S m h N0) := by
    unfold stC
    rw [if_pos (show vU S m h N0 < 999999 by omega)]
  obtain ⟨p, i, x', h5, h6, h7⟩ := h4 (99999, r.2, b', va_cpy b' best 0 0 6, nI w, nI (frD (msk (sB S) (sN S)) (sN S) N0), nI w, nI 0) (by
    rw [e0]
    refine ⟨by show 719 < 99999 + 0; decide, rfl, hb', rfl, fun h hh => ?_, ?_, ?_, ?_⟩
    · show va_cpy b' best 0 0 6 h = nI (dg (sN S) N0 h)
      rw [cp6 _ _ (by omega)]
      exact hb' h hh
    · show nI w = nI (vU S m h N0)
      rw [hw]
    · show nI w = nI (vU S m h N0)
      rw [hw]
    · show vU S m h N0 ≤ 99
      omega)
  obtain ⟨f, F2, b2, best2, worth2, free2, least2, way2⟩ := x'
  obtain ⟨r1, r2, q3, q4, r5, r6, r7, r8⟩ := h7
  have r3 : ∀ h, h < sN S → b2 h = nI (dg (sN S) p h) := q3
  have r4 : free2 = nI (frD (msk (sB S) (sN S)) (sN S) p) := q4
  obtain ⟨s, es, hs⟩ := next_E hn r3 h5
  refine ⟨(F2, s.2.1, best2, worth2, s.2.2, nI (sN S)), ?_, r5, r6, rfl, r8⟩
  unfold f_X6_dealLeastUsed
  rw [held3 hX ho, sb, show f_X0_begin b free dc count (nI (msk (sB S) (sN S))) = f_X0_begin b free dc (nI (sN S)) (nI (msk (sB S) (sN S))) by rw [hX.1], eb, sb]
  show f_X6_dealLeastUsed_c27 (99999 + 1) kind used bay likes who lamp due count day dues draw F.1 F.2.1 F.2.2.1 F.2.2.2.1 F.2.2.2.2.1 F.2.2.2.2.2.1 F.2.2.2.2.2.2.1 F.2.2.2.2.2.2.2.1 F.2.2.2.2.2.2.2.2.1 F.2.2.2.2.2.2.2.2.2.1 F.2.2.2.2.2.2.2.2.2.2.1 F.2.2.2.2.2.2.2.2.2.2.2 b' best worth (nI (frD (msk (sB S) (sN S)) (sN S) N0)) (nI (sN S)) (nI h) (nI m) (nI 100) (nI 0) = _
  rw [f_X6_dealLeastUsed_c27, if_pos (show nI 0 < (720 : Int32) by decide), e1, sb, e2, if_n_lt (by omega) (by omega), if_pos (show w < 100 by omega)]
  have e7 : NxL kind used bay likes who lamp due count day dues draw (sN S) h m (f, F2, b2, best2, worth2, free2, least2, way2) = some (F2.1, F2.2.1, F2.2.2.1, F2.2.2.2.1, F2.2.2.2.2.1, F2.2.2.2.2.2.1, F2.2.2.2.2.2.2.1, F2.2.2.2.2.2.2.2.1, F2.2.2.2.2.2.2.2.2.1, F2.2.2.2.2.2.2.2.2.2.1, F2.2.2.2.2.2.2.2.2.2.2.1, F2.2.2.2.2.2.2.2.2.2.2.2, s.2.1, best2, worth2, s.2.2, nI (sN S)) := by
    show (f_X0_next b2 free2 (nI (sN S))).bind (fun r66 => if r66.1 = 0 then some (F2.1, F2.2.1, F2.2.2.1, F2.2.2.2.1, F2.2.2.2.2.1, F2.2.2.2.2.2.1, F2.2.2.2.2.2.2.1, F2.2.2.2.2.2.2.2.1, F2.2.2.2.2.2.2.2.2.1, F2.2.2.2.2.2.2.2.2.2.1, F2.2.2.2.2.2.2.2.2.2.2.1, F2.2.2.2.2.2.2.2.2.2.2.2, r66.2.1, best2, worth2, r66.2.2, nI (sN S)) else f_X6_dealLeastUsed_c27 f kind used bay likes who lamp due count day dues draw F2.1 F2.2.1 F2.2.2.1 F2.2.2.2.1 F2.2.2.2.2.1 F2.2.2.2.2.2.1 F2.2.2.2.2.2.2.1 F2.2.2.2.2.2.2.2.1 F2.2.2.2.2.2.2.2.2.1 F2.2.2.2.2.2.2.2.2.2.1 F2.2.2.2.2.2.2.2.2.2.2.1 F2.2.2.2.2.2.2.2.2.2.2.2 r66.2.1 best2 worth2 r66.2.2 (nI (sN S)) (nI h) (nI m) least2 (way2 + 1)) = _
    rw [r4, es, sb, if_pos hs]
  refine Eq.trans ?_ e7
  rw [← h6]
  rfl
theorem mapU (m h d : Nat) (hh : h < sN S) (ho : okS S) : ((foD (qd (sN S) (msk (sB S) (sN S))) (stC (vU S m h)) d 0 (0, 999999)).1, nI (foD (qd (sN S) (msk (sB S) (sN S))) (stC (vU S m h)) d 0 (0, 999999)).2) = foD (qd (sN S) (msk (sB S) (sN S))) (stI (fun N => vB S m (nI h) (dg (sN S) N))) d 0 (0, 999999) := by
  have hn := ho.1
  refine (fo_map (q := qd (sN S) (msk (sB S) (sN S))) (st := stC (vU S m h)) (st' := stI (fun N => vB S m (nI h) (dg (sN S) N))) (g := fun a => (a.1, nI a.2)) (I := fun a => a.2 ≤ 999999) ?_ d 0 (0, 999999) (Nat.le_refl _)).2
  intro a N hq hI
  have hI : a.2 ≤ 999999 := hI
  have hok := ok_dg ho (qd_inj hq)
  have hv : vU S m h N ≤ 99 := ((ok_passN m hok).2.1 h (by rw [passN_N]; exact hh)).2.1
  have e : vB S m (nI h) (dg (sN S) N) = nI (vU S m h N) := by
    unfold vB vU
    rw [if_neg (nI_pos (by omega)), nI_cl (by omega)]
  unfold stC stI
  show (if vU S m h N < a.2 then (N, vU S m h N) else a).2 ≤ 999999 ∧ _ = (if vB S m (nI h) (dg (sN S) N) < nI a.2 then (N, vB S m (nI h) (dg (sN S) N)) else (a.1, nI a.2))
  rw [e, if_n_lt (by omega) (by omega)]
  by_cases c : vU S m h N < a.2
  · rw [if_pos c, if_pos c]
    refine ⟨?_, rfl⟩
    show vU S m h N ≤ 999999
    omega
  · rw [if_neg c, if_neg c]
    exact ⟨hI, rfl⟩
theorem in040 (x : Int32) : f_X7_in x.toInt64 0 40 = some (tf (decide (0 ≤ x.toInt ∧ x.toInt ≤ 40))) := in7w x 0 40
theorem wi040 (x : Int32) : f_X6_within x 0 40 = some (tf (decide (0 ≤ x.toInt ∧ x.toInt ≤ 40))) := within6 x 0 40
theorem ne_999999 {w : Nat} (h : w ≤ 99) : ¬ nI w = 999999 := fun e => by
  have e : nI w = nI 999999 := e
  rw [n_eq (by omega) (by decide)] at e
  omega
theorem st_latest (hC : RC kind used bay likes who lamp due count day dues draw mu mb md mz mr next known now undone undos) (mores aside bays bests : Nat → Int32) (F : F12) (b best : Nat → Int32) (worth free dc : Int32) (x n k : Int32) : ∃ rx rm, f_X6_latest kind used bay likes who lamp due count day dues draw F.1 F.2.1 F.2.2.1 F.2.2.2.1 F.2.2.2.2.1 F.2.2.2.2.2.1 F.2.2.2.2.2.2.1 F.2.2.2.2.2.2.2.1 F.2.2.2.2.2.2.2.2.1 F.2.2.2.2.2.2.2.2.2.1 F.2.2.2.2.2.2.2.2.2.2.1 F.2.2.2.2.2.2.2.2.2.2.2 b best worth free dc x n k = some rx ∧ f_X7_latest now mores aside bays bests x n k = some rm ∧ rx.1 = rm.1 ∧ RC kind used bay likes who lamp due count day dues draw mu mb md mz mr next known rm.2.1 undone undos := by
  obtain ⟨S, hs, ho, hh, hX, hM, hp, hq⟩ := id hC
  have hn := ho.1
  unfold f_X6_latest f_X7_latest
  rw [has3 hX ho, sb, isHolder7 hM ho, sb]
  by_cases c0 : 0 ≤ x.toInt ∧ x.toInt < sN S
  · rw [if_neg (tf_y c0), if_neg (tf_y c0), wi040, sb, in040, sb]
    by_cases c1 : 0 ≤ n.toInt ∧ n.toInt ≤ 40
    · rw [if_neg (tf_y c1), if_neg (tf_y c1)]
      by_cases c2 : k < (-1)
      · rw [if_pos c2, if_pos c2]
        exact ⟨_, _, rfl, rfl, rfl, hC⟩
      · rw [if_neg c2, if_neg c2]
        obtain ⟨h, hlt, rfl⟩ := hold_x hn c0
        obtain ⟨m, hm, rfl⟩ := l_of (m := 40) (x := n) (by omega) (by omega)
        obtain ⟨rm, e1, e2, e3, e4⟩ := deals7 hM ho hm mores aside bays bests (nI h) (Or.inr ⟨h, hlt, rfl⟩)
        have hRC : RC kind used bay likes who lamp due count day dues draw mu mb md mz mr next known rm.2.1 undone undos := RC_now hC e3
        rw [e1, sb, jn_eq, e3 0 (by decide), hM.1]
        obtain ⟨r, f1, f2, f3, f4, f5⟩ := least6d hX ho hlt hm F b best worth free dc
        have hmap := mapU m h (6 ^ sN S) hlt ho
        rw [← hmap] at e2 e4
        have e4 : ∀ g, g < sN S → rm.2.2.2.2.2 g = nI (dg (sN S) (foD (qd (sN S) (msk (sB S) (sN S))) (stC (vU S m h)) (6 ^ sN S) 0 (0, 999999)).1 g) := by
          rcases e4 with e4 | e4
          · exact absurd e4 (ne_999999 f5)
          · exact e4
        have e2 : rm.1 = nI (foD (qd (sN S) (msk (sB S) (sN S))) (stC (vU S m h)) (6 ^ sN S) 0 (0, 999999)).2 := e2
        by_cases c3 : k < nI (sN S)
        · rw [if_pos (show k < count by rw [hX.1]; exact c3), if_pos c3, f1, sb]
          show ∃ rx rm', ((f_X0_answer r.2.2.1 r.2.2.2.1 r.2.2.2.2.2 k).bind _) = some rx ∧ _ ∧ _ ∧ _
          rw [f4]
          rcases answer0 r.2.2.1 r.2.2.2.1 hn k _ f2 c3 with ⟨c4, e5⟩ | ⟨c4, j, hj, rfl, e5⟩
          · rw [e5, sb, if_pos c4]
            exact ⟨_, _, rfl, rfl, f3.trans e2.symm, hRC⟩
          · rw [e5, sb, if_neg c4, if_pos (inb_nI (by omega) (by decide)), nI_cl (by omega), jn_eq]
            exact ⟨_, _, rfl, rfl, (e4 j hj).symm, hRC⟩
        · rw [if_neg (show ¬ k < count by rw [hX.1]; exact c3), if_neg c3, if_neg (fun q => c3 (neg_lt hn q))]
          exact ⟨_, _, rfl, rfl, rfl, hRC⟩
    · rw [if_pos (tf_x c1), if_pos (tf_x c1)]
      exact ⟨_, _, rfl, rfl, rfl, hC⟩
  · rw [if_pos (tf_x c0), if_pos (tf_x c0)]
    exact ⟨_, _, rfl, rfl, rfl, hC⟩
end LT
theorem S_latest : St_latest Rel := by
  intro t_now_kind t_now_used t_now_bay t_now_likes t_now_who t_now_lamp t_now_due t_now_gain t_now_count t_now_day t_now_dues t_now_draw t_past_marks_used t_past_marks_bay t_past_marks_day t_past_marks_dues t_past_marks_draw t_past_next t_past_known t_foreseen_kind t_foreseen_used t_foreseen_bay t_foreseen_likes t_foreseen_who t_foreseen_lamp t_foreseen_due t_foreseen_gain t_foreseen_count t_foreseen_day t_foreseen_dues t_foreseen_draw t_imageOfNow_kind t_imageOfNow_used t_imageOfNow_bay t_imageOfNow_likes t_imageOfNow_who t_imageOfNow_lamp t_imageOfNow_due t_imageOfNow_gain t_imageOfNow_count t_imageOfNow_day t_imageOfNow_dues t_imageOfNow_draw t_imageOfPast_marks_used t_imageOfPast_marks_bay t_imageOfPast_marks_day t_imageOfPast_marks_dues t_imageOfPast_marks_draw t_imageOfPast_next t_imageOfPast_known t_hasImage t_deal_bay t_deal_best t_deal_worth t_deal_free t_deal_count t_tape_letters t_tape_length t_tape_place t_sheets_items t_sheets_lane t_sheets_size u_now u_mores u_tape u_typed u_place u_isFault u_readLamps u_read u_undone u_undos u_aside u_bays u_bests u_kept u_keptUndos u_isKept u_lanes u_sizes u_items u_moved y0 y1 y2 hR
  obtain ⟨hC, hI, hT, hS⟩ := hR
  obtain ⟨rx, rm, e1, e2, e3, e4⟩ := st_latest hC u_mores u_aside u_bays u_bests (t_foreseen_kind, t_foreseen_used, t_foreseen_bay, t_foreseen_likes, t_foreseen_who, t_foreseen_lamp, t_foreseen_due, t_foreseen_gain, t_foreseen_count, t_foreseen_day, t_foreseen_dues, t_foreseen_draw) t_deal_bay t_deal_best t_deal_worth t_deal_free t_deal_count y0 y1 y2
  exact ⟨rx, rm, e1, e2, e3, e4, hI, hT, hS⟩
