/-! MATHEMATICS 15: days, drift, undo -/
theorem draw_e (r : Nat) : ∃ j : Nat, j < 2 ^ 31 ∧ (nI r * 1103515245 + 12345) &&& 2147483647 = nI j := pk_andE _ (m := 2147483647) 31 (by decide)
/-- the next draw -/
noncomputable def nxR (r : Nat) : Nat := Classical.choose (draw_e r)
theorem nxR_lt (r : Nat) : nxR r < 2 ^ 31 := (Classical.choose_spec (draw_e r)).1
theorem draw_n (r : Nat) : (nI r * 1103515245 + 12345) &&& 2147483647 = nI (nxR r) := (Classical.choose_spec (draw_e r)).2
theorem draw_l (v : Int32) : ((v.toInt64 * 1103515245 + 12345) &&& 2147483647).toInt32 = (v * 1103515245 + 12345) &&& 2147483647 := by
  rw [Int64.toInt32_and, Int64.toInt32_add, Int64.toInt32_mul, Int32.toInt32_toInt64]
  rfl
noncomputable def drS (S : Sc) : Sc := if nxR (sR S) / 65536 % 3 = 0 ∧ 0 < sN S then talkS (setR S (nxR (sR S))) (nxR (sR S) / 128 % sN S) else setR S (nxR (sR S))
theorem dr_N (S : Sc) : sN (drS S) = sN S := by
  unfold drS
  split
  · rw [talk_N]; rfl
  · rfl
theorem ok_dr {S : Sc} (ho : okS S) : okS (drS S) := by
  unfold drS
  split
  · rename_i h
    exact ok_talk (ok_setR ho (nxR_lt _)) (Nat.mod_lt _ h.2)
  · exact ok_setR ho (nxR_lt _)
/-- a day's deed: with a draw or without -/
noncomputable def dayS (b : Bool) (S : Sc) : Sc := passS (if b = true then drS S else S)
noncomputable def dayH (b : Bool) : Nat → Sc × List Mk → Sc × List Mk
  | 0, p => p
  | k + 1, p => (dayS b (dayH b k p).1, pushH (mkS (dayH b k p).1) (dayH b k p).2)
theorem dayH_s (b : Bool) (k : Nat) (p : Sc × List Mk) : dayH b (k + 1) p = (dayS b (dayH b k p).1, pushH (mkS (dayH b k p).1) (dayH b k p).2) := rfl
theorem day_N (b : Bool) (S : Sc) : sN (dayS b S) = sN S := by
  unfold dayS
  split
  · exact dr_N S
  · rfl
theorem dayH_N (b : Bool) : ∀ (k : Nat) (p : Sc × List Mk), sN (dayH b k p).1 = sN p.1 := by
  intro k p
  induction k with
  | zero => rfl
  | succ k ih => rw [dayH_s]; exact (day_N b _).trans ih
theorem ok_day (b : Bool) {S : Sc} (ho : okS S) : okS (dayS b S) := by
  unfold dayS
  split
  · exact ok_pass (ok_dr ho)
  · exact ok_pass ho
theorem dayH_ok (b : Bool) (S : Sc) (hs : List Mk) (ho : okS S) (hh : okH (sN S) hs) : ∀ k, okS (dayH b k (S, hs)).1 ∧ okH (sN S) (dayH b k (S, hs)).2 := by
  intro k
  induction k with
  | zero => exact ⟨ho, hh⟩
  | succ k ih =>
    rw [dayH_s]
    refine ⟨ok_day b ih.1, okH_push ?_ ih.2⟩
    have := okM_S ih.1
    rw [dayH_N] at this
    exact this
section DY
variable {kind used bay likes who lamp due : Nat → Int32} {count day dues draw : Int32} {fkind fused fbay flikes fwho flamp fdue fgain : Nat → Int32} {fcount fday fdues fdraw : Int32} {mu mb : Nat → Nat → Int32} {md mz mr : Nat → Int32} {next known : Int32} {now undone : Nat → Int32} {undos : Int32} {S : Sc} {hs : List Mk}
theorem drawTalk3 (hX : isX S kind used bay likes who lamp due count day dues draw) (ho : okS S) : ∃ r, f_X3_drawTalk used count draw = some r ∧ isX (drS S) kind r.1 bay likes who lamp due count day dues r.2 := by
  have hn := ho.1
  have x0 := hX.1
  have x3 := hX.2.2.2.1
  have hr := nxR_lt (sR S)
  unfold f_X3_drawTalk drS
  rw [x3, draw_n]
  have e1 : nI (nxR (sR S)) / 65536 = nI (nxR (sR S) / 65536) := pk_div (d := 65536) hr (by decide) (by decide)
  have e2 : nI (nxR (sR S) / 65536) - nI (nxR (sR S) / 65536) / 3 * 3 = nI (nxR (sR S) / 65536 % 3) := pk_rem (d := 3) (by omega) (by decide) (by decide)
  have e3 : nI (nxR (sR S)) / 128 = nI (nxR (sR S) / 128) := pk_div (d := 128) hr (by decide) (by decide)
  rw [e1, e2, show (0 : Int32) = nI 0 from rfl, if_n_eq (by omega) (by decide), x0, if_n_lt (by decide) (by omega), if_n_eq (by omega) (by decide)]
  have hX' := X_setR hX (nxR (sR S))
  have ho' := ok_setR ho (nxR_lt (sR S))
  by_cases c1 : nxR (sR S) / 65536 % 3 = 0
  · rw [if_pos c1]
    by_cases c2 : 0 < sN S
    · have e4 : nI (nxR (sR S) / 128) - nI (nxR (sR S) / 128) / nI (sN S) * nI (sN S) = nI (nxR (sR S) / 128 % sN S) := pk_rem (by omega) c2 (by omega)
      rw [if_pos c2, if_neg (show ¬ sN S = 0 by omega), if_pos ⟨c1, c2⟩, e3, e4]
      obtain ⟨u, eu, hu⟩ := talkTo3 hX' ho' (h := nxR (sR S) / 128 % sN S) (Nat.mod_lt _ c2)
      rw [eu, sb]
      rw [x0] at hu
      exact ⟨_, rfl, hu⟩
    · rw [if_neg c2, if_neg (fun h => c2 h.2)]
      rw [x0] at hX'
      exact ⟨_, rfl, hX'⟩
  · rw [if_neg c1, if_neg (fun h => c1 h.1)]
    rw [x0] at hX'
    exact ⟨_, rfl, hX'⟩
theorem pass32 (hX : isX S kind used bay likes who lamp due count day dues draw) (ho : okS S) (hh : okH (sN S) hs) (hp : isXP (sN S) hs mu mb md mz mr next known) (gain : Nat → Int32) (b : Bool) {n : Nat} (hn : n ≤ 40) : ∃ r, f_X6_pass_c32 fu kind used bay who lamp due gain count day dues draw mu mb md mz mr next known (nI n) (tf b) 0 = some r ∧ r.1 = nI (bitS (tk (dayH b n (S, hs)).1) (sN S)) ∧ isX (dayH b n (S, hs)).1 kind r.2.1 bay likes who lamp due count r.2.2.2.1 r.2.2.2.2.1 r.2.2.2.2.2.1 ∧ isXP (sN S) (dayH b n (S, hs)).2 r.2.2.2.2.2.2.1 r.2.2.2.2.2.2.2.1 r.2.2.2.2.2.2.2.2.1 r.2.2.2.2.2.2.2.2.2.1 r.2.2.2.2.2.2.2.2.2.2.1 r.2.2.2.2.2.2.2.2.2.2.2.1 r.2.2.2.2.2.2.2.2.2.2.2.2 := by
  refine inv_all (fun f (a : (Nat → Int32) × (Nat → Int32) × Int32 × Int32 × Int32 × (Nat → Nat → Int32) × (Nat → Nat → Int32) × (Nat → Int32) × (Nat → Int32) × (Nat → Int32) × Int32 × Int32) k => f_X6_pass_c32 f kind a.1 bay who lamp due a.2.1 count a.2.2.1 a.2.2.2.1 a.2.2.2.2.1 a.2.2.2.2.2.1 a.2.2.2.2.2.2.1 a.2.2.2.2.2.2.2.1 a.2.2.2.2.2.2.2.2.1 a.2.2.2.2.2.2.2.2.2.1 a.2.2.2.2.2.2.2.2.2.2.1 a.2.2.2.2.2.2.2.2.2.2.2 (nI n) (tf b) (nI k)) (fun k a => isX (dayH b k (S, hs)).1 kind a.1 bay likes who lamp due count a.2.2.1 a.2.2.2.1 a.2.2.2.2.1 ∧ isXP (sN S) (dayH b k (S, hs)).2 a.2.2.2.2.2.1 a.2.2.2.2.2.2.1 a.2.2.2.2.2.2.2.1 a.2.2.2.2.2.2.2.2.1 a.2.2.2.2.2.2.2.2.2.1 a.2.2.2.2.2.2.2.2.2.2.1 a.2.2.2.2.2.2.2.2.2.2.2) n (fun o => ∃ r, o = some r ∧ r.1 = nI (bitS (tk (dayH b n (S, hs)).1) (sN S)) ∧ isX (dayH b n (S, hs)).1 kind r.2.1 bay likes who lamp due count r.2.2.2.1 r.2.2.2.2.1 r.2.2.2.2.2.1 ∧ isXP (sN S) (dayH b n (S, hs)).2 r.2.2.2.2.2.2.1 r.2.2.2.2.2.2.2.1 r.2.2.2.2.2.2.2.2.1 r.2.2.2.2.2.2.2.2.2.1 r.2.2.2.2.2.2.2.2.2.2.1 r.2.2.2.2.2.2.2.2.2.2.2.1 r.2.2.2.2.2.2.2.2.2.2.2.2) (by omega) (used, gain, day, dues, draw, mu, mb, md, mz, mr, next, known) ⟨hX, hp⟩ ?_ ?_
  · rintro f k ⟨u, g, y, z, w, m1, m2, m3, m4, m5, nx, kn⟩ hk ⟨hI, hJ⟩
    have hI : isX (dayH b k (S, hs)).1 kind u bay likes who lamp due count y z w := hI
    have hJ : isXP (sN S) (dayH b k (S, hs)).2 m1 m2 m3 m4 m5 nx kn := hJ
    obtain ⟨ho', hh'⟩ := dayH_ok b S hs ho hh k
    have hN := dayH_N b k (S, hs)
    have hN : sN (dayH b k (S, hs)).1 = sN S := hN
    obtain ⟨kp, ek, hkp⟩ := keep2 (hs := (dayH b k (S, hs)).2) hI ho' (by rw [hN]; exact hh') (by rw [hN]; exact hJ)
    rw [hN] at hkp
    cases b with
    | false =>
      obtain ⟨r, er, hr⟩ := passDay3 hI ho' g
      refine ⟨(r.1, r.2.1, r.2.2.1, r.2.2.2, w, kp.1, kp.2.1, kp.2.2.1, kp.2.2.2.1, kp.2.2.2.2.1, kp.2.2.2.2.2.1, kp.2.2.2.2.2.2), ?_, hr, hkp⟩
      show f_X6_pass_c32 (f + 1) kind u bay who lamp due g count y z w m1 m2 m3 m4 m5 nx kn (nI n) (tf false) (nI k) = f_X6_pass_c32 f kind r.1 bay who lamp due r.2.1 count r.2.2.1 r.2.2.2 w kp.1 kp.2.1 kp.2.2.1 kp.2.2.2.1 kp.2.2.2.2.1 kp.2.2.2.2.2.1 kp.2.2.2.2.2.2 (nI n) (tf false) (nI (k + 1))
      rw [f_X6_pass_c32, if_pos (nI_lt hk (by omega)), ek, sb, if_pos (show tf false = 0 from rfl)]
      unfold f_X6_pass_c59
      rw [er, sb, nI_1]
    | true =>
      obtain ⟨d, ed, hd⟩ := drawTalk3 hI ho'
      obtain ⟨r, er, hr⟩ := passDay3 hd (ok_dr ho') g
      refine ⟨(r.1, r.2.1, r.2.2.1, r.2.2.2, d.2, kp.1, kp.2.1, kp.2.2.1, kp.2.2.2.1, kp.2.2.2.2.1, kp.2.2.2.2.2.1, kp.2.2.2.2.2.2), ?_, hr, hkp⟩
      show f_X6_pass_c32 (f + 1) kind u bay who lamp due g count y z w m1 m2 m3 m4 m5 nx kn (nI n) (tf true) (nI k) = f_X6_pass_c32 f kind r.1 bay who lamp due r.2.1 count r.2.2.1 r.2.2.2 d.2 kp.1 kp.2.1 kp.2.2.1 kp.2.2.2.1 kp.2.2.2.2.1 kp.2.2.2.2.2.1 kp.2.2.2.2.2.2 (nI n) (tf true) (nI (k + 1))
      rw [f_X6_pass_c32, if_pos (nI_lt hk (by omega)), ek, sb, if_neg (show ¬ tf true = 0 by decide), ed, sb]
      unfold f_X6_pass_c59
      rw [er, sb, nI_1]
  · rintro f ⟨u, g, y, z, w, m1, m2, m3, m4, m5, nx, kn⟩ ⟨hI, hJ⟩
    have hI : isX (dayH b n (S, hs)).1 kind u bay likes who lamp due count y z w := hI
    obtain ⟨ho', hh'⟩ := dayH_ok b S hs ho hh n
    have hN : sN (dayH b n (S, hs)).1 = sN S := dayH_N b n (S, hs)
    have ht := takenSet3 hI ho'
    rw [hN] at ht
    refine ⟨(nI (bitS (tk (dayH b n (S, hs)).1) (sN S)), u, g, y, z, w, m1, m2, m3, m4, m5, nx, kn), ?_, rfl, hI, hJ⟩
    show f_X6_pass_c32 (f + 1) kind u bay who lamp due g count y z w m1 m2 m3 m4 m5 nx kn (nI n) (tf b) (nI n) = _
    rw [f_X6_pass_c32, if_neg (nI_nlt (Nat.le_refl _) (by omega)), ht, sb]
theorem days33 (hM : isM S now) (ho : okS S) (hh : okH (sN S) hs) (hq : isMP (sN S) hs undone undos) (mores : Nat → Int32) {n : Nat} (hn : n ≤ 40) : ∃ r, f_X7_days_c33 fu now mores undone undos (nI n) 0 = some r ∧ r.1 = nI (bitS (tk (dayH false n (S, hs)).1) (sN S)) ∧ isM (dayH false n (S, hs)).1 r.2.1 ∧ isMP (sN S) (dayH false n (S, hs)).2 r.2.2.2.1 r.2.2.2.2 := by
  refine inv_all (fun f (a : (Nat → Int32) × (Nat → Int32) × (Nat → Int32) × Int32) k => f_X7_days_c33 f a.1 a.2.1 a.2.2.1 a.2.2.2 (nI n) (nI k)) (fun k a => isM (dayH false k (S, hs)).1 a.1 ∧ isMP (sN S) (dayH false k (S, hs)).2 a.2.2.1 a.2.2.2) n (fun o => ∃ r, o = some r ∧ r.1 = nI (bitS (tk (dayH false n (S, hs)).1) (sN S)) ∧ isM (dayH false n (S, hs)).1 r.2.1 ∧ isMP (sN S) (dayH false n (S, hs)).2 r.2.2.2.1 r.2.2.2.2) (by omega) (now, mores, undone, undos) ⟨hM, hq⟩ ?_ ?_
  · rintro f k ⟨a, mo, un, us⟩ hk ⟨hI, hJ⟩
    have hI : isM (dayH false k (S, hs)).1 a := hI
    have hJ : isMP (sN S) (dayH false k (S, hs)).2 un us := hJ
    obtain ⟨ho', hh'⟩ := dayH_ok false S hs ho hh k
    have hN : sN (dayH false k (S, hs)).1 = sN S := dayH_N false k (S, hs)
    obtain ⟨kp, ek, hkp⟩ := notes7 (hs := (dayH false k (S, hs)).2) hI ho' (by rw [hN]; exact hh') (by rw [hN]; exact hJ)
    rw [hN] at hkp
    obtain ⟨r, er, hr⟩ := goesBy7 mo hI ho'
    refine ⟨(r.1, r.2, kp.1, kp.2), ?_, hr, hkp⟩
    show f_X7_days_c33 (f + 1) a mo un us (nI n) (nI k) = f_X7_days_c33 f r.1 r.2 kp.1 kp.2 (nI n) (nI (k + 1))
    rw [f_X7_days_c33, if_pos (nI_lt hk (by omega)), ek, sb, er, sb, nI_1]
  · rintro f ⟨a, mo, un, us⟩ ⟨hI, hJ⟩
    have hI : isM (dayH false n (S, hs)).1 a := hI
    obtain ⟨ho', hh'⟩ := dayH_ok false S hs ho hh n
    have hN : sN (dayH false n (S, hs)).1 = sN S := dayH_N false n (S, hs)
    have ht := ups7 hI ho'
    rw [hN] at ht
    refine ⟨(nI (bitS (tk (dayH false n (S, hs)).1) (sN S)), a, mo, un, us), ?_, rfl, hI, hJ⟩
    show f_X7_days_c33 (f + 1) a mo un us (nI n) (nI n) = _
    rw [f_X7_days_c33, if_neg (nI_nlt (Nat.le_refl _) (by omega)), ht, sb]
theorem drift33 (hM : isM S now) (ho : okS S) (hh : okH (sN S) hs) (hq : isMP (sN S) hs undone undos) (mores : Nat → Int32) {n : Nat} (hn : n ≤ 40) : ∃ r, f_X7_drift_c33 fu now mores undone undos (nI n) 0 = some r ∧ r.1 = nI (bitS (tk (dayH true n (S, hs)).1) (sN S)) ∧ isM (dayH true n (S, hs)).1 r.2.1 ∧ isMP (sN S) (dayH true n (S, hs)).2 r.2.2.2.1 r.2.2.2.2 := by
  refine inv_all (fun f (a : (Nat → Int32) × (Nat → Int32) × (Nat → Int32) × Int32) k => f_X7_drift_c33 f a.1 a.2.1 a.2.2.1 a.2.2.2 (nI n) (nI k)) (fun k a => isM (dayH true k (S, hs)).1 a.1 ∧ isMP (sN S) (dayH true k (S, hs)).2 a.2.2.1 a.2.2.2) n (fun o => ∃ r, o = some r ∧ r.1 = nI (bitS (tk (dayH true n (S, hs)).1) (sN S)) ∧ isM (dayH true n (S, hs)).1 r.2.1 ∧ isMP (sN S) (dayH true n (S, hs)).2 r.2.2.2.1 r.2.2.2.2) (by omega) (now, mores, undone, undos) ⟨hM, hq⟩ ?_ ?_
  · rintro f k ⟨a, mo, un, us⟩ hk ⟨hI, hJ⟩
    have hI : isM (dayH true k (S, hs)).1 a := hI
    have hJ : isMP (sN S) (dayH true k (S, hs)).2 un us := hJ
    obtain ⟨ho', hh'⟩ := dayH_ok true S hs ho hh k
    have hN : sN (dayH true k (S, hs)).1 = sN S := dayH_N true k (S, hs)
    obtain ⟨kp, ek, hkp⟩ := notes7 (hs := (dayH true k (S, hs)).2) hI ho' (by rw [hN]; exact hh') (by rw [hN]; exact hJ)
    rw [hN] at hkp
    have hI2 := M_setR hI ho' (nxR (sR (dayH true k (S, hs)).1))
    have ho2 := ok_setR ho' (nxR_lt (sR (dayH true k (S, hs)).1))
    have hdr : ∃ d, isM (drS (dayH true k (S, hs)).1) d ∧ ∀ Z, (if 0 < sN (dayH true k (S, hs)).1 then (if nxR (sR (dayH true k (S, hs)).1) / 65536 % 3 = 0 then (f_X7_talks (upd a 3 (nI (nxR (sR (dayH true k (S, hs)).1)))) (nI (nxR (sR (dayH true k (S, hs)).1) / 128 % sN (dayH true k (S, hs)).1))).bind Z else Z (upd a 3 (nI (nxR (sR (dayH true k (S, hs)).1))))) else Z (upd a 3 (nI (nxR (sR (dayH true k (S, hs)).1))))) = (Z d : Option (Int32 × (Nat → Int32) × (Nat → Int32) × (Nat → Int32) × Int32)) := by
      unfold drS
      by_cases c2 : 0 < sN (dayH true k (S, hs)).1
      · by_cases c1 : nxR (sR (dayH true k (S, hs)).1) / 65536 % 3 = 0
        · obtain ⟨d, ed, hd⟩ := talks7 hI2 ho2 (h := nxR (sR (dayH true k (S, hs)).1) / 128 % sN (dayH true k (S, hs)).1) (Nat.mod_lt _ c2)
          refine ⟨d, ?_, fun Z => ?_⟩
          · rw [if_pos ⟨c1, c2⟩]; exact hd
          · rw [if_pos c2, if_pos c1, ed, sb]
        · refine ⟨upd a 3 (nI (nxR (sR (dayH true k (S, hs)).1))), ?_, fun Z => ?_⟩
          · rw [if_neg (fun h => c1 h.1)]; exact hI2
          · rw [if_pos c2, if_neg c1]
      · refine ⟨upd a 3 (nI (nxR (sR (dayH true k (S, hs)).1))), ?_, fun Z => ?_⟩
        · rw [if_neg (fun h => c2 h.2)]; exact hI2
        · rw [if_neg c2]
    obtain ⟨d, hd, hZ⟩ := hdr
    obtain ⟨r, er, hr⟩ := goesBy7 mo hd (ok_dr ho')
    refine ⟨(r.1, r.2, kp.1, kp.2), ?_, hr, hkp⟩
    show f_X7_drift_c33 (f + 1) a mo un us (nI n) (nI k) = f_X7_drift_c33 f r.1 r.2 kp.1 kp.2 (nI n) (nI (k + 1))
    have h0 : a 0 = nI (sN (dayH true k (S, hs)).1) := hI.1
    have h3 : a 3 = nI (sR (dayH true k (S, hs)).1) := hI.2.2.2.1
    have hr31 := nxR_lt (sR (dayH true k (S, hs)).1)
    have hn6 := ho'.1
    have u0 : ∀ v, upd a 3 v 0 = nI (sN (dayH true k (S, hs)).1) := fun v => (pk_un (by decide)).trans h0
    have u3 : ∀ v, upd a 3 v 3 = v := fun v => pk_us
    have e1 : nI (nxR (sR (dayH true k (S, hs)).1)) / 65536 = nI (nxR (sR (dayH true k (S, hs)).1) / 65536) := pk_div (d := 65536) hr31 (by decide) (by decide)
    have e2 : nI (nxR (sR (dayH true k (S, hs)).1) / 65536) - nI (nxR (sR (dayH true k (S, hs)).1) / 65536) / 3 * 3 = nI (nxR (sR (dayH true k (S, hs)).1) / 65536 % 3) := pk_rem (d := 3) (by omega) (by decide) (by decide)
    have e3 : nI (nxR (sR (dayH true k (S, hs)).1)) / 128 = nI (nxR (sR (dayH true k (S, hs)).1) / 128) := pk_div (d := 128) hr31 (by decide) (by decide)
    have ed : ((nI (sR (dayH true k (S, hs)).1)).toInt64 * 1103515245 + 12345 &&& 2147483647).toInt32 = nI (nxR (sR (dayH true k (S, hs)).1)) := (draw_l _).trans (draw_n _)
    rw [f_X7_drift_c33, if_pos (nI_lt hk (by omega)), ek, sb, h3, jn_eq, ed]
    simp only [jn_eq, u0, u3, e1, e2, e3]
    rw [show (0 : Int32) = nI 0 from rfl, if_n_lt (by decide) (by omega), if_n_eq (by omega) (by decide)]
    have hfin := hZ (fun d => f_X7_drift_c112 (f_X7_drift_c33 f) d mo kp.1 kp.2 (nI n) (nI k))
    have hright : f_X7_drift_c112 (f_X7_drift_c33 f) d mo kp.1 kp.2 (nI n) (nI k) = f_X7_drift_c33 f r.1 r.2 kp.1 kp.2 (nI n) (nI (k + 1)) := by
      unfold f_X7_drift_c112
      rw [er, sb, nI_1]
    rw [← hright, ← hfin]
    by_cases c2 : 0 < sN (dayH true k (S, hs)).1
    · have e4 : nI (nxR (sR (dayH true k (S, hs)).1) / 128) - nI (nxR (sR (dayH true k (S, hs)).1) / 128) / nI (sN (dayH true k (S, hs)).1) * nI (sN (dayH true k (S, hs)).1) = nI (nxR (sR (dayH true k (S, hs)).1) / 128 % sN (dayH true k (S, hs)).1) := pk_rem (by omega) c2 (by omega)
      rw [if_pos c2, if_pos c2, if_n_eq (by omega) (by decide), if_neg (show ¬ sN (dayH true k (S, hs)).1 = 0 by omega), e4]
    · rw [if_neg c2, if_neg c2]
  · rintro f ⟨a, mo, un, us⟩ ⟨hI, hJ⟩
    have hI : isM (dayH true n (S, hs)).1 a := hI
    obtain ⟨ho', hh'⟩ := dayH_ok true S hs ho hh n
    have hN : sN (dayH true n (S, hs)).1 = sN S := dayH_N true n (S, hs)
    have ht := ups7 hI ho'
    rw [hN] at ht
    refine ⟨(nI (bitS (tk (dayH true n (S, hs)).1) (sN S)), a, mo, un, us), ?_, rfl, hI, hJ⟩
    show f_X7_drift_c33 (f + 1) a mo un us (nI n) (nI n) = _
    rw [f_X7_drift_c33, if_neg (nI_nlt (Nat.le_refl _) (by omega)), ht, sb]
theorem in40 (x : Int32) : f_X7_in x.toInt64 1 40 = some (tf (decide (1 ≤ x.toInt ∧ x.toInt ≤ 40))) := in7w x 1 40
theorem wi40 (x : Int32) : f_X6_within x 1 40 = some (tf (decide (1 ≤ x.toInt ∧ x.toInt ≤ 40))) := within6 x 1 40
theorem st_days (hC : RC kind used bay likes who lamp due count day dues draw mu mb md mz mr next known now undone undos) (gain mores : Nat → Int32) (x : Int32) : ∃ rx rm, f_X6_days kind used bay who lamp due gain count day dues draw mu mb md mz mr next known x = some rx ∧ f_X7_days now mores undone undos x = some rm ∧ rx.1 = rm.1 ∧ RC kind rx.2.1 bay likes who lamp due count rx.2.2.2.1 rx.2.2.2.2.1 rx.2.2.2.2.2.1 rx.2.2.2.2.2.2.1 rx.2.2.2.2.2.2.2.1 rx.2.2.2.2.2.2.2.2.1 rx.2.2.2.2.2.2.2.2.2.1 rx.2.2.2.2.2.2.2.2.2.2.1 rx.2.2.2.2.2.2.2.2.2.2.2.1 rx.2.2.2.2.2.2.2.2.2.2.2.2 rm.2.1 rm.2.2.2.1 rm.2.2.2.2 := by
  obtain ⟨S, hs, ho, hh, hX, hM, hp, hq⟩ := id hC
  unfold f_X6_days f_X6_pass f_X7_days
  rw [wi40, sb, in40, sb]
  by_cases c0 : 1 ≤ x.toInt ∧ x.toInt ≤ 40
  · rw [if_neg (tf_y c0), if_neg (tf_y c0), jn_eq, hM.2.1, hX.2.1]
    by_cases c1 : 9999 < sY S + x
    · rw [if_pos c1, if_pos c1, sb]
      exact ⟨_, _, rfl, rfl, rfl, hX.2.1 ▸ hC⟩
    · rw [if_neg c1, if_neg c1]
      obtain ⟨k, hk, rfl⟩ := l_of (m := 40) (x := x) (by omega) (by omega)
      obtain ⟨r, e1, e2, e3, e4⟩ := pass32 hX ho hh hp gain false (n := k) hk
      obtain ⟨q, f1, f2, f3, f4⟩ := days33 hM ho hh hq mores (n := k) hk
      rw [hX.2.1] at e1
      have e1 : f_X6_pass_c32 fu kind used bay who lamp due gain count (sY S) dues draw mu mb md mz mr next known (nI k) 0 0 = some r := e1
      rw [e1, sb]
      obtain ⟨ho', hh'⟩ := dayH_ok false S hs ho hh k
      have hN : sN (dayH false k (S, hs)).1 = sN S := dayH_N false k (S, hs)
      refine ⟨_, _, rfl, f1, e2.trans f2.symm, RC_mk (S' := (dayH false k (S, hs)).1) (hs' := (dayH false k (S, hs)).2) ho' ?_ e3 f3 ?_ ?_⟩
      · rw [hN]; exact hh'
      · rw [hN]; exact e4
      · rw [hN]; exact f4
  · rw [if_pos (tf_x c0), if_pos (tf_x c0), sb]
    exact ⟨_, _, rfl, rfl, rfl, hC⟩
theorem st_drift (hC : RC kind used bay likes who lamp due count day dues draw mu mb md mz mr next known now undone undos) (gain mores : Nat → Int32) (x : Int32) : ∃ rx rm, f_X6_drift kind used bay who lamp due gain count day dues draw mu mb md mz mr next known x = some rx ∧ f_X7_drift now mores undone undos x = some rm ∧ rx.1 = rm.1 ∧ RC kind rx.2.1 bay likes who lamp due count rx.2.2.2.1 rx.2.2.2.2.1 rx.2.2.2.2.2.1 rx.2.2.2.2.2.2.1 rx.2.2.2.2.2.2.2.1 rx.2.2.2.2.2.2.2.2.1 rx.2.2.2.2.2.2.2.2.2.1 rx.2.2.2.2.2.2.2.2.2.2.1 rx.2.2.2.2.2.2.2.2.2.2.2.1 rx.2.2.2.2.2.2.2.2.2.2.2.2 rm.2.1 rm.2.2.2.1 rm.2.2.2.2 := by
  obtain ⟨S, hs, ho, hh, hX, hM, hp, hq⟩ := id hC
  unfold f_X6_drift f_X6_pass f_X7_drift
  rw [wi40, sb, in40, sb]
  by_cases c0 : 1 ≤ x.toInt ∧ x.toInt ≤ 40
  · rw [if_neg (tf_y c0), if_neg (tf_y c0), jn_eq, hM.2.1, hX.2.1]
    by_cases c1 : 9999 < sY S + x
    · rw [if_pos c1, if_pos c1, sb]
      exact ⟨_, _, rfl, rfl, rfl, hX.2.1 ▸ hC⟩
    · rw [if_neg c1, if_neg c1]
      obtain ⟨k, hk, rfl⟩ := l_of (m := 40) (x := x) (by omega) (by omega)
      obtain ⟨r, e1, e2, e3, e4⟩ := pass32 hX ho hh hp gain true (n := k) hk
      obtain ⟨q, f1, f2, f3, f4⟩ := drift33 hM ho hh hq mores (n := k) hk
      rw [hX.2.1] at e1
      have e1 : f_X6_pass_c32 fu kind used bay who lamp due gain count (sY S) dues draw mu mb md mz mr next known (nI k) 1 0 = some r := e1
      rw [e1, sb]
      obtain ⟨ho', hh'⟩ := dayH_ok true S hs ho hh k
      have hN : sN (dayH true k (S, hs)).1 = sN S := dayH_N true k (S, hs)
      refine ⟨_, _, rfl, f1, e2.trans f2.symm, RC_mk (S' := (dayH true k (S, hs)).1) (hs' := (dayH true k (S, hs)).2) ho' ?_ e3 f3 ?_ ?_⟩
      · rw [hN]; exact hh'
      · rw [hN]; exact e4
      · rw [hN]; exact f4
  · rw [if_pos (tf_x c0), if_pos (tf_x c0), sb]
    exact ⟨_, _, rfl, rfl, rfl, hC⟩
end DY
theorem S_days : St_days Rel := by
  intro t_now_kind t_now_used t_now_bay t_now_likes t_now_who t_now_lamp t_now_due t_now_gain t_now_count t_now_day t_now_dues t_now_draw t_past_marks_used t_past_marks_bay t_past_marks_day t_past_marks_dues t_past_marks_draw t_past_next t_past_known t_foreseen_kind t_foreseen_used t_foreseen_bay t_foreseen_likes t_foreseen_who t_foreseen_lamp t_foreseen_due t_foreseen_gain t_foreseen_count t_foreseen_day t_foreseen_dues t_foreseen_draw t_imageOfNow_kind t_imageOfNow_used t_imageOfNow_bay t_imageOfNow_likes t_imageOfNow_who t_imageOfNow_lamp t_imageOfNow_due t_imageOfNow_gain t_imageOfNow_count t_imageOfNow_day t_imageOfNow_dues t_imageOfNow_draw t_imageOfPast_marks_used t_imageOfPast_marks_bay t_imageOfPast_marks_day t_imageOfPast_marks_dues t_imageOfPast_marks_draw t_imageOfPast_next t_imageOfPast_known t_hasImage t_deal_bay t_deal_best t_deal_worth t_deal_free t_deal_count t_tape_letters t_tape_length t_tape_place t_sheets_items t_sheets_lane t_sheets_size u_now u_mores u_tape u_typed u_place u_isFault u_readLamps u_read u_undone u_undos u_aside u_bays u_bests u_kept u_keptUndos u_isKept u_lanes u_sizes u_items u_moved y0 hR
  obtain ⟨hC, hI, hT, hS⟩ := hR
  obtain ⟨rx, rm, e1, e2, e3, e4⟩ := st_days hC t_now_gain u_mores y0
  exact ⟨rx, rm, e1, e2, e3, e4, hI, hT, hS⟩
theorem S_drift : St_drift Rel := by
  intro t_now_kind t_now_used t_now_bay t_now_likes t_now_who t_now_lamp t_now_due t_now_gain t_now_count t_now_day t_now_dues t_now_draw t_past_marks_used t_past_marks_bay t_past_marks_day t_past_marks_dues t_past_marks_draw t_past_next t_past_known t_foreseen_kind t_foreseen_used t_foreseen_bay t_foreseen_likes t_foreseen_who t_foreseen_lamp t_foreseen_due t_foreseen_gain t_foreseen_count t_foreseen_day t_foreseen_dues t_foreseen_draw t_imageOfNow_kind t_imageOfNow_used t_imageOfNow_bay t_imageOfNow_likes t_imageOfNow_who t_imageOfNow_lamp t_imageOfNow_due t_imageOfNow_gain t_imageOfNow_count t_imageOfNow_day t_imageOfNow_dues t_imageOfNow_draw t_imageOfPast_marks_used t_imageOfPast_marks_bay t_imageOfPast_marks_day t_imageOfPast_marks_dues t_imageOfPast_marks_draw t_imageOfPast_next t_imageOfPast_known t_hasImage t_deal_bay t_deal_best t_deal_worth t_deal_free t_deal_count t_tape_letters t_tape_length t_tape_place t_sheets_items t_sheets_lane t_sheets_size u_now u_mores u_tape u_typed u_place u_isFault u_readLamps u_read u_undone u_undos u_aside u_bays u_bests u_kept u_keptUndos u_isKept u_lanes u_sizes u_items u_moved y0 hR
  obtain ⟨hC, hI, hT, hS⟩ := hR
  obtain ⟨rx, rm, e1, e2, e3, e4⟩ := st_drift hC t_now_gain u_mores y0
  exact ⟨rx, rm, e1, e2, e3, e4, hI, hT, hS⟩
