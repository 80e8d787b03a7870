/-! MATHEMATICS 9: steps: of, at, count, seed, rule -/
theorem tf_n (P : Prop) [Decidable P] : tf (decide P) = 0 ↔ ¬ P := by
  rw [tf_0, decide_eq_false_iff_not]
theorem tf_y {P : Prop} [Decidable P] (h : P) : ¬ tf (decide P) = 0 := by rw [tf_n]; exact fun k => k h
theorem tf_x {P : Prop} [Decidable P] (h : ¬ P) : tf (decide P) = 0 := by rw [tf_n]; exact h
theorem hold_x {x : Int32} {n : Nat} (hn : n ≤ 6) (h : 0 ≤ x.toInt ∧ x.toInt < n) : ∃ k : Nat, k < n ∧ x = nI k := by
  obtain ⟨k, h1, h2⟩ := l_of (m := n) h.1 (by omega)
  refine ⟨k, ?_, h2⟩
  rw [h2, l_lit (by omega)] at h
  omega
theorem bay_x {x : Int32} (h : 0 ≤ x.toInt ∧ x.toInt ≤ 5) : ∃ k : Nat, k < 6 ∧ x = nI k := by
  obtain ⟨k, h1, h2⟩ := l_of (m := 5) h.1 (by omega)
  exact ⟨k, by omega, h2⟩
section ST1
variable {kind used bay likes who lamp due : Nat → Int32} {count day dues draw : Int32} {mu mb : Nat → Nat → Int32} {md mz mr : Nat → Int32} {next known : Int32} {now undone : Nat → Int32} {undos : Int32}
theorem st_of (hC : RC kind used bay likes who lamp due count day dues draw mu mb md mz mr next known now undone undos) (x y : Int32) : ∃ r, f_X6_of kind used bay likes who lamp count x y = some r ∧ f_X7_of now x y = some r := by
  obtain ⟨S, hs, ho, -, hX, hM, -, -⟩ := hC
  have hn := ho.1
  unfold f_X6_of f_X7_of
  rw [has3 hX ho, sb, isHolder7 hM ho, sb]
  by_cases hh : 0 ≤ x.toInt ∧ x.toInt < sN S
  · rw [if_neg (tf_y hh), if_neg (tf_y hh)]
    obtain ⟨h, hlt, rfl⟩ := hold_x hn hh
    obtain ⟨x1, x2, x3, x4⟩ := hX.2.2.2.2.1 h hlt
    obtain ⟨m1, m2, m3, m4⟩ := hM.2.2.2.2.1 h hlt
    have hi : inb (nI h) 6 = true := inb_nI (by omega) (by decide)
    by_cases c0 : y = 0
    · subst c0
      rw [if_pos rfl, if_pos rfl, if_pos hi, nI_cl (by omega), x1, jn_eq, show (0 : Int32) = nI 0 from rfl, told7 now (by omega) (by decide), Nat.add_zero, m1]
      exact ⟨_, rfl, rfl⟩
    rw [if_neg c0, if_neg c0]
    by_cases c1 : y = 1
    · subst c1
      rw [if_pos rfl, if_pos rfl, if_pos hi, nI_cl (by omega), x2, jn_eq, show (1 : Int32) = nI 1 from rfl, told7 now (by omega) (by decide), m2]
      exact ⟨_, rfl, rfl⟩
    rw [if_neg c1, if_neg c1]
    by_cases c2 : y = 2
    · subst c2
      rw [if_pos rfl, if_pos rfl, if_pos hi, nI_cl (by omega), x3, jn_eq, show (2 : Int32) = nI 2 from rfl, told7 now (by omega) (by decide), m3]
      exact ⟨_, rfl, rfl⟩
    rw [if_neg c2, if_neg c2]
    by_cases c3 : y = 3
    · subst c3
      rw [if_pos rfl, if_pos rfl, if_pos hi, nI_cl (by omega), x4, jn_eq, show (3 : Int32) = nI 3 from rfl, told7 now (by omega) (by decide), m4]
      exact ⟨_, rfl, rfl⟩
    rw [if_neg c3, if_neg c3]
    by_cases c4 : y = 4
    · subst c4
      rw [if_pos rfl, if_pos rfl, taken3 hX ho hlt, sb, up7 hM ho hlt, sb]
      exact ⟨_, rfl, rfl⟩
    rw [if_neg c4, if_neg c4]
    by_cases c5 : y = 5
    · subst c5
      rw [if_pos rfl, if_pos rfl, taken3 hX ho hlt, sb, more7 hM ho hlt, sb, gain3 hX ho hlt, sb]
      unfold tk
      by_cases h9 : sU S h = 99
      · rw [if_neg (tf_y h9), if_pos h9]
        exact ⟨_, rfl, rfl⟩
      · rw [if_pos (tf_x h9), if_neg h9]
        exact ⟨_, rfl, rfl⟩
    rw [if_neg c5, if_neg c5]
    by_cases c6 : y = 6
    · subst c6
      rw [if_pos rfl, if_pos rfl, besideSet3 hX ho hlt, sb, besides7 hM ho hlt, sb]
      exact ⟨_, rfl, rfl⟩
    rw [if_neg c6, if_neg c6]
    by_cases c7 : y = 7
    · subst c7
      have hB := (ho.2.1 h hlt).2.2.1
      rw [if_pos rfl, if_pos rfl, if_pos hi, nI_cl (by omega), x3, jn_eq, farFrom3 hX ho hlt (by omega), sb, far7 hM ho hlt, sb]
      exact ⟨_, rfl, rfl⟩
    rw [if_neg c7, if_neg c7]
    exact ⟨_, rfl, rfl⟩
  · rw [if_pos (tf_x hh), if_pos (tf_x hh)]
    exact ⟨_, rfl, rfl⟩
theorem st_at (hC : RC kind used bay likes who lamp due count day dues draw mu mb md mz mr next known now undone undos) (x y : Int32) : ∃ r, f_X6_at who lamp due x y = some r ∧ f_X7_at now x y = some r := by
  obtain ⟨S, hs, ho, -, hX, hM, -, -⟩ := hC
  have hn := ho.1
  unfold f_X6_at f_X7_at
  rw [isBay6, sb, isBay7, sb]
  by_cases hh : 0 ≤ x.toInt ∧ x.toInt ≤ 5
  · rw [if_neg (tf_y hh), if_neg (tf_y hh)]
    obtain ⟨b, hlt, rfl⟩ := bay_x hh
    obtain ⟨x1, x2⟩ := hX.2.2.2.2.2.1 b hlt
    obtain ⟨m1, m2⟩ := hM.2.2.2.2.2 b hlt
    have hi : inb (nI b) 6 = true := inb_nI (by omega) (by decide)
    have h2 : (0 : Int64).toInt = 0 ∧ (2 : Int64).toInt = 2 := ⟨rfl, rfl⟩
    rw [in7w, sb, h2.1, h2.2]
    by_cases c0 : y = 0
    · subst c0
      rw [if_pos rfl, if_pos hi, nI_cl (by omega), x1, jn_eq, if_neg (show ¬ tf (decide (0 ≤ (0 : Int32).toInt ∧ (0 : Int32).toInt ≤ 2)) = 0 by decide), if_pos rfl, show (28 : Int32) + nI b = nI (28 + b) from n_add 28 b, if_pos (inb_nI (by omega) (by decide)), nI_cl (by omega), m1, jn_eq]
      exact ⟨_, rfl, rfl⟩
    rw [if_neg c0]
    by_cases c1 : y = 1
    · subst c1
      rw [if_pos rfl, if_pos hi, nI_cl (by omega), x2, jn_eq, if_neg (show ¬ tf (decide (0 ≤ (1 : Int32).toInt ∧ (1 : Int32).toInt ≤ 2)) = 0 by decide), if_neg (show ¬ (1 : Int32) = 0 by decide), if_pos rfl, show (34 : Int32) + nI b = nI (34 + b) from n_add 34 b, if_pos (inb_nI (by omega) (by decide)), nI_cl (by omega), m2, jn_eq]
      exact ⟨_, rfl, rfl⟩
    rw [if_neg c1]
    by_cases c2 : y = 2
    · subst c2
      rw [if_pos rfl, if_pos hi, nI_cl (by omega), hX.2.2.2.2.2.2 b hlt, jn_eq, jn_eq, if_neg (show ¬ tf (decide (0 ≤ (2 : Int32).toInt ∧ (2 : Int32).toInt ≤ 2)) = 0 by decide), if_neg (show ¬ (2 : Int32) = 0 by decide), if_neg (show ¬ (2 : Int32) = 1 by decide), who7 hM ho hlt, sb]
      cases e : wf (sB S) b (sN S) with
      | none => exact ⟨_, rfl, rfl⟩
      | some g =>
        have hg := (wf_some e).1
        rw [if_neg (show ¬ wI (some g) (-1) = (-1) from wI_ne (by omega))]
        exact ⟨_, rfl, rfl⟩
    rw [if_neg c2]
    have hout : ¬ (0 ≤ y.toInt ∧ y.toInt ≤ 2) := by
      intro h
      obtain ⟨k, hk, rfl⟩ := l_of (m := 2) h.1 (by omega)
      rcases (show k = 0 ∨ k = 1 ∨ k = 2 by omega) with rfl | rfl | rfl
      · exact c0 rfl
      · exact c1 rfl
      · exact c2 rfl
    rw [if_pos (tf_x hout)]
    exact ⟨_, rfl, rfl⟩
  · rw [if_pos (tf_x hh), if_pos (tf_x hh)]
    exact ⟨_, rfl, rfl⟩
theorem st_count (hC : RC kind used bay likes who lamp due count day dues draw mu mb md mz mr next known now undone undos) (y : Int32) : ∃ r, f_X6_count used bay likes count day dues known y = some r ∧ f_X7_count now undos y = some r := by
  obtain ⟨S, hs, ho, hh, hX, hM, hp, hq⟩ := hC
  have hn := ho.1
  unfold f_X6_count f_X7_count
  by_cases c0 : y = 0
  · subst c0
    rw [if_pos rfl, if_pos rfl, if_pos (by decide), jn_eq, hX.1]
    exact ⟨_, rfl, congrArg some hM.1⟩
  rw [if_neg c0, if_neg c0]
  by_cases c1 : y = 1
  · subst c1
    rw [if_pos rfl, if_pos rfl, if_pos (by decide), jn_eq, hX.2.1]
    exact ⟨_, rfl, congrArg some hM.2.1⟩
  rw [if_neg c1, if_neg c1]
  by_cases c2 : y = 2
  · subst c2
    rw [if_pos rfl, if_pos rfl, if_pos (by decide), jn_eq, hX.2.2.1]
    exact ⟨_, rfl, congrArg some hM.2.2.1⟩
  rw [if_neg c2, if_neg c2]
  by_cases c3 : y = 3
  · subst c3
    rw [if_pos rfl, if_pos rfl, takenSet3 hX ho, sb, ups7 hM ho, sb]
    exact ⟨_, rfl, rfl⟩
  rw [if_neg c3, if_neg c3]
  by_cases c4 : y = 4
  · subst c4
    rw [if_pos rfl, if_pos rfl, usedTog3 hX ho, sb, usedAll7 hM ho, sb]
    exact ⟨_, rfl, rfl⟩
  rw [if_neg c4, if_neg c4]
  by_cases c5 : y = 5
  · subst c5
    rw [if_pos rfl, if_pos rfl, farTog3 hX ho, sb, farAll7 hM ho, sb]
    exact ⟨_, rfl, rfl⟩
  rw [if_neg c5, if_neg c5]
  by_cases c6 : y = 6
  · subst c6
    obtain ⟨nx, -, -, hk, -⟩ := hp
    rw [if_pos rfl, if_pos rfl, hk, hq.1]
    exact ⟨_, rfl, rfl⟩
  rw [if_neg c6, if_neg c6]
  exact ⟨_, rfl, rfl⟩
theorem X_setR {S : Sc} (hX : isX S kind used bay likes who lamp due count day dues draw) (v : Nat) : isX (setR S v) kind used bay likes who lamp due count day dues (nI v) := ⟨hX.1, hX.2.1, hX.2.2.1, rfl, hX.2.2.2.2.1, hX.2.2.2.2.2.1, hX.2.2.2.2.2.2⟩
theorem ok_setR {S : Sc} (ho : okS S) {v : Nat} (hv : v < 2 ^ 31) : okS (setR S v) := ⟨ho.1, ho.2.1, ho.2.2.1, ho.2.2.2.1, hv⟩
theorem st_seed (hC : RC kind used bay likes who lamp due count day dues draw mu mb md mz mr next known now undone undos) (x : Int32) : ∃ rx rm, f_X6_seed draw x = some rx ∧ f_X7_seed now x = some rm ∧ rx.1 = rm.1 ∧ RC kind used bay likes who lamp due count day dues rx.2 mu mb md mz mr next known rm.2 undone undos := by
  obtain ⟨S, hs, ho, hh, hX, hM, hp, hq⟩ := id hC
  unfold f_X6_seed f_X7_seed
  by_cases c0 : x < 0
  · rw [if_pos c0, if_pos c0]
    exact ⟨_, _, rfl, rfl, rfl, hC⟩
  · rw [if_neg c0, if_neg c0, jn_eq]
    obtain ⟨k, hk, rfl⟩ := nI_of c0
    exact ⟨_, _, rfl, rfl, by show draw = now 3; rw [hX.2.2.2.1, hM.2.2.2.1], setR S k, hs, ok_setR ho hk, hh, X_setR hX k, M_setR hM ho k, hp, hq⟩
theorem X_setP {S : Sc} (hX : isX S kind used bay likes who lamp due count day dues draw) {b v : Nat} (hb : b < 6) : isX (setP S b v) kind used bay likes who (upd lamp b (nI v)) due count day dues draw := by
  refine ⟨hX.1, hX.2.1, hX.2.2.1, hX.2.2.2.1, hX.2.2.2.2.1, fun g hg => ⟨?_, (hX.2.2.2.2.2.1 g hg).2⟩, hX.2.2.2.2.2.2⟩
  show upd lamp b (nI v) g = nI (if g = b then v else sP S g)
  by_cases e : g = b
  · subst e; rw [pk_us, if_pos rfl]
  · rw [pk_un e, if_neg e]; exact (hX.2.2.2.2.2.1 g hg).1
theorem X_setD {S : Sc} (hX : isX S kind used bay likes who lamp due count day dues draw) {b v : Nat} (hb : b < 6) : isX (setD S b v) kind used bay likes who lamp (upd due b (nI v)) count day dues draw := by
  refine ⟨hX.1, hX.2.1, hX.2.2.1, hX.2.2.2.1, hX.2.2.2.2.1, fun g hg => ⟨(hX.2.2.2.2.2.1 g hg).1, ?_⟩, hX.2.2.2.2.2.2⟩
  show upd due b (nI v) g = nI (if g = b then v else sD S g)
  by_cases e : g = b
  · subst e; rw [pk_us, if_pos rfl]
  · rw [pk_un e, if_neg e]; exact (hX.2.2.2.2.2.1 g hg).2
theorem ok_setP {S : Sc} (ho : okS S) {b v : Nat} (hv : v ≤ 9) : okS (setP S b v) := ⟨ho.1, ho.2.1, ho.2.2.1, fun g hg => ⟨by
  show (if g = b then v else sP S g) ≤ 9
  split
  · exact hv
  · exact (ho.2.2.2.1 g hg).1, (ho.2.2.2.1 g hg).2⟩, ho.2.2.2.2⟩
theorem ok_setD {S : Sc} (ho : okS S) {b v : Nat} (hv : v ≤ 99) : okS (setD S b v) := ⟨ho.1, ho.2.1, ho.2.2.1, fun g hg => ⟨(ho.2.2.2.1 g hg).1, by
  show (if g = b then v else sD S g) ≤ 99
  split
  · exact hv
  · exact (ho.2.2.2.1 g hg).2⟩, ho.2.2.2.2⟩
theorem st_rule (hC : RC kind used bay likes who lamp due count day dues draw mu mb md mz mr next known now undone undos) (x y v : Int32) : ∃ rx rm, f_X6_rule lamp due x y v = some rx ∧ f_X7_rule now x y v = some rm ∧ rx.1 = rm.1 ∧ RC kind used bay likes who rx.2.1 rx.2.2 count day dues draw mu mb md mz mr next known rm.2 undone undos := by
  obtain ⟨S, hs, ho, hh, hX, hM, hp, hq⟩ := id hC
  unfold f_X6_rule f_X7_rule
  simp only [jn_eq]
  rw [isBay6, sb, isBay7, sb]
  by_cases c0 : 0 ≤ x.toInt ∧ x.toInt ≤ 5
  · rw [if_neg (tf_y c0), if_neg (tf_y c0)]
    obtain ⟨b, hb, rfl⟩ := bay_x c0
    obtain ⟨x1, x2⟩ := hX.2.2.2.2.2.1 b hb
    obtain ⟨m1, m2⟩ := hM.2.2.2.2.2 b hb
    have hi : inb (nI b) 6 = true := inb_nI (by omega) (by decide)
    rw [within6, sb, in7w, sb]
    have q1 : (0 : Int32).toInt = 0 ∧ (1 : Int32).toInt = 1 ∧ (0 : Int64).toInt = 0 ∧ (1 : Int64).toInt = 1 ∧ (9 : Int32).toInt = 9 ∧ (99 : Int32).toInt = 99 ∧ (9 : Int64).toInt = 9 ∧ (99 : Int64).toInt = 99 := ⟨rfl, rfl, rfl, rfl, rfl, rfl, rfl, rfl⟩
    obtain ⟨q1, q2, q3, q4, q5, q6, q7, q8⟩ := q1
    rw [q1, q2, q3, q4]
    by_cases c1 : 0 ≤ y.toInt ∧ y.toInt ≤ 1
    · rw [if_neg (tf_y c1), if_neg (tf_y c1)]
      obtain ⟨w, hw, rfl⟩ := l_of (m := 1) c1.1 (by omega)
      rcases (show w = 0 ∨ w = 1 by omega) with rfl | rfl
      · have z0 : nI 0 = 0 := rfl
        simp only [z0, if_true]
        rw [within6, sb, in7w, sb, q1, q3, q5, q7]
        by_cases c2 : 0 ≤ v.toInt ∧ v.toInt ≤ 9
        · rw [if_neg (tf_y c2), if_neg (tf_y c2), if_pos hi, nI_cl (by omega), show (28 : Int32) + nI b = nI (28 + b) from n_add 28 b, if_pos (inb_nI (by omega) (by decide)), nI_cl (by omega)]
          obtain ⟨u, hu, rfl⟩ := l_of (m := 9) c2.1 (by omega)
          exact ⟨_, _, rfl, rfl, by rw [x1, m1], setP S b u, hs, ok_setP ho hu, hh, X_setP hX hb, M_setP hM ho hb u, hp, hq⟩
        · rw [if_pos (tf_x c2), if_pos (tf_x c2)]
          exact ⟨_, _, rfl, rfl, rfl, hC⟩
      · have z1 : ¬ nI 1 = 0 := by decide
        simp only [z1, if_false]
        rw [within6, sb, in7w, sb, q1, q3, q6, q8]
        by_cases c2 : 0 ≤ v.toInt ∧ v.toInt ≤ 99
        · rw [if_neg (tf_y c2), if_neg (tf_y c2), if_pos hi, nI_cl (by omega), show (34 : Int32) + nI b = nI (34 + b) from n_add 34 b, if_pos (inb_nI (by omega) (by decide)), nI_cl (by omega)]
          obtain ⟨u, hu, rfl⟩ := l_of (m := 99) c2.1 (by omega)
          exact ⟨_, _, rfl, rfl, by rw [x2, m2], setD S b u, hs, ok_setD ho hu, hh, X_setD hX hb, M_setD hM ho hb u, hp, hq⟩
        · rw [if_pos (tf_x c2), if_pos (tf_x c2)]
          exact ⟨_, _, rfl, rfl, rfl, hC⟩
    · rw [if_pos (tf_x c1), if_pos (tf_x c1)]
      exact ⟨_, _, rfl, rfl, rfl, hC⟩
  · rw [if_pos (tf_x c0), if_pos (tf_x c0)]
    exact ⟨_, _, rfl, rfl, rfl, hC⟩
end ST1
theorem S_of : St_of Rel := by
  intro t_now_kind t_now_used t_now_bay t_now_likes t_now_who t_now_lamp t_now_due t_now_gain t_now_count t_now_day t_now_dues t_now_draw t_past_marks_used t_past_marks_bay t_past_marks_day t_past_marks_dues t_past_marks_draw t_past_next t_past_known t_foreseen_kind t_foreseen_used t_foreseen_bay t_foreseen_likes t_foreseen_who t_foreseen_lamp t_foreseen_due t_foreseen_gain t_foreseen_count t_foreseen_day t_foreseen_dues t_foreseen_draw t_imageOfNow_kind t_imageOfNow_used t_imageOfNow_bay t_imageOfNow_likes t_imageOfNow_who t_imageOfNow_lamp t_imageOfNow_due t_imageOfNow_gain t_imageOfNow_count t_imageOfNow_day t_imageOfNow_dues t_imageOfNow_draw t_imageOfPast_marks_used t_imageOfPast_marks_bay t_imageOfPast_marks_day t_imageOfPast_marks_dues t_imageOfPast_marks_draw t_imageOfPast_next t_imageOfPast_known t_hasImage t_deal_bay t_deal_best t_deal_worth t_deal_free t_deal_count t_tape_letters t_tape_length t_tape_place t_sheets_items t_sheets_lane t_sheets_size u_now u_mores u_tape u_typed u_place u_isFault u_readLamps u_read u_undone u_undos u_aside u_bays u_bests u_kept u_keptUndos u_isKept u_lanes u_sizes u_items u_moved y0 y1 hR
  obtain ⟨hC, hI, hT, hS⟩ := hR
  obtain ⟨r, e1, e2⟩ := st_of hC y0 y1
  exact ⟨r, r, e1, e2, rfl, hC, hI, hT, hS⟩
theorem S_at : St_at Rel := by
  intro t_now_kind t_now_used t_now_bay t_now_likes t_now_who t_now_lamp t_now_due t_now_gain t_now_count t_now_day t_now_dues t_now_draw t_past_marks_used t_past_marks_bay t_past_marks_day t_past_marks_dues t_past_marks_draw t_past_next t_past_known t_foreseen_kind t_foreseen_used t_foreseen_bay t_foreseen_likes t_foreseen_who t_foreseen_lamp t_foreseen_due t_foreseen_gain t_foreseen_count t_foreseen_day t_foreseen_dues t_foreseen_draw t_imageOfNow_kind t_imageOfNow_used t_imageOfNow_bay t_imageOfNow_likes t_imageOfNow_who t_imageOfNow_lamp t_imageOfNow_due t_imageOfNow_gain t_imageOfNow_count t_imageOfNow_day t_imageOfNow_dues t_imageOfNow_draw t_imageOfPast_marks_used t_imageOfPast_marks_bay t_imageOfPast_marks_day t_imageOfPast_marks_dues t_imageOfPast_marks_draw t_imageOfPast_next t_imageOfPast_known t_hasImage t_deal_bay t_deal_best t_deal_worth t_deal_free t_deal_count t_tape_letters t_tape_length t_tape_place t_sheets_items t_sheets_lane t_sheets_size u_now u_mores u_tape u_typed u_place u_isFault u_readLamps u_read u_undone u_undos u_aside u_bays u_bests u_kept u_keptUndos u_isKept u_lanes u_sizes u_items u_moved y0 y1 hR
  obtain ⟨hC, hI, hT, hS⟩ := hR
  obtain ⟨r, e1, e2⟩ := st_at hC y0 y1
  exact ⟨r, r, e1, e2, rfl, hC, hI, hT, hS⟩
theorem S_count : St_count Rel := by
  intro t_now_kind t_now_used t_now_bay t_now_likes t_now_who t_now_lamp t_now_due t_now_gain t_now_count t_now_day t_now_dues t_now_draw t_past_marks_used t_past_marks_bay t_past_marks_day t_past_marks_dues t_past_marks_draw t_past_next t_past_known t_foreseen_kind t_foreseen_used t_foreseen_bay t_foreseen_likes t_foreseen_who t_foreseen_lamp t_foreseen_due t_foreseen_gain t_foreseen_count t_foreseen_day t_foreseen_dues t_foreseen_draw t_imageOfNow_kind t_imageOfNow_used t_imageOfNow_bay t_imageOfNow_likes t_imageOfNow_who t_imageOfNow_lamp t_imageOfNow_due t_imageOfNow_gain t_imageOfNow_count t_imageOfNow_day t_imageOfNow_dues t_imageOfNow_draw t_imageOfPast_marks_used t_imageOfPast_marks_bay t_imageOfPast_marks_day t_imageOfPast_marks_dues t_imageOfPast_marks_draw t_imageOfPast_next t_imageOfPast_known t_hasImage t_deal_bay t_deal_best t_deal_worth t_deal_free t_deal_count t_tape_letters t_tape_length t_tape_place t_sheets_items t_sheets_lane t_sheets_size u_now u_mores u_tape u_typed u_place u_isFault u_readLamps u_read u_undone u_undos u_aside u_bays u_bests u_kept u_keptUndos u_isKept u_lanes u_sizes u_items u_moved y0 hR
  obtain ⟨hC, hI, hT, hS⟩ := hR
  obtain ⟨r, e1, e2⟩ := st_count hC y0
  exact ⟨r, r, e1, e2, rfl, hC, hI, hT, hS⟩
theorem S_seed : St_seed Rel := by
  intro t_now_kind t_now_used t_now_bay t_now_likes t_now_who t_now_lamp t_now_due t_now_gain t_now_count t_now_day t_now_dues t_now_draw t_past_marks_used t_past_marks_bay t_past_marks_day t_past_marks_dues t_past_marks_draw t_past_next t_past_known t_foreseen_kind t_foreseen_used t_foreseen_bay t_foreseen_likes t_foreseen_who t_foreseen_lamp t_foreseen_due t_foreseen_gain t_foreseen_count t_foreseen_day t_foreseen_dues t_foreseen_draw t_imageOfNow_kind t_imageOfNow_used t_imageOfNow_bay t_imageOfNow_likes t_imageOfNow_who t_imageOfNow_lamp t_imageOfNow_due t_imageOfNow_gain t_imageOfNow_count t_imageOfNow_day t_imageOfNow_dues t_imageOfNow_draw t_imageOfPast_marks_used t_imageOfPast_marks_bay t_imageOfPast_marks_day t_imageOfPast_marks_dues t_imageOfPast_marks_draw t_imageOfPast_next t_imageOfPast_known t_hasImage t_deal_bay t_deal_best t_deal_worth t_deal_free t_deal_count t_tape_letters t_tape_length t_tape_place t_sheets_items t_sheets_lane t_sheets_size u_now u_mores u_tape u_typed u_place u_isFault u_readLamps u_read u_undone u_undos u_aside u_bays u_bests u_kept u_keptUndos u_isKept u_lanes u_sizes u_items u_moved y0 hR
  obtain ⟨hC, hI, hT, hS⟩ := hR
  obtain ⟨rx, rm, e1, e2, e3, e4⟩ := st_seed hC y0
  exact ⟨rx, rm, e1, e2, e3, e4, hI, hT, hS⟩
theorem S_rule : St_rule Rel := by
  intro t_now_kind t_now_used t_now_bay t_now_likes t_now_who t_now_lamp t_now_due t_now_gain t_now_count t_now_day t_now_dues t_now_draw t_past_marks_used t_past_marks_bay t_past_marks_day t_past_marks_dues t_past_marks_draw t_past_next t_past_known t_foreseen_kind t_foreseen_used t_foreseen_bay t_foreseen_likes t_foreseen_who t_foreseen_lamp t_foreseen_due t_foreseen_gain t_foreseen_count t_foreseen_day t_foreseen_dues t_foreseen_draw t_imageOfNow_kind t_imageOfNow_used t_imageOfNow_bay t_imageOfNow_likes t_imageOfNow_who t_imageOfNow_lamp t_imageOfNow_due t_imageOfNow_gain t_imageOfNow_count t_imageOfNow_day t_imageOfNow_dues t_imageOfNow_draw t_imageOfPast_marks_used t_imageOfPast_marks_bay t_imageOfPast_marks_day t_imageOfPast_marks_dues t_imageOfPast_marks_draw t_imageOfPast_next t_imageOfPast_known t_hasImage t_deal_bay t_deal_best t_deal_worth t_deal_free t_deal_count t_tape_letters t_tape_length t_tape_place t_sheets_items t_sheets_lane t_sheets_size u_now u_mores u_tape u_typed u_place u_isFault u_readLamps u_read u_undone u_undos u_aside u_bays u_bests u_kept u_keptUndos u_isKept u_lanes u_sizes u_items u_moved y0 y1 y2 hR
  obtain ⟨hC, hI, hT, hS⟩ := hR
  obtain ⟨rx, rm, e1, e2, e3, e4⟩ := st_rule hC y0 y1 y2
  exact ⟨rx, rm, e1, e2, e3, e4, hI, hT, hS⟩
