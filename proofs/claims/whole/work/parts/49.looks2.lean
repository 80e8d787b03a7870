/-! MATHEMATICS 20: looks -/
theorem so_congr {it it' : Nat → Int64} {i i' m : Nat} (S : Sc) (h : Nat) (he : ∀ d, d < m → it (i + d) = it' (i' + d)) : soS it i m S h = soS it' i' m S h := by
  unfold soS
  rw [fF_congr (P := soF it i S h) (Q := soF it' i' S h) (fun d _ hd => by unfold soF; rw [he d (by omega)])]
/-- the scene in which the kind, or how used one is, is as told -/
def lkS (w : Nat) (S : Sc) (h k : Nat) : Sc := if w = 0 then setK S h k else setU S h k
def lkP (w : Nat) (it : Nat → Int64) (i m : Nat) (S : Sc) (h k : Nat) : Bool := soS it i m (lkS w S h k) h
section LK3
variable {kind used bay likes who lamp due : Nat → Int32} {count day dues draw : Int32} {fkind fused fbay flikes fwho flamp fdue fgain : Nat → Int32} {fcount fday fdues fdraw : Int32} {mu mb : Nat → Nat → Int32} {md mz mr : Nat → Int32} {next known : Int32} {now undone : Nat → Int32} {undos : Int32} {S : Sc} {items : Nat → Nat → Int64} {lane size : Nat → Int32} {lanes sizes : Nat → Int32} {mitems : Nat → Int64}
theorem looks94 (hM : isM S now) (ho : okS S) (mores aside : Nat → Int32) (has : ∀ j, j < 40 → aside j = now j) {h s i m w : Nat} (hh : h < sN S) (hs : s < 4) (hi : i + m ≤ 24) (hw : w ≤ 2) : ∃ r, f_X7_looks_c94 fu now mores aside lanes sizes mitems (nI h) (nI s) (nI i) (nI m) (nI w) 0 0 (-4) (4 + 4 * nI h) 0 = some r ∧ (r.1 = if w = 0 then nI (bitS (lkP w mitems (24 * s + i) m S h) 5) else if w = 1 then nI (cnt (lkP w mitems (24 * s + i) m S h) 100) else wI (fF (lkP w mitems (24 * s + i) m S h) 100 0) (-4)) ∧ ∀ j, j < 40 → r.2.1 j = aside j := by
  have hn := ho.1
  have i0 : (4 : Int32) + 4 * nI h = nI (4 + 4 * h) := by
    show nI 4 + nI 4 * nI h = _
    rw [n_mul, n_add]
  rw [i0]
  have hPe : ∃ P : Nat → Bool, P = lkP w mitems (24 * s + i) m S h := ⟨_, rfl⟩
  obtain ⟨P, hPe⟩ := hPe
  rw [← hPe]
  have hlim : (if nI w = (0 : Int32) then (5 : Int32) else 100) = nI (if w = 0 then 5 else 100) := by
    rcases (show w = 0 ∨ w = 1 ∨ w = 2 by omega) with rfl | rfl | rfl <;> rfl
  have hix : (if nI w = (0 : Int32) then nI (4 + 4 * h) else nI (4 + 4 * h) + 1) = nI (if w = 0 then 4 + 4 * h else 4 + 4 * h + 1) := by
    rcases (show w = 0 ∨ w = 1 ∨ w = 2 by omega) with rfl | rfl | rfl
    · rfl
    · exact n_add _ 1
    · exact n_add _ 1
  have hl2 : (if w = 0 then 5 else 100) ≤ 100 := by split <;> omega
  refine inv_all (fun f (a : (Nat → Int32) × (Nat → Int32) × Int32 × Int32 × Int32) k => f_X7_looks_c94 f a.1 a.2.1 aside lanes sizes mitems (nI h) (nI s) (nI i) (nI m) (nI w) a.2.2.1 a.2.2.2.1 a.2.2.2.2 (nI (4 + 4 * h)) (nI k)) (fun k a => (∀ j, j < 40 → a.1 j = aside j) ∧ (a.2.2.1 = if w = 0 then nI (bitS P k) else 0) ∧ a.2.2.2.1 = nI (cnt P k) ∧ a.2.2.2.2 = wI (fF P k 0) (-4)) (if w = 0 then 5 else 100) (fun o => ∃ r, o = some r ∧ (r.1 = if w = 0 then nI (bitS P 5) else if w = 1 then nI (cnt P 100) else wI (fF P 100 0) (-4)) ∧ ∀ j, j < 40 → r.2.1 j = aside j) (by omega) (now, mores, 0, 0, -4) ⟨fun j hj => (has j hj).symm, by split <;> rfl, rfl, rfl⟩ ?_ ?_
  · rintro f k ⟨a, mo, x8, x9, x10⟩ hk ⟨h1, h2, h3, h4⟩
    have h1 : ∀ j, j < 40 → a j = aside j := h1
    have h2 : x8 = if w = 0 then nI (bitS P k) else 0 := h2
    have h3 : x9 = nI (cnt P k) := h3
    have h4 : x10 = wI (fF P k 0) (-4) := h4
    have hMa : isM S a := M_now (T := S) hM (fun j hj => (h1 j hj).trans (has j hj)) ho
    have hM2 : isM (lkS w S h k) (upd a (if w = 0 then 4 + 4 * h else 4 + 4 * h + 1) (nI k)) := by
      unfold lkS
      by_cases c : w = 0
      · rw [if_pos c, if_pos c]; exact M_setK hMa ho hh k
      · rw [if_neg c, if_neg c]; exact M_setU hMa ho hh k
    have ho2 : okS (lkS w S h k) := by
      unfold lkS
      by_cases c : w = 0
      · rw [if_pos c] at hk ⊢; exact ok_setK ho (by omega)
      · rw [if_neg c] at hk ⊢; exact ok_setU ho (by omega)
    have hN2 : sN (lkS w S h k) = sN S := by
      unfold lkS
      split <;> rfl
    obtain ⟨r, er, hr1, hr2⟩ := isSo7 hM2 ho2 mo aside mitems (h := h) (i := 24 * s + i) (m := m) (by omega) (by omega)
    have hr1 : r.1 = tf (P k) := by rw [hPe]; exact hr1
    have hcl : cnt P k ≤ k := cnt_le k
    refine ⟨(r.2.1, r.2.2, (if w = 0 then nI (bitS P (k + 1)) else 0), nI (cnt P (k + 1)), wI (fF P (k + 1) 0) (-4)), ?_, hr2, rfl, rfl, rfl⟩
    show f_X7_looks_c94 (f + 1) a mo aside lanes sizes mitems (nI h) (nI s) (nI i) (nI m) (nI w) x8 x9 x10 (nI (4 + 4 * h)) (nI k) = f_X7_looks_c94 f r.2.1 r.2.2 aside lanes sizes mitems (nI h) (nI s) (nI i) (nI m) (nI w) (if w = 0 then nI (bitS P (k + 1)) else 0) (nI (cnt P (k + 1))) (wI (fF P (k + 1) 0) (-4)) (nI (4 + 4 * h)) (nI (k + 1))
    have hixlt : (if w = 0 then 4 + 4 * h else 4 + 4 * h + 1) < 40 := by split <;> omega
    rw [f_X7_looks_c94]
    simp only [jn_eq]
    rw [hlim, if_pos (nI_lt hk (by omega)), hix, if_pos (inb_nI hixlt (by decide)), nI_cl (by omega), ix24, er, sb, hr1, nI_1]
    have e8 : (x8 ||| if tf (P k) = 0 then (0 : Int32) else if nI w = (0 : Int32) then 1 <<< (nI k &&& 31) else 0) = if w = 0 then nI (bitS P (k + 1)) else 0 := by
      rw [h2]
      by_cases c : w = 0
      · subst c
        rw [if_pos rfl, if_pos rfl, if_pos (show nI 0 = (0 : Int32) from rfl)]
        rw [if_pos rfl] at hk
        rw [← or_b P (show k < 6 by omega)]
        cases P k <;> rfl
      · have hw0 : ¬ nI w = (0 : Int32) := nI_ne0 (by omega) (by omega)
        rw [if_neg c, if_neg c, if_neg hw0]
        cases P k <;> rfl
    have e9 : (x9 + if tf (P k) = 0 then (0 : Int32) else 1) = nI (cnt P (k + 1)) := by
      rw [h3, cnt_s, ← n_add]
      cases P k <;> rfl
    have e10 : (if tf (P k) = 0 then x10 else if x9 = 0 then nI k else x10) = wI (fF P (k + 1) 0) (-4) := by
      rw [h3, h4, show (0 : Int32) = nI 0 from rfl, if_n_eq (by omega) (by decide), fF_snoc, Nat.zero_add]
      cases cP : P k
      · rw [if_pos (show tf false = nI 0 from rfl)]
        cases fF P k 0 with
        | none => rfl
        | some j => rfl
      · rw [if_neg (show ¬ tf true = nI 0 by decide)]
        cases e : fF P k 0 with
        | none =>
          rw [if_pos (cnt_fF.mpr e)]
          rfl
        | some j =>
          rw [if_neg (fun q => by rw [cnt_fF.mp q] at e; cases e)]
    rw [e8, e9, e10]
  · rintro f ⟨a, mo, x8, x9, x10⟩ ⟨h1, h2, h3, h4⟩
    have h1 : ∀ j, j < 40 → a j = aside j := h1
    have h2 : x8 = if w = 0 then nI (bitS P (if w = 0 then 5 else 100)) else 0 := h2
    have h3 : x9 = nI (cnt P (if w = 0 then 5 else 100)) := h3
    have h4 : x10 = wI (fF P (if w = 0 then 5 else 100) 0) (-4) := h4
    refine ⟨(if nI w = (0 : Int32) then x8 else if nI w = (1 : Int32) then x9 else x10, a, mo, aside), ?_, ?_, h1⟩
    · show f_X7_looks_c94 (f + 1) a mo aside lanes sizes mitems (nI h) (nI s) (nI i) (nI m) (nI w) x8 x9 x10 (nI (4 + 4 * h)) (nI (if w = 0 then 5 else 100)) = _
      rw [f_X7_looks_c94]
      simp only [jn_eq]
      rw [hlim, if_neg (nI_nlt (Nat.le_refl _) (by omega))]
    · show (if nI w = (0 : Int32) then x8 else if nI w = (1 : Int32) then x9 else x10) = _
      rw [h2, h3, h4]
      by_cases c : w = 0
      · rw [if_pos c, if_pos c, if_pos c, if_pos (show nI w = (0 : Int32) by rw [c]; rfl)]
      · rw [if_neg c, if_neg c, if_neg c, if_neg (show ¬ nI w = (0 : Int32) from nI_ne0 (by omega) (by omega))]
        by_cases d : w = 1
        · rw [if_pos d, if_pos (show nI w = (1 : Int32) by rw [d]; rfl)]
        · rw [if_neg d, if_neg (show ¬ nI w = (1 : Int32) from fun e => d ((nI_eq (b := 1) (show w < 2 ^ 31 by omega) (by decide)).mp e))]
theorem st_looks (hC : RC kind used bay likes who lamp due count day dues draw mu mb md mz mr next known now undone undos) (hS : RS items lane size lanes sizes mitems) (mores aside : Nat → Int32) (F : F12) (x y l i n w : Int32) : ∃ rx rm, f_X6_looks kind used bay likes who lamp due count day dues draw F.1 F.2.1 F.2.2.1 F.2.2.2.1 F.2.2.2.2.1 F.2.2.2.2.2.1 F.2.2.2.2.2.2.1 F.2.2.2.2.2.2.2.1 F.2.2.2.2.2.2.2.2.1 F.2.2.2.2.2.2.2.2.2.1 F.2.2.2.2.2.2.2.2.2.2.1 F.2.2.2.2.2.2.2.2.2.2.2 items lane size x y l i n w = some rx ∧ f_X7_looks now mores aside lanes sizes mitems x y l i n w = some rm ∧ rx.1 = rm.1 ∧ RC kind used bay likes who lamp due count day dues draw mu mb md mz mr next known rm.2.1 undone undos := by
  obtain ⟨S, hs, ho, hh, hX, hM, hp, hq⟩ := id hC
  have hn := ho.1
  unfold f_X6_looks f_X7_looks
  rw [has3 hX ho, sb, isHolder7 hM ho, sb]
  by_cases c0 : 0 ≤ x.toInt ∧ x.toInt < sN S
  · rw [if_neg (tf_y c0), if_neg (tf_y c0), isSheet6, sb, isSheet7, sb]
    by_cases c2 : 0 ≤ y.toInt ∧ y.toInt ≤ 3
    · rw [if_neg (tf_y c2), if_neg (tf_y c2), isLane6, sb, isLane7, sb]
      by_cases c3 : 0 ≤ l.toInt ∧ l.toInt ≤ 3
      · rw [if_neg (tf_y c3), if_neg (tf_y c3), wi8, sb, in8, sb]
        by_cases c1 : 1 ≤ n.toInt ∧ n.toInt ≤ 8
        · rw [if_neg (tf_y c1), if_neg (tf_y c1), wi2, sb, in2, sb]
          by_cases c4 : 0 ≤ w.toInt ∧ w.toInt ≤ 2
          · rw [if_neg (tf_y c4), if_neg (tf_y c4)]
            obtain ⟨h, hlt, rfl⟩ := hold_x hn c0
            obtain ⟨s, hs4, rfl⟩ := sheet_x c2
            obtain ⟨v, hv, rfl⟩ := l_of (m := 2) c4.1 (by omega)
            obtain ⟨z, e1, e2, hz⟩ := ref_why (hS s hs4) hs4 l i n
            rw [if_pos (inb_nI hs4 (by decide)), nI_cl (by omega), e1, sb, e2, sb]
            rcases hz with hz | ⟨hz, k, j, m, l', hk, hj, hl, rfl, rfl, hsz, hla, rfl⟩
            · rw [if_pos hz, if_pos hz]
              exact ⟨_, _, rfl, rfl, rfl, hC⟩
            · rw [hz, if_neg (show ¬ (0 : Int32) < 0 by decide), if_neg (show ¬ (0 : Int32) < 0 by decide)]
              obtain ⟨as, ea, ha⟩ := asides7 now aside
              rw [ea, sb]
              obtain ⟨rm, g1, g2, g3⟩ := looks94 (lanes := lanes) (sizes := sizes) (mitems := mitems) hM ho mores as ha hlt hs4 (i := j) (m := m) (w := v) (by omega) hv
              have hit : ∀ T : Sc, soS (items s) j m T h = soS mitems (24 * s + j) m T h := fun T => so_congr T h (fun d hd => by
                rw [(hS s hs4).1 _ (by omega)]
                congr 1
                omega)
              have hRC := RC_now hC (fun q hq => (g3 q hq).trans (ha q hq))
              rw [g1]
              rcases (show v = 0 ∨ v = 1 ∨ v = 2 by omega) with rfl | rfl | rfl
              · obtain ⟨rx, f1, f2⟩ := kinds6 hX ho (items s) hlt (i := j) (m := m) (by omega) F
                rw [if_pos (show nI 0 = (0 : Int32) from rfl), f1, sb]
                refine ⟨_, _, rfl, rfl, f2.trans ?_, hRC⟩
                rw [g2, if_pos rfl]
                exact congrArg nI (bitS_congr (fun q _ => hit (setK S h q)))
              · obtain ⟨rx, f1, f2⟩ := nums6 hX ho (items s) hlt (i := j) (m := m) (by omega) F
                rw [if_neg (show ¬ nI 1 = (0 : Int32) by decide), jn_eq, if_neg (show ¬ nI 1 = (2 : Int32) by decide), f1, sb]
                refine ⟨_, _, rfl, rfl, f2.trans ?_, hRC⟩
                rw [g2, if_neg (by decide), if_pos rfl]
                exact congrArg nI (cnt_congr (fun q _ => hit (setU S h q)))
              · obtain ⟨rx, f1, f2⟩ := least6 hX ho (items s) hlt (i := j) (m := m) (by omega) F
                rw [if_neg (show ¬ nI 2 = (0 : Int32) by decide), jn_eq, if_pos (show nI 2 = (2 : Int32) from rfl), f1, sb]
                refine ⟨_, _, rfl, rfl, f2.trans ?_, hRC⟩
                rw [g2, if_neg (by decide), if_neg (by decide)]
                exact congrArg (fun o => wI o (-4)) (fF_congr (fun q _ _ => hit (setU S h q)))
          · rw [if_pos (tf_x c4), if_pos (tf_x c4)]
            exact ⟨_, _, rfl, rfl, rfl, hC⟩
        · rw [if_pos (tf_x c1), if_pos (tf_x c1)]
          exact ⟨_, _, rfl, rfl, rfl, hC⟩
      · rw [if_pos (tf_x c3), if_pos (tf_x c3)]
        exact ⟨_, _, rfl, rfl, rfl, hC⟩
    · rw [if_pos (tf_x c2), if_pos (tf_x c2)]
      exact ⟨_, _, rfl, rfl, rfl, hC⟩
  · rw [if_pos (tf_x c0), if_pos (tf_x c0)]
    exact ⟨_, _, rfl, rfl, rfl, hC⟩
end LK3
theorem S_looks : St_looks Rel := by
  intro t_now_kind t_now_used t_now_bay t_now_likes t_now_who t_now_lamp t_now_due t_now_gain t_now_count t_now_day t_now_dues t_now_draw t_past_marks_used t_past_marks_bay t_past_marks_day t_past_marks_dues t_past_marks_draw t_past_next t_past_known t_foreseen_kind t_foreseen_used t_foreseen_bay t_foreseen_likes t_foreseen_who t_foreseen_lamp t_foreseen_due t_foreseen_gain t_foreseen_count t_foreseen_day t_foreseen_dues t_foreseen_draw t_imageOfNow_kind t_imageOfNow_used t_imageOfNow_bay t_imageOfNow_likes t_imageOfNow_who t_imageOfNow_lamp t_imageOfNow_due t_imageOfNow_gain t_imageOfNow_count t_imageOfNow_day t_imageOfNow_dues t_imageOfNow_draw t_imageOfPast_marks_used t_imageOfPast_marks_bay t_imageOfPast_marks_day t_imageOfPast_marks_dues t_imageOfPast_marks_draw t_imageOfPast_next t_imageOfPast_known t_hasImage t_deal_bay t_deal_best t_deal_worth t_deal_free t_deal_count t_tape_letters t_tape_length t_tape_place t_sheets_items t_sheets_lane t_sheets_size u_now u_mores u_tape u_typed u_place u_isFault u_readLamps u_read u_undone u_undos u_aside u_bays u_bests u_kept u_keptUndos u_isKept u_lanes u_sizes u_items u_moved y0 y1 y2 y3 y4 y5 hR
  obtain ⟨hC, hI, hT, hS⟩ := hR
  obtain ⟨rx, rm, e1, e2, e3, e4⟩ := st_looks hC hS u_mores u_aside (t_foreseen_kind, t_foreseen_used, t_foreseen_bay, t_foreseen_likes, t_foreseen_who, t_foreseen_lamp, t_foreseen_due, t_foreseen_gain, t_foreseen_count, t_foreseen_day, t_foreseen_dues, t_foreseen_draw) y0 y1 y2 y3 y4 y5
  exact ⟨rx, rm, e1, e2, e3, e4, hI, hT, hS⟩
