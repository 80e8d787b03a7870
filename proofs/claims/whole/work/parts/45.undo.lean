/-! MATHEMATICS 16: undo, image, restore -/
theorem seatAll3 (bay who arr : Nat → Int32) (B : Nat → Nat) {n : Nat} (hn : n ≤ 6) (hB : ∀ h, h < n → B h < 6 ∧ arr h = nI (B h)) : ∃ r, f_X3_seatAll bay who (nI n) arr = some r ∧ (∀ h, h < n → r.1 h = nI (B h)) ∧ ∀ b, b < 6 → r.2 b = wI (wf B b n) (-1) := by
  have h23 : ∀ who', (∀ b, b < 6 → who' b = (-1)) → ∃ r, f_X3_seatAll_c23 fu bay who' (nI n) arr 0 = some r ∧ (∀ h, h < n → r.1 h = nI (B h)) ∧ ∀ b, b < 6 → r.2 b = wI (wf B b n) (-1) := by
    intro who' hw
    refine inv_all (fun f (a : (Nat → Int32) × (Nat → Int32)) k => f_X3_seatAll_c23 f a.1 a.2 (nI n) arr (nI k)) (fun k a => (∀ h, h < k → a.1 h = nI (B h)) ∧ ∀ b, b < 6 → a.2 b = wI (wf B b k) (-1)) n (fun o => ∃ r, o = some r ∧ (∀ h, h < n → r.1 h = nI (B h)) ∧ ∀ b, b < 6 → r.2 b = wI (wf B b n) (-1)) (by omega) (bay, who') ⟨fun h hh => by omega, hw⟩ ?_ ?_
    · rintro f k ⟨a, w⟩ hk ⟨h1, h2⟩
      obtain ⟨b1, b2⟩ := hB k hk
      refine ⟨(upd a k (nI (B k)), upd w (B k) (nI k)), ?_, ?_, ?_⟩
      · show f_X3_seatAll_c23 (f + 1) a w (nI n) arr (nI k) = f_X3_seatAll_c23 f (upd a k (nI (B k))) (upd w (B k) (nI k)) (nI n) arr (nI (k + 1))
        rw [f_X3_seatAll_c23, if_pos (nI_lt hk (by omega)), if_pos (inb_nI (by omega) (by decide)), nI_cl (by omega), b2, jn_eq, seat3 _ _ (by omega) b1, sb, nI_1]
      · intro h hh
        show upd a k (nI (B k)) h = _
        by_cases e : h = k
        · subst e; exact pk_us
        · rw [pk_un e]; exact h1 h (by omega)
      · intro b hb
        show upd w (B k) (nI k) b = _
        rw [wf_s]
        by_cases e : B k = b
        · subst e; rw [pk_us, if_pos rfl]; rfl
        · rw [pk_un (fun e' => e e'.symm), if_neg e]; exact h2 b hb
    · rintro f ⟨a, w⟩ ⟨h1, h2⟩
      refine ⟨(a, w), ?_, h1, h2⟩
      show f_X3_seatAll_c23 (f + 1) a w (nI n) arr (nI n) = _
      rw [f_X3_seatAll_c23, if_neg (nI_nlt (Nat.le_refl _) (by omega))]
  unfold f_X3_seatAll
  refine inv_all (fun f a k => f_X3_seatAll_c2 f bay a (nI n) arr (nI k)) (fun k a => ∀ b, b < k → a b = (-1)) 6 (fun o => ∃ r, o = some r ∧ (∀ h, h < n → r.1 h = nI (B h)) ∧ ∀ b, b < 6 → r.2 b = wI (wf B b n) (-1)) (by decide) who (fun b hb => by omega) ?_ ?_
  · intro f k a hk hI
    refine ⟨upd a k (-1), ?_, fun b hb => ?_⟩
    · show f_X3_seatAll_c2 (f + 1) bay a (nI n) arr (nI k) = f_X3_seatAll_c2 f bay (upd a k (-1)) (nI n) arr (nI (k + 1))
      rw [f_X3_seatAll_c2, if_pos (show nI k < (6 : Int32) from nI_lt (b := 6) hk (by decide)), if_pos (inb_nI hk (by decide)), nI_cl (by omega), nI_1]
    · by_cases e : b = k
      · subst e; exact pk_us
      · rw [pk_un e]; exact hI b (by omega)
  · intro f a hI
    show ∃ r, f_X3_seatAll_c2 (f + 1) bay a (nI n) arr (nI 6) = some r ∧ _
    rw [f_X3_seatAll_c2, if_neg (show ¬ nI 6 < (6 : Int32) by decide)]
    exact h23 a hI
def undS (S : Sc) (m : Mk) : Sc := (sN S, sK S, m.1, m.2.1, sL S, sP S, sD S, m.2.2.1, m.2.2.2.1, m.2.2.2.2)
theorem ok_und {S : Sc} (ho : okS S) {m : Mk} (hm : okM (sN S) m) : okS (undS S m) := ⟨ho.1, fun h hh => ⟨(ho.2.1 h hh).1, (hm.1 h hh).1, (hm.1 h hh).2, (ho.2.1 h hh).2.2.2⟩, hm.2.1, ho.2.2.2.1, hm.2.2⟩
section UD
variable {kind used bay likes who lamp due : Nat → Int32} {count day dues draw : Int32} {fkind fused fbay flikes fwho flamp fdue fgain : Nat → Int32} {fcount fday fdues fdraw : Int32} {mu mb : Nat → Nat → Int32} {md mz mr : Nat → Int32} {next known : Int32} {now undone : Nat → Int32} {undos : Int32} {S : Sc} {hs : List Mk} {m : Mk}
theorem give2 (hX : isX S kind used bay likes who lamp due count day dues draw) (ho : okS S) (hh : okH (sN S) (m :: hs)) (hp : isXP (sN S) (m :: hs) mu mb md mz mr next known) : ∃ r, f_X2_giveLatest mu mb md mz mr next known used bay who count day dues draw = some r ∧ isXP (sN S) hs mu mb md mz mr r.1 r.2.1 ∧ r.2.1 = nI hs.length ∧ isX (undS S m) kind r.2.2.1 r.2.2.2.1 likes r.2.2.2.2.1 lamp due count r.2.2.2.2.2.1 r.2.2.2.2.2.2.1 r.2.2.2.2.2.2.2 := by
  have hn := ho.1
  obtain ⟨x0, x1, x2, x3, x4, x5, x6⟩ := hX
  obtain ⟨nx, hnx, e1, e2, hm⟩ := hp
  have hl := hh.1
  rw [List.length_cons] at hl e2
  obtain ⟨m1, m2, m3, m4⟩ := hm 0 m rfl
  have hok := hh.2 m (List.mem_cons_self ..)
  have ei : nI nx + 8 - 1 - (nI nx + 8 - 1) / 8 * 8 = nI ((nx + 7 - 0) % 8) := by
    have : nI nx + 8 - 1 = nI (nx + 7) := by
      rw [show (8 : Int32) = nI 8 from rfl, n_add]
      exact nI_pred (nx + 7)
    rw [this]
    exact pk_rem (d := 8) (by omega) (by decide) (by decide)
  obtain ⟨s, es, hs1, hs2⟩ := seatAll3 bay who (mb ((nx + 7 - 0) % 8)) m.2.1 hn (fun h hlt => ⟨(hok.1 h hlt).2, (m1 h hlt).2⟩)
  unfold f_X2_giveLatest f_X1_give
  rw [e1, e2, ei, if_pos (show (0 : Int32) < nI (hs.length + 1) from nI_lt (a := 0) (by omega) (by omega)), if_pos (inb_nI (show (nx + 7 - 0) % 8 < 8 by omega) (by decide)), nI_cl (by omega), x0, es, sb, sb]
  refine ⟨_, rfl, ⟨(nx + 7 - 0) % 8, by omega, rfl, nI_pred hs.length, fun i q hi => ?_⟩, nI_pred hs.length, ?_⟩
  · have hil : i < hs.length := by
      rcases Nat.lt_or_ge i hs.length with h | h
      · exact h
      · rw [List.getElem?_eq_none h] at hi; cases hi
    have := hm (i + 1) q (by rw [List.getElem?_cons_succ]; exact hi)
    rw [show (nx + 7 - (i + 1)) % 8 = ((nx + 7 - 0) % 8 + 7 - i) % 8 by omega] at this
    exact this
  · exact ⟨rfl, m2, m3, m4, fun h hlt => ⟨(x4 h hlt).1, (cp6 _ _ (by have : h < sN S := hlt; omega)).trans (m1 h hlt).1, hs1 h hlt, (x4 h hlt).2.2.2⟩, x5, hs2⟩
theorem undo7 (hM : isM S now) (ho : okS S) (hl : hs.length < 8) (hq : isMP (sN S) (m :: hs) undone undos) : ∃ r, f_X7_undo now undone undos = some r ∧ r.1 = nI hs.length ∧ isM (undS S m) r.2.1 ∧ isMP (sN S) hs undone r.2.2 := by
  have hn := ho.1
  obtain ⟨e1, hm⟩ := hq
  rw [List.length_cons] at e1 hm
  obtain ⟨q1, q2, q3, q4⟩ := hm 0 m rfl
  rw [show hs.length + 1 - 1 - 0 = hs.length by omega] at q1 q2 q3 q4
  have hP : isMP (sN S) hs undone (nI hs.length) := by
    refine ⟨rfl, fun i x hi => ?_⟩
    have := hm (i + 1) x (by rw [List.getElem?_cons_succ]; exact hi)
    rw [show hs.length + 1 - 1 - (i + 1) = hs.length - 1 - i by omega] at this
    exact this
  have e15 : (15 : Int32) * nI hs.length = nI (15 * hs.length) := n_mul 15 _
  unfold f_X7_undo
  rw [e1, if_neg (nI_ne0 (by omega) (by omega)), nI_pred, e15]
  let t := hs.length
  have h59 : ∀ a : Nat → Int32, (∀ j, j < 40 → j ≠ 1 → j ≠ 2 → j ≠ 3 → a j = now j) → (∀ j, j < 3 → a (1 + j) = undone (15 * t + j)) → ∃ r, f_X7_undo_c59 fu a undone (nI t) (nI (15 * t)) 0 = some r ∧ r.1 = nI t ∧ isM (undS S m) r.2.1 ∧ isMP (sN S) hs undone r.2.2 := by
    intro a0 ha ha3
    have ht : t < 8 := hl
    refine inv_all (fun f a k => f_X7_undo_c59 f a undone (nI t) (nI (15 * t)) (nI k)) (fun k a => (∀ j, j < 40 → (∀ h, h < 6 → j ≠ 4 + 4 * h + 1 ∧ j ≠ 4 + 4 * h + 2) → a j = a0 j) ∧ ∀ h, h < k → a (4 + 4 * h + 1) = undone (15 * t + 3 + h) ∧ a (4 + 4 * h + 2) = undone (15 * t + 9 + h)) 6 (fun o => ∃ r, o = some r ∧ r.1 = nI t ∧ isM (undS S m) r.2.1 ∧ isMP (sN S) hs undone r.2.2) (by decide) a0 ⟨fun j _ _ => rfl, fun h hh => by omega⟩ ?_ ?_
    · rintro f k a hk ⟨h1, h2⟩
      refine ⟨upd (upd a (4 + 4 * k + 1) (undone (15 * t + 3 + k))) (4 + 4 * k + 2) (undone (15 * t + 9 + k)), ?_, ?_, ?_⟩
      · show f_X7_undo_c59 (f + 1) a undone (nI t) (nI (15 * t)) (nI k) = f_X7_undo_c59 f (upd (upd a (4 + 4 * k + 1) (undone (15 * t + 3 + k))) (4 + 4 * k + 2) (undone (15 * t + 9 + k))) undone (nI t) (nI (15 * t)) (nI (k + 1))
        have i1 : nI (15 * t) + 3 + nI k = nI (15 * t + 3 + k) := by rw [show (3 : Int32) = nI 3 from rfl, n_add, n_add]
        have i2 : nI (15 * t) + 9 + nI k = nI (15 * t + 9 + k) := by rw [show (9 : Int32) = nI 9 from rfl, n_add, n_add]
        have i3 : (4 : Int32) + 4 * nI k + 1 = nI (4 + 4 * k + 1) := told_ix k 1
        have i4 : (4 : Int32) + 4 * nI k + 2 = nI (4 + 4 * k + 2) := told_ix k 2
        rw [f_X7_undo_c59, if_pos (show nI k < (6 : Int32) from nI_lt (b := 6) hk (by decide)), i1, i2, i3, i4]
        simp only [jn_eq]
        rw [if_pos (inb_nI (show 15 * t + 3 + k < 120 by omega) (by decide)), if_pos (inb_nI (show 4 + 4 * k + 1 < 40 by omega) (by decide)), if_pos (inb_nI (show 15 * t + 9 + k < 120 by omega) (by decide)), if_pos (inb_nI (show 4 + 4 * k + 2 < 40 by omega) (by decide)), nI_cl (show 15 * t + 3 + k < 2 ^ 31 by omega), nI_cl (show 4 + 4 * k + 1 < 2 ^ 31 by omega), nI_cl (show 15 * t + 9 + k < 2 ^ 31 by omega), nI_cl (show 4 + 4 * k + 2 < 2 ^ 31 by omega), nI_1]
      · intro j hj hj2
        rw [pk_un (hj2 k hk).2, pk_un (hj2 k hk).1]
        exact h1 j hj hj2
      · intro h hh2
        by_cases e : h = k
        · subst e
          exact ⟨by rw [pk_un (by omega), pk_us], pk_us⟩
        · obtain ⟨b1, b2⟩ := h2 h (by omega)
          exact ⟨by rw [pk_un (by omega), pk_un (by omega)]; exact b1, by rw [pk_un (by omega), pk_un (by omega)]; exact b2⟩
    · rintro f a ⟨h1, h2⟩
      refine ⟨(nI t, a, nI t), rfl, rfl, ?_, hP⟩
      obtain ⟨m0, m1, m2, m3, m4, m5⟩ := hM
      have hz : ∀ j, j < 40 → j ≠ 1 → j ≠ 2 → j ≠ 3 → (∀ h, h < 6 → j ≠ 4 + 4 * h + 1 ∧ j ≠ 4 + 4 * h + 2) → a j = now j := fun j hj g1 g2 g3 g4 => (h1 j hj g4).trans (ha j hj g1 g2 g3)
      have hy : ∀ j, j < 3 → a (1 + j) = undone (15 * t + j) := fun j hj => (h1 _ (by omega) (fun h _ => by omega)).trans (ha3 j hj)
      refine ⟨(hz 0 (by decide) (by decide) (by decide) (by decide) (fun h _ => by omega)).trans m0, (hy 0 (by decide)).trans q1, (hy 1 (by decide)).trans q2, (hy 2 (by decide)).trans q3, fun h hh2 => ?_, fun b hb => ?_⟩
      · have hh2 : h < sN S := hh2
        obtain ⟨b1, b2⟩ := h2 h (by omega)
        exact ⟨(hz _ (by omega) (by omega) (by omega) (by omega) (fun g _ => by omega)).trans (m4 h hh2).1, b1.trans (q4 h hh2).1, b2.trans (q4 h hh2).2, (hz _ (by omega) (by omega) (by omega) (by omega) (fun g _ => by omega)).trans (m4 h hh2).2.2.2⟩
      · exact ⟨(hz _ (by omega) (by omega) (by omega) (by omega) (fun g _ => by omega)).trans (m5 b hb).1, (hz _ (by omega) (by omega) (by omega) (by omega) (fun g _ => by omega)).trans (m5 b hb).2⟩
  refine inv_all (fun f a k => f_X7_undo_c30 f a undone (nI t) (nI (15 * t)) (nI k)) (fun k a => (∀ j, j < 40 → j ≠ 1 → j ≠ 2 → j ≠ 3 → a j = now j) ∧ (∀ j, j < k → a (1 + j) = undone (15 * t + j))) 3 (fun o => ∃ r, o = some r ∧ r.1 = nI t ∧ isM (undS S m) r.2.1 ∧ isMP (sN S) hs undone r.2.2) (by decide) now ⟨fun j _ _ _ _ => rfl, fun h hh => by omega⟩ ?_ ?_
  · rintro f k a hk ⟨h1, h2⟩
    have ht : t < 8 := hl
    refine ⟨upd a (1 + k) (undone (15 * t + k)), ?_, ?_, ?_⟩
    · show f_X7_undo_c30 (f + 1) a undone (nI t) (nI (15 * t)) (nI k) = f_X7_undo_c30 f (upd a (1 + k) (undone (15 * t + k))) undone (nI t) (nI (15 * t)) (nI (k + 1))
      have i1 : (1 : Int32) + nI k = nI (1 + k) := n_add 1 k
      rw [f_X7_undo_c30, if_pos (show nI k < (3 : Int32) from nI_lt (b := 3) hk (by decide)), i1, n_add, jn_eq, if_pos (inb_nI (show 15 * t + k < 120 by omega) (by decide)), if_pos (inb_nI (show 1 + k < 40 by omega) (by decide)), nI_cl (by omega), nI_cl (by omega), nI_1]
    · intro j hj g1 g2 g3
      rw [pk_un (by omega)]
      exact h1 j hj g1 g2 g3
    · intro j hj
      by_cases e : j = k
      · subst e; exact pk_us
      · rw [pk_un (by omega)]; exact h2 j (by omega)
  · rintro f a ⟨h1, h2⟩
    show ∃ r, f_X7_undo_c30 (f + 1) a undone (nI t) (nI (15 * t)) (nI 3) = some r ∧ _
    rw [f_X7_undo_c30, if_neg (show ¬ nI 3 < (3 : Int32) by decide)]
    exact h59 a h1 h2
theorem st_undo (hC : RC kind used bay likes who lamp due count day dues draw mu mb md mz mr next known now undone undos) : ∃ rx rm, f_X6_undo used bay who count day dues draw mu mb md mz mr next known = some rx ∧ f_X7_undo now undone undos = some rm ∧ rx.1 = rm.1 ∧ RC kind rx.2.1 rx.2.2.1 likes rx.2.2.2.1 lamp due count rx.2.2.2.2.1 rx.2.2.2.2.2.1 rx.2.2.2.2.2.2.1 mu mb md mz mr rx.2.2.2.2.2.2.2.1 rx.2.2.2.2.2.2.2.2 rm.2.1 undone rm.2.2 := by
  obtain ⟨S, hs, ho, hh, hX, hM, hp, hq⟩ := id hC
  have hl := hh.1
  cases hs with
  | nil =>
    obtain ⟨nx, hnx, e1, e2, hm⟩ := id hp
    have e2 : known = 0 := e2
    have e3 : undos = 0 := hq.1
    unfold f_X6_undo f_X7_undo
    rw [e2, e3, if_pos rfl, if_pos rfl]
    rw [e2, e3] at hC
    exact ⟨_, _, rfl, rfl, rfl, hC⟩
  | cons m hs =>
    rw [List.length_cons] at hl
    obtain ⟨nx, hnx, e1, e2, hm⟩ := id hp
    rw [List.length_cons] at e2
    obtain ⟨r, er, r1, r2, r3⟩ := give2 hX ho hh hp
    obtain ⟨q, eq, q1, q2, q3⟩ := undo7 hM ho (by omega) hq
    unfold f_X6_undo
    rw [show (if known = 0 then _ else _) = _ from if_neg (by rw [e2]; exact nI_ne0 (by omega) (by omega)), er, sb]
    exact ⟨_, _, rfl, eq, r2.trans q1.symm, RC_mk (S' := undS S m) (ok_und ho (hh.2 m (List.mem_cons_self ..))) (hs' := hs) ⟨by omega, fun x hx => hh.2 x (List.mem_cons_of_mem _ hx)⟩ r3 q2 r1 q3⟩
end UD
theorem S_undo : St_undo Rel := by
  intro t_now_kind t_now_used t_now_bay t_now_likes t_now_who t_now_lamp t_now_due t_now_gain t_now_count t_now_day t_now_dues t_now_draw t_past_marks_used t_past_marks_bay t_past_marks_day t_past_marks_dues t_past_marks_draw t_past_next t_past_known t_foreseen_kind t_foreseen_used t_foreseen_bay t_foreseen_likes t_foreseen_who t_foreseen_lamp t_foreseen_due t_foreseen_gain t_foreseen_count t_foreseen_day t_foreseen_dues t_foreseen_draw t_imageOfNow_kind t_imageOfNow_used t_imageOfNow_bay t_imageOfNow_likes t_imageOfNow_who t_imageOfNow_lamp t_imageOfNow_due t_imageOfNow_gain t_imageOfNow_count t_imageOfNow_day t_imageOfNow_dues t_imageOfNow_draw t_imageOfPast_marks_used t_imageOfPast_marks_bay t_imageOfPast_marks_day t_imageOfPast_marks_dues t_imageOfPast_marks_draw t_imageOfPast_next t_imageOfPast_known t_hasImage t_deal_bay t_deal_best t_deal_worth t_deal_free t_deal_count t_tape_letters t_tape_length t_tape_place t_sheets_items t_sheets_lane t_sheets_size u_now u_mores u_tape u_typed u_place u_isFault u_readLamps u_read u_undone u_undos u_aside u_bays u_bests u_kept u_keptUndos u_isKept u_lanes u_sizes u_items u_moved  hR
  obtain ⟨hC, hI, hT, hS⟩ := hR
  obtain ⟨rx, rm, e1, e2, e3, e4⟩ := st_undo hC
  exact ⟨rx, rm, e1, e2, e3, e4, hI, hT, hS⟩
