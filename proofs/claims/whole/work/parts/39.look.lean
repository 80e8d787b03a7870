/-! MATHEMATICS 10: the first of a row; copies of a scene; what is put aside; ahead, then, takes, cough -/
def fF (P : Nat → Bool) : Nat → Nat → Option Nat
  | 0, _ => none
  | m + 1, k => if P k = true then some k else fF P m (k + 1)
theorem fF_s (P : Nat → Bool) (m k : Nat) : fF P (m + 1) k = if P k = true then some k else fF P m (k + 1) := rfl
theorem fF_some {P : Nat → Bool} : ∀ {d k j : Nat}, fF P d k = some j → k ≤ j ∧ j < k + d ∧ P j = true := by
  intro d
  induction d with
  | zero => intro k j e; cases e
  | succ d ih =>
    intro k j e
    rw [fF_s] at e
    by_cases h : P k = true
    · rw [if_pos h] at e
      cases e
      exact ⟨Nat.le_refl _, by omega, h⟩
    · rw [if_neg h] at e
      obtain ⟨a, b, c⟩ := ih e
      exact ⟨by omega, by omega, c⟩
theorem fF_none {P : Nat → Bool} : ∀ {d k : Nat}, fF P d k = none → ∀ j, k ≤ j → j < k + d → P j = false := by
  intro d
  induction d with
  | zero => intro k _ j a b; omega
  | succ d ih =>
    intro k e j a b
    rw [fF_s] at e
    by_cases h : P k = true
    · rw [if_pos h] at e; cases e
    · rw [if_neg h] at e
      by_cases hj : j = k
      · subst hj; exact Bool.eq_false_iff.mpr h
      · exact ih e j (by omega) (by omega)
theorem fF_congr {P Q : Nat → Bool} : ∀ {d k : Nat}, (∀ j, k ≤ j → j < k + d → P j = Q j) → fF P d k = fF Q d k := by
  intro d
  induction d with
  | zero => intro k _; rfl
  | succ d ih =>
    intro k h
    rw [fF_s, fF_s, h k (Nat.le_refl _) (by omega), ih (fun j a b => h j (by omega) (by omega))]
theorem fF_zero {P : Nat → Bool} : ∀ {d k : Nat}, (∀ j, k ≤ j → j < k + d → P j = false) → fF P d k = none := by
  intro d
  induction d with
  | zero => intro k _; rfl
  | succ d ih =>
    intro k h
    rw [fF_s, h k (Nat.le_refl _) (by omega), ih (fun j a b => h j (by omega) (by omega))]
    rfl
theorem fF_ext {P : Nat → Bool} : ∀ {d e k : Nat}, d ≤ e → (∀ j, k + d ≤ j → j < k + e → P j = false) → fF P e k = fF P d k := by
  intro d
  induction d with
  | zero => intro e k _ h; exact fF_zero (fun j a b => h j (by omega) b)
  | succ d ih =>
    intro e k hde h
    obtain ⟨e, rfl⟩ : ∃ g, e = g + 1 := ⟨e - 1, by omega⟩
    rw [fF_s, fF_s, ih (e := e) (by omega) (fun j a b => h j (by omega) (by omega))]
/-- a loop that ends at the first -/
theorem ex_loop {α β : Type} (L : Nat → α → Nat → Option β) (I : Nat → α → Prop) (P : Nat → Bool) (n : Nat) (Q : Option Nat → Option β → Prop) (h1 : ∀ f k a, k < n → I k a → P k = true → Q (some k) (L (f + 1) a k)) (h2 : ∀ f k a, k < n → I k a → P k = false → ∃ a', L (f + 1) a k = L f a' (k + 1) ∧ I (k + 1) a') (h3 : ∀ f a, I n a → Q none (L (f + 1) a n)) : ∀ d k f a, k + d = n → d < f → I k a → Q (fF P d k) (L f a k) := by
  intro d
  induction d with
  | zero =>
    intro k f a hk hf hI
    have : k = n := by omega
    subst this
    obtain ⟨f, rfl⟩ : ∃ g, f = g + 1 := ⟨f - 1, by omega⟩
    exact h3 f a hI
  | succ d ih =>
    intro k f a hk hf hI
    obtain ⟨f, rfl⟩ : ∃ g, f = g + 1 := ⟨f - 1, by omega⟩
    rw [fF_s]
    by_cases hP : P k = true
    · rw [if_pos hP]
      exact h1 f k a (by omega) hI hP
    · rw [if_neg hP]
      obtain ⟨a', e, hI'⟩ := h2 f k a (by omega) hI (Bool.eq_false_iff.mpr hP)
      rw [e]
      exact ih (k + 1) f a' (by omega) (by omega) hI'
theorem ex_all {α β : Type} (L : Nat → α → Nat → Option β) (I : Nat → α → Prop) (P : Nat → Bool) (n : Nat) (Q : Option Nat → Option β → Prop) (hn : n < 100000) (a : α) (h0 : I 0 a) (h1 : ∀ f k a, k < n → I k a → P k = true → Q (some k) (L (f + 1) a k)) (h2 : ∀ f k a, k < n → I k a → P k = false → ∃ a', L (f + 1) a k = L f a' (k + 1) ∧ I (k + 1) a') (h3 : ∀ f a, I n a → Q none (L (f + 1) a n)) : Q (fF P n 0) (L fu a 0) := ex_loop L I P n Q h1 h2 h3 n 0 fu a (by omega) hn h0
section LK
variable {kind used bay likes who lamp due : Nat → Int32} {count day dues draw : Int32} {fkind fused fbay flikes fwho flamp fdue fgain : Nat → Int32} {fcount fday fdues fdraw : Int32} {mu mb : Nat → Nat → Int32} {md mz mr : Nat → Int32} {next known : Int32} {now undone : Nat → Int32} {undos : Int32} {S : Sc}
theorem RC_now (hC : RC kind used bay likes who lamp due count day dues draw mu mb md mz mr next known now undone undos) {now' : Nat → Int32} (he : ∀ j, j < 40 → now' j = now j) : RC kind used bay likes who lamp due count day dues draw mu mb md mz mr next known now' undone undos := by
  obtain ⟨S, hs, ho, hh, hX, hM, hp, hq⟩ := hC
  exact ⟨S, hs, ho, hh, hX, M_now (T := S) hM he ho, hp, hq⟩
theorem cp6 (f g : Nat → Int32) {j : Nat} (h : j < 6) : va_cpy f g 0 0 6 j = f j := by
  rw [pk_cpy_in (by omega) (by omega), show 0 + (j - 0) = j by omega]
theorem become3 (hX : isX S kind used bay likes who lamp due count day dues draw) (ho : okS S) (fkind fused fbay flikes fwho flamp fdue : Nat → Int32) (fcount fday fdues fdraw : Int32) : ∃ r, f_X3_become fkind fused fbay flikes fwho flamp fdue fcount fday fdues fdraw kind used bay likes who lamp due count day dues draw = some r ∧ isX S r.1 r.2.1 r.2.2.1 r.2.2.2.1 r.2.2.2.2.1 r.2.2.2.2.2.1 r.2.2.2.2.2.2.1 r.2.2.2.2.2.2.2.1 r.2.2.2.2.2.2.2.2.1 r.2.2.2.2.2.2.2.2.2.1 r.2.2.2.2.2.2.2.2.2.2 := by
  have hn := ho.1
  obtain ⟨x0, x1, x2, x3, x4, x5, x6⟩ := hX
  refine ⟨_, rfl, x0, x1, x2, x3, fun h hh => ?_, fun b hb => ?_, fun b hb => ?_⟩
  · have h6 : h < 6 := by omega
    exact ⟨(cp6 _ _ h6).trans (x4 h hh).1, (cp6 _ _ h6).trans (x4 h hh).2.1, (cp6 _ _ h6).trans (x4 h hh).2.2.1, (cp6 _ _ h6).trans (x4 h hh).2.2.2⟩
  · exact ⟨(cp6 _ _ hb).trans (x5 b hb).1, (cp6 _ _ hb).trans (x5 b hb).2⟩
  · exact (cp6 _ _ hb).trans (x6 b hb)
theorem asides7 (now aside : Nat → Int32) : ∃ r, f_X7_asides now aside = some r ∧ ∀ j, j < 40 → r j = now j := by
  unfold f_X7_asides
  refine inv_all (fun f a k => f_X7_asides_c2 f now a (nI k)) (fun k a => ∀ j, j < k → a j = now j) 40 (fun o => ∃ r, o = some r ∧ ∀ j, j < 40 → r j = now j) (by decide) aside (fun j hj => by omega) ?_ ?_
  · intro f k a hk hI
    refine ⟨upd a k (now k), ?_, fun j hj => ?_⟩
    · show f_X7_asides_c2 (f + 1) now a (nI k) = f_X7_asides_c2 f now (upd a k (now k)) (nI (k + 1))
      rw [f_X7_asides_c2, if_pos (show nI k < (40 : Int32) from nI_lt (b := 40) hk (by decide)), if_pos (inb_nI hk (by decide)), jn_eq, nI_cl (by omega), nI_1]
    · by_cases e : j = k
      · subst e; exact pk_us
      · rw [pk_un e]; exact hI j (by omega)
  · intro f a hI
    exact ⟨a, rfl, hI⟩
theorem backs7 (now aside : Nat → Int32) : ∃ r, f_X7_backs now aside = some r ∧ ∀ j, j < 40 → r j = aside j := by
  unfold f_X7_backs
  refine inv_all (fun f a k => f_X7_backs_c2 f a aside (nI k)) (fun k a => ∀ j, j < k → a j = aside j) 40 (fun o => ∃ r, o = some r ∧ ∀ j, j < 40 → r j = aside j) (by decide) now (fun j hj => by omega) ?_ ?_
  · intro f k a hk hI
    refine ⟨upd a k (aside k), ?_, fun j hj => ?_⟩
    · show f_X7_backs_c2 (f + 1) a aside (nI k) = f_X7_backs_c2 f (upd a k (aside k)) aside (nI (k + 1))
      rw [f_X7_backs_c2, if_pos (show nI k < (40 : Int32) from nI_lt (b := 40) hk (by decide)), if_pos (inb_nI hk (by decide)), jn_eq, nI_cl (by omega), nI_1]
    · by_cases e : j = k
      · subst e; exact pk_us
      · rw [pk_un e]; exact hI j (by omega)
  · intro f a hI
    exact ⟨a, rfl, hI⟩
theorem foresee6 (hX : isX S kind used bay likes who lamp due count day dues draw) (ho : okS S) (fkind fused fbay flikes fwho flamp fdue fgain : Nat → Int32) (fcount fday fdues fdraw : Int32) {k : Nat} (hk : k < 1000) : ∃ r, f_X6_foresee kind used bay likes who lamp due count day dues draw fkind fused fbay flikes fwho flamp fdue fgain fcount fday fdues fdraw (nI k) = some r ∧ isX (passN k S) r.1 r.2.1 r.2.2.1 r.2.2.2.1 r.2.2.2.2.1 r.2.2.2.2.2.1 r.2.2.2.2.2.2.1 r.2.2.2.2.2.2.2.2.1 r.2.2.2.2.2.2.2.2.2.1 r.2.2.2.2.2.2.2.2.2.2.1 r.2.2.2.2.2.2.2.2.2.2.2 := by
  obtain ⟨b, e1, hb⟩ := become3 hX ho fkind fused fbay flikes fwho flamp fdue fcount fday fdues fdraw
  obtain ⟨p, e2, hp⟩ := passDays3 fgain hb ho hk
  unfold f_X6_foresee
  rw [e1, sb, e2, sb]
  exact ⟨_, rfl, hp⟩
theorem in99 (x : Int32) : f_X7_in x.toInt64 0 99 = some (tf (decide (0 ≤ x.toInt ∧ x.toInt ≤ 99))) := in7w x 0 99
theorem wi99 (x : Int32) : f_X6_within x 0 99 = some (tf (decide (0 ≤ x.toInt ∧ x.toInt ≤ 99))) := within6 x 0 99
theorem in1 (x : Int32) : f_X7_in x.toInt64 0 1 = some (tf (decide (0 ≤ x.toInt ∧ x.toInt ≤ 1))) := in7w x 0 1
theorem wi1 (x : Int32) : f_X6_within x 0 1 = some (tf (decide (0 ≤ x.toInt ∧ x.toInt ≤ 1))) := within6 x 0 1
theorem st_ahead (hC : RC kind used bay likes who lamp due count day dues draw mu mb md mz mr next known now undone undos) (mores aside : Nat → Int32) (fkind fused fbay flikes fwho flamp fdue fgain : Nat → Int32) (fcount fday fdues fdraw : Int32) (x y : Int32) : ∃ rx rm, f_X6_ahead kind used bay likes who lamp due count day dues draw fkind fused fbay flikes fwho flamp fdue fgain fcount fday fdues fdraw x y = some rx ∧ f_X7_ahead now mores aside x y = some rm ∧ rx.1 = rm.1 ∧ RC kind used bay likes who lamp due count day dues draw mu mb md mz mr next known rm.2.1 undone undos := by
  obtain ⟨S, hs, ho, hh, hX, hM, hp, hq⟩ := id hC
  have hn := ho.1
  unfold f_X6_ahead f_X7_ahead
  rw [has3 hX ho, sb, isHolder7 hM ho, sb]
  by_cases c0 : 0 ≤ x.toInt ∧ x.toInt < sN S
  · rw [if_neg (tf_y c0), if_neg (tf_y c0), wi99, sb, in99, sb]
    by_cases c1 : 0 ≤ y.toInt ∧ y.toInt ≤ 99
    · rw [if_neg (tf_y c1), if_neg (tf_y c1)]
      obtain ⟨h, hlt, rfl⟩ := hold_x hn c0
      obtain ⟨k, hk, rfl⟩ := l_of (m := 99) c1.1 (by omega)
      obtain ⟨a, ea, ha⟩ := foresee6 hX ho fkind fused fbay flikes fwho flamp fdue fgain fcount fday fdues fdraw (k := k) (by omega)
      obtain ⟨as, eb, hb⟩ := asides7 now aside
      obtain ⟨g, eg, hg⟩ := goesOn7 mores hM ho (k := k) (by omega)
      obtain ⟨bk, ek, hbk⟩ := backs7 g.1 as
      have hNk := passN_N k S
      rw [ea, sb, if_pos (inb_nI (by omega) (by decide)), nI_cl (by omega), jn_eq, eb, sb, eg, sb, used7 hg (ok_passN k ho) (by omega), sb, ek, sb]
      refine ⟨_, _, rfl, rfl, (ha.2.2.2.2.1 h (by omega)).2.1, RC_now hC (fun j hj => ?_)⟩
      rw [← hb j hj]
      exact hbk j hj
    · rw [if_pos (tf_x c1), if_pos (tf_x c1)]
      exact ⟨_, _, rfl, rfl, rfl, hC⟩
  · rw [if_pos (tf_x c0), if_pos (tf_x c0)]
    exact ⟨_, _, rfl, rfl, rfl, hC⟩
theorem st_then (hC : RC kind used bay likes who lamp due count day dues draw mu mb md mz mr next known now undone undos) (mores aside : Nat → Int32) (fkind fused fbay flikes fwho flamp fdue fgain : Nat → Int32) (fcount fday fdues fdraw : Int32) (x y : Int32) : ∃ rx rm, f_X6_then kind used bay likes who lamp due count day dues draw fkind fused fbay flikes fwho flamp fdue fgain fcount fday fdues fdraw x y = some rx ∧ f_X7_then now mores aside x y = some rm ∧ rx.1 = rm.1 ∧ RC kind used bay likes who lamp due count day dues draw mu mb md mz mr next known rm.2.1 undone undos := by
  obtain ⟨S, hs, ho, hh, hX, hM, hp, hq⟩ := id hC
  have hn := ho.1
  unfold f_X6_then f_X7_then
  rw [wi99, sb, in99, sb]
  by_cases c0 : 0 ≤ x.toInt ∧ x.toInt ≤ 99
  · rw [if_neg (tf_y c0), if_neg (tf_y c0), wi1, sb, in1, sb]
    by_cases c1 : 0 ≤ y.toInt ∧ y.toInt ≤ 1
    · rw [if_neg (tf_y c1), if_neg (tf_y c1)]
      obtain ⟨k, hk, rfl⟩ := l_of (m := 99) c0.1 (by omega)
      obtain ⟨a, ea, ha⟩ := foresee6 hX ho fkind fused fbay flikes fwho flamp fdue fgain fcount fday fdues fdraw (k := k) (by omega)
      obtain ⟨as, eb, hb⟩ := asides7 now aside
      obtain ⟨g, eg, hg⟩ := goesOn7 mores hM ho (k := k) (by omega)
      obtain ⟨bk, ek, hbk⟩ := backs7 g.1 as
      have hok := ok_passN k ho
      rw [ea, sb, eb, sb, eg, sb]
      unfold f_X7_then_c50
      by_cases c2 : y = 0
      · rw [if_pos c2, if_pos c2, takenSet3 ha hok, sb, ups7 hg hok, sb, ek, sb]
        refine ⟨_, _, rfl, rfl, rfl, RC_now hC (fun j hj => ?_)⟩
        rw [← hb j hj]
        exact hbk j hj
      · rw [if_neg c2, if_neg c2, jn_eq, ek, sb]
        refine ⟨_, _, rfl, rfl, ha.2.2.1.trans hg.2.2.1.symm, RC_now hC (fun j hj => ?_)⟩
        rw [← hb j hj]
        exact hbk j hj
    · rw [if_pos (tf_x c1), if_pos (tf_x c1)]
      exact ⟨_, _, rfl, rfl, rfl, hC⟩
  · rw [if_pos (tf_x c0), if_pos (tf_x c0)]
    exact ⟨_, _, rfl, rfl, rfl, hC⟩
end LK
theorem S_ahead : St_ahead Rel := by
  intro t_now_kind t_now_used t_now_bay t_now_likes t_now_who t_now_lamp t_now_due t_now_gain t_now_count t_now_day t_now_dues t_now_draw t_past_marks_used t_past_marks_bay t_past_marks_day t_past_marks_dues t_past_marks_draw t_past_next t_past_known t_foreseen_kind t_foreseen_used t_foreseen_bay t_foreseen_likes t_foreseen_who t_foreseen_lamp t_foreseen_due t_foreseen_gain t_foreseen_count t_foreseen_day t_foreseen_dues t_foreseen_draw t_imageOfNow_kind t_imageOfNow_used t_imageOfNow_bay t_imageOfNow_likes t_imageOfNow_who t_imageOfNow_lamp t_imageOfNow_due t_imageOfNow_gain t_imageOfNow_count t_imageOfNow_day t_imageOfNow_dues t_imageOfNow_draw t_imageOfPast_marks_used t_imageOfPast_marks_bay t_imageOfPast_marks_day t_imageOfPast_marks_dues t_imageOfPast_marks_draw t_imageOfPast_next t_imageOfPast_known t_hasImage t_deal_bay t_deal_best t_deal_worth t_deal_free t_deal_count t_tape_letters t_tape_length t_tape_place t_sheets_items t_sheets_lane t_sheets_size u_now u_mores u_tape u_typed u_place u_isFault u_readLamps u_read u_undone u_undos u_aside u_bays u_bests u_kept u_keptUndos u_isKept u_lanes u_sizes u_items u_moved y0 y1 hR
  obtain ⟨hC, hI, hT, hS⟩ := hR
  obtain ⟨rx, rm, e1, e2, e3, e4⟩ := st_ahead hC u_mores u_aside t_foreseen_kind t_foreseen_used t_foreseen_bay t_foreseen_likes t_foreseen_who t_foreseen_lamp t_foreseen_due t_foreseen_gain t_foreseen_count t_foreseen_day t_foreseen_dues t_foreseen_draw y0 y1
  exact ⟨rx, rm, e1, e2, e3, e4, hI, hT, hS⟩
theorem S_then : St_then Rel := by
  intro t_now_kind t_now_used t_now_bay t_now_likes t_now_who t_now_lamp t_now_due t_now_gain t_now_count t_now_day t_now_dues t_now_draw t_past_marks_used t_past_marks_bay t_past_marks_day t_past_marks_dues t_past_marks_draw t_past_next t_past_known t_foreseen_kind t_foreseen_used t_foreseen_bay t_foreseen_likes t_foreseen_who t_foreseen_lamp t_foreseen_due t_foreseen_gain t_foreseen_count t_foreseen_day t_foreseen_dues t_foreseen_draw t_imageOfNow_kind t_imageOfNow_used t_imageOfNow_bay t_imageOfNow_likes t_imageOfNow_who t_imageOfNow_lamp t_imageOfNow_due t_imageOfNow_gain t_imageOfNow_count t_imageOfNow_day t_imageOfNow_dues t_imageOfNow_draw t_imageOfPast_marks_used t_imageOfPast_marks_bay t_imageOfPast_marks_day t_imageOfPast_marks_dues t_imageOfPast_marks_draw t_imageOfPast_next t_imageOfPast_known t_hasImage t_deal_bay t_deal_best t_deal_worth t_deal_free t_deal_count t_tape_letters t_tape_length t_tape_place t_sheets_items t_sheets_lane t_sheets_size u_now u_mores u_tape u_typed u_place u_isFault u_readLamps u_read u_undone u_undos u_aside u_bays u_bests u_kept u_keptUndos u_isKept u_lanes u_sizes u_items u_moved y0 y1 hR
  obtain ⟨hC, hI, hT, hS⟩ := hR
  obtain ⟨rx, rm, e1, e2, e3, e4⟩ := st_then hC u_mores u_aside t_foreseen_kind t_foreseen_used t_foreseen_bay t_foreseen_likes t_foreseen_who t_foreseen_lamp t_foreseen_due t_foreseen_gain t_foreseen_count t_foreseen_day t_foreseen_dues t_foreseen_draw y0 y1
  exact ⟨rx, rm, e1, e2, e3, e4, hI, hT, hS⟩
