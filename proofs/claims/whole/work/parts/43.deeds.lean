/-! MATHEMATICS 14: deeds on a scene -/
def withB (S : Sc) (B : Nat → Nat) : Sc := (sN S, sK S, sU S, B, sL S, sP S, sD S, sY S, sZ S, sR S)
def talkS (S : Sc) (h : Nat) : Sc := if sU S h = 99 then S else setU S h (sU S h - 5)
def swB (B : Nat → Nat) (g h k : Nat) : Nat := if k = g then B h else if k = h then B g else B k
def mvB (B : Nat → Nat) (h b k : Nat) : Nat := if k = h then b else B k
theorem wf_congr {B C : Nat → Nat} {b : Nat} : ∀ {n : Nat}, (∀ k, k < n → (B k = b ↔ C k = b)) → wf B b n = wf C b n := by
  intro n
  induction n with
  | zero => intro _; rfl
  | succ n ih =>
    intro h
    rw [wf_s, wf_s, ih (fun k hk => h k (by omega))]
    by_cases c : B n = b
    · rw [if_pos c, if_pos ((h n (by omega)).mp c)]
    · rw [if_neg c, if_neg (fun e => c ((h n (by omega)).mpr e))]
theorem talk_N (S : Sc) (h : Nat) : sN (talkS S h) = sN S := by
  unfold talkS
  split <;> rfl
theorem ok_talk {S : Sc} (ho : okS S) {h : Nat} (hh : h < sN S) : okS (talkS S h) := by
  unfold talkS
  split
  · exact ho
  · exact ok_setU ho (by have := (ho.2.1 h hh).2.1; omega)
theorem ok_withB {S : Sc} (ho : okS S) {B : Nat → Nat} (h1 : ∀ h, h < sN S → B h < 6) (h2 : ∀ g h, g < sN S → h < sN S → B g = B h → g = h) : okS (withB S B) := ⟨ho.1, fun h hh => ⟨(ho.2.1 h hh).1, (ho.2.1 h hh).2.1, h1 h hh, (ho.2.1 h hh).2.2.2⟩, h2, ho.2.2.2.1, ho.2.2.2.2⟩
section DD
variable {kind used bay likes who lamp due : Nat → Int32} {count day dues draw : Int32} {fkind fused fbay flikes fwho flamp fdue fgain : Nat → Int32} {fcount fday fdues fdraw : Int32} {mu mb : Nat → Nat → Int32} {md mz mr : Nat → Int32} {next known : Int32} {now undone : Nat → Int32} {undos : Int32} {S : Sc} {hs : List Mk}
theorem X_setU (hX : isX S kind used bay likes who lamp due count day dues draw) (h u : Nat) : isX (setU S h u) kind (upd used h (nI u)) bay likes who lamp due count day dues draw := by
  refine ⟨hX.1, hX.2.1, hX.2.2.1, hX.2.2.2.1, fun g hg => ⟨(hX.2.2.2.2.1 g hg).1, ?_, (hX.2.2.2.2.1 g hg).2.2⟩, hX.2.2.2.2.2⟩
  show upd used h (nI u) g = nI (if g = h then u else sU S g)
  by_cases e : g = h
  · subst e; rw [pk_us, if_pos rfl]
  · rw [pk_un e, if_neg e]; exact (hX.2.2.2.2.1 g hg).2.1
theorem X_withB (hX : isX S kind used bay likes who lamp due count day dues draw) {B : Nat → Nat} {bay' who' : Nat → Int32} (h1 : ∀ h, h < sN S → bay' h = nI (B h)) (h2 : ∀ b, b < 6 → who' b = wI (wf B b (sN S)) (-1)) : isX (withB S B) kind used bay' likes who' lamp due count day dues draw :=
  ⟨hX.1, hX.2.1, hX.2.2.1, hX.2.2.2.1, fun g hg => ⟨(hX.2.2.2.2.1 g hg).1, (hX.2.2.2.2.1 g hg).2.1, h1 g hg, (hX.2.2.2.2.1 g hg).2.2.2⟩, hX.2.2.2.2.2.1, h2⟩
theorem M_withB (hM : isM S now) (hn : sN S ≤ 6) {B : Nat → Nat} {now' : Nat → Int32} (h1 : ∀ j, j < 40 → (∀ h, h < sN S → j ≠ 4 + 4 * h + 2) → now' j = now j) (h2 : ∀ h, h < sN S → now' (4 + 4 * h + 2) = nI (B h)) : isM (withB S B) now' := by
  obtain ⟨m0, m1, m2, m3, m4, m5⟩ := hM
  refine ⟨(h1 0 (by decide) (fun h _ => by omega)).trans m0, (h1 1 (by decide) (fun h _ => by omega)).trans m1, (h1 2 (by decide) (fun h _ => by omega)).trans m2, (h1 3 (by decide) (fun h _ => by omega)).trans m3, fun h hh => ?_, fun b hb => ?_⟩
  · have hh : h < sN S := hh
    exact ⟨(h1 _ (by omega) (fun g _ => by omega)).trans (m4 h hh).1, (h1 _ (by omega) (fun g _ => by omega)).trans (m4 h hh).2.1, h2 h hh, (h1 _ (by omega) (fun g _ => by omega)).trans (m4 h hh).2.2.2⟩
  · exact ⟨(h1 _ (by omega) (fun g _ => by omega)).trans (m5 b hb).1, (h1 _ (by omega) (fun g _ => by omega)).trans (m5 b hb).2⟩
theorem talkTo3 (hX : isX S kind used bay likes who lamp due count day dues draw) (ho : okS S) {h : Nat} (hh : h < sN S) : ∃ u', f_X3_talkTo used (nI h) = some u' ∧ isX (talkS S h) kind u' bay likes who lamp due count day dues draw := by
  have hn := ho.1
  have hU := (ho.2.1 h hh).2.1
  unfold f_X3_talkTo talkS
  rw [taken3 hX ho hh, sb]
  unfold tk
  by_cases c : sU S h = 99
  · rw [if_neg (tf_y c), if_pos c]
    exact ⟨_, rfl, hX⟩
  · rw [if_pos (tf_x c), if_neg c, if_pos (inb_nI (by omega) (by decide)), nI_cl (by omega), (hX.2.2.2.2.1 h hh).2.1, jn_eq, jn_eq, show (5 : Int32) = nI 5 from rfl, sub_pos (by omega) (by decide)]
    exact ⟨_, rfl, X_setU hX h _⟩
theorem talks7 (hM : isM S now) (ho : okS S) {h : Nat} (hh : h < sN S) : ∃ n', f_X7_talks now (nI h) = some n' ∧ isM (talkS S h) n' := by
  have hn := ho.1
  have hU := (ho.2.1 h hh).2.1
  unfold f_X7_talks talkS
  rw [up7 hM ho hh, sb]
  by_cases c : sU S h = 99
  · rw [if_neg (tf_y c), if_pos c]
    exact ⟨_, rfl, hM⟩
  · rw [if_pos (tf_x c), if_neg c, used7 hM ho hh, sb]
    have e : f_X7_usedBy now (nI h) (nI (sU S h) - 5) = some (upd now (4 + 4 * h + 1) (nI (sU S h - 5))) := by
      unfold f_X7_usedBy
      have h9 : ¬ (99 : Int32) < nI (sU S h) - nI 5 := by
        rw [l_lt, pk_sub_toInt (by omega) (by decide)]
        have : (99 : Int32).toInt = 99 := rfl
        omega
      rw [jn_eq, show (5 : Int32) = nI 5 from rfl, if_neg h9, sub_neg (by omega) (by decide), show (1 : Int32) = nI 1 from rfl, told_ix, if_pos (inb_nI (by omega) (by decide)), nI_cl (by omega)]
    rw [e, sb]
    exact ⟨_, rfl, M_setU hM ho hh _⟩
theorem seat3 (bay who : Nat → Int32) {h b : Nat} (hh : h < 6) (hb : b < 6) : f_X3_seat bay who (nI h) (nI b) = some (upd bay h (nI b), upd who b (nI h)) := by
  unfold f_X3_seat
  rw [if_pos (inb_nI hh (by decide)), if_pos (inb_nI hb (by decide)), nI_cl (by omega), nI_cl (by omega)]
theorem sits7 (now : Nat → Int32) {h : Nat} (hh : h < 6) (v : Int32) : f_X7_sits now (nI h) v = some (upd now (4 + 4 * h + 2) v) := by
  unfold f_X7_sits
  rw [show (2 : Int32) = nI 2 from rfl, told_ix, if_pos (inb_nI (by omega) (by decide)), nI_cl (by omega)]
theorem swB_inj (ho : okS S) {g h : Nat} (hg : g < sN S) (hh : h < sN S) (hne : g ≠ h) : (∀ k, k < sN S → swB (sB S) g h k < 6) ∧ ∀ k l, k < sN S → l < sN S → swB (sB S) g h k = swB (sB S) g h l → k = l := by
  have hB := fun k hk => (ho.2.1 k hk).2.2.1
  have hi := ho.2.2.1
  refine ⟨fun k hk => ?_, fun k l hk hl e => ?_⟩
  · unfold swB
    split
    · exact hB h hh
    · split
      · exact hB g hg
      · exact hB k hk
  · unfold swB at e
    by_cases k1 : k = g
    · rw [if_pos k1] at e
      by_cases l1 : l = g
      · omega
      · rw [if_neg l1] at e
        by_cases l2 : l = h
        · rw [if_pos l2] at e
          exact absurd (hi h g hh hg e).symm hne
        · rw [if_neg l2] at e
          exact absurd (hi h l hh hl e).symm l2
    · rw [if_neg k1] at e
      by_cases k2 : k = h
      · rw [if_pos k2] at e
        by_cases l1 : l = g
        · rw [if_pos l1] at e
          exact absurd (hi g h hg hh e) hne
        · rw [if_neg l1] at e
          by_cases l2 : l = h
          · omega
          · rw [if_neg l2] at e
            exact absurd (hi g l hg hl e).symm l1
      · rw [if_neg k2] at e
        by_cases l1 : l = g
        · rw [if_pos l1] at e
          exact absurd (hi k h hk hh e) k2
        · rw [if_neg l1] at e
          by_cases l2 : l = h
          · rw [if_pos l2] at e
            exact absurd (hi k g hk hg e) k1
          · rw [if_neg l2] at e
            exact hi k l hk hl e
def swS (S : Sc) (g h : Nat) : Sc := withB S (swB (sB S) g h)
theorem ok_sw (ho : okS S) {g h : Nat} (hg : g < sN S) (hh : h < sN S) (hne : g ≠ h) : okS (swS S g h) := ok_withB ho (swB_inj ho hg hh hne).1 (swB_inj ho hg hh hne).2
theorem swapBays3 (hX : isX S kind used bay likes who lamp due count day dues draw) (ho : okS S) {g h : Nat} (hg : g < sN S) (hh : h < sN S) (hne : g ≠ h) : ∃ r, f_X3_swapBays bay who (nI g) (nI h) = some r ∧ isX (swS S g h) kind used r.1 likes r.2 lamp due count day dues draw := by
  have hn := ho.1
  have hBg := (ho.2.1 g hg).2.2.1
  have hBh := (ho.2.1 h hh).2.2.1
  obtain ⟨w1, w2⟩ := swB_inj ho hg hh hne
  unfold f_X3_swapBays
  simp only [jn_eq]
  rw [if_pos (inb_nI (show g < 6 by omega) (by decide)), if_pos (inb_nI (show h < 6 by omega) (by decide)), nI_cl (show g < 2 ^ 31 by omega), nI_cl (show h < 2 ^ 31 by omega), (hX.2.2.2.2.1 g hg).2.2.1, (hX.2.2.2.2.1 h hh).2.2.1, seat3 _ _ (by omega) hBh, sb, seat3 _ _ (by omega) hBg, sb]
  refine ⟨_, rfl, X_withB hX (fun k hk => ?_) (fun b hb => ?_)⟩
  · show upd (upd bay g (nI (sB S h))) h (nI (sB S g)) k = nI (swB (sB S) g h k)
    unfold swB
    by_cases e1 : k = h
    · subst e1
      rw [pk_us, if_neg (fun e => hne e.symm), if_pos rfl]
    · rw [pk_un e1]
      by_cases e2 : k = g
      · subst e2
        rw [pk_us, if_pos rfl]
      · rw [pk_un e2, if_neg e2, if_neg e1]
        exact (hX.2.2.2.2.1 k hk).2.2.1
  · show upd (upd who (sB S h) (nI g)) (sB S g) (nI h) b = wI (wf (swB (sB S) g h) b (sN S)) (-1)
    have eh : swB (sB S) g h h = sB S g := by unfold swB; rw [if_neg (fun e => hne e.symm), if_pos rfl]
    have eg : swB (sB S) g h g = sB S h := by unfold swB; rw [if_pos rfl]
    by_cases b1 : b = sB S g
    · subst b1
      rw [pk_us, wf_is (h := h) hh eh (fun k hk e => w2 k h hk hh (by rw [e, eh]))]
      rfl
    · rw [pk_un b1]
      by_cases b2 : b = sB S h
      · subst b2
        rw [pk_us, wf_is (h := g) hg eg (fun k hk e => w2 k g hk hg (by rw [e, eg]))]
        rfl
      · rw [pk_un b2, hX.2.2.2.2.2.2 b hb]
        congr 1
        refine wf_congr (fun k hk => ?_)
        unfold swB
        by_cases e1 : k = g
        · subst e1
          rw [if_pos rfl]
          exact ⟨fun e => absurd e.symm b1, fun e => absurd e.symm b2⟩
        · rw [if_neg e1]
          by_cases e2 : k = h
          · subst e2
            rw [if_pos rfl]
            exact ⟨fun e => absurd e.symm b2, fun e => absurd e.symm b1⟩
          · rw [if_neg e2]
theorem exch7 (hM : isM S now) (ho : okS S) {g h : Nat} (hg : g < sN S) (hh : h < sN S) (hne : g ≠ h) : ∃ r, f_X7_exchanges now (nI g) (nI h) = some r ∧ isM (swS S g h) r := by
  have hn := ho.1
  unfold f_X7_exchanges
  rw [bay7 hM ho hg, sb, bay7 hM ho hh, sb, sits7 _ (by omega), sb, sits7 _ (by omega), sb]
  refine ⟨_, rfl, M_withB hM hn (fun j hj hj2 => ?_) (fun k hk => ?_)⟩
  · rw [pk_un (hj2 h hh), pk_un (hj2 g hg)]
  · unfold swB
    by_cases e1 : k = h
    · subst e1
      rw [pk_us, if_neg (fun e => hne e.symm), if_pos rfl]
    · rw [pk_un (by omega)]
      by_cases e2 : k = g
      · subst e2
        rw [pk_us, if_pos rfl]
      · rw [pk_un (by omega), if_neg e2, if_neg e1]
        exact (hM.2.2.2.2.1 k hk).2.2.1
theorem RC_mk {S' : Sc} {kind' used' bay' likes' who' lamp' due' : Nat → Int32} {count' day' dues' draw' : Int32} {now' : Nat → Int32} {mu' mb' : Nat → Nat → Int32} {md' mz' mr' : Nat → Int32} {next' known' : Int32} {undone' : Nat → Int32} {undos' : Int32} {hs' : List Mk} (a1 : okS S') (a2 : okH (sN S') hs') (a3 : isX S' kind' used' bay' likes' who' lamp' due' count' day' dues' draw') (a4 : isM S' now') (a5 : isXP (sN S') hs' mu' mb' md' mz' mr' next' known') (a6 : isMP (sN S') hs' undone' undos') : RC kind' used' bay' likes' who' lamp' due' count' day' dues' draw' mu' mb' md' mz' mr' next' known' now' undone' undos' := ⟨S', hs', a1, a2, a3, a4, a5, a6⟩
theorem st_talk (hC : RC kind used bay likes who lamp due count day dues draw mu mb md mz mr next known now undone undos) (x : Int32) : ∃ rx rm, f_X6_talk used bay count day dues draw mu mb md mz mr next known x = some rx ∧ f_X7_talk now undone undos x = some rm ∧ rx.1 = rm.1 ∧ RC kind rx.2.1 bay likes who lamp due count day dues draw rx.2.2.1 rx.2.2.2.1 rx.2.2.2.2.1 rx.2.2.2.2.2.1 rx.2.2.2.2.2.2.1 rx.2.2.2.2.2.2.2.1 rx.2.2.2.2.2.2.2.2 rm.2.1 rm.2.2.1 rm.2.2.2 := by
  obtain ⟨S, hs, ho, hh, hX, hM, hp, hq⟩ := id hC
  have hn := ho.1
  unfold f_X6_talk f_X7_talk
  rw [has3 hX ho, sb, isHolder7 hM ho, sb]
  by_cases c0 : 0 ≤ x.toInt ∧ x.toInt < sN S
  · rw [if_neg (tf_y c0), if_neg (tf_y c0)]
    obtain ⟨h, hlt, rfl⟩ := hold_x hn c0
    rw [taken3 hX ho hlt, sb, up7 hM ho hlt, sb]
    unfold tk
    by_cases c : sU S h = 99
    · rw [if_neg (tf_y c), if_neg (tf_y c)]
      exact ⟨_, _, rfl, rfl, rfl, hC⟩
    · rw [if_pos (tf_x c), if_pos (tf_x c)]
      obtain ⟨k, ek, hk⟩ := keep2 hX ho hh hp
      obtain ⟨t, et, ht⟩ := talkTo3 hX ho hlt
      obtain ⟨q, eq, hq'⟩ := notes7 hM ho hh hq
      obtain ⟨u, eu, hu⟩ := talks7 hM ho hlt
      have hok := ok_talk ho hlt
      have hN := talk_N S h
      rw [ek, sb, et, sb, if_pos (inb_nI (by omega) (by decide)), nI_cl (by omega), jn_eq, eq, sb, eu, sb, used7 hu hok (by omega), sb]
      refine ⟨_, _, rfl, rfl, (ht.2.2.2.2.1 h (by omega)).2.1, RC_mk hok (hs' := pushH (mkS S) hs) ?_ ht hu ?_ ?_⟩
      · rw [hN]; exact okH_push (okM_S ho) hh
      · rw [hN]; exact hk
      · rw [hN]; exact hq'
  · rw [if_pos (tf_x c0), if_pos (tf_x c0)]
    exact ⟨_, _, rfl, rfl, rfl, hC⟩
theorem st_change (hC : RC kind used bay likes who lamp due count day dues draw mu mb md mz mr next known now undone undos) (x y : Int32) : ∃ rx rm, f_X6_change used bay who count day dues draw mu mb md mz mr next known x y = some rx ∧ f_X7_change now undone undos x y = some rm ∧ rx.1 = rm.1 ∧ RC kind used rx.2.1 likes rx.2.2.1 lamp due count day dues draw rx.2.2.2.1 rx.2.2.2.2.1 rx.2.2.2.2.2.1 rx.2.2.2.2.2.2.1 rx.2.2.2.2.2.2.2.1 rx.2.2.2.2.2.2.2.2.1 rx.2.2.2.2.2.2.2.2.2 rm.2.1 rm.2.2.1 rm.2.2.2 := by
  obtain ⟨S, hs, ho, hh, hX, hM, hp, hq⟩ := id hC
  have hn := ho.1
  unfold f_X6_change f_X7_change
  rw [has3 hX ho, sb, isHolder7 hM ho, sb]
  by_cases c0 : 0 ≤ x.toInt ∧ x.toInt < sN S
  · rw [if_neg (tf_y c0), if_neg (tf_y c0), has3 hX ho, sb, isHolder7 hM ho, sb]
    by_cases c1 : 0 ≤ y.toInt ∧ y.toInt < sN S
    · rw [if_neg (tf_y c1), if_neg (tf_y c1)]
      by_cases c2 : x = y
      · rw [if_pos c2, if_pos c2]
        exact ⟨_, _, rfl, rfl, rfl, hC⟩
      · rw [if_neg c2, if_neg c2]
        obtain ⟨g, hg, rfl⟩ := hold_x hn c0
        obtain ⟨h, hlt, rfl⟩ := hold_x hn c1
        have hne : g ≠ h := fun e => c2 (by rw [e])
        obtain ⟨k, ek, hk⟩ := keep2 hX ho hh hp
        obtain ⟨t, et, ht⟩ := swapBays3 hX ho hg hlt hne
        obtain ⟨q, eq, hq'⟩ := notes7 hM ho hh hq
        obtain ⟨u, eu, hu⟩ := exch7 hM ho hg hlt hne
        have hok := ok_sw ho hg hlt hne
        rw [ek, sb, et, sb, if_pos (inb_nI (by omega) (by decide)), nI_cl (by omega), jn_eq, eq, sb, eu, sb, bay7 hu hok (show g < sN (swS S g h) from hg), sb]
        exact ⟨_, _, rfl, rfl, (ht.2.2.2.2.1 g hg).2.2.1, RC_mk hok (hs' := pushH (mkS S) hs) (okH_push (okM_S ho) hh) ht hu hk hq'⟩
    · rw [if_pos (tf_x c1), if_pos (tf_x c1)]
      exact ⟨_, _, rfl, rfl, rfl, hC⟩
  · rw [if_pos (tf_x c0), if_pos (tf_x c0)]
    exact ⟨_, _, rfl, rfl, rfl, hC⟩
theorem st_move (hC : RC kind used bay likes who lamp due count day dues draw mu mb md mz mr next known now undone undos) (x y : Int32) : ∃ rx rm, f_X6_move used bay who count day dues draw mu mb md mz mr next known x y = some rx ∧ f_X7_move now undone undos x y = some rm ∧ rx.1 = rm.1 ∧ RC kind used rx.2.1 likes rx.2.2.1 lamp due count day dues draw rx.2.2.2.1 rx.2.2.2.2.1 rx.2.2.2.2.2.1 rx.2.2.2.2.2.2.1 rx.2.2.2.2.2.2.2.1 rx.2.2.2.2.2.2.2.2.1 rx.2.2.2.2.2.2.2.2.2 rm.2.1 rm.2.2.1 rm.2.2.2 := by
  obtain ⟨S, hs, ho, hh, hX, hM, hp, hq⟩ := id hC
  have hn := ho.1
  unfold f_X6_move f_X7_move
  rw [has3 hX ho, sb, isHolder7 hM ho, sb]
  by_cases c0 : 0 ≤ x.toInt ∧ x.toInt < sN S
  · rw [if_neg (tf_y c0), if_neg (tf_y c0), isBay6, sb, isBay7, sb]
    by_cases c1 : 0 ≤ y.toInt ∧ y.toInt ≤ 5
    · rw [if_neg (tf_y c1), if_neg (tf_y c1)]
      obtain ⟨h, hlt, rfl⟩ := hold_x hn c0
      obtain ⟨b, hb, rfl⟩ := bay_x c1
      rw [if_pos (inb_nI hb (by decide)), nI_cl (by omega), hX.2.2.2.2.2.2 b hb, jn_eq, who7 hM ho hb, sb]
      cases ew : wf (sB S) b (sN S) with
      | some g =>
        have hg := (wf_some ew).1
        rw [if_neg (show ¬ wI (some g) (-1) = (-1) from wI_ne (by omega)), if_neg (show ¬ wI (some g) (-4) = (-4) from fun e => by
          have e : nI g = (-4) := e
          rw [l_eq, l_lit (by omega)] at e
          have : ((-4 : Int32)).toInt = -4 := rfl
          omega)]
        exact ⟨_, _, rfl, rfl, rfl, hC⟩
      | none =>
        have hfree := wf_none ew
        have hB := (ho.2.1 h hlt).2.2.1
        obtain ⟨k, ek, hk⟩ := keep2 hX ho hh hp
        obtain ⟨q, eq, hq'⟩ := notes7 hM ho hh hq
        rw [if_pos (show wI none (-1) = (-1) from rfl), if_pos (show wI none (-4) = (-4) from rfl), ek, sb, if_pos (inb_nI (show h < 6 by omega) (by decide)), nI_cl (show h < 2 ^ 31 by omega), (hX.2.2.2.2.1 h hlt).2.2.1, jn_eq, if_pos (inb_nI hB (by decide)), nI_cl (by omega), seat3 _ _ (by omega) hb, sb, eq, sb, bay7 hM ho hlt, sb, sits7 _ (by omega), sb]
        have hok : okS (withB S (mvB (sB S) h b)) := by
          refine ok_withB ho (fun k hk => ?_) (fun k l hk hl e => ?_)
          · unfold mvB
            split
            · exact hb
            · exact (ho.2.1 k hk).2.2.1
          · unfold mvB at e
            by_cases k1 : k = h
            · rw [if_pos k1] at e
              by_cases l1 : l = h
              · omega
              · rw [if_neg l1] at e
                exact absurd e.symm (hfree l hl)
            · rw [if_neg k1] at e
              by_cases l1 : l = h
              · rw [if_pos l1] at e
                exact absurd e (hfree k hk)
              · rw [if_neg l1] at e
                exact ho.2.2.1 k l hk hl e
        refine ⟨_, _, rfl, rfl, rfl, RC_mk (S' := withB S (mvB (sB S) h b)) hok (hs' := pushH (mkS S) hs) (okH_push (okM_S ho) hh) (X_withB hX (fun k hk => ?_) (fun d hd => ?_)) (M_withB hM hn (fun j hj hj2 => ?_) (fun k hk => ?_)) hk hq'⟩
        · show upd bay h (nI b) k = nI (mvB (sB S) h b k)
          unfold mvB
          by_cases e : k = h
          · subst e; rw [pk_us, if_pos rfl]
          · rw [pk_un e, if_neg e]; exact (hX.2.2.2.2.1 k hk).2.2.1
        · show upd (upd who (sB S h) (-1)) b (nI h) d = wI (wf (mvB (sB S) h b) d (sN S)) (-1)
          have eh : mvB (sB S) h b h = b := if_pos rfl
          by_cases d1 : d = b
          · subst d1
            rw [pk_us, wf_is (h := h) hlt eh (fun k hk e => hok.2.2.1 k h hk hlt (e.trans eh.symm))]
            rfl
          · rw [pk_un d1]
            by_cases d2 : d = sB S h
            · subst d2
              rw [pk_us]
              have : wf (mvB (sB S) h b) (sB S h) (sN S) = none := by
                cases e : wf (mvB (sB S) h b) (sB S h) (sN S) with
                | none => rfl
                | some k =>
                  obtain ⟨k1, k2⟩ := wf_some e
                  unfold mvB at k2
                  by_cases c : k = h
                  · rw [if_pos c] at k2
                    exact absurd k2.symm d1
                  · rw [if_neg c] at k2
                    exact absurd (ho.2.2.1 k h k1 hlt k2) c
              rw [this]
              rfl
            · rw [pk_un d2, hX.2.2.2.2.2.2 d hd]
              congr 1
              refine wf_congr (fun k hk => ?_)
              unfold mvB
              by_cases e : k = h
              · subst e
                rw [if_pos rfl]
                exact ⟨fun e => absurd e.symm d2, fun e => absurd e.symm d1⟩
              · rw [if_neg e]
        · exact pk_un (hj2 h hlt)
        · unfold mvB
          by_cases e : k = h
          · subst e; rw [if_pos rfl]; exact pk_us
          · rw [if_neg e]
            exact (pk_un (by omega)).trans (hM.2.2.2.2.1 k hk).2.2.1
    · rw [if_pos (tf_x c1), if_pos (tf_x c1)]
      exact ⟨_, _, rfl, rfl, rfl, hC⟩
  · rw [if_pos (tf_x c0), if_pos (tf_x c0)]
    exact ⟨_, _, rfl, rfl, rfl, hC⟩
end DD
theorem S_talk : St_talk Rel := by
  intro t_now_kind t_now_used t_now_bay t_now_likes t_now_who t_now_lamp t_now_due t_now_gain t_now_count t_now_day t_now_dues t_now_draw t_past_marks_used t_past_marks_bay t_past_marks_day t_past_marks_dues t_past_marks_draw t_past_next t_past_known t_foreseen_kind t_foreseen_used t_foreseen_bay t_foreseen_likes t_foreseen_who t_foreseen_lamp t_foreseen_due t_foreseen_gain t_foreseen_count t_foreseen_day t_foreseen_dues t_foreseen_draw t_imageOfNow_kind t_imageOfNow_used t_imageOfNow_bay t_imageOfNow_likes t_imageOfNow_who t_imageOfNow_lamp t_imageOfNow_due t_imageOfNow_gain t_imageOfNow_count t_imageOfNow_day t_imageOfNow_dues t_imageOfNow_draw t_imageOfPast_marks_used t_imageOfPast_marks_bay t_imageOfPast_marks_day t_imageOfPast_marks_dues t_imageOfPast_marks_draw t_imageOfPast_next t_imageOfPast_known t_hasImage t_deal_bay t_deal_best t_deal_worth t_deal_free t_deal_count t_tape_letters t_tape_length t_tape_place t_sheets_items t_sheets_lane t_sheets_size u_now u_mores u_tape u_typed u_place u_isFault u_readLamps u_read u_undone u_undos u_aside u_bays u_bests u_kept u_keptUndos u_isKept u_lanes u_sizes u_items u_moved y0 hR
  obtain ⟨hC, hI, hT, hS⟩ := hR
  obtain ⟨rx, rm, e1, e2, e3, e4⟩ := st_talk hC y0
  exact ⟨rx, rm, e1, e2, e3, e4, hI, hT, hS⟩
theorem S_change : St_change Rel := by
  intro t_now_kind t_now_used t_now_bay t_now_likes t_now_who t_now_lamp t_now_due t_now_gain t_now_count t_now_day t_now_dues t_now_draw t_past_marks_used t_past_marks_bay t_past_marks_day t_past_marks_dues t_past_marks_draw t_past_next t_past_known t_foreseen_kind t_foreseen_used t_foreseen_bay t_foreseen_likes t_foreseen_who t_foreseen_lamp t_foreseen_due t_foreseen_gain t_foreseen_count t_foreseen_day t_foreseen_dues t_foreseen_draw t_imageOfNow_kind t_imageOfNow_used t_imageOfNow_bay t_imageOfNow_likes t_imageOfNow_who t_imageOfNow_lamp t_imageOfNow_due t_imageOfNow_gain t_imageOfNow_count t_imageOfNow_day t_imageOfNow_dues t_imageOfNow_draw t_imageOfPast_marks_used t_imageOfPast_marks_bay t_imageOfPast_marks_day t_imageOfPast_marks_dues t_imageOfPast_marks_draw t_imageOfPast_next t_imageOfPast_known t_hasImage t_deal_bay t_deal_best t_deal_worth t_deal_free t_deal_count t_tape_letters t_tape_length t_tape_place t_sheets_items t_sheets_lane t_sheets_size u_now u_mores u_tape u_typed u_place u_isFault u_readLamps u_read u_undone u_undos u_aside u_bays u_bests u_kept u_keptUndos u_isKept u_lanes u_sizes u_items u_moved y0 y1 hR
  obtain ⟨hC, hI, hT, hS⟩ := hR
  obtain ⟨rx, rm, e1, e2, e3, e4⟩ := st_change hC y0 y1
  exact ⟨rx, rm, e1, e2, e3, e4, hI, hT, hS⟩
theorem S_move : St_move Rel := by
  intro t_now_kind t_now_used t_now_bay t_now_likes t_now_who t_now_lamp t_now_due t_now_gain t_now_count t_now_day t_now_dues t_now_draw t_past_marks_used t_past_marks_bay t_past_marks_day t_past_marks_dues t_past_marks_draw t_past_next t_past_known t_foreseen_kind t_foreseen_used t_foreseen_bay t_foreseen_likes t_foreseen_who t_foreseen_lamp t_foreseen_due t_foreseen_gain t_foreseen_count t_foreseen_day t_foreseen_dues t_foreseen_draw t_imageOfNow_kind t_imageOfNow_used t_imageOfNow_bay t_imageOfNow_likes t_imageOfNow_who t_imageOfNow_lamp t_imageOfNow_due t_imageOfNow_gain t_imageOfNow_count t_imageOfNow_day t_imageOfNow_dues t_imageOfNow_draw t_imageOfPast_marks_used t_imageOfPast_marks_bay t_imageOfPast_marks_day t_imageOfPast_marks_dues t_imageOfPast_marks_draw t_imageOfPast_next t_imageOfPast_known t_hasImage t_deal_bay t_deal_best t_deal_worth t_deal_free t_deal_count t_tape_letters t_tape_length t_tape_place t_sheets_items t_sheets_lane t_sheets_size u_now u_mores u_tape u_typed u_place u_isFault u_readLamps u_read u_undone u_undos u_aside u_bays u_bests u_kept u_keptUndos u_isKept u_lanes u_sizes u_items u_moved y0 y1 hR
  obtain ⟨hC, hI, hT, hS⟩ := hR
  obtain ⟨rx, rm, e1, e2, e3, e4⟩ := st_move hC y0 y1
  exact ⟨rx, rm, e1, e2, e3, e4, hI, hT, hS⟩
