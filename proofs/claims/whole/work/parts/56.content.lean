/-! MATHEMATICS 27: content -/
def valC (S : Sc) (N : Nat) : Nat := sumN (fun h => dist (dg (sN S) N h) (sL S h)) (sN S)
def stC (v : Nat → Nat) (a : Nat × Nat) (N : Nat) : Nat × Nat := if v N < a.2 then (N, v N) else a
theorem qd_64 (n N : Nat) : qd n 64 N = injD n N 0 := by
  unfold qd
  cases injD n N 0 <;> rfl
theorem valC_le {S : Sc} (ho : okS S) (N : Nat) : valC S N ≤ 30 := by
  have hn := ho.1
  have h1 : valC S N ≤ 5 * sN S := sum_b (fun k hk => by
    have h1 := dist_lt (dg_lt (sN S) N k) (ho.2.1 k hk).2.2.2
    omega)
  omega
section CT
variable {kind used bay likes who lamp due : Nat → Int32} {count day dues draw : Int32} {fkind fused fbay flikes fwho flamp fdue fgain : Nat → Int32} {fcount fday fdues fdraw : Int32} {mu mb : Nat → Nat → Int32} {md mz mr : Nat → Int32} {next known : Int32} {now undone : Nat → Int32} {undos : Int32} {S : Sc}
theorem near29 (hX : isX S kind used bay likes who lamp due count day dues draw) (ho : okS S) {N : Nat} (k18) (b best : Nat → Int32) (worth free dc x1 : Int32) (hb : ∀ h, h < sN S → b h = nI (dg (sN S) N h)) : f_X6_dealNearest_c29 k18 fu likes (nI (sN S)) b best worth free dc x1 0 0 = if x1 = 0 then f_X6_dealNearest_c81 k18 likes (nI (sN S)) b best worth free dc x1 (nI (valC S N)) else if nI (valC S N) < worth then f_X6_dealNearest_c81 k18 likes (nI (sN S)) b best worth free dc x1 (nI (valC S N)) else f_X6_dealNearest_c89 k18 likes (nI (sN S)) b best worth free dc x1 := by
  have hn := ho.1
  refine pre_all (fun f (a : Int32) k => f_X6_dealNearest_c29 k18 f likes (nI (sN S)) b best worth free dc x1 a (nI k)) (fun k => nI (sumN (fun h => dist (dg (sN S) N h) (sL S h)) k)) (sN S) _ (by omega) ?_ ?_
  · intro f k hk
    show f_X6_dealNearest_c29 k18 (f + 1) likes (nI (sN S)) b best worth free dc x1 (nI (sumN (fun h => dist (dg (sN S) N h) (sL S h)) k)) (nI k) = f_X6_dealNearest_c29 k18 f likes (nI (sN S)) b best worth free dc x1 (nI (sumN (fun h => dist (dg (sN S) N h) (sL S h)) (k + 1))) (nI (k + 1))
    have hd := dg_lt (sN S) N k
    rw [f_X6_dealNearest_c29, if_pos (nI_lt hk (by omega)), if_pos (inb_nI (show k < 6 by omega) (by decide)), nI_cl (by omega), hb k hk, jn_eq, farFrom3 hX ho hk (by omega), sb, n_add, nI_1]
    rfl
  · intro f
    show f_X6_dealNearest_c29 k18 (f + 1) likes (nI (sN S)) b best worth free dc x1 (nI (valC S N)) (nI (sN S)) = _
    rw [f_X6_dealNearest_c29, if_neg (nI_nlt (Nat.le_refl _) (by omega))]
abbrev XC : Type := Nat × (Nat → Int32) × (Nat → Int32) × Int32 × Int32 × Int32
def RpC (n p i : Nat) (a : Nat × Nat) (x : XC) : Prop := 719 < x.1 + i ∧ x.2.2.2.2.2 = nI i ∧ (∀ h, h < n → x.2.1 h = nI (dg n p h)) ∧ x.2.2.2.2.1 = nI (frD 63 n p) ∧ (∀ h, h < n → x.2.2.1 h = nI (dg n a.1 h)) ∧ x.2.2.2.1 = nI a.2 ∧ a.2 < 99
def NxC (likes : Nat → Int32) (n : Nat) (x : XC) := f_X6_dealNearest_c89 (f_X6_dealNearest_c18 x.1) likes (nI n) x.2.1 x.2.2.1 x.2.2.2.1 x.2.2.2.2.1 (nI n) x.2.2.2.2.2
theorem nearN (hX : isX S kind used bay likes who lamp due count day dues draw) (ho : okS S) : ∀ p N i a x, N < 6 ^ sN S → qd (sN S) 64 N = true → chkN 63 (sN S) p N = true → i < 719 → RpC (sN S) p i a x → ∃ x', NxC likes (sN S) x = NxC likes (sN S) x' ∧ RpC (sN S) N (i + 1) (stC (valC S) a N) x' := by
  have hn := ho.1
  rintro p N i a ⟨f, b, best, worth, free, way⟩ hN hq hc hi ⟨q1, q2, q3, q4, q5, q6, r7⟩
  have r1 : 719 < f + i := q1
  have r2 : way = nI i := q2
  have r3 : ∀ h, h < sN S → b h = nI (dg (sN S) p h) := q3
  have r4 : free = nI (frD 63 (sN S) p) := q4
  have r5 : ∀ h, h < sN S → best h = nI (dg (sN S) a.1 h) := q5
  have r6 : worth = nI a.2 := q6
  clear q1 q2 q3 q4 q5 q6
  obtain ⟨f, rfl⟩ : ∃ g, f = g + 1 := ⟨f - 1, by omega⟩
  obtain ⟨b', eb, hb'⟩ := next_N hn r3 hc
  have hv := valC_le ho N
  have e1 : NxC likes (sN S) (f + 1, b, best, worth, free, way) = (if nI (valC S N) < nI a.2 then f_X6_dealNearest_c81 (f_X6_dealNearest_c18 f) likes (nI (sN S)) b' best worth (nI (frD 63 (sN S) N)) (nI (sN S)) (nI (i + 1)) (nI (valC S N)) else f_X6_dealNearest_c89 (f_X6_dealNearest_c18 f) likes (nI (sN S)) b' best worth (nI (frD 63 (sN S) N)) (nI (sN S)) (nI (i + 1))) := by
    show f_X6_dealNearest_c89 (f_X6_dealNearest_c18 (f + 1)) likes (nI (sN S)) b best worth free (nI (sN S)) way = _
    unfold f_X6_dealNearest_c89
    rw [r4, eb, sb, if_neg (show ¬ (1 : Int32) = 0 by decide), r2, nI_1, f_X6_dealNearest_c18, if_pos (show nI (i + 1) < (720 : Int32) from nI_lt (b := 720) (by omega) (by decide)), near29 hX ho _ _ _ _ _ _ _ hb', if_neg (n_0 (by omega) (by omega)), r6]
    rfl
  rw [e1, if_n_lt (by omega) (by omega)]
  unfold stC
  by_cases c : valC S N < a.2
  · rw [if_pos c, if_pos c]
    refine ⟨(f, b', va_cpy b' best 0 0 6, nI (valC S N), nI (frD 63 (sN S) N), nI (i + 1)), rfl, ?_, rfl, hb', rfl, fun h hh => ?_, rfl, ?_⟩
    · show 719 < f + (i + 1)
      omega
    · show va_cpy b' best 0 0 6 h = nI (dg (sN S) N h)
      rw [cp6 _ _ (by omega)]
      exact hb' h hh
    · show valC S N < 99
      omega
  · rw [if_neg c, if_neg c]
    refine ⟨(f, b', best, worth, nI (frD 63 (sN S) N), nI (i + 1)), rfl, ?_, rfl, hb', rfl, r5, r6, r7⟩
    show 719 < f + (i + 1)
    omega
theorem near6 (hX : isX S kind used bay likes who lamp due count day dues draw) (ho : okS S) (b best : Nat → Int32) (worth free dc : Int32) : ∃ r, f_X6_dealNearest likes count b best worth free dc = some r ∧ (∀ h, h < sN S → r.2.1 h = nI (dg (sN S) (foD (qd (sN S) 64) (stC (valC S)) (6 ^ sN S) 0 (0, 99)).1 h)) ∧ r.2.2.1 = nI (foD (qd (sN S) 64) (stC (valC S)) (6 ^ sN S) 0 (0, 99)).2 ∧ r.2.2.2.2 = nI (sN S) := by
  have hn := ho.1
  obtain ⟨N0, h1, h2, h3, h4⟩ := walk_all (full_C hn) (Rp := RpC (sN S)) (st := stC (valC S)) (Nx := NxC likes (sN S)) (0, 99) (nearN hX ho)
  obtain ⟨b', eb, hb'⟩ := begin_B b free dc h3
  have hv := valC_le ho N0
  have e0 : stC (valC S) (0, 99) N0 = (N0, valC S N0) := by
    unfold stC
    rw [if_pos (show valC S N0 < 99 by omega)]
  obtain ⟨p, i, x', h5, h6, h7⟩ := h4 (99999, b', va_cpy b' best 0 0 6, nI (valC S N0), nI (frD 63 (sN S) N0), nI 0) (by
    rw [e0]
    refine ⟨by show 719 < 99999 + 0; decide, rfl, hb', rfl, fun h hh => ?_, rfl, ?_⟩
    · show va_cpy b' best 0 0 6 h = nI (dg (sN S) N0 h)
      rw [cp6 _ _ (by omega)]
      exact hb' h hh
    · show valC S N0 < 99
      omega)
  obtain ⟨f, b2, best2, worth2, free2, way2⟩ := x'
  obtain ⟨r1, r2, r3, r4, r5, r6, r7⟩ := h7
  have r3 : ∀ h, h < sN S → b2 h = nI (dg (sN S) p h) := r3
  have r4 : free2 = nI (frD 63 (sN S) p) := r4
  obtain ⟨r, er, hr⟩ := next_E hn r3 h5
  refine ⟨(r.2.1, best2, worth2, r.2.2, nI (sN S)), ?_, r5, r6, rfl⟩
  unfold f_X6_dealNearest
  rw [hX.1, show (63 : Int32) = nI 63 from rfl, eb, sb]
  show f_X6_dealNearest_c18 (99999 + 1) likes (nI (sN S)) b' best worth (nI (frD 63 (sN S) N0)) (nI (sN S)) (nI 0) = _
  rw [f_X6_dealNearest_c18, if_pos (show nI 0 < (720 : Int32) by decide), near29 hX ho _ _ _ _ _ _ _ hb', if_pos (show nI 0 = 0 from rfl)]
  have e7 : NxC likes (sN S) (f, b2, best2, worth2, free2, way2) = some (r.2.1, best2, worth2, r.2.2, nI (sN S)) := by
    show f_X6_dealNearest_c89 (f_X6_dealNearest_c18 f) likes (nI (sN S)) b2 best2 worth2 free2 (nI (sN S)) way2 = _
    unfold f_X6_dealNearest_c89
    rw [r4, er, sb, if_pos hr]
  rw [← e7, ← h6]
  rfl
theorem content43 (hM : isM S now) (ho : okS S) {N : Nat} (k21) (b : Nat → Int32) (x1 x2 x3 x4 x5 : Int32) (hb : ∀ h, h < sN S → b h = nI (dg (sN S) N h)) : f_X7_content_c43 k21 fu now b x1 x2 x3 x4 x5 0 0 = k21 now b x1 (if nI (valC S N) < x3 then x5 else x2) (if nI (valC S N) < x3 then nI (valC S N) else x3) x4 (x5 + 1) := by
  have hn := ho.1
  refine pre_all (fun f (a : Int32) k => f_X7_content_c43 k21 f now b x1 x2 x3 x4 x5 a (nI k)) (fun k => nI (sumN (fun h => dist (dg (sN S) N h) (sL S h)) k)) (sN S) _ (by omega) ?_ ?_
  · intro f k hk
    show f_X7_content_c43 k21 (f + 1) now b x1 x2 x3 x4 x5 (nI (sumN (fun h => dist (dg (sN S) N h) (sL S h)) k)) (nI k) = f_X7_content_c43 k21 f now b x1 x2 x3 x4 x5 (nI (sumN (fun h => dist (dg (sN S) N h) (sL S h)) (k + 1))) (nI (k + 1))
    have hd := dg_lt (sN S) N k
    have hL := (ho.2.1 k hk).2.2.2
    rw [f_X7_content_c43, jn_eq, hM.1, if_pos (nI_lt hk (by omega)), if_pos (inb_nI (show k < 6 by omega) (by decide)), nI_cl (by omega), hb k hk, jn_eq, likes7 hM ho hk, sb, apart7d (by omega) (by omega), sb, n_add, nI_1]
    rfl
  · intro f
    show f_X7_content_c43 k21 (f + 1) now b x1 x2 x3 x4 x5 (nI (valC S N)) (nI (sN S)) = _
    rw [f_X7_content_c43, jn_eq, hM.1, if_neg (nI_nlt (Nat.le_refl _) (by omega)), jn_eq, jn_eq]
    rfl
theorem content21 (hM : isM S now) (ho : okS S) (x1 : Int32) : ∀ d N f (b : Nat → Int32) (a : Nat × Nat), N + d = 6 ^ sN S → d < f → a.1 < 2 ^ 31 → a.2 ≤ 99 → ∃ b' g, f_X7_content_c21 f now b x1 (nI a.1) (nI a.2) (nI (6 ^ sN S)) (nI N) = f_X7_content_c21 (g + 1) now b' x1 (nI (foD (qd (sN S) 64) (stC (valC S)) d N a).1) (nI (foD (qd (sN S) 64) (stC (valC S)) d N a).2) (nI (6 ^ sN S)) (nI (6 ^ sN S)) ∧ (foD (qd (sN S) 64) (stC (valC S)) d N a).1 < 2 ^ 31 := by
  have hn := ho.1
  have h6 := p6 hn
  intro d
  induction d with
  | zero =>
    intro N f b a hN hf h1 h2
    obtain ⟨f, rfl⟩ : ∃ g, f = g + 1 := ⟨f - 1, by omega⟩
    have : N = 6 ^ sN S := by omega
    subst this
    exact ⟨b, f, rfl, h1⟩
  | succ d ih =>
    intro N f b a hN hf h1 h2
    obtain ⟨f, rfl⟩ : ∃ g, f = g + 1 := ⟨f - 1, by omega⟩
    obtain ⟨b', eb, hb'⟩ := dealt7 hM ho b (N := N) (by omega)
    rw [f_X7_content_c21, if_pos (nI_lt (show N < 6 ^ sN S by omega) (by omega)), eb, sb, foD_s, qd_64]
    cases c : injD (sN S) N 0 with
    | false =>
      rw [if_pos (show tf false = 0 from rfl), if_neg (by decide)]
      unfold f_X7_content_c108
      rw [nI_1]
      exact ih (N + 1) f b' a (by omega) (by omega) h1 h2
    | true =>
      have hv := valC_le ho N
      rw [if_neg (show ¬ tf true = 0 by decide), if_pos rfl, content43 hM ho _ _ _ _ _ _ _ hb', nI_1]
      rw [if_n_lt (by omega) (by omega), if_n_lt (by omega) (by omega)]
      have e1 : (if valC S N < a.2 then nI N else nI a.1) = nI (stC (valC S) a N).1 := by
        unfold stC
        split <;> rfl
      have e2 : (if valC S N < a.2 then nI (valC S N) else nI a.2) = nI (stC (valC S) a N).2 := by
        unfold stC
        split <;> rfl
      rw [e1, e2]
      refine ih (N + 1) f b' (stC (valC S) a N) (by omega) (by omega) ?_ ?_
      · unfold stC
        split
        · show N < 2 ^ 31
          omega
        · exact h1
      · unfold stC
        split
        · show valC S N ≤ 99
          omega
        · exact h2
theorem answer0 (best : Nat → Int32) (worth : Int32) {n : Nat} (hn : n ≤ 6) (x : Int32) (v : Nat → Int32) (hv : ∀ h, h < n → best h = v h) (hx : x < nI n) : (x < 0 ∧ f_X0_answer best worth (nI n) x = some worth) ∨ (¬ x < 0 ∧ ∃ k, k < n ∧ x = nI k ∧ f_X0_answer best worth (nI n) x = some (v k)) := by
  by_cases c : x < 0
  · left
    refine ⟨c, ?_⟩
    unfold f_X0_answer
    rw [if_pos c]
  · right
    refine ⟨c, ?_⟩
    have h1 : 0 ≤ x.toInt := by
      rw [l_lt] at c
      have : (0 : Int32).toInt = 0 := rfl
      omega
    have h2 : x.toInt < n := by
      rw [l_lt, l_lit (by omega)] at hx
      exact hx
    obtain ⟨k, hk, rfl⟩ := hold_x hn ⟨h1, h2⟩
    refine ⟨k, hk, rfl, ?_⟩
    unfold f_X0_answer
    rw [if_neg c, if_pos hx, if_pos (inb_nI (by omega) (by decide)), nI_cl (by omega), jn_eq, hv k hk]
theorem neg_lt {x : Int32} {n : Nat} (hn : n ≤ 6) (h : x < 0) : x < nI n := by
  rw [l_lt] at h
  rw [l_lt, l_lit (by omega)]
  have : (0 : Int32).toInt = 0 := rfl
  omega
theorem st_content (hC : RC kind used bay likes who lamp due count day dues draw mu mb md mz mr next known now undone undos) (bays b best : Nat → Int32) (worth free dc : Int32) (x : Int32) : ∃ rx rm, f_X6_content likes count b best worth free dc x = some rx ∧ f_X7_content now bays x = some rm ∧ rx.1 = rm.1 := by
  obtain ⟨S, hs, ho, hh, hX, hM, hp, hq⟩ := id hC
  have hn := ho.1
  have h6 := p6 hn
  have hfu : fu = 100000 := rfl
  unfold f_X6_content f_X7_content
  by_cases c0 : x < (-1)
  · rw [if_pos c0, if_pos c0]
    exact ⟨_, _, rfl, rfl, rfl⟩
  · rw [if_neg c0, if_neg c0, numbers7 hM ho, sb]
    obtain ⟨b', g, e1, e2⟩ := content21 hM ho x (6 ^ sN S) 0 fu bays (0, 99) (by omega) (by omega) (by decide) (by decide)
    have e1 : f_X7_content_c21 fu now bays x 0 99 (nI (6 ^ sN S)) 0 = _ := e1
    rw [e1]
    obtain ⟨b3, e4, h4⟩ := dealt7 hM ho b' e2
    rw [f_X7_content_c21, if_neg (nI_nlt (Nat.le_refl _) (by omega)), e4, sb, jn_eq, hM.1]
    obtain ⟨r, er, h1, h2, h3⟩ := near6 hX ho b best worth free dc
    rw [er, sb, hX.1]
    by_cases c2 : x < nI (sN S)
    · rw [if_pos c2, if_pos c2, h3]
      rcases answer0 r.2.1 r.2.2.1 hn x _ h1 c2 with ⟨c1, e5⟩ | ⟨c1, k, hk, rfl, e5⟩
      · rw [e5, sb, if_pos c1]
        exact ⟨_, _, rfl, rfl, h2⟩
      · rw [e5, sb, if_neg c1, if_pos (inb_nI (by omega) (by decide)), nI_cl (by omega), jn_eq]
        exact ⟨_, _, rfl, rfl, (h4 k hk).symm⟩
    · rw [if_neg c2, if_neg c2, if_neg (fun h => c2 (neg_lt hn h))]
      exact ⟨_, _, rfl, rfl, rfl⟩
end CT
theorem S_content : St_content Rel := by
  intro t_now_kind t_now_used t_now_bay t_now_likes t_now_who t_now_lamp t_now_due t_now_gain t_now_count t_now_day t_now_dues t_now_draw t_past_marks_used t_past_marks_bay t_past_marks_day t_past_marks_dues t_past_marks_draw t_past_next t_past_known t_foreseen_kind t_foreseen_used t_foreseen_bay t_foreseen_likes t_foreseen_who t_foreseen_lamp t_foreseen_due t_foreseen_gain t_foreseen_count t_foreseen_day t_foreseen_dues t_foreseen_draw t_imageOfNow_kind t_imageOfNow_used t_imageOfNow_bay t_imageOfNow_likes t_imageOfNow_who t_imageOfNow_lamp t_imageOfNow_due t_imageOfNow_gain t_imageOfNow_count t_imageOfNow_day t_imageOfNow_dues t_imageOfNow_draw t_imageOfPast_marks_used t_imageOfPast_marks_bay t_imageOfPast_marks_day t_imageOfPast_marks_dues t_imageOfPast_marks_draw t_imageOfPast_next t_imageOfPast_known t_hasImage t_deal_bay t_deal_best t_deal_worth t_deal_free t_deal_count t_tape_letters t_tape_length t_tape_place t_sheets_items t_sheets_lane t_sheets_size u_now u_mores u_tape u_typed u_place u_isFault u_readLamps u_read u_undone u_undos u_aside u_bays u_bests u_kept u_keptUndos u_isKept u_lanes u_sizes u_items u_moved y0 hR
  obtain ⟨hC, hI, hT, hS⟩ := hR
  obtain ⟨rx, rm, e1, e2, e3⟩ := st_content hC u_bays t_deal_bay t_deal_best t_deal_worth t_deal_free t_deal_count y0
  exact ⟨rx, rm, e1, e2, e3, hC, hI, hT, hS⟩
