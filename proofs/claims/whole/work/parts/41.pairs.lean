/-! MATHEMATICS 12: pairs on both sides; cough; who would swap -/
theorem fwd_in {β : Type} (L : Nat → Nat → Option β) (P : Nat → Bool) (n : Nat) (out : Nat → Option β) (K : Option β) (step : ∀ f j, j < n → L (f + 1) j = if P j = true then out j else L f (j + 1)) (stop : ∀ f, L (f + 1) n = K) : ∀ d j f, j + d = n → d < f → L f j = match fF P d j with
    | some j' => out j'
    | none => K := by
  intro d
  induction d with
  | zero =>
    intro j f hj hf
    obtain ⟨f, rfl⟩ : ∃ g, f = g + 1 := ⟨f - 1, by omega⟩
    have : j = n := by omega
    subst this
    exact stop f
  | succ d ih =>
    intro j f hj hf
    obtain ⟨f, rfl⟩ : ∃ g, f = g + 1 := ⟨f - 1, by omega⟩
    rw [step f j (by omega), fF_s]
    by_cases c : P j = true
    · rw [if_pos c, if_pos c]
    · rw [if_neg c, if_neg c]
      exact ih (j + 1) f (by omega) (by omega)
theorem fwd_out (L : Nat → Nat → Option Int32) (P : Nat → Nat → Bool) (n : Nat) (step : ∀ f i, i < n → L (f + 1) i = match fF (P i) (n - 1 - i) (i + 1) with
    | some j => some (nI (10 * i + j))
    | none => L f (i + 1)) (stop : ∀ f, L (f + 1) n = some (-4)) : ∀ m i f, i + m = n → m < f → L f i = some (wI (pr P n m i) (-4)) := by
  intro m
  induction m with
  | zero =>
    intro i f hi hf
    obtain ⟨f, rfl⟩ : ∃ g, f = g + 1 := ⟨f - 1, by omega⟩
    have : i = n := by omega
    subst this
    exact stop f
  | succ m ih =>
    intro i f hi hf
    obtain ⟨f, rfl⟩ : ∃ g, f = g + 1 := ⟨f - 1, by omega⟩
    rw [step f i (by omega), pr_s]
    cases e : fF (P i) (n - 1 - i) (i + 1) with
    | some j => rfl
    | none => exact ih (i + 1) f (by omega) (by omega)
def bV (P : Nat → Bool) (i d k : Nat) (old : Int32) : Int32 := match fF P d k with
  | some j => nI (10 * i + j)
  | none => old
theorem back_in {β : Type} (L : Nat → Int32 → Nat → Option β) (P : Nat → Bool) (i N : Nat) (K : Int32 → Option β) (old : Int32) (step : ∀ f x j, i < j + 1 → j + 1 < N → L (f + 1) x (j + 1) = L f (if P (j + 1) = true then nI (10 * i + (j + 1)) else x) j) (stop : ∀ f x, L (f + 1) x i = K x) : ∀ d f, i + d < N → d < f → L f (bV P i (N - 1 - i - d) (i + d + 1) old) (i + d) = K (bV P i (N - 1 - i) (i + 1) old) := by
  intro d
  induction d with
  | zero =>
    intro f hd hf
    obtain ⟨f, rfl⟩ : ∃ g, f = g + 1 := ⟨f - 1, by omega⟩
    exact stop f _
  | succ d ih =>
    intro f hd hf
    obtain ⟨f, rfl⟩ : ∃ g, f = g + 1 := ⟨f - 1, by omega⟩
    have h1 := step f (bV P i (N - 1 - i - (d + 1)) (i + (d + 1) + 1) old) (i + d) (by omega) (by omega)
    rw [show i + (d + 1) = i + d + 1 by omega] at h1 ⊢
    rw [h1, ← ih f (by omega) (by omega)]
    congr 1
    have e : N - 1 - i - d = (N - 1 - i - (d + 1)) + 1 := by omega
    rw [e]
    unfold bV
    rw [fF_s]
    by_cases c : P (i + d + 1) = true
    · rw [if_pos c, if_pos c]
    · rw [if_neg c, if_neg c]
theorem back_out (L : Nat → Int32 → Nat → Option Int32) (P : Nat → Nat → Bool) (N : Nat) (step : ∀ f x i, i < N → L (f + 1) x (i + 1) = L f (bV (P i) i (N - 1 - i) (i + 1) x) i) (stop : ∀ f x, L (f + 1) x 0 = some x) : ∀ i f, i ≤ N → i < f → L f (wI (pr P N (N - i) i) (-4)) i = some (wI (pr P N N 0) (-4)) := by
  intro i
  induction i with
  | zero =>
    intro f _ hf
    obtain ⟨f, rfl⟩ : ∃ g, f = g + 1 := ⟨f - 1, by omega⟩
    exact stop f _
  | succ i ih =>
    intro f hi hf
    obtain ⟨f, rfl⟩ : ∃ g, f = g + 1 := ⟨f - 1, by omega⟩
    rw [step f _ i (by omega), ← ih f (by omega) (by omega)]
    congr 1
    have e : N - i = (N - (i + 1)) + 1 := by omega
    rw [e, pr_s]
    unfold bV
    cases fF (P i) (N - 1 - i) (i + 1) with
    | some j => rfl
    | none => rfl
theorem bV_top (P : Nat → Bool) (i k : Nat) (old : Int32) : bV P i 0 k old = old := rfl
section PR
variable {kind used bay likes who lamp due : Nat → Int32} {count day dues draw : Int32} {fkind fused fbay flikes fwho flamp fdue fgain : Nat → Int32} {fcount fday fdues fdraw : Int32} {mu mb : Nat → Nat → Int32} {md mz mr : Nat → Int32} {next known : Int32} {now undone : Nat → Int32} {undos : Int32} {S : Sc}
def alk' (S : Sc) (i j : Nat) : Bool := decide (j < sN S) && alk S i j
theorem ten (i j : Nat) : (10 : Int32) * nI i + nI j = nI (10 * i + j) := by
  rw [show (10 : Int32) = nI 10 from rfl, n_mul, n_add]
theorem alike7 (hM : isM S now) (ho : okS S) : f_X7_alikes now = some (wI (pr (alk S) (sN S) (sN S) 0) (-4)) := by
  have hn := ho.1
  have hfu : fu = 100000 := rfl
  have h1 : pr (alk S) (sN S) (sN S) 0 = pr (alk' S) 6 6 0 := by
    rw [pr_ext (P := alk' S) hn (fun a b _ h => by unfold alk'; rw [decide_eq_false (by omega)]; rfl) (m := sN S) (e := 6) (i := 0) (by omega) hn]
    exact pr_congr (fun a b _ h => by unfold alk'; rw [decide_eq_true h]; rfl)
  rw [h1]
  have inner : ∀ k5 (i : Nat) (old : Int32), i < 6 → f_X7_alikes_c11 k5 fu now old (nI i) 5 = k5 now (bV (alk' S i) i (6 - 1 - i) (i + 1) old) (nI i + (-1)) := by
    intro k5 i old hi
    have := back_in (fun f x j => f_X7_alikes_c11 k5 f now x (nI i) (nI j)) (alk' S i) i 6 (fun x => k5 now x (nI i + (-1))) old ?_ ?_ (5 - i) fu (by omega) (by omega)
    · rw [show 6 - 1 - i - (5 - i) = 0 by omega, bV_top, show i + (5 - i) = 5 by omega] at this
      exact this
    · intro f x j h1 h2
      show f_X7_alikes_c11 k5 (f + 1) now x (nI i) (nI (j + 1)) = f_X7_alikes_c11 k5 f now (if alk' S i (j + 1) = true then nI (10 * i + (j + 1)) else x) (nI i) (nI j)
      rw [f_X7_alikes_c11, jn_eq, hM.1, if_pos (nI_lt h1 (by omega)), if_n_lt (by omega) (by omega)]
      unfold f_X7_alikes_c68 f_X7_alikes_c69 alk' alk
      simp only [jn_eq, pk_m1, if_true]
      by_cases c0 : j + 1 < sN S
      · have hi' : i < sN S := by omega
        obtain ⟨hK, hU, hB, hL⟩ := ho.2.1 i hi'
        obtain ⟨hKj, hUj, hBj, hLj⟩ := ho.2.1 (j + 1) c0
        rw [if_pos c0, bay7 hM ho hi', sb, bay7 hM ho c0, sb, apart7 (by omega) (by omega), sb, show (1 : Int32) = nI 1 from rfl, if_n_eq (by split <;> omega) (by decide), decide_eq_true c0, used7 hM ho hi', sb, used7 hM ho c0, sb, if_n_eq (by omega) (by omega), up7 hM ho hi', sb]
        show (if dist (sB S i) (sB S (j + 1)) = 1 then _ else _) = _
        by_cases c1 : dist (sB S i) (sB S (j + 1)) = 1
        · rw [if_pos c1, decide_eq_true c1]
          by_cases c2 : sU S i = sU S (j + 1)
          · rw [if_pos c2, decide_eq_true c2]
            show f_X7_alikes_c11 k5 f now (if (if tf (tk S i) = 0 then nI 1 else 0) = 0 then x else 10 * nI i + nI (j + 1)) (nI i) (nI j) = _
            rw [ten]
            cases tk S i <;> rfl
          · rw [if_neg c2, decide_eq_false c2]
            rfl
        · rw [if_neg c1, decide_eq_false c1]
          rfl
      · rw [if_neg c0, decide_eq_false c0]
        rfl
    · intro f x
      show f_X7_alikes_c11 k5 (f + 1) now x (nI i) (nI i) = _
      rw [f_X7_alikes_c11, if_neg (nI_nlt (Nat.le_refl _) (by omega))]
  have outer := back_out (fun f x i => f_X7_alikes_c5 f now x (nI i + (-1))) (alk' S) 6 ?_ ?_ 6 fu (by omega) (by omega)
  · exact outer
  · intro f x i hi
    show f_X7_alikes_c5 (f + 1) now x (nI (i + 1) + (-1)) = f_X7_alikes_c5 f now (bV (alk' S i) i (6 - 1 - i) (i + 1) x) (nI i + (-1))
    rw [pk_m1, f_X7_alikes_c5, if_neg (nI_pos (by omega)), inner _ i x hi]
  · intro f x
    rfl
theorem wI_4 {o : Option Nat} (h : ∀ c, o = some c → c < 100) : (wI o (-4) = (-4)) ↔ o = none := by
  cases o with
  | none => exact ⟨fun _ => rfl, fun _ => rfl⟩
  | some c =>
    have hc := h c rfl
    refine ⟨fun e => ?_, fun e => by cases e⟩
    exfalso
    have e : nI c = (-4) := e
    rw [l_eq, l_lit (by omega)] at e
    have : ((-4 : Int32)).toInt = -4 := rfl
    omega
theorem pr_lt {P : Nat → Nat → Bool} {n m : Nat} (hn : n ≤ 6) (hm : m ≤ 6) : ∀ c, pr P n m 0 = some c → c < 100 := by
  intro c e
  obtain ⟨a, b, h1, h2, h3, h4, h5, -⟩ := pr_some e
  omega
def alS (S : Sc) : Option Nat := pr (alk S) (sN S) (sN S) 0
theorem alS_4 (ho : okS S) : (wI (alS S) (-4) = (-4)) ↔ alS S = none := wI_4 (pr_lt ho.1 ho.1)
def anyA (S : Sc) (k : Nat) : Bool := (alS (passN k S)).isSome
theorem cough_x (hX : isX S fkind fused fbay flikes fwho flamp fdue fcount fday fdues fdraw) (ho : okS S) (fgain : Nat → Int32) (x : Int32) : ∃ r, f_X6_cough_c24 fu kind used bay likes who lamp due count day dues draw fkind fused fbay flikes fwho flamp fdue fgain fcount fday fdues fdraw x 0 = some r ∧ r.1 = match fF (anyA S) 100 0 with
    | some k => if x = 0 then nI k else wI (alS (passN k S)) (-4)
    | none => (-4) := by
  refine ex_all (fun f (a : (Nat → Int32) × (Nat → Int32) × Int32 × Int32) k => f_X6_cough_c24 f kind used bay likes who lamp due count day dues draw fkind a.1 fbay flikes fwho flamp fdue a.2.1 fcount a.2.2.1 a.2.2.2 fdraw x (nI k)) (fun k a => isX (passN k S) fkind a.1 fbay flikes fwho flamp fdue fcount a.2.2.1 a.2.2.2 fdraw) (anyA S) 100 (fun o res => ∃ r, res = some r ∧ r.1 = match o with
    | some k => if x = 0 then nI k else wI (alS (passN k S)) (-4)
    | none => (-4)) (by decide) (fused, fgain, fday, fdues) hX ?_ ?_ ?_
  · rintro f k ⟨a, g, y, z⟩ hk hI hP
    have hI : isX (passN k S) fkind a fbay flikes fwho flamp fdue fcount y z fdraw := hI
    have ha : f_X3_firstAlike a fbay fcount = some (wI (alS (passN k S)) (-4)) := alike3 hI (ok_passN k ho)
    have hne : ¬ wI (alS (passN k S)) (-4) = (-4) := by
      rw [alS_4 (ok_passN k ho)]
      intro e
      unfold anyA at hP
      rw [e] at hP
      cases hP
    refine ⟨(if x = 0 then nI k else wI (alS (passN k S)) (-4), fkind, a, fbay, flikes, fwho, flamp, fdue, g, fcount, y, z, fdraw), ?_, rfl⟩
    show f_X6_cough_c24 (f + 1) kind used bay likes who lamp due count day dues draw fkind a fbay flikes fwho flamp fdue g fcount y z fdraw x (nI k) = _
    rw [f_X6_cough_c24, if_neg (show ¬ (99 : Int32) < nI k from nI_nlt (a := 99) (by omega) (by decide)), ha, sb, if_neg hne, jn_eq]
  · rintro f k ⟨a, g, y, z⟩ hk hI hP
    have hI : isX (passN k S) fkind a fbay flikes fwho flamp fdue fcount y z fdraw := hI
    have ha : f_X3_firstAlike a fbay fcount = some (wI (alS (passN k S)) (-4)) := alike3 hI (ok_passN k ho)
    have hne : wI (alS (passN k S)) (-4) = (-4) := by
      rw [alS_4 (ok_passN k ho)]
      unfold anyA at hP
      cases e : alS (passN k S) with
      | none => rfl
      | some c => rw [e] at hP; cases hP
    obtain ⟨r, e1, e2⟩ := passDay3 hI (ok_passN k ho) g
    refine ⟨r, ?_, ?_⟩
    · show f_X6_cough_c24 (f + 1) kind used bay likes who lamp due count day dues draw fkind a fbay flikes fwho flamp fdue g fcount y z fdraw x (nI k) = f_X6_cough_c24 f kind used bay likes who lamp due count day dues draw fkind r.1 fbay flikes fwho flamp fdue r.2.1 fcount r.2.2.1 r.2.2.2 fdraw x (nI (k + 1))
      rw [f_X6_cough_c24, if_neg (show ¬ (99 : Int32) < nI k from nI_nlt (a := 99) (by omega) (by decide)), ha, sb, if_pos hne, e1, sb, nI_1]
    · show isX (passN (k + 1) S) _ _ _ _ _ _ _ _ _ _ _
      rw [passN_s]
      exact e2
  · rintro f ⟨a, g, y, z⟩ hI
    exact ⟨_, rfl, rfl⟩
theorem cough_m (hM : isM S now) (ho : okS S) (mores aside : Nat → Int32) (x : Int32) : ∃ r, f_X7_cough_c18 fu now mores aside x 0 = some r ∧ (r.1 = match fF (anyA S) 100 0 with
    | some k => if x = 0 then nI k else wI (alS (passN k S)) (-4)
    | none => (-4)) ∧ ∀ j, j < 40 → r.2.1 j = aside j := by
  refine ex_all (fun f (a : (Nat → Int32) × (Nat → Int32)) k => f_X7_cough_c18 f a.1 a.2 aside x (nI k)) (fun k a => isM (passN k S) a.1) (anyA S) 100 (fun o res => ∃ r, res = some r ∧ (r.1 = match o with
    | some k => if x = 0 then nI k else wI (alS (passN k S)) (-4)
    | none => (-4)) ∧ ∀ j, j < 40 → r.2.1 j = aside j) (by decide) (now, mores) hM ?_ ?_ ?_
  · rintro f k ⟨a, g⟩ hk hI hP
    have hI : isM (passN k S) a := hI
    have ha : f_X7_alikes a = some (wI (alS (passN k S)) (-4)) := alike7 hI (ok_passN k ho)
    have hne : ¬ wI (alS (passN k S)) (-4) = (-4) := by
      rw [alS_4 (ok_passN k ho)]
      intro e
      unfold anyA at hP
      rw [e] at hP
      cases hP
    obtain ⟨b, eb, hb⟩ := backs7 a aside
    refine ⟨(if x = 0 then nI k else wI (alS (passN k S)) (-4), b, g, aside), ?_, rfl, hb⟩
    show f_X7_cough_c18 (f + 1) a g aside x (nI k) = _
    rw [f_X7_cough_c18, if_pos (show nI k < (100 : Int32) from nI_lt (b := 100) hk (by decide)), ha, sb, if_neg hne]
    unfold f_X7_cough_c43
    rw [ha, sb, eb, sb, jn_eq, if_neg (show ¬ nI k = (100 : Int32) from fun e => by
      have := (nI_eq (b := 100) (show k < 2 ^ 31 by omega) (by decide)).mp e
      omega)]
  · rintro f k ⟨a, g⟩ hk hI hP
    have hI : isM (passN k S) a := hI
    have ha : f_X7_alikes a = some (wI (alS (passN k S)) (-4)) := alike7 hI (ok_passN k ho)
    have hne : wI (alS (passN k S)) (-4) = (-4) := by
      rw [alS_4 (ok_passN k ho)]
      unfold anyA at hP
      cases e : alS (passN k S) with
      | none => rfl
      | some c => rw [e] at hP; cases hP
    obtain ⟨r, e1, e2⟩ := goesBy7 g hI (ok_passN k ho)
    refine ⟨r, ?_, ?_⟩
    · show f_X7_cough_c18 (f + 1) a g aside x (nI k) = f_X7_cough_c18 f r.1 r.2 aside x (nI (k + 1))
      rw [f_X7_cough_c18, if_pos (show nI k < (100 : Int32) from nI_lt (b := 100) hk (by decide)), ha, sb, if_pos hne, e1, sb, nI_1]
    · show isM (passN (k + 1) S) r.1
      rw [passN_s]
      exact e2
  · rintro f ⟨a, g⟩ hI
    have hI : isM (passN 100 S) a := hI
    have ha : f_X7_alikes a = some (wI (alS (passN 100 S)) (-4)) := alike7 hI (ok_passN 100 ho)
    obtain ⟨b, eb, hb⟩ := backs7 a aside
    refine ⟨(-4, b, g, aside), ?_, rfl, hb⟩
    show f_X7_cough_c18 (f + 1) a g aside x (nI 100) = _
    rw [f_X7_cough_c18, if_neg (show ¬ nI 100 < (100 : Int32) by decide)]
    unfold f_X7_cough_c43
    rw [ha, sb, eb, sb]
    rfl
theorem st_cough (hC : RC kind used bay likes who lamp due count day dues draw mu mb md mz mr next known now undone undos) (mores aside : Nat → Int32) (fkind fused fbay flikes fwho flamp fdue fgain : Nat → Int32) (fcount fday fdues fdraw : Int32) (x : Int32) : ∃ rx rm, f_X6_cough kind used bay likes who lamp due count day dues draw fkind fused fbay flikes fwho flamp fdue fgain fcount fday fdues fdraw x = some rx ∧ f_X7_cough now mores aside x = some rm ∧ rx.1 = rm.1 ∧ RC kind used bay likes who lamp due count day dues draw mu mb md mz mr next known rm.2.1 undone undos := by
  obtain ⟨S, hs, ho, hh, hX, hM, hp, hq⟩ := id hC
  unfold f_X6_cough f_X7_cough
  rw [wi1, sb, in1, sb]
  by_cases c0 : 0 ≤ x.toInt ∧ x.toInt ≤ 1
  · rw [if_neg (tf_y c0), if_neg (tf_y c0)]
    obtain ⟨b, eb, hb⟩ := become3 hX ho fkind fused fbay flikes fwho flamp fdue fcount fday fdues fdraw
    obtain ⟨as, ea, ha⟩ := asides7 now aside
    rw [eb, sb, ea, sb]
    obtain ⟨rx, e1, e2⟩ := cough_x (kind := kind) (used := used) (bay := bay) (likes := likes) (who := who) (lamp := lamp) (due := due) (count := count) (day := day) (dues := dues) (draw := draw) hb ho fgain x
    obtain ⟨rm, e3, e4, e5⟩ := cough_m hM ho mores as x
    exact ⟨rx, rm, e1, e3, by rw [e2, e4], RC_now hC (fun j hj => (e5 j hj).trans (ha j hj))⟩
  · rw [if_pos (tf_x c0), if_pos (tf_x c0)]
    exact ⟨_, _, rfl, rfl, rfl, hC⟩
end PR
theorem S_takes : St_takes Rel := by
  intro t_now_kind t_now_used t_now_bay t_now_likes t_now_who t_now_lamp t_now_due t_now_gain t_now_count t_now_day t_now_dues t_now_draw t_past_marks_used t_past_marks_bay t_past_marks_day t_past_marks_dues t_past_marks_draw t_past_next t_past_known t_foreseen_kind t_foreseen_used t_foreseen_bay t_foreseen_likes t_foreseen_who t_foreseen_lamp t_foreseen_due t_foreseen_gain t_foreseen_count t_foreseen_day t_foreseen_dues t_foreseen_draw t_imageOfNow_kind t_imageOfNow_used t_imageOfNow_bay t_imageOfNow_likes t_imageOfNow_who t_imageOfNow_lamp t_imageOfNow_due t_imageOfNow_gain t_imageOfNow_count t_imageOfNow_day t_imageOfNow_dues t_imageOfNow_draw t_imageOfPast_marks_used t_imageOfPast_marks_bay t_imageOfPast_marks_day t_imageOfPast_marks_dues t_imageOfPast_marks_draw t_imageOfPast_next t_imageOfPast_known t_hasImage t_deal_bay t_deal_best t_deal_worth t_deal_free t_deal_count t_tape_letters t_tape_length t_tape_place t_sheets_items t_sheets_lane t_sheets_size u_now u_mores u_tape u_typed u_place u_isFault u_readLamps u_read u_undone u_undos u_aside u_bays u_bests u_kept u_keptUndos u_isKept u_lanes u_sizes u_items u_moved y0 hR
  obtain ⟨hC, hI, hT, hS⟩ := hR
  obtain ⟨rx, rm, e1, e2, e3, e4⟩ := st_takes hC u_mores u_aside t_foreseen_kind t_foreseen_used t_foreseen_bay t_foreseen_likes t_foreseen_who t_foreseen_lamp t_foreseen_due t_foreseen_gain t_foreseen_count t_foreseen_day t_foreseen_dues t_foreseen_draw y0
  exact ⟨rx, rm, e1, e2, e3, e4, hI, hT, hS⟩
theorem S_cough : St_cough Rel := by
  intro t_now_kind t_now_used t_now_bay t_now_likes t_now_who t_now_lamp t_now_due t_now_gain t_now_count t_now_day t_now_dues t_now_draw t_past_marks_used t_past_marks_bay t_past_marks_day t_past_marks_dues t_past_marks_draw t_past_next t_past_known t_foreseen_kind t_foreseen_used t_foreseen_bay t_foreseen_likes t_foreseen_who t_foreseen_lamp t_foreseen_due t_foreseen_gain t_foreseen_count t_foreseen_day t_foreseen_dues t_foreseen_draw t_imageOfNow_kind t_imageOfNow_used t_imageOfNow_bay t_imageOfNow_likes t_imageOfNow_who t_imageOfNow_lamp t_imageOfNow_due t_imageOfNow_gain t_imageOfNow_count t_imageOfNow_day t_imageOfNow_dues t_imageOfNow_draw t_imageOfPast_marks_used t_imageOfPast_marks_bay t_imageOfPast_marks_day t_imageOfPast_marks_dues t_imageOfPast_marks_draw t_imageOfPast_next t_imageOfPast_known t_hasImage t_deal_bay t_deal_best t_deal_worth t_deal_free t_deal_count t_tape_letters t_tape_length t_tape_place t_sheets_items t_sheets_lane t_sheets_size u_now u_mores u_tape u_typed u_place u_isFault u_readLamps u_read u_undone u_undos u_aside u_bays u_bests u_kept u_keptUndos u_isKept u_lanes u_sizes u_items u_moved y0 hR
  obtain ⟨hC, hI, hT, hS⟩ := hR
  obtain ⟨rx, rm, e1, e2, e3, e4⟩ := st_cough hC u_mores u_aside t_foreseen_kind t_foreseen_used t_foreseen_bay t_foreseen_likes t_foreseen_who t_foreseen_lamp t_foreseen_due t_foreseen_gain t_foreseen_count t_foreseen_day t_foreseen_dues t_foreseen_draw y0
  exact ⟨rx, rm, e1, e2, e3, e4, hI, hT, hS⟩
