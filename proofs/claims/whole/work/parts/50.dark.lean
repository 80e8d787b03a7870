/-! MATHEMATICS 21: dark, spare -/
/-- the last below n -/
def lst (P : Nat → Bool) : Nat → Option Nat
  | 0 => none
  | k + 1 => if P k = true then some k else lst P k
theorem lst_s (P : Nat → Bool) (k : Nat) : lst P (k + 1) = if P k = true then some k else lst P k := rfl
/-- t talks -/
def talkN : Nat → Sc → Nat → Sc
  | 0, S, _ => S
  | t + 1, S, h => talkS (talkN t S h) h
theorem talkN_s (t : Nat) (S : Sc) (h : Nat) : talkN (t + 1) S h = talkS (talkN t S h) h := rfl
theorem talkN_N : ∀ (t : Nat) (S : Sc) (h : Nat), sN (talkN t S h) = sN S := by
  intro t S h
  induction t with
  | zero => rfl
  | succ t ih => rw [talkN_s, talk_N, ih]
theorem ok_talkN : ∀ (t : Nat) {S : Sc}, okS S → ∀ {h : Nat}, h < sN S → okS (talkN t S h) := by
  intro t S ho h hh
  induction t with
  | zero => exact ho
  | succ t ih => rw [talkN_s]; exact ok_talk ih (by rw [talkN_N]; exact hh)
def dkP (S : Sc) (h n k : Nat) : Bool := tk (passN n (setP S (sB S h) k)) h
def spP (S : Sc) (h n t : Nat) : Bool := !tk (passN n (talkN t S h)) h
section DK
variable {kind used bay likes who lamp due : Nat → Int32} {count day dues draw : Int32} {fkind fused fbay flikes fwho flamp fdue fgain : Nat → Int32} {fcount fday fdues fdraw : Int32} {mu mb : Nat → Nat → Int32} {md mz mr : Nat → Int32} {next known : Int32} {now undone : Nat → Int32} {undos : Int32} {S : Sc}
theorem dark_x (hX : isX S kind used bay likes who lamp due count day dues draw) (ho : okS S) {h n : Nat} (hh : h < sN S) (hn : n ≤ 40) : ∀ k f (F : F12), k ≤ 10 → k < f → ∃ r, f_X6_dark_c26 f kind used bay likes who lamp due count day dues draw F.1 F.2.1 F.2.2.1 F.2.2.2.1 F.2.2.2.2.1 F.2.2.2.2.2.1 F.2.2.2.2.2.2.1 F.2.2.2.2.2.2.2.1 F.2.2.2.2.2.2.2.2.1 F.2.2.2.2.2.2.2.2.2.1 F.2.2.2.2.2.2.2.2.2.2.1 F.2.2.2.2.2.2.2.2.2.2.2 (nI h) (nI n) (nI k + (-1)) = some r ∧ r.1 = wI (lst (dkP S h n) k) (-4) := by
  have hN := ho.1
  have hB := (ho.2.1 h hh).2.2.1
  intro k
  induction k with
  | zero =>
    intro f F _ hf
    obtain ⟨f, rfl⟩ : ∃ g, f = g + 1 := ⟨f - 1, by omega⟩
    exact ⟨_, rfl, rfl⟩
  | succ k ih =>
    intro f F hk hf
    obtain ⟨f, rfl⟩ : ∃ g, f = g + 1 := ⟨f - 1, by omega⟩
    obtain ⟨b, eb, hb⟩ := become3 hX ho F.1 F.2.1 F.2.2.1 F.2.2.2.1 F.2.2.2.2.1 F.2.2.2.2.2.1 F.2.2.2.2.2.2.1 F.2.2.2.2.2.2.2.2.1 F.2.2.2.2.2.2.2.2.2.1 F.2.2.2.2.2.2.2.2.2.2.1 F.2.2.2.2.2.2.2.2.2.2.2
    have hb2 := X_setP hb (b := sB S h) (v := k) hB
    have hok2 : okS (setP S (sB S h) k) := ok_setP ho (by omega)
    obtain ⟨p, ep, hp⟩ := passDays3 F.2.2.2.2.2.2.2.1 hb2 hok2 (k := n) (by omega)
    have ht := taken3 hp (ok_passN n hok2) (h := h) (by rw [passN_N]; exact hh)
    rw [pk_m1, f_X6_dark_c26, if_neg (nI_pos (by omega)), eb, sb, if_pos (inb_nI (show h < 6 by omega) (by decide)), nI_cl (by omega), (hX.2.2.2.2.1 h hh).2.2.1, jn_eq, if_pos (inb_nI hB (by decide)), nI_cl (by omega), ep, sb, ht, sb, lst_s]
    have e : tk (passN n (setP S (sB S h) k)) h = dkP S h n k := rfl
    rw [e]
    cases c : dkP S h n k
    · rw [if_pos (show tf false = 0 from rfl), if_neg (by decide)]
      exact ih f (b.1, p.1, b.2.2.1, b.2.2.2.1, b.2.2.2.2.1, (upd b.2.2.2.2.2.1 (sB S h) (nI k)), b.2.2.2.2.2.2.1, p.2.1, b.2.2.2.2.2.2.2.1, p.2.2.1, p.2.2.2, b.2.2.2.2.2.2.2.2.2.2) (by omega) (by omega)
    · rw [if_neg (show ¬ tf true = 0 by decide), if_pos rfl]
      exact ⟨_, rfl, rfl⟩
theorem dark_m (hM : isM S now) (ho : okS S) (mores aside : Nat → Int32) (has : ∀ j, j < 40 → aside j = now j) {h n : Nat} (hh : h < sN S) (hn : n ≤ 40) : ∃ r, f_X7_dark_c32 fu now mores aside (nI h) (nI n) (-4) 0 = some r ∧ r.1 = wI (lst (dkP S h n) 10) (-4) ∧ ∀ j, j < 40 → r.2.1 j = aside j := by
  have hN := ho.1
  have hB := (ho.2.1 h hh).2.2.1
  refine inv_all (fun f (a : (Nat → Int32) × (Nat → Int32) × Int32) k => f_X7_dark_c32 f a.1 a.2.1 aside (nI h) (nI n) a.2.2 (nI k)) (fun k a => (∀ j, j < 40 → a.1 j = aside j) ∧ a.2.2 = wI (lst (dkP S h n) k) (-4)) 10 (fun o => ∃ r, o = some r ∧ r.1 = wI (lst (dkP S h n) 10) (-4) ∧ ∀ j, j < 40 → r.2.1 j = aside j) (by decide) (now, mores, -4) ⟨fun j hj => (has j hj).symm, rfl⟩ ?_ ?_
  · rintro f k ⟨a, mo, x⟩ hk ⟨h1, h2⟩
    have h1 : ∀ j, j < 40 → a j = aside j := h1
    have h2 : x = wI (lst (dkP S h n) k) (-4) := h2
    have hMa : isM S a := M_now (T := S) hM (fun j hj => (h1 j hj).trans (has j hj)) ho
    have hM2 := M_setP hMa ho (b := sB S h) hB k
    have hok2 : okS (setP S (sB S h) k) := ok_setP ho (by omega)
    obtain ⟨g, eg, hg⟩ := goesOn7 mo hM2 hok2 (k := n) (by omega)
    have ht := up7 hg (ok_passN n hok2) (h := h) (by rw [passN_N]; exact hh)
    obtain ⟨b, eb, hb⟩ := backs7 g.1 aside
    refine ⟨(b, g.2, wI (lst (dkP S h n) (k + 1)) (-4)), ?_, hb, rfl⟩
    show f_X7_dark_c32 (f + 1) a mo aside (nI h) (nI n) x (nI k) = f_X7_dark_c32 f b g.2 aside (nI h) (nI n) (wI (lst (dkP S h n) (k + 1)) (-4)) (nI (k + 1))
    rw [f_X7_dark_c32, if_pos (show nI k < (10 : Int32) from nI_lt (b := 10) hk (by decide)), bay7 hMa ho hh, sb, show (28 : Int32) + nI (sB S h) = nI (28 + sB S h) from n_add 28 _, if_pos (inb_nI (show 28 + sB S h < 40 by omega) (by decide)), nI_cl (by omega), eg, sb, ht, sb, jn_eq, eb, sb, nI_1, lst_s]
    congr 1
    have e : decide (sU (passN n (setP S (sB S h) k)) h = 99) = dkP S h n k := rfl
    rw [e, h2]
    cases dkP S h n k <;> rfl
  · rintro f ⟨a, mo, x⟩ ⟨h1, h2⟩
    exact ⟨(x, a, mo, aside), rfl, h2, h1⟩
theorem st_dark (hC : RC kind used bay likes who lamp due count day dues draw mu mb md mz mr next known now undone undos) (mores aside : Nat → Int32) (F : F12) (x n : Int32) : ∃ rx rm, f_X6_dark kind used bay likes who lamp due count day dues draw F.1 F.2.1 F.2.2.1 F.2.2.2.1 F.2.2.2.2.1 F.2.2.2.2.2.1 F.2.2.2.2.2.2.1 F.2.2.2.2.2.2.2.1 F.2.2.2.2.2.2.2.2.1 F.2.2.2.2.2.2.2.2.2.1 F.2.2.2.2.2.2.2.2.2.2.1 F.2.2.2.2.2.2.2.2.2.2.2 x n = some rx ∧ f_X7_dark now mores aside x n = some rm ∧ rx.1 = rm.1 ∧ RC kind used bay likes who lamp due count day dues draw mu mb md mz mr next known rm.2.1 undone undos := by
  obtain ⟨S, hs, ho, hh, hX, hM, hp, hq⟩ := id hC
  have hn := ho.1
  unfold f_X6_dark f_X7_dark
  rw [has3 hX ho, sb, isHolder7 hM ho, sb]
  by_cases c0 : 0 ≤ x.toInt ∧ x.toInt < sN S
  · rw [if_neg (tf_y c0), if_neg (tf_y c0), wi40, sb, in40, sb]
    by_cases c1 : 1 ≤ n.toInt ∧ n.toInt ≤ 40
    · rw [if_neg (tf_y c1), if_neg (tf_y c1)]
      obtain ⟨h, hlt, rfl⟩ := hold_x hn c0
      obtain ⟨m, hm, rfl⟩ := l_of (m := 40) (x := n) (by omega) (by omega)
      obtain ⟨as, ea, ha⟩ := asides7 now aside
      rw [ea, sb]
      obtain ⟨rx, e1, e2⟩ := dark_x hX ho hlt hm 10 fu F (by decide) (by decide)
      obtain ⟨rm, e3, e4, e5⟩ := dark_m hM ho mores as ha hlt hm
      exact ⟨rx, rm, e1, e3, e2.trans e4.symm, RC_now hC (fun j hj => (e5 j hj).trans (ha j hj))⟩
    · rw [if_pos (tf_x c1), if_pos (tf_x c1)]
      exact ⟨_, _, rfl, rfl, rfl, hC⟩
  · rw [if_pos (tf_x c0), if_pos (tf_x c0)]
    exact ⟨_, _, rfl, rfl, rfl, hC⟩
theorem spare45 (hX : isX S fkind fused fbay flikes fwho flamp fdue fcount fday fdues fdraw) (ho : okS S) (fgain : Nat → Int32) {h n t : Nat} (hh : h < sN S) (hn : n ≤ 40) (ht : t ≤ 20) (k25) (Q : Option (Int32 × F12) → Prop) (hQ1 : spP S h n t = true → ∀ F : F12, Q (some (nI t, F))) (hQ2 : spP S h n t = false → ∀ F : F12, Q (k25 kind used bay likes who lamp due count day dues draw F.1 F.2.1 F.2.2.1 F.2.2.2.1 F.2.2.2.2.1 F.2.2.2.2.2.1 F.2.2.2.2.2.2.1 F.2.2.2.2.2.2.2.1 F.2.2.2.2.2.2.2.2.1 F.2.2.2.2.2.2.2.2.2.1 F.2.2.2.2.2.2.2.2.2.2.1 F.2.2.2.2.2.2.2.2.2.2.2 (nI h) (nI n) (nI (t + 1)))) : Q (f_X6_spare_c45 k25 fu kind used bay likes who lamp due count day dues draw fkind fused fbay flikes fwho flamp fdue fgain fcount fday fdues fdraw (nI h) (nI n) (nI t) 0) := by
  have hN := ho.1
  refine inv_all (fun f a k => f_X6_spare_c45 k25 f kind used bay likes who lamp due count day dues draw fkind a fbay flikes fwho flamp fdue fgain fcount fday fdues fdraw (nI h) (nI n) (nI t) (nI k)) (fun k a => isX (talkN k S h) fkind a fbay flikes fwho flamp fdue fcount fday fdues fdraw) t Q (by omega) fused hX ?_ ?_
  · intro f k a hk hI
    obtain ⟨u, eu, hu⟩ := talkTo3 hI (ok_talkN k ho hh) (h := h) (by rw [talkN_N]; exact hh)
    refine ⟨u, ?_, hu⟩
    show f_X6_spare_c45 k25 (f + 1) kind used bay likes who lamp due count day dues draw fkind a fbay flikes fwho flamp fdue fgain fcount fday fdues fdraw (nI h) (nI n) (nI t) (nI k) = f_X6_spare_c45 k25 f kind used bay likes who lamp due count day dues draw fkind u fbay flikes fwho flamp fdue fgain fcount fday fdues fdraw (nI h) (nI n) (nI t) (nI (k + 1))
    rw [f_X6_spare_c45, if_pos (nI_lt hk (by omega)), eu, sb, nI_1]
  · intro f a hI
    have hok := ok_talkN t ho hh
    obtain ⟨p, ep, hp⟩ := passDays3 fgain hI hok (k := n) (by omega)
    have hta := taken3 hp (ok_passN n hok) (h := h) (by rw [passN_N, talkN_N]; exact hh)
    show Q (f_X6_spare_c45 k25 (f + 1) kind used bay likes who lamp due count day dues draw fkind a fbay flikes fwho flamp fdue fgain fcount fday fdues fdraw (nI h) (nI n) (nI t) (nI t))
    rw [f_X6_spare_c45, if_neg (nI_nlt (Nat.le_refl _) (by omega)), ep, sb, hta, sb, nI_1]
    cases c : tk (passN n (talkN t S h)) h
    · rw [if_pos (show tf false = 0 from rfl)]
      exact hQ1 (by unfold spP; rw [c]; rfl) (fkind, p.1, fbay, flikes, fwho, flamp, fdue, p.2.1, fcount, p.2.2.1, p.2.2.2, fdraw)
    · rw [if_neg (show ¬ tf true = 0 by decide)]
      exact hQ2 (by unfold spP; rw [c]; rfl) (fkind, p.1, fbay, flikes, fwho, flamp, fdue, p.2.1, fcount, p.2.2.1, p.2.2.2, fdraw)
theorem spare_x (hX : isX S kind used bay likes who lamp due count day dues draw) (ho : okS S) {h n : Nat} (hh : h < sN S) (hn : n ≤ 40) : ∀ d t f (F : F12), t + d = 21 → d < f → ∃ r, f_X6_spare_c25 f kind used bay likes who lamp due count day dues draw F.1 F.2.1 F.2.2.1 F.2.2.2.1 F.2.2.2.2.1 F.2.2.2.2.2.1 F.2.2.2.2.2.2.1 F.2.2.2.2.2.2.2.1 F.2.2.2.2.2.2.2.2.1 F.2.2.2.2.2.2.2.2.2.1 F.2.2.2.2.2.2.2.2.2.2.1 F.2.2.2.2.2.2.2.2.2.2.2 (nI h) (nI n) (nI t) = some r ∧ r.1 = wI (fF (spP S h n) d t) (-4) := by
  intro d
  induction d with
  | zero =>
    intro t f F ht hf
    obtain ⟨f, rfl⟩ : ∃ g, f = g + 1 := ⟨f - 1, by omega⟩
    have : t = 21 := by omega
    subst this
    exact ⟨_, rfl, rfl⟩
  | succ d ih =>
    intro t f F ht hf
    obtain ⟨f, rfl⟩ : ∃ g, f = g + 1 := ⟨f - 1, by omega⟩
    obtain ⟨b, eb, hb⟩ := become3 hX ho F.1 F.2.1 F.2.2.1 F.2.2.2.1 F.2.2.2.2.1 F.2.2.2.2.2.1 F.2.2.2.2.2.2.1 F.2.2.2.2.2.2.2.2.1 F.2.2.2.2.2.2.2.2.2.1 F.2.2.2.2.2.2.2.2.2.2.1 F.2.2.2.2.2.2.2.2.2.2.2
    rw [f_X6_spare_c25, if_neg (show ¬ (20 : Int32) < nI t from nI_nlt (a := 20) (by omega) (by decide)), eb, sb, fF_s]
    refine spare45 (kind := kind) (used := used) (bay := bay) (likes := likes) (who := who) (lamp := lamp) (due := due) (count := count) (day := day) (dues := dues) (draw := draw) hb ho F.2.2.2.2.2.2.2.1 hh hn (by omega) (f_X6_spare_c25 f) (fun o => ∃ r, o = some r ∧ r.1 = wI (if spP S h n t = true then some t else fF (spP S h n) d (t + 1)) (-4)) (fun c G => ?_) (fun c G => ?_)
    · rw [if_pos c]
      exact ⟨_, rfl, rfl⟩
    · rw [if_neg (by rw [c]; decide)]
      exact ih (t + 1) f G (by omega) (by omega)
theorem spare48 (hM : isM S now) (ho : okS S) (mores aside : Nat → Int32) {h n t : Nat} (hh : h < sN S) (hn : n ≤ 40) (ht : t ≤ 20) (k32) : ∃ b mo, f_X7_spare_c48 k32 fu now mores aside (nI h) (nI n) (nI t) 0 = k32 b mo aside (nI h) (nI n) (if spP S h n t = true then nI t else -4) (nI (t + 1)) ∧ ∀ j, j < 40 → b j = aside j := by
  have hN := ho.1
  refine inv_all (fun f a k => f_X7_spare_c48 k32 f a mores aside (nI h) (nI n) (nI t) (nI k)) (fun k a => isM (talkN k S h) a) t (fun o => ∃ b mo, o = k32 b mo aside (nI h) (nI n) (if spP S h n t = true then nI t else -4) (nI (t + 1)) ∧ ∀ j, j < 40 → b j = aside j) (by omega) now hM ?_ ?_
  · intro f k a hk hI
    obtain ⟨u, eu, hu⟩ := talks7 hI (ok_talkN k ho hh) (h := h) (by rw [talkN_N]; exact hh)
    refine ⟨u, ?_, hu⟩
    show f_X7_spare_c48 k32 (f + 1) a mores aside (nI h) (nI n) (nI t) (nI k) = f_X7_spare_c48 k32 f u mores aside (nI h) (nI n) (nI t) (nI (k + 1))
    rw [f_X7_spare_c48, if_pos (nI_lt hk (by omega)), eu, sb, nI_1]
  · intro f a hI
    have hok := ok_talkN t ho hh
    obtain ⟨g, eg, hg⟩ := goesOn7 mores hI hok (k := n) (by omega)
    have hta := up7 hg (ok_passN n hok) (h := h) (by rw [passN_N, talkN_N]; exact hh)
    obtain ⟨b, eb, hb⟩ := backs7 g.1 aside
    refine ⟨b, g.2, ?_, hb⟩
    show f_X7_spare_c48 k32 (f + 1) a mores aside (nI h) (nI n) (nI t) (nI t) = _
    rw [f_X7_spare_c48, if_neg (nI_nlt (Nat.le_refl _) (by omega)), eg, sb, hta, sb, jn_eq, eb, sb, nI_1]
    congr 1
    have e : spP S h n t = !decide (sU (passN n (talkN t S h)) h = 99) := rfl
    rw [e]
    cases decide (sU (passN n (talkN t S h)) h = 99) <;> rfl
theorem spare_m (hM : isM S now) (ho : okS S) (aside : Nat → Int32) (has : ∀ j, j < 40 → aside j = now j) {h n : Nat} (hh : h < sN S) (hn : n ≤ 40) : ∀ d t f a mo, t + d = 21 → d + 1 < f → (∀ j, j < 40 → a j = aside j) → ∃ r, f_X7_spare_c32 f a mo aside (nI h) (nI n) (-4) (nI t) = some r ∧ r.1 = wI (fF (spP S h n) d t) (-4) ∧ ∀ j, j < 40 → r.2.1 j = aside j := by
  intro d
  induction d with
  | zero =>
    intro t f a mo ht hf h1
    obtain ⟨f, rfl⟩ : ∃ g, f = g + 1 := ⟨f - 1, by omega⟩
    have : t = 21 := by omega
    subst this
    exact ⟨_, rfl, rfl, h1⟩
  | succ d ih =>
    intro t f a mo ht hf h1
    obtain ⟨f, rfl⟩ : ∃ g, f = g + 1 := ⟨f - 1, by omega⟩
    have hMa : isM S a := M_now (T := S) hM (fun j hj => (h1 j hj).trans (has j hj)) ho
    obtain ⟨b, mo', e1, e2⟩ := spare48 hMa ho mo aside hh hn (t := t) (by omega) (f_X7_spare_c32 f)
    rw [f_X7_spare_c32, if_pos (show nI t < (21 : Int32) from nI_lt (b := 21) (by omega) (by decide)), if_pos rfl, e1, fF_s]
    cases c : spP S h n t
    · rw [if_neg (by decide), if_neg (by decide)]
      exact ih (t + 1) f b mo' (by omega) (by omega) e2
    · rw [if_pos rfl, if_pos rfl]
      obtain ⟨f, rfl⟩ : ∃ g, f = g + 1 := ⟨f - 1, by omega⟩
      have hne : ¬ nI t = (-4) := fun e => by
        rw [l_eq, l_lit (by omega)] at e
        have : ((-4 : Int32)).toInt = -4 := rfl
        omega
      refine ⟨(nI t, b, mo', aside), ?_, rfl, e2⟩
      rw [f_X7_spare_c32, if_neg hne]
      split <;> rfl
theorem st_spare (hC : RC kind used bay likes who lamp due count day dues draw mu mb md mz mr next known now undone undos) (mores aside : Nat → Int32) (F : F12) (x n : Int32) : ∃ rx rm, f_X6_spare kind used bay likes who lamp due count day dues draw F.1 F.2.1 F.2.2.1 F.2.2.2.1 F.2.2.2.2.1 F.2.2.2.2.2.1 F.2.2.2.2.2.2.1 F.2.2.2.2.2.2.2.1 F.2.2.2.2.2.2.2.2.1 F.2.2.2.2.2.2.2.2.2.1 F.2.2.2.2.2.2.2.2.2.2.1 F.2.2.2.2.2.2.2.2.2.2.2 x n = some rx ∧ f_X7_spare now mores aside x n = some rm ∧ rx.1 = rm.1 ∧ RC kind used bay likes who lamp due count day dues draw mu mb md mz mr next known rm.2.1 undone undos := by
  obtain ⟨S, hs, ho, hh, hX, hM, hp, hq⟩ := id hC
  have hn := ho.1
  unfold f_X6_spare f_X7_spare
  rw [has3 hX ho, sb, isHolder7 hM ho, sb]
  by_cases c0 : 0 ≤ x.toInt ∧ x.toInt < sN S
  · rw [if_neg (tf_y c0), if_neg (tf_y c0), wi40, sb, in40, sb]
    by_cases c1 : 1 ≤ n.toInt ∧ n.toInt ≤ 40
    · rw [if_neg (tf_y c1), if_neg (tf_y c1)]
      obtain ⟨h, hlt, rfl⟩ := hold_x hn c0
      obtain ⟨m, hm, rfl⟩ := l_of (m := 40) (x := n) (by omega) (by omega)
      obtain ⟨as, ea, ha⟩ := asides7 now aside
      rw [ea, sb]
      obtain ⟨rx, e1, e2⟩ := spare_x hX ho hlt hm 21 0 fu F rfl (by decide)
      obtain ⟨rm, e3, e4, e5⟩ := spare_m hM ho as ha hlt hm 21 0 fu now mores rfl (by decide) (fun j hj => (ha j hj).symm)
      exact ⟨rx, rm, e1, e3, e2.trans e4.symm, RC_now hC (fun j hj => (e5 j hj).trans (ha j hj))⟩
    · rw [if_pos (tf_x c1), if_pos (tf_x c1)]
      exact ⟨_, _, rfl, rfl, rfl, hC⟩
  · rw [if_pos (tf_x c0), if_pos (tf_x c0)]
    exact ⟨_, _, rfl, rfl, rfl, hC⟩
end DK
theorem S_dark : St_dark Rel := by
  intro t_now_kind t_now_used t_now_bay t_now_likes t_now_who t_now_lamp t_now_due t_now_gain t_now_count t_now_day t_now_dues t_now_draw t_past_marks_used t_past_marks_bay t_past_marks_day t_past_marks_dues t_past_marks_draw t_past_next t_past_known t_foreseen_kind t_foreseen_used t_foreseen_bay t_foreseen_likes t_foreseen_who t_foreseen_lamp t_foreseen_due t_foreseen_gain t_foreseen_count t_foreseen_day t_foreseen_dues t_foreseen_draw t_imageOfNow_kind t_imageOfNow_used t_imageOfNow_bay t_imageOfNow_likes t_imageOfNow_who t_imageOfNow_lamp t_imageOfNow_due t_imageOfNow_gain t_imageOfNow_count t_imageOfNow_day t_imageOfNow_dues t_imageOfNow_draw t_imageOfPast_marks_used t_imageOfPast_marks_bay t_imageOfPast_marks_day t_imageOfPast_marks_dues t_imageOfPast_marks_draw t_imageOfPast_next t_imageOfPast_known t_hasImage t_deal_bay t_deal_best t_deal_worth t_deal_free t_deal_count t_tape_letters t_tape_length t_tape_place t_sheets_items t_sheets_lane t_sheets_size u_now u_mores u_tape u_typed u_place u_isFault u_readLamps u_read u_undone u_undos u_aside u_bays u_bests u_kept u_keptUndos u_isKept u_lanes u_sizes u_items u_moved y0 y1 hR
  obtain ⟨hC, hI, hT, hS⟩ := hR
  obtain ⟨rx, rm, e1, e2, e3, e4⟩ := st_dark hC u_mores u_aside (t_foreseen_kind, t_foreseen_used, t_foreseen_bay, t_foreseen_likes, t_foreseen_who, t_foreseen_lamp, t_foreseen_due, t_foreseen_gain, t_foreseen_count, t_foreseen_day, t_foreseen_dues, t_foreseen_draw) y0 y1
  exact ⟨rx, rm, e1, e2, e3, e4, hI, hT, hS⟩
theorem S_spare : St_spare Rel := by
  intro t_now_kind t_now_used t_now_bay t_now_likes t_now_who t_now_lamp t_now_due t_now_gain t_now_count t_now_day t_now_dues t_now_draw t_past_marks_used t_past_marks_bay t_past_marks_day t_past_marks_dues t_past_marks_draw t_past_next t_past_known t_foreseen_kind t_foreseen_used t_foreseen_bay t_foreseen_likes t_foreseen_who t_foreseen_lamp t_foreseen_due t_foreseen_gain t_foreseen_count t_foreseen_day t_foreseen_dues t_foreseen_draw t_imageOfNow_kind t_imageOfNow_used t_imageOfNow_bay t_imageOfNow_likes t_imageOfNow_who t_imageOfNow_lamp t_imageOfNow_due t_imageOfNow_gain t_imageOfNow_count t_imageOfNow_day t_imageOfNow_dues t_imageOfNow_draw t_imageOfPast_marks_used t_imageOfPast_marks_bay t_imageOfPast_marks_day t_imageOfPast_marks_dues t_imageOfPast_marks_draw t_imageOfPast_next t_imageOfPast_known t_hasImage t_deal_bay t_deal_best t_deal_worth t_deal_free t_deal_count t_tape_letters t_tape_length t_tape_place t_sheets_items t_sheets_lane t_sheets_size u_now u_mores u_tape u_typed u_place u_isFault u_readLamps u_read u_undone u_undos u_aside u_bays u_bests u_kept u_keptUndos u_isKept u_lanes u_sizes u_items u_moved y0 y1 hR
  obtain ⟨hC, hI, hT, hS⟩ := hR
  obtain ⟨rx, rm, e1, e2, e3, e4⟩ := st_spare hC u_mores u_aside (t_foreseen_kind, t_foreseen_used, t_foreseen_bay, t_foreseen_likes, t_foreseen_who, t_foreseen_lamp, t_foreseen_due, t_foreseen_gain, t_foreseen_count, t_foreseen_day, t_foreseen_dues, t_foreseen_draw) y0 y1
  exact ⟨rx, rm, e1, e2, e3, e4, hI, hT, hS⟩
