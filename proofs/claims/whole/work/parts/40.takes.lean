/-! MATHEMATICS 11: takes, cough -/
section TK
variable {kind used bay likes who lamp due : Nat → Int32} {count day dues draw : Int32} {fkind fused fbay flikes fwho flamp fdue fgain : Nat → Int32} {fcount fday fdues fdraw : Int32} {mu mb : Nat → Nat → Int32} {md mz mr : Nat → Int32} {next known : Int32} {now undone : Nat → Int32} {undos : Int32} {S : Sc}
theorem takes_x (hX : isX S fkind fused fbay flikes fwho flamp fdue fcount fday fdues fdraw) (ho : okS S) (fgain : Nat → Int32) {h : Nat} (hh : h < sN S) : ∃ r, f_X6_takes_c26 fu kind used bay likes who lamp due count day dues draw fkind fused fbay flikes fwho flamp fdue fgain fcount fday fdues fdraw (nI h) 0 = some r ∧ r.1 = wI (fF (fun k => tk (passN k S) h) 100 0) (-4) := by
  refine ex_all (fun f (a : (Nat → Int32) × (Nat → Int32) × Int32 × Int32) k => f_X6_takes_c26 f kind used bay likes who lamp due count day dues draw fkind a.1 fbay flikes fwho flamp fdue a.2.1 fcount a.2.2.1 a.2.2.2 fdraw (nI h) (nI k)) (fun k a => isX (passN k S) fkind a.1 fbay flikes fwho flamp fdue fcount a.2.2.1 a.2.2.2 fdraw) (fun k => tk (passN k S) h) 100 (fun o res => ∃ r, res = some r ∧ r.1 = wI o (-4)) (by decide) (fused, fgain, fday, fdues) hX ?_ ?_ ?_
  · rintro f k ⟨a, g, y, z⟩ hk hI hP
    have hI : isX (passN k S) fkind a fbay flikes fwho flamp fdue fcount y z fdraw := hI
    have hP : tk (passN k S) h = true := hP
    have hNk := passN_N k S
    have ht := taken3 hI (ok_passN k ho) (h := h) (by omega)
    refine ⟨(nI k, fkind, a, fbay, flikes, fwho, flamp, fdue, g, fcount, y, z, fdraw), ?_, rfl⟩
    show f_X6_takes_c26 (f + 1) kind used bay likes who lamp due count day dues draw fkind a fbay flikes fwho flamp fdue g fcount y z fdraw (nI h) (nI k) = _
    rw [f_X6_takes_c26, if_neg (show ¬ (99 : Int32) < nI k from nI_nlt (a := 99) (by omega) (by decide)), ht, sb, hP, if_neg (show ¬ tf true = 0 by decide)]
  · rintro f k ⟨a, g, y, z⟩ hk hI hP
    have hI : isX (passN k S) fkind a fbay flikes fwho flamp fdue fcount y z fdraw := hI
    have hP : tk (passN k S) h = false := hP
    have hNk := passN_N k S
    have ht := taken3 hI (ok_passN k ho) (h := h) (by omega)
    obtain ⟨r, e1, e2⟩ := passDay3 hI (ok_passN k ho) g
    refine ⟨r, ?_, ?_⟩
    · show f_X6_takes_c26 (f + 1) kind used bay likes who lamp due count day dues draw fkind a fbay flikes fwho flamp fdue g fcount y z fdraw (nI h) (nI k) = f_X6_takes_c26 f kind used bay likes who lamp due count day dues draw fkind r.1 fbay flikes fwho flamp fdue r.2.1 fcount r.2.2.1 r.2.2.2 fdraw (nI h) (nI (k + 1))
      rw [f_X6_takes_c26, if_neg (show ¬ (99 : Int32) < nI k from nI_nlt (a := 99) (by omega) (by decide)), ht, sb, hP, if_pos (show tf false = 0 from rfl), e1, sb, nI_1]
    · show isX (passN (k + 1) S) _ _ _ _ _ _ _ _ _ _ _
      rw [passN_s]
      exact e2
  · rintro f ⟨a, g, y, z⟩ hI
    exact ⟨_, rfl, rfl⟩
theorem takes_m (hM : isM S now) (ho : okS S) (mores aside : Nat → Int32) {h : Nat} (hh : h < sN S) : ∃ r, f_X7_takes_c16 fu now mores aside (nI h) 0 = some r ∧ r.1 = wI (fF (fun k => tk (passN k S) h) 100 0) (-4) ∧ ∀ j, j < 40 → r.2.1 j = aside j := by
  refine ex_all (fun f (a : (Nat → Int32) × (Nat → Int32)) k => f_X7_takes_c16 f a.1 a.2 aside (nI h) (nI k)) (fun k a => isM (passN k S) a.1) (fun k => tk (passN k S) h) 100 (fun o res => ∃ r, res = some r ∧ r.1 = wI o (-4) ∧ ∀ j, j < 40 → r.2.1 j = aside j) (by decide) (now, mores) hM ?_ ?_ ?_
  · rintro f k ⟨a, g⟩ hk hI hP
    have hI : isM (passN k S) a := hI
    have hP : tk (passN k S) h = true := hP
    have hNk := passN_N k S
    have ht : f_X7_isUp a (nI h) = some (tf (tk (passN k S) h)) := up7 hI (ok_passN k ho) (h := h) (by omega)
    obtain ⟨b, eb, hb⟩ := backs7 a aside
    refine ⟨(nI k, b, g, aside), ?_, rfl, hb⟩
    show f_X7_takes_c16 (f + 1) a g aside (nI h) (nI k) = _
    have hk' : nI k < (100 : Int32) := nI_lt (b := 100) hk (by decide)
    rw [f_X7_takes_c16, if_pos hk', ht, sb, hP, if_neg (show ¬ tf true = 0 by decide)]
    unfold f_X7_takes_c40
    rw [eb, sb, jn_eq, if_pos hk']
  · rintro f k ⟨a, g⟩ hk hI hP
    have hI : isM (passN k S) a := hI
    have hP : tk (passN k S) h = false := hP
    have hNk := passN_N k S
    have ht : f_X7_isUp a (nI h) = some (tf (tk (passN k S) h)) := up7 hI (ok_passN k ho) (h := h) (by omega)
    obtain ⟨r, e1, e2⟩ := goesBy7 g hI (ok_passN k ho)
    refine ⟨r, ?_, ?_⟩
    · show f_X7_takes_c16 (f + 1) a g aside (nI h) (nI k) = f_X7_takes_c16 f r.1 r.2 aside (nI h) (nI (k + 1))
      rw [f_X7_takes_c16, if_pos (show nI k < (100 : Int32) from nI_lt (b := 100) hk (by decide)), ht, sb, hP, if_pos (show tf false = 0 from rfl), e1, sb, nI_1]
    · show isM (passN (k + 1) S) r.1
      rw [passN_s]
      exact e2
  · rintro f ⟨a, g⟩ hI
    obtain ⟨b, eb, hb⟩ := backs7 a aside
    refine ⟨(-4, b, g, aside), ?_, rfl, hb⟩
    show f_X7_takes_c16 (f + 1) a g aside (nI h) (nI 100) = _
    rw [f_X7_takes_c16, if_neg (show ¬ nI 100 < (100 : Int32) by decide)]
    unfold f_X7_takes_c40
    rw [eb, sb]
    rfl
theorem st_takes (hC : RC kind used bay likes who lamp due count day dues draw mu mb md mz mr next known now undone undos) (mores aside : Nat → Int32) (fkind fused fbay flikes fwho flamp fdue fgain : Nat → Int32) (fcount fday fdues fdraw : Int32) (x : Int32) : ∃ rx rm, f_X6_takes kind used bay likes who lamp due count day dues draw fkind fused fbay flikes fwho flamp fdue fgain fcount fday fdues fdraw x = some rx ∧ f_X7_takes now mores aside x = some rm ∧ rx.1 = rm.1 ∧ RC kind used bay likes who lamp due count day dues draw mu mb md mz mr next known rm.2.1 undone undos := by
  obtain ⟨S, hs, ho, hh, hX, hM, hp, hq⟩ := id hC
  have hn := ho.1
  unfold f_X6_takes f_X7_takes
  rw [has3 hX ho, sb, isHolder7 hM ho, sb]
  by_cases c0 : 0 ≤ x.toInt ∧ x.toInt < sN S
  · rw [if_neg (tf_y c0), if_neg (tf_y c0)]
    obtain ⟨h, hlt, rfl⟩ := hold_x hn c0
    obtain ⟨b, eb, hb⟩ := become3 hX ho fkind fused fbay flikes fwho flamp fdue fcount fday fdues fdraw
    obtain ⟨as, ea, ha⟩ := asides7 now aside
    rw [eb, sb, ea, sb]
    obtain ⟨rx, e1, e2⟩ := takes_x (kind := kind) (used := used) (bay := bay) (likes := likes) (who := who) (lamp := lamp) (due := due) (count := count) (day := day) (dues := dues) (draw := draw) hb ho fgain hlt
    obtain ⟨rm, e3, e4, e5⟩ := takes_m hM ho mores as hlt
    exact ⟨rx, rm, e1, e3, by rw [e2, e4], RC_now hC (fun j hj => (e5 j hj).trans (ha j hj))⟩
  · rw [if_pos (tf_x c0), if_pos (tf_x c0)]
    exact ⟨_, _, rfl, rfl, rfl, hC⟩
/-- the first pair, as 10 times the one and the other -/
def pr (P : Nat → Nat → Bool) (n : Nat) : Nat → Nat → Option Nat
  | 0, _ => none
  | m + 1, i => match fF (P i) (n - 1 - i) (i + 1) with
    | some j => some (10 * i + j)
    | none => pr P n m (i + 1)
theorem pr_s (P : Nat → Nat → Bool) (n m i : Nat) : pr P n (m + 1) i = match fF (P i) (n - 1 - i) (i + 1) with
    | some j => some (10 * i + j)
    | none => pr P n m (i + 1) := rfl
theorem pr_some {P : Nat → Nat → Bool} {n : Nat} : ∀ {m i c : Nat}, pr P n m i = some c → ∃ a b, i ≤ a ∧ a < i + m ∧ a < b ∧ b < n ∧ c = 10 * a + b ∧ P a b = true := by
  intro m
  induction m with
  | zero => intro i c e; cases e
  | succ m ih =>
    intro i c e
    rw [pr_s] at e
    cases e1 : fF (P i) (n - 1 - i) (i + 1) with
    | some j =>
      rw [e1] at e
      obtain ⟨h1, h2, h3⟩ := fF_some e1
      have e2 : c = 10 * i + j := by
        simp only [Option.some.injEq] at e
        omega
      exact ⟨i, j, by omega, by omega, by omega, by omega, e2, h3⟩
    | none =>
      rw [e1] at e
      obtain ⟨a, b, h1, h2, h3⟩ := ih (show pr P n m (i + 1) = some c from e)
      exact ⟨a, b, by omega, by omega, h3⟩
theorem pr_none {P : Nat → Nat → Bool} {n : Nat} : ∀ {m i : Nat}, pr P n m i = none → ∀ a b, i ≤ a → a < i + m → a < b → b < n → P a b = false := by
  intro m
  induction m with
  | zero => intro i _ a b h1 h2; omega
  | succ m ih =>
    intro i e a b h1 h2 h3 h4
    rw [pr_s] at e
    cases e1 : fF (P i) (n - 1 - i) (i + 1) with
    | some j => rw [e1] at e; cases e
    | none =>
      rw [e1] at e
      by_cases ha : a = i
      · subst ha
        exact fF_none e1 b (by omega) (by omega)
      · exact ih (show pr P n m (i + 1) = none from e) a b (by omega) (by omega) h3 h4
theorem pr_congr {P Q : Nat → Nat → Bool} {n : Nat} : ∀ {m i : Nat}, (∀ a b, a < b → b < n → P a b = Q a b) → pr P n m i = pr Q n m i := by
  intro m
  induction m with
  | zero => intro i _; rfl
  | succ m ih =>
    intro i h
    rw [pr_s, pr_s, fF_congr (P := P i) (Q := Q i) (fun j a b => h i j (by omega) (by omega)), ih h]
theorem pr_zero {P : Nat → Nat → Bool} {n : Nat} : ∀ {m i : Nat}, (∀ a b, i ≤ a → a < b → b < n → P a b = false) → pr P n m i = none := by
  intro m
  induction m with
  | zero => intro i _; rfl
  | succ m ih =>
    intro i h
    rw [pr_s, fF_zero (P := P i) (fun j a b => h i j (by omega) (by omega) (by omega)), ih (fun a b h1 h2 h3 => h a b (by omega) h2 h3)]
theorem pr_ext {P : Nat → Nat → Bool} {n N : Nat} (hN : n ≤ N) (h : ∀ a b, a < b → n ≤ b → P a b = false) : ∀ {m e i : Nat}, i + m = n → m ≤ e → pr P N e i = pr P n m i := by
  intro m
  induction m with
  | zero =>
    intro e i hi _
    exact pr_zero (fun a b h1 h2 _ => h a b h2 (by omega))
  | succ m ih =>
    intro e i hi he
    obtain ⟨e, rfl⟩ : ∃ g, e = g + 1 := ⟨e - 1, by omega⟩
    rw [pr_s, pr_s, fF_ext (P := P i) (d := n - 1 - i) (e := N - 1 - i) (by omega) (fun j a b => h i j (by omega) (by omega)), ih (e := e) (i := i + 1) (by omega) (by omega)]
/-- beside one another, used alike, not up -/
def alk (S : Sc) (i j : Nat) : Bool := decide (dist (sB S i) (sB S j) = 1) && (decide (sU S i = sU S j) && !tk S i)
theorem alike14 (hX : isX S kind used bay likes who lamp due count day dues draw) (ho : okS S) {i : Nat} (hi : i < sN S) (k2 : (Nat → Int32) → (Nat → Int32) → Int32 → Int32 → Option Int32) : ∀ d j f, j + d = sN S → d < f → f_X3_firstAlike_c14 k2 f used bay count (nI i) (nI j) = match fF (alk S i) d j with
    | some j' => some (nI (10 * i + j'))
    | none => k2 used bay count (nI (i + 1)) := by
  have hn := ho.1
  obtain ⟨x0, x1, x2, x3, x4, x5, x6⟩ := id hX
  obtain ⟨hK, hU, hB, hL⟩ := ho.2.1 i hi
  have step : ∀ f j, j < sN S → f_X3_firstAlike_c14 k2 (f + 1) used bay count (nI i) (nI j) = if alk S i j = true then some (nI (10 * i + j)) else f_X3_firstAlike_c14 k2 f used bay count (nI i) (nI (j + 1)) := by
    intro f j hj
    obtain ⟨hKj, hUj, hBj, hLj⟩ := ho.2.1 j hj
    rw [f_X3_firstAlike_c14]
    simp only [jn_eq]
    rw [x0, if_pos (nI_lt hj (by omega)), if_pos (inb_nI (show i < 6 by omega) (by decide)), if_pos (inb_nI (show j < 6 by omega) (by decide)), nI_cl (show i < 2 ^ 31 by omega), nI_cl (show j < 2 ^ 31 by omega), (x4 i hi).2.1, (x4 j hj).2.1, if_n_eq (by omega) (by omega), taken3 hX ho hi, sb, (x4 i hi).2.2.1, (x4 j hj).2.2.1, absd (by omega) (by omega), show (1 : Int32) = nI 1 from rfl, if_n_eq (by unfold dist; split <;> omega) (by decide)]
    unfold f_X3_firstAlike_c72 alk
    rw [show nI j + 1 = nI (j + 1) from nI_1 j, show (10 : Int32) * nI i + nI j = nI (10 * i + j) from by rw [show (10 : Int32) = nI 10 from rfl, n_mul, n_add]]
    by_cases c1 : sU S i = sU S j
    · rw [if_pos c1, decide_eq_true c1]
      cases c2 : tk S i
      · rw [if_pos (show tf false = 0 from rfl)]
        by_cases c3 : dist (sB S i) (sB S j) = 1
        · rw [if_pos c3, decide_eq_true c3]; rfl
        · rw [if_neg c3, decide_eq_false c3]; rfl
      · rw [if_neg (show ¬ tf true = 0 by decide)]
        cases decide (dist (sB S i) (sB S j) = 1) <;> rfl
    · rw [if_neg c1, decide_eq_false c1]
      cases decide (dist (sB S i) (sB S j) = 1) <;> rfl
  intro d
  induction d with
  | zero =>
    intro j f hj hf
    obtain ⟨f, rfl⟩ : ∃ g, f = g + 1 := ⟨f - 1, by omega⟩
    have : j = sN S := by omega
    subst this
    rw [f_X3_firstAlike_c14, x0, if_neg (nI_nlt (Nat.le_refl _) (by omega)), nI_1]
    rfl
  | succ d ih =>
    intro j f hj hf
    obtain ⟨f, rfl⟩ : ∃ g, f = g + 1 := ⟨f - 1, by omega⟩
    rw [step f j (by omega), fF_s]
    by_cases c : alk S i j = true
    · rw [if_pos c, if_pos c]
    · rw [if_neg c, if_neg c]
      exact ih (j + 1) f (by omega) (by omega)
theorem alike3 (hX : isX S kind used bay likes who lamp due count day dues draw) (ho : okS S) : f_X3_firstAlike used bay count = some (wI (pr (alk S) (sN S) (sN S) 0) (-4)) := by
  have hn := ho.1
  have x0 := hX.1
  have key : ∀ m i f, i + m = sN S → m < f → f_X3_firstAlike_c2 f used bay count (nI i) = some (wI (pr (alk S) (sN S) m i) (-4)) := by
    intro m
    induction m with
    | zero =>
      intro i f hi hf
      obtain ⟨f, rfl⟩ : ∃ g, f = g + 1 := ⟨f - 1, by omega⟩
      have : i = sN S := by omega
      subst this
      rw [f_X3_firstAlike_c2, x0, if_neg (nI_nlt (Nat.le_refl _) (by omega))]
      rfl
    | succ m ih =>
      intro i f hi hf
      obtain ⟨f, rfl⟩ : ∃ g, f = g + 1 := ⟨f - 1, by omega⟩
      have hfu : fu = 100000 := rfl
      rw [f_X3_firstAlike_c2, x0, if_pos (nI_lt (show i < sN S by omega) (by omega)), nI_1, ← x0, alike14 hX ho (by omega) _ (sN S - 1 - i) (i + 1) fu (by omega) (by omega), pr_s]
      cases e : fF (alk S i) (sN S - 1 - i) (i + 1) with
      | some j => rfl
      | none => exact ih (i + 1) f (by omega) (by omega)
  exact key (sN S) 0 fu (by omega) (by have hfu : fu = 100000 := rfl
                                       omega)
end TK
