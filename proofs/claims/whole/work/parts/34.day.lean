/-! MATHEMATICS 5: changes of a scene; a day, on both sides -/
def setU (S : Sc) (h u : Nat) : Sc := (sN S, sK S, fun g => if g = h then u else sU S g, sB S, sL S, sP S, sD S, sY S, sZ S, sR S)
def setB (S : Sc) (h b : Nat) : Sc := (sN S, sK S, sU S, fun g => if g = h then b else sB S g, sL S, sP S, sD S, sY S, sZ S, sR S)
def setP (S : Sc) (b v : Nat) : Sc := (sN S, sK S, sU S, sB S, sL S, fun g => if g = b then v else sP S g, sD S, sY S, sZ S, sR S)
def setD (S : Sc) (b v : Nat) : Sc := (sN S, sK S, sU S, sB S, sL S, sP S, fun g => if g = b then v else sD S g, sY S, sZ S, sR S)
def setY (S : Sc) (v : Int32) : Sc := (sN S, sK S, sU S, sB S, sL S, sP S, sD S, v, sZ S, sR S)
def setZ (S : Sc) (v : Int32) : Sc := (sN S, sK S, sU S, sB S, sL S, sP S, sD S, sY S, v, sR S)
def setR (S : Sc) (v : Nat) : Sc := (sN S, sK S, sU S, sB S, sL S, sP S, sD S, sY S, sZ S, v)
theorem M_at {S : Sc} {now : Nat → Int32} (hM : isM S now) (ho : okS S) (i : Nat) (v : Int32) (T : Sc) (hn : sN T = sN S)
    (h1 : i ≠ 1 → sY T = sY S) (h1' : i = 1 → v = sY T) (h2 : i ≠ 2 → sZ T = sZ S) (h2' : i = 2 → v = sZ T) (h3 : i ≠ 3 → sR T = sR S) (h3' : i = 3 → v = nI (sR T)) (h0 : i ≠ 0)
    (hk : ∀ h, h < sN S → (i ≠ 4 + 4 * h → sK T h = sK S h) ∧ (i = 4 + 4 * h → v = nI (sK T h)) ∧ (i ≠ 4 + 4 * h + 1 → sU T h = sU S h) ∧ (i = 4 + 4 * h + 1 → v = nI (sU T h)) ∧ (i ≠ 4 + 4 * h + 2 → sB T h = sB S h) ∧ (i = 4 + 4 * h + 2 → v = nI (sB T h)) ∧ (i ≠ 4 + 4 * h + 3 → sL T h = sL S h) ∧ (i = 4 + 4 * h + 3 → v = nI (sL T h)))
    (hb : ∀ b, b < 6 → (i ≠ 28 + b → sP T b = sP S b) ∧ (i = 28 + b → v = nI (sP T b)) ∧ (i ≠ 34 + b → sD T b = sD S b) ∧ (i = 34 + b → v = nI (sD T b))) : isM T (upd now i v) := by
  have key : ∀ (j : Nat) (x : Int32), (i ≠ j → now j = x) → (i = j → v = x) → upd now i v j = x := by
    intro j x a b
    by_cases e : i = j
    · subst e; rw [pk_us]; exact b rfl
    · rw [pk_un (fun e' => e e'.symm)]; exact a e
  obtain ⟨m0, m1, m2, m3, m4, m5⟩ := hM
  refine ⟨?_, ?_, ?_, ?_, ?_, ?_⟩
  · rw [hn]; exact key _ _ (fun _ => m0) (fun e => absurd e h0)
  · exact key _ _ (fun e => by rw [m1, h1 e]) h1'
  · exact key _ _ (fun e => by rw [m2, h2 e]) h2'
  · exact key _ _ (fun e => by rw [m3, h3 e]) h3'
  · intro h hh
    rw [hn] at hh
    obtain ⟨a1, a2, a3, a4⟩ := m4 h hh
    obtain ⟨k1, k2, k3, k4, k5, k6, k7, k8⟩ := hk h hh
    exact ⟨key _ _ (fun e => by rw [a1, k1 e]) k2, key _ _ (fun e => by rw [a2, k3 e]) k4, key _ _ (fun e => by rw [a3, k5 e]) k6, key _ _ (fun e => by rw [a4, k7 e]) k8⟩
  · intro b hb'
    obtain ⟨a1, a2⟩ := m5 b hb'
    obtain ⟨k1, k2, k3, k4⟩ := hb b hb'
    exact ⟨key _ _ (fun e => by rw [a1, k1 e]) k2, key _ _ (fun e => by rw [a2, k3 e]) k4⟩
section MS
variable {S : Sc} {now : Nat → Int32}
theorem M_setU (hM : isM S now) (ho : okS S) {h : Nat} (hh : h < sN S) (u : Nat) : isM (setU S h u) (upd now (4 + 4 * h + 1) (nI u)) := by
  have hn := ho.1
  refine M_at hM ho _ _ _ rfl (fun _ => rfl) (fun e => by omega) (fun _ => rfl) (fun e => by omega) (fun _ => rfl) (fun e => by omega) (by omega) (fun g hg => ⟨fun _ => rfl, fun e => by omega, fun e => ?_, fun e => ?_, fun _ => rfl, fun e => by omega, fun _ => rfl, fun e => by omega⟩) (fun b hb => ⟨fun _ => rfl, fun e => by omega, fun _ => rfl, fun e => by omega⟩)
  · exact if_neg (by omega)
  · have : g = h := by omega
    exact congrArg nI (if_pos this).symm
theorem M_setB (hM : isM S now) (ho : okS S) {h : Nat} (hh : h < sN S) (u : Nat) : isM (setB S h u) (upd now (4 + 4 * h + 2) (nI u)) := by
  have hn := ho.1
  refine M_at hM ho _ _ _ rfl (fun _ => rfl) (fun e => by omega) (fun _ => rfl) (fun e => by omega) (fun _ => rfl) (fun e => by omega) (by omega) (fun g hg => ⟨fun _ => rfl, fun e => by omega, fun _ => rfl, fun e => by omega, fun e => ?_, fun e => ?_, fun _ => rfl, fun e => by omega⟩) (fun b hb => ⟨fun _ => rfl, fun e => by omega, fun _ => rfl, fun e => by omega⟩)
  · exact if_neg (by omega)
  · have : g = h := by omega
    exact congrArg nI (if_pos this).symm
theorem M_setP (hM : isM S now) (ho : okS S) {b : Nat} (hb : b < 6) (v : Nat) : isM (setP S b v) (upd now (28 + b) (nI v)) := by
  have hn := ho.1
  refine M_at hM ho _ _ _ rfl (fun _ => rfl) (fun e => by omega) (fun _ => rfl) (fun e => by omega) (fun _ => rfl) (fun e => by omega) (by omega) (fun g hg => ⟨fun _ => rfl, fun e => by omega, fun _ => rfl, fun e => by omega, fun _ => rfl, fun e => by omega, fun _ => rfl, fun e => by omega⟩) (fun g hg => ⟨fun e => ?_, fun e => ?_, fun _ => rfl, fun e => by omega⟩)
  · exact if_neg (by omega)
  · have : g = b := by omega
    exact congrArg nI (if_pos this).symm
theorem M_setD (hM : isM S now) (ho : okS S) {b : Nat} (hb : b < 6) (v : Nat) : isM (setD S b v) (upd now (34 + b) (nI v)) := by
  have hn := ho.1
  refine M_at hM ho _ _ _ rfl (fun _ => rfl) (fun e => by omega) (fun _ => rfl) (fun e => by omega) (fun _ => rfl) (fun e => by omega) (by omega) (fun g hg => ⟨fun _ => rfl, fun e => by omega, fun _ => rfl, fun e => by omega, fun _ => rfl, fun e => by omega, fun _ => rfl, fun e => by omega⟩) (fun g hg => ⟨fun _ => rfl, fun e => by omega, fun e => ?_, fun e => ?_⟩)
  · exact if_neg (by omega)
  · have : g = b := by omega
    exact congrArg nI (if_pos this).symm
theorem M_setY (hM : isM S now) (ho : okS S) (v : Int32) : isM (setY S v) (upd now 1 v) := by
  have hn := ho.1
  exact M_at hM ho _ _ _ rfl (fun e => absurd rfl e) (fun _ => rfl) (fun _ => rfl) (fun e => by omega) (fun _ => rfl) (fun e => by omega) (by omega) (fun g hg => ⟨fun _ => rfl, fun e => by omega, fun _ => rfl, fun e => by omega, fun _ => rfl, fun e => by omega, fun _ => rfl, fun e => by omega⟩) (fun g hg => ⟨fun _ => rfl, fun e => by omega, fun _ => rfl, fun e => by omega⟩)
theorem M_setZ (hM : isM S now) (ho : okS S) (v : Int32) : isM (setZ S v) (upd now 2 v) := by
  have hn := ho.1
  exact M_at hM ho _ _ _ rfl (fun _ => rfl) (fun e => by omega) (fun e => absurd rfl e) (fun _ => rfl) (fun _ => rfl) (fun e => by omega) (by omega) (fun g hg => ⟨fun _ => rfl, fun e => by omega, fun _ => rfl, fun e => by omega, fun _ => rfl, fun e => by omega, fun _ => rfl, fun e => by omega⟩) (fun g hg => ⟨fun _ => rfl, fun e => by omega, fun _ => rfl, fun e => by omega⟩)
theorem M_setR (hM : isM S now) (ho : okS S) (v : Nat) : isM (setR S v) (upd now 3 (nI v)) := by
  have hn := ho.1
  exact M_at hM ho _ _ _ rfl (fun _ => rfl) (fun e => by omega) (fun _ => rfl) (fun e => by omega) (fun e => absurd rfl e) (fun _ => rfl) (by omega) (fun g hg => ⟨fun _ => rfl, fun e => by omega, fun _ => rfl, fun e => by omega, fun _ => rfl, fun e => by omega, fun _ => rfl, fun e => by omega⟩) (fun g hg => ⟨fun _ => rfl, fun e => by omega, fun _ => rfl, fun e => by omega⟩)
end MS
/-- isM speaks of the first n alone -/
theorem M_congr {S T : Sc} {now : Nat → Int32} (hM : isM S now) (hn : sN T = sN S) (hy : sY T = sY S) (hz : sZ T = sZ S) (hr : sR T = sR S) (hk : ∀ h, h < sN S → sK T h = sK S h ∧ sU T h = sU S h ∧ sB T h = sB S h ∧ sL T h = sL S h) (hb : ∀ b, b < 6 → sP T b = sP S b ∧ sD T b = sD S b) : isM T now := by
  obtain ⟨m0, m1, m2, m3, m4, m5⟩ := hM
  refine ⟨by rw [hn]; exact m0, by rw [hy]; exact m1, by rw [hz]; exact m2, by rw [hr]; exact m3, fun h hh => ?_, fun b hb' => ?_⟩
  · rw [hn] at hh
    obtain ⟨k1, k2, k3, k4⟩ := hk h hh
    rw [k1, k2, k3, k4]
    exact m4 h hh
  · obtain ⟨k1, k2⟩ := hb b hb'
    rw [k1, k2]
    exact m5 b hb'
def sumN (f : Nat → Nat) : Nat → Nat
  | 0 => 0
  | k + 1 => sumN f k + f k
theorem sumN_s (f : Nat → Nat) (k : Nat) : sumN f (k + 1) = sumN f k + f k := rfl
/-- what is paid on a day -/
def paid (S : Sc) (h : Nat) : Nat := if sU S h = 99 then 0 else sD S (sB S h)
def moreS (S : Sc) (h : Nat) : Nat := if sU S h = 99 then 0 else gainS S h
def usedS (S : Sc) (h : Nat) : Nat := min 99 (sU S h + moreS S h)
/-- a day -/
def passS (S : Sc) : Sc := (sN S, sK S, usedS S, sB S, sL S, sP S, sD S, sY S + 1, sZ S + nI (sumN (paid S) (sN S)), sR S)
theorem ok_pass {S : Sc} (ho : okS S) : okS (passS S) := ⟨ho.1, fun h hh => ⟨(ho.2.1 h hh).1, Nat.min_le_left _ _, (ho.2.1 h hh).2.2⟩, ho.2.2.1, ho.2.2.2.1, ho.2.2.2.2⟩
theorem ok_setZ {S : Sc} (ho : okS S) (v : Int32) : okS (setZ S v) := ho
theorem ok_setU {S : Sc} (ho : okS S) {h u : Nat} (hu : u ≤ 99) : okS (setU S h u) := ⟨ho.1, fun g hg => ⟨(ho.2.1 g hg).1, by
  show (if g = h then u else sU S g) ≤ 99
  split
  · exact hu
  · exact (ho.2.1 g hg).2.1, (ho.2.1 g hg).2.2⟩, ho.2.2.1, ho.2.2.2.1, ho.2.2.2.2⟩
/-- a loop with an invariant -/
theorem inv_loop {α β : Type} (L : Nat → α → Nat → Option β) (I : Nat → α → Prop) (n : Nat) (Q : Option β → Prop) (h1 : ∀ f k a, k < n → I k a → ∃ a', L (f + 1) a k = L f a' (k + 1) ∧ I (k + 1) a') (h2 : ∀ f a, I n a → Q (L (f + 1) a n)) : ∀ d k f a, k + d = n → d < f → I k a → Q (L f a k) := by
  intro d
  induction d with
  | zero =>
    intro k f a hk hf hI
    have : k = n := by omega
    subst this
    obtain ⟨f, rfl⟩ : ∃ g, f = g + 1 := ⟨f - 1, by omega⟩
    exact h2 f a hI
  | succ d ih =>
    intro k f a hk hf hI
    obtain ⟨f, rfl⟩ : ∃ g, f = g + 1 := ⟨f - 1, by omega⟩
    obtain ⟨a', e, hI'⟩ := h1 f k a (by omega) hI
    rw [e]
    exact ih (k + 1) f a' (by omega) (by omega) hI'
theorem inv_all {α β : Type} (L : Nat → α → Nat → Option β) (I : Nat → α → Prop) (n : Nat) (Q : Option β → Prop) (hn : n < 100000) (a : α) (h0 : I 0 a) (h1 : ∀ f k a, k < n → I k a → ∃ a', L (f + 1) a k = L f a' (k + 1) ∧ I (k + 1) a') (h2 : ∀ f a, I n a → Q (L (f + 1) a n)) : Q (L fu a 0) := inv_loop L I n Q h1 h2 n 0 fu a (by omega) hn h0
section M7d
variable {S : Sc} {now : Nat → Int32}
theorem usedBy7 (now : Nat → Int32) {h : Nat} (hh : h < 6) (v : Nat) (hv : v < 2 ^ 30) : f_X7_usedBy now (nI h) (nI v) = some (upd now (4 + 4 * h + 1) (nI (min 99 v))) := by
  unfold f_X7_usedBy
  rw [jn_eq, show (99 : Int32) = nI 99 from rfl, show (0 : Int32) = nI 0 from rfl, if_n_lt (by decide) (by omega), if_n_lt (by omega) (by decide), if_neg (show ¬ v < 0 by omega), show (1 : Int32) = nI 1 from rfl, told_ix, if_pos (inb_nI (by omega) (by decide)), nI_cl (by omega)]
  congr 2
  by_cases h9 : 99 < v
  · rw [if_pos h9, Nat.min_eq_left (by omega)]
  · rw [if_neg h9, Nat.min_eq_right (by omega)]
theorem goesBy65 (mores : Nat → Int32) (hM : isM S now) (ho : okS S) (g : Nat → Nat) (hg : ∀ h, h < sN S → mores h = nI (g h) ∧ g h < 1000) : ∃ now', f_X7_goesBy_c65 fu now mores 0 = some (now', mores) ∧ isM (sN S, sK S, fun h => min 99 (sU S h + g h), sB S, sL S, sP S, sD S, sY S + 1, sZ S, sR S) now' := by
  have hn := ho.1
  refine inv_all (fun f a k => f_X7_goesBy_c65 f a mores (nI k)) (fun k a => isM (sN S, sK S, fun h => if h < k then min 99 (sU S h + g h) else sU S h, sB S, sL S, sP S, sD S, sY S, sZ S, sR S) a) (sN S) (fun o => ∃ now', o = some (now', mores) ∧ isM (sN S, sK S, fun h => min 99 (sU S h + g h), sB S, sL S, sP S, sD S, sY S + 1, sZ S, sR S) now') (by omega) now ?_ ?_ ?_
  · exact M_congr hM rfl rfl rfl rfl (fun h hh => ⟨rfl, rfl, rfl, rfl⟩) (fun b hb => ⟨rfl, rfl⟩)
  · intro f k a hk hI
    obtain ⟨g1, g2⟩ := hg k hk
    have hU := (ho.2.1 k hk).2.1
    let T : Sc := (sN S, sK S, fun h => if h < k then min 99 (sU S h + g h) else sU S h, sB S, sL S, sP S, sD S, sY S, sZ S, sR S)
    have hT : okS T := ⟨ho.1, fun h hh => ⟨(ho.2.1 h hh).1, by
      show (if h < k then min 99 (sU S h + g h) else sU S h) ≤ 99
      split
      · exact Nat.min_le_left _ _
      · exact (ho.2.1 h hh).2.1, (ho.2.1 h hh).2.2⟩, ho.2.2.1, ho.2.2.2.1, ho.2.2.2.2⟩
    have eU : sU T k = sU S k := if_neg (by omega)
    refine ⟨upd a (4 + 4 * k + 1) (nI (min 99 (sU S k + g k))), ?_, ?_⟩
    · show f_X7_goesBy_c65 (f + 1) a mores (nI k) = f_X7_goesBy_c65 f (upd a (4 + 4 * k + 1) (nI (min 99 (sU S k + g k)))) mores (nI (k + 1))
      have h0 : a 0 = nI (sN S) := hI.1
      rw [f_X7_goesBy_c65, jn_eq, h0, if_pos (nI_lt hk (by omega)), used7 (S := T) hI hT hk, sb, eU, if_pos (inb_nI (by omega) (by decide)), nI_cl (by omega), g1, jn_eq, n_add, usedBy7 a (by omega) _ (by omega), sb, nI_1]
    · have h2 := M_setU (S := T) hI hT (h := k) hk (min 99 (sU S k + g k))
      refine M_congr h2 rfl rfl rfl rfl (fun h hh => ⟨rfl, ?_, rfl, rfl⟩) (fun b hb => ⟨rfl, rfl⟩)
      show (if h < k + 1 then min 99 (sU S h + g h) else sU S h) = if h = k then min 99 (sU S k + g k) else if h < k then min 99 (sU S h + g h) else sU S h
      by_cases e : h = k
      · subst e
        rw [if_pos (by omega), if_pos rfl]
      · rw [if_neg e]
        by_cases e2 : h < k
        · rw [if_pos (by omega), if_pos e2]
        · rw [if_neg (by omega), if_neg e2]
  · intro f a hI
    let T : Sc := (sN S, sK S, fun h => if h < sN S then min 99 (sU S h + g h) else sU S h, sB S, sL S, sP S, sD S, sY S, sZ S, sR S)
    have hT : okS T := ⟨ho.1, fun h hh => ⟨(ho.2.1 h hh).1, by
      show (if h < sN S then min 99 (sU S h + g h) else sU S h) ≤ 99
      split
      · exact Nat.min_le_left _ _
      · exact (ho.2.1 h hh).2.1, (ho.2.1 h hh).2.2⟩, ho.2.2.1, ho.2.2.2.1, ho.2.2.2.2⟩
    refine ⟨upd a 1 (sY S + 1), ?_, ?_⟩
    · show f_X7_goesBy_c65 (f + 1) a mores (nI (sN S)) = _
      have h0 : a 0 = nI (sN S) := hI.1
      have h1 : a 1 = sY S := hI.2.1
      rw [f_X7_goesBy_c65, jn_eq, h0, if_neg (nI_nlt (Nat.le_refl _) (by omega)), jn_eq, h1]
    · have h2 := M_setY (S := T) hI hT (sY S + 1)
      refine M_congr h2 rfl rfl rfl rfl (fun h hh => ⟨rfl, ?_, rfl, rfl⟩) (fun b hb => ⟨rfl, rfl⟩)
      show min 99 (sU S h + g h) = if h < sN S then min 99 (sU S h + g h) else sU S h
      rw [if_pos (show h < sN S from hh)]
theorem M_now {S T : Sc} {now now' : Nat → Int32} (hM : isM S now) (he : ∀ j, j < 40 → now' j = now j) (ho : okS S) : isM S now' := by
  have hn := ho.1
  obtain ⟨m0, m1, m2, m3, m4, m5⟩ := hM
  refine ⟨by rw [he 0 (by decide)]; exact m0, by rw [he 1 (by decide)]; exact m1, by rw [he 2 (by decide)]; exact m2, by rw [he 3 (by decide)]; exact m3, fun h hh => ?_, fun b hb => ?_⟩
  · rw [he _ (by omega), he _ (by omega), he _ (by omega), he _ (by omega)]
    exact m4 h hh
  · rw [he _ (by omega), he _ (by omega)]
    exact m5 b hb
theorem gainS_lt {S : Sc} (ho : okS S) (h : Nat) : gainS S h ≤ 40 := by
  have hn := ho.1
  have h1 := cnt_le (P := fun g => nb S (sB S h) g && !tk S g) (sN S)
  have h2 := cnt_le (P := fun g => nb S (sB S h) g && tk S g) (sN S)
  unfold gainS
  simp only []
  have h3 : (if sB S h = 0 ∨ sB S h = 5 then 3 else 0) ≤ 3 := by split <;> omega
  split
  · omega
  · split
    · omega
    · split
      · omega
      · split
        · exact Nat.le_trans (Nat.min_le_left _ _) (by decide)
        · omega
theorem goesBy7 {S : Sc} {now : Nat → Int32} (mores : Nat → Int32) (hM : isM S now) (ho : okS S) : ∃ r, f_X7_goesBy now mores = some r ∧ isM (passS S) r.1 := by
  have hn := ho.1
  unfold f_X7_goesBy
  refine inv_all (fun f (a : (Nat → Int32) × (Nat → Int32)) k => f_X7_goesBy_c2 f a.1 a.2 (nI k)) (fun k a => isM (setZ S (sZ S + nI (sumN (paid S) k))) a.1 ∧ ∀ h, h < k → a.2 h = nI (moreS S h)) (sN S) (fun o => ∃ r, o = some r ∧ isM (passS S) r.1) (by omega) (now, mores) ?_ ?_ ?_
  · refine ⟨M_congr hM rfl rfl ?_ rfl (fun h hh => ⟨rfl, rfl, rfl, rfl⟩) (fun b hb => ⟨rfl, rfl⟩), fun h hh => by omega⟩
    show sZ S + nI 0 = sZ S
    exact Int32.add_zero _
  · rintro f k ⟨a, mo⟩ hk ⟨hI, hI2⟩
    have hI : isM (setZ S (sZ S + nI (sumN (paid S) k))) a := hI
    have hI2 : ∀ h, h < k → mo h = nI (moreS S h) := hI2
    have hT := ok_setZ ho (sZ S + nI (sumN (paid S) k))
    have hB := (ho.2.1 k hk).2.2.1
    have h0 : a 0 = nI (sN S) := hI.1
    have h2 : a 2 = sZ S + nI (sumN (paid S) k) := hI.2.2.1
    have hD : a (34 + sB S k) = nI (sD S (sB S k)) := (hI.2.2.2.2.2 (sB S k) hB).2
    have hm : f_X7_more a (nI k) = some (nI (moreS S k)) := more7 hI hT hk
    have hu : f_X7_isUp a (nI k) = some (tf (decide (sU S k = 99))) := up7 hI hT hk
    have hby : f_X7_bayOf a (nI k) = some (nI (sB S k)) := bay7 hI hT hk
    refine ⟨(upd a 2 (sZ S + nI (sumN (paid S) (k + 1))), upd mo k (nI (moreS S k))), ?_, ?_, ?_⟩
    · show f_X7_goesBy_c2 (f + 1) a mo (nI k) = f_X7_goesBy_c2 f (upd a 2 (sZ S + nI (sumN (paid S) (k + 1)))) (upd mo k (nI (moreS S k))) (nI (k + 1))
      rw [f_X7_goesBy_c2, jn_eq, h0, if_pos (nI_lt hk (by omega)), hm, sb, if_pos (inb_nI (by omega) (by decide)), nI_cl (by omega), jn_eq, h2, hu, sb, sumN_s, ← n_add]
      unfold f_X7_goesBy_c55 paid
      by_cases h9 : sU S k = 99
      · rw [if_neg (by rw [tf_0]; simp [h9]), if_pos h9, nI_1]
        rw [show nI 0 = (0 : Int32) from rfl, Int32.add_zero, Int32.add_zero]
      · rw [if_pos (by rw [tf_0]; simp [h9]), if_neg h9, hby, sb, show (34 : Int32) + nI (sB S k) = nI (34 + sB S k) from n_add 34 _, if_pos (inb_nI (by omega) (by decide)), nI_cl (by omega), jn_eq, hD, nI_1, Int32.add_assoc]
    · refine M_congr (M_setZ hI hT (sZ S + nI (sumN (paid S) (k + 1)))) rfl rfl rfl rfl (fun h hh => ⟨rfl, rfl, rfl, rfl⟩) (fun b hb => ⟨rfl, rfl⟩)
    · intro h hh
      show upd mo k (nI (moreS S k)) h = nI (moreS S h)
      by_cases e : h = k
      · subst e; exact pk_us
      · rw [pk_un e]; exact hI2 h (by omega)
  · rintro f ⟨a, mo⟩ ⟨hI, hI2⟩
    have hI : isM (setZ S (sZ S + nI (sumN (paid S) (sN S)))) a := hI
    have hI2 : ∀ h, h < sN S → mo h = nI (moreS S h) := hI2
    have hT := ok_setZ ho (sZ S + nI (sumN (paid S) (sN S)))
    have h0 : a 0 = nI (sN S) := hI.1
    obtain ⟨now', e1, e2⟩ := goesBy65 (S := setZ S (sZ S + nI (sumN (paid S) (sN S)))) mo hI hT (moreS S) (fun h hh => ⟨hI2 h hh, by
      have := gainS_lt ho h
      unfold moreS
      split <;> omega⟩)
    refine ⟨(now', mo), ?_, ?_⟩
    · show f_X7_goesBy_c2 (f + 1) a mo (nI (sN S)) = _
      rw [f_X7_goesBy_c2, jn_eq, h0, if_neg (nI_nlt (Nat.le_refl _) (by omega)), e1]
    · exact M_congr e2 rfl rfl rfl rfl (fun h hh => ⟨rfl, rfl, rfl, rfl⟩) (fun b hb => ⟨rfl, rfl⟩)
end M7d
