/-! MATHEMATICS 2: a scene as numbers: how many, KIND, USED, BAY, LIKES of each, LAMP, DUE of each bay, the day, dues in all, the draw -/
abbrev Sc : Type := Nat × (Nat → Nat) × (Nat → Nat) × (Nat → Nat) × (Nat → Nat) × (Nat → Nat) × (Nat → Nat) × Int32 × Int32 × Nat
def sN (S : Sc) : Nat := S.1
def sK (S : Sc) : Nat → Nat := S.2.1
def sU (S : Sc) : Nat → Nat := S.2.2.1
def sB (S : Sc) : Nat → Nat := S.2.2.2.1
def sL (S : Sc) : Nat → Nat := S.2.2.2.2.1
def sP (S : Sc) : Nat → Nat := S.2.2.2.2.2.1
def sD (S : Sc) : Nat → Nat := S.2.2.2.2.2.2.1
def sY (S : Sc) : Int32 := S.2.2.2.2.2.2.2.1
def sZ (S : Sc) : Int32 := S.2.2.2.2.2.2.2.2.1
def sR (S : Sc) : Nat := S.2.2.2.2.2.2.2.2.2
/-- the scene is as it must be -/
def okS (S : Sc) : Prop := sN S ≤ 6 ∧ (∀ h, h < sN S → sK S h ≤ 4 ∧ sU S h ≤ 99 ∧ sB S h < 6 ∧ sL S h < 6) ∧ (∀ g h, g < sN S → h < sN S → sB S g = sB S h → g = h) ∧ (∀ b, b < 6 → sP S b ≤ 9 ∧ sD S b ≤ 99) ∧ sR S < 2 ^ 31
/-- the reference's row holds the scene -/
def isM (S : Sc) (now : Nat → Int32) : Prop := now 0 = nI (sN S) ∧ now 1 = sY S ∧ now 2 = sZ S ∧ now 3 = nI (sR S) ∧
  (∀ h, h < sN S → now (4 + 4 * h) = nI (sK S h) ∧ now (4 + 4 * h + 1) = nI (sU S h) ∧ now (4 + 4 * h + 2) = nI (sB S h) ∧ now (4 + 4 * h + 3) = nI (sL S h)) ∧ (∀ b, b < 6 → now (28 + b) = nI (sP S b) ∧ now (34 + b) = nI (sD S b))
/-- the last of n with that bay -/
def wf (B : Nat → Nat) (b : Nat) : Nat → Option Nat
  | 0 => none
  | k + 1 => if B k = b then some k else wf B b k
def wI (o : Option Nat) (e : Int32) : Int32 := match o with
  | some h => nI h
  | none => e
/-- the class' scene holds it -/
def isX (S : Sc) (kind used bay likes who lamp due : Nat → Int32) (count day dues draw : Int32) : Prop := count = nI (sN S) ∧ day = sY S ∧ dues = sZ S ∧ draw = nI (sR S) ∧
  (∀ h, h < sN S → kind h = nI (sK S h) ∧ used h = nI (sU S h) ∧ bay h = nI (sB S h) ∧ likes h = nI (sL S h)) ∧ (∀ b, b < 6 → lamp b = nI (sP S b) ∧ due b = nI (sD S b)) ∧ (∀ b, b < 6 → who b = wI (wf (sB S) b (sN S)) (-1))
theorem wf_s (B : Nat → Nat) (b k : Nat) : wf B b (k + 1) = if B k = b then some k else wf B b k := rfl
theorem wf_some {B : Nat → Nat} {b : Nat} : ∀ {n h : Nat}, wf B b n = some h → h < n ∧ B h = b := by
  intro n
  induction n with
  | zero => intro h e; cases e
  | succ n ih =>
    intro h e
    unfold wf at e
    by_cases hb : B n = b
    · rw [if_pos hb] at e
      cases e
      exact ⟨by omega, hb⟩
    · rw [if_neg hb] at e
      have := ih e
      exact ⟨by omega, this.2⟩
theorem wf_none {B : Nat → Nat} {b : Nat} : ∀ {n : Nat}, wf B b n = none → ∀ h, h < n → B h ≠ b := by
  intro n
  induction n with
  | zero => intro _ h hh; omega
  | succ n ih =>
    intro e h hh
    unfold wf at e
    by_cases hb : B n = b
    · rw [if_pos hb] at e
      cases e
    · rw [if_neg hb] at e
      by_cases hn : h = n
      · subst hn; exact hb
      · exact ih e h (by omega)
theorem wf_is {B : Nat → Nat} {b n h : Nat} (hh : h < n) (hb : B h = b) (hi : ∀ g, g < n → B g = b → g = h) : wf B b n = some h := by
  cases e : wf B b n with
  | none => exact absurd hb (wf_none e h hh)
  | some g =>
    obtain ⟨h1, h2⟩ := wf_some e
    rw [hi g h1 h2]
/-- a loop whose row of values is known: from any k on it comes to its end -/
theorem pre_loop {α β : Type} (L : Nat → α → Nat → Option β) (A : Nat → α) (n : Nat) (out : Option β) (h1 : ∀ f k, k < n → L (f + 1) (A k) k = L f (A (k + 1)) (k + 1)) (h2 : ∀ f, L (f + 1) (A n) n = out) : ∀ d k f, k + d = n → d < f → L f (A k) k = out := by
  intro d
  induction d with
  | zero =>
    intro k f hk hf
    have : k = n := by omega
    subst this
    obtain ⟨f, rfl⟩ : ∃ g, f = g + 1 := ⟨f - 1, by omega⟩
    exact h2 f
  | succ d ih =>
    intro k f hk hf
    obtain ⟨f, rfl⟩ : ∃ g, f = g + 1 := ⟨f - 1, by omega⟩
    rw [h1 f k (by omega)]
    exact ih (k + 1) f (by omega) (by omega)
theorem pre_all {α β : Type} (L : Nat → α → Nat → Option β) (A : Nat → α) (n : Nat) (out : Option β) (hn : n < 100000) (h1 : ∀ f k, k < n → L (f + 1) (A k) k = L f (A (k + 1)) (k + 1)) (h2 : ∀ f, L (f + 1) (A n) n = out) : L fu (A 0) 0 = out := pre_loop L A n out h1 h2 n 0 fu (by omega) hn
theorem n_lt {a b : Nat} (ha : a < 2 ^ 31) (hb : b < 2 ^ 31) : (nI a < nI b) = (a < b) := propext (nI_ltI ha hb)
theorem n_eq {a b : Nat} (ha : a < 2 ^ 31) (hb : b < 2 ^ 31) : (nI a = nI b) = (a = b) := propext (nI_eq ha hb)
theorem n_add (a b : Nat) : nI a + nI b = nI (a + b) := nI_add a b
theorem n_mul (a b : Nat) : nI a * nI b = nI (a * b) := pk_mul a b
/-! the reference's small functions -/
theorem told_ix (h w : Nat) : (4 : Int32) + 4 * nI h + nI w = nI (4 + 4 * h + w) := by
  show nI 4 + nI 4 * nI h + nI w = _
  rw [n_mul, n_add, n_add]
theorem told7 (now : Nat → Int32) {h w : Nat} (hh : h < 6) (hw : w < 4) : f_X7_told now (nI h) (nI w) = some (now (4 + 4 * h + w)) := by
  unfold f_X7_told
  rw [told_ix, if_pos (inb_nI (by omega) (by omega)), jn_eq, nI_cl (by omega)]
theorem used7r (now : Nat → Int32) {h : Nat} (hh : h < 6) : f_X7_used now (nI h) = some (now (4 + 4 * h + 1)) := by
  unfold f_X7_used
  rw [show (1 : Int32) = nI 1 from rfl, told7 now hh (by decide), sb]
theorem bay7r (now : Nat → Int32) {h : Nat} (hh : h < 6) : f_X7_bayOf now (nI h) = some (now (4 + 4 * h + 2)) := by
  unfold f_X7_bayOf
  rw [show (2 : Int32) = nI 2 from rfl, told7 now hh (by decide), sb]
section M7
variable {S : Sc} {now : Nat → Int32}
theorem used7 (hM : isM S now) (ho : okS S) {h : Nat} (hh : h < sN S) : f_X7_used now (nI h) = some (nI (sU S h)) := by
  have := ho.1
  rw [used7r now (by omega), (hM.2.2.2.2.1 h hh).2.1]
theorem bay7 (hM : isM S now) (ho : okS S) {h : Nat} (hh : h < sN S) : f_X7_bayOf now (nI h) = some (nI (sB S h)) := by
  have := ho.1
  rw [bay7r now (by omega), (hM.2.2.2.2.1 h hh).2.2.1]
theorem up7 (hM : isM S now) (ho : okS S) {h : Nat} (hh : h < sN S) : f_X7_isUp now (nI h) = some (tf (decide (sU S h = 99))) := by
  have hu := (ho.2.1 h hh).2.1
  unfold f_X7_isUp
  rw [used7 hM ho hh, sb, jn_eq]
  by_cases h9 : sU S h = 99
  · rw [h9]; rfl
  · have : ¬ nI (sU S h) = 99 := fun e => h9 (by rw [show (99 : Int32) = nI 99 from rfl, n_eq (by omega) (by decide)] at e; exact e)
    rw [if_neg this, decide_eq_false h9]; rfl
theorem isHolder7 (hM : isM S now) (ho : okS S) (x : Int32) : f_X7_isHolder now x = some (tf (decide (0 ≤ x.toInt ∧ x.toInt < sN S))) := by
  have hn := ho.1
  unfold f_X7_isHolder
  rw [jn_eq, hM.1, in7, sb, if_pos (tf_isb _)]
  congr 2
  have h1 : (nI (sN S) - 1).toInt64.toInt = (sN S : Int) - 1 := by
    rw [w_toInt, show (1 : Int32) = nI 1 from rfl, pk_sub_toInt (by omega) (by decide)]
    rfl
  rw [w_toInt, h1]
  have h0 : (0 : Int64).toInt = 0 := rfl
  rw [h0]
  apply decide_eq_decide.mpr
  omega
theorem who7 (hM : isM S now) (ho : okS S) {b : Nat} (hb : b < 6) : f_X7_whoHas now (nI b) = some (wI (wf (sB S) b (sN S)) (-4)) := by
  have hn := ho.1
  unfold f_X7_whoHas
  refine pre_all (fun f acc k => f_X7_whoHas_c5 f now (nI b) acc (nI k)) (fun k => wI (wf (sB S) b k) (-4)) (sN S) _ (by omega) ?_ ?_
  · intro f k hk
    have hB := (ho.2.1 k hk).2.2.1
    show f_X7_whoHas_c5 (f + 1) now (nI b) (wI (wf (sB S) b k) (-4)) (nI k) = f_X7_whoHas_c5 f now (nI b) (wI (wf (sB S) b (k + 1)) (-4)) (nI (k + 1))
    rw [f_X7_whoHas_c5, jn_eq, hM.1, if_pos (nI_lt hk (by omega)), bay7 hM ho hk, sb, jn_eq]
    have e1 : nI k + 1 = nI (k + 1) := nI_1 k
    rw [e1]
    congr 1
    rw [wf_s]
    by_cases hkb : sB S k = b
    · rw [if_pos hkb, hkb, if_pos rfl]
      rfl
    · rw [if_neg hkb, if_neg (fun e => hkb (by rw [n_eq (by omega) (by omega)] at e; exact e))]
  · intro f
    show f_X7_whoHas_c5 (f + 1) now (nI b) (wI (wf (sB S) b (sN S)) (-4)) (nI (sN S)) = _
    rw [f_X7_whoHas_c5, jn_eq, hM.1, if_neg (nI_nlt (Nat.le_refl _) (by omega))]
end M7
