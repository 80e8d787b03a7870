/-! MATHEMATICS 32: the tape: blanks, letters, digits, signs, kinds, numbers on both sides -/
/-- both tapes hold the letters -/
def TP (c : Nat → Nat) (len : Nat) (letters tape : Nat → Int32) : Prop := len ≤ 80 ∧ ∀ j, j < len → 32 ≤ c j ∧ c j ≤ 126 ∧ letters j = nI (c j) ∧ tape j = nI (c j)
theorem TP_of {letters : Nat → Int32} {length : Int32} {tape : Nat → Int32} {typed : Int32} (h : RT letters length tape typed) : ∃ c len, TP c len letters tape ∧ length = nI len ∧ typed = nI len := by
  obtain ⟨len, h1, h2, h3, h4⟩ := h
  refine ⟨fun j => (letters j).toNatClampNeg, len, ⟨h1, fun j hj => ?_⟩, h2, h3⟩
  obtain ⟨c, a1, a2, a3, a4⟩ := h4 j hj
  have e : (letters j).toNatClampNeg = c := by rw [a3, nI_cl (by omega)]
  show 32 ≤ (letters j).toNatClampNeg ∧ (letters j).toNatClampNeg ≤ 126 ∧ letters j = nI (letters j).toNatClampNeg ∧ tape j = nI (letters j).toNatClampNeg
  rw [e]
  exact ⟨a1, a2, a3, a4⟩
def skp (c : Nat → Nat) (len : Nat) : Nat → Nat → Nat
  | 0, p => p
  | d + 1, p => if p < len ∧ c p = 32 then skp c len d (p + 1) else p
theorem skp_s (c : Nat → Nat) (len d p : Nat) : skp c len (d + 1) p = if p < len ∧ c p = 32 then skp c len d (p + 1) else p := rfl
def sk (c : Nat → Nat) (len p : Nat) : Nat := skp c len (len - p) p
/-- the letter there; 0 at the end -/
def hc (c : Nat → Nat) (len q : Nat) : Nat := if q < len then c q else 0
def kd (h : Nat) : Option Nat := if h = 112 then some 0 else if h = 115 then some 1 else if h = 109 then some 2 else if h = 108 then some 3 else if h = 121 then some 4 else none
theorem neg1 : (-1 : Int32) < 0 := by decide
section TP1
variable {c : Nat → Nat} {len : Nat} {letters tape : Nat → Int32}
theorem skp_ok : ∀ d p, p ≤ len → skp c len d p ≤ len ∧ p ≤ skp c len d p := by
  intro d
  induction d with
  | zero => intro p hp; exact ⟨hp, Nat.le_refl _⟩
  | succ d ih =>
    intro p hp
    rw [skp_s]
    by_cases h : p < len ∧ c p = 32
    · rw [if_pos h]
      obtain ⟨h1, h2⟩ := ih (p + 1) (by omega)
      exact ⟨h1, by omega⟩
    · rw [if_neg h]
      exact ⟨hp, Nat.le_refl _⟩
theorem skp_end : ∀ d p, len ≤ p + d → ¬ (skp c len d p < len ∧ c (skp c len d p) = 32) := by
  intro d
  induction d with
  | zero =>
    intro p hp h
    have : p < len := h.1
    omega
  | succ d ih =>
    intro p hp
    rw [skp_s]
    by_cases h : p < len ∧ c p = 32
    · rw [if_pos h]
      exact ih (p + 1) (by omega)
    · rw [if_neg h]
      exact h
theorem skp_same {q : Nat} (h : ¬ (q < len ∧ c q = 32)) : ∀ d, skp c len d q = q := by
  intro d
  cases d with
  | zero => rfl
  | succ d => rw [skp_s, if_neg h]
theorem sk_le {p : Nat} (hp : p ≤ len) : sk c len p ≤ len := (skp_ok _ p hp).1
theorem sk_end (p : Nat) : ¬ (sk c len p < len ∧ c (sk c len p) = 32) := skp_end _ p (by omega)
theorem sk_sk (p : Nat) : sk c len (sk c len p) = sk c len p := skp_same (sk_end p) _
theorem hc_in {q : Nat} (h : q < len) : hc c len q = c q := if_pos h
theorem hc_out {q : Nat} (h : ¬ q < len) : hc c len q = 0 := if_neg h
theorem hc_le (hT : TP c len letters tape) (q : Nat) : hc c len q ≤ 126 := by
  by_cases h : q < len
  · rw [hc_in h]; exact (hT.2 q h).2.1
  · rw [hc_out h]; omega
theorem hc_lt {q : Nat} (h : ¬ hc c len q = 0) : q < len := by
  by_cases k : q < len
  · exact k
  · exact absurd (hc_out k) h
theorem hc_0 (hT : TP c len letters tape) {q : Nat} (hq : q ≤ len) : hc c len q = 0 ↔ q = len := by
  constructor
  · intro h
    by_cases k : q < len
    · rw [hc_in k] at h
      have := (hT.2 q k).1
      omega
    · omega
  · intro h
    exact hc_out (by omega)
theorem skip5 (hT : TP c len letters tape) {p : Nat} (hp : p ≤ len) : f_X5_skipBlanks letters (nI len) (nI p) = some (nI (sk c len p)) := by
  have h80 := hT.1
  have key : ∀ d p f, p ≤ len → len ≤ p + d → d < f → f_X5_skipBlanks_c0 f letters (nI len) (nI p) = some (nI (skp c len d p)) := by
    intro d
    induction d with
    | zero =>
      intro p f h1 h2 h3
      obtain ⟨f, rfl⟩ : ∃ g, f = g + 1 := ⟨f - 1, by omega⟩
      rw [f_X5_skipBlanks_c0, if_neg (nI_nlt (by omega) (by omega))]
      rfl
    | succ d ih =>
      intro p f h1 h2 h3
      obtain ⟨f, rfl⟩ : ∃ g, f = g + 1 := ⟨f - 1, by omega⟩
      rw [skp_s]
      by_cases h : p < len
      · obtain ⟨c1, c2, c3, c4⟩ := hT.2 p h
        rw [f_X5_skipBlanks_c0, if_pos (nI_lt h (by omega)), if_pos (inb_nI (show p < 80 by omega) (by decide)), nI_cl (by omega), jn_eq, c3, show (32 : Int32) = nI 32 from rfl, if_n_eq (by omega) (by decide)]
        by_cases h32 : c p = 32
        · rw [if_pos h32, if_pos (And.intro h h32), nI_1]
          exact ih (p + 1) f (by omega) (by omega) (by omega)
        · rw [if_neg h32, if_neg (fun k => h32 k.2)]
      · rw [f_X5_skipBlanks_c0, if_neg (nI_nlt (by omega) (by omega)), if_neg (fun k => h k.1)]
  exact key _ p fu hp (by omega) (show len - p < 100000 by omega)
theorem here7e (hT : TP c len letters tape) {q : Nat} (hq : q ≤ len) : f_X7_here_c38 tape (nI len) (nI q) = some (nI (hc c len q), nI q) := by
  have h80 := hT.1
  unfold f_X7_here_c38
  by_cases h : q < len
  · rw [if_pos (nI_lt h (by omega)), if_pos (inb_nI (show q < 80 by omega) (by decide)), nI_cl (by omega), jn_eq, (hT.2 q h).2.2.2, hc_in h]
  · rw [if_neg (nI_nlt (by omega) (by omega)), hc_out h]
    rfl
theorem here7 (hT : TP c len letters tape) {p : Nat} (hp : p ≤ len) : f_X7_here tape (nI len) (nI p) = some (nI (hc c len (sk c len p)), nI (sk c len p)) := by
  have h80 := hT.1
  have key : ∀ d p f, p ≤ len → len ≤ p + d → d < f → f_X7_here_c0 f tape (nI len) (nI p) = some (nI (hc c len (skp c len d p)), nI (skp c len d p)) := by
    intro d
    induction d with
    | zero =>
      intro p f h1 h2 h3
      obtain ⟨f, rfl⟩ : ∃ g, f = g + 1 := ⟨f - 1, by omega⟩
      rw [f_X7_here_c0, if_neg (nI_nlt (by omega) (by omega))]
      exact here7e hT h1
    | succ d ih =>
      intro p f h1 h2 h3
      obtain ⟨f, rfl⟩ : ∃ g, f = g + 1 := ⟨f - 1, by omega⟩
      rw [skp_s]
      by_cases h : p < len
      · obtain ⟨c1, c2, c3, c4⟩ := hT.2 p h
        rw [f_X7_here_c0, if_pos (nI_lt h (by omega)), if_pos (inb_nI (show p < 80 by omega) (by decide)), nI_cl (by omega), jn_eq, c4, show (32 : Int32) = nI 32 from rfl, if_n_eq (by omega) (by decide)]
        by_cases h32 : c p = 32
        · rw [if_pos h32, if_pos (And.intro h h32), nI_1]
          exact ih (p + 1) f (by omega) (by omega) (by omega)
        · rw [if_neg h32, if_neg (fun k => h32 k.2)]
          exact here7e hT h1
      · rw [f_X7_here_c0, if_neg (nI_nlt (by omega) (by omega)), if_neg (fun k => h k.1)]
        exact here7e hT h1
  exact key _ p fu hp (by omega) (show len - p < 100000 by omega)
/-! digits -/
theorem dig27 (letters : Nat → Int32) (length place : Int32) {h m : Nat} (hh : h ≤ 126) (hm : m ≤ 9) : f_X5_digitHere_c27 letters length place (nI m) (nI h - 48) = some (if 48 ≤ h ∧ h ≤ 48 + m then nI (h - 48) else (-1)) := by
  unfold f_X5_digitHere_c27
  rw [jn_eq]
  congr 1
  by_cases h1 : 48 ≤ h
  · rw [show (48 : Int32) = nI 48 from rfl, pk_sub h1, if_neg (nI_pos (by omega)), if_n_lt (by omega) (by omega)]
    by_cases h2 : h ≤ 48 + m
    · rw [if_neg (show ¬ m < h - 48 by omega), if_pos (And.intro h1 h2)]
    · rw [if_pos (show m < h - 48 by omega), if_neg (fun k => h2 k.2)]
  · rw [if_pos (show nI h - 48 < 0 from pk_sneg (b := 48) (by decide) (by omega)), if_neg (fun k => h1 k.1)]
theorem digitHere5 (hT : TP c len letters tape) {q m : Nat} (hq : q ≤ len) (hm : m ≤ 9) : f_X5_digitHere letters (nI len) (nI q) (nI m) = some (if 48 ≤ hc c len q ∧ hc c len q ≤ 48 + m then nI (hc c len q - 48) else (-1)) := by
  have h80 := hT.1
  unfold f_X5_digitHere
  by_cases h : q < len
  · rw [if_pos (nI_lt h (by omega)), if_pos (inb_nI (show q < 80 by omega) (by decide)), nI_cl (by omega), jn_eq, (hT.2 q h).2.2.1, hc_in h]
    exact dig27 _ _ _ (hT.2 q h).2.1 hm
  · rw [if_neg (nI_nlt (by omega) (by omega)), hc_out h, if_neg (fun k => absurd k.1 (by decide))]
    rfl
theorem readDigit5 (hT : TP c len letters tape) {p m : Nat} (hp : p ≤ len) (hm : m ≤ 9) : f_X5_readDigit letters (nI len) (nI p) (nI m) = some (if 48 ≤ hc c len (sk c len p) ∧ hc c len (sk c len p) ≤ 48 + m then (nI (hc c len (sk c len p) - 48), nI (sk c len p + 1)) else ((-1), nI (sk c len p))) := by
  have hb := hc_le hT (sk c len p)
  unfold f_X5_readDigit
  rw [skip5 hT hp, sb, digitHere5 hT (sk_le hp) hm, sb]
  by_cases h : 48 ≤ hc c len (sk c len p) ∧ hc c len (sk c len p) ≤ 48 + m
  · rw [if_pos h, if_pos h, if_neg (nI_pos (by omega)), nI_1]
  · rw [if_neg h, if_neg h, if_pos neg1]
theorem must0 (p : Int32) (b : Bool) : f_X7_must p 0 (tf b) = some (if b = true then (p + 1, 0) else (p, 1)) := by
  unfold f_X7_must
  cases b
  · rw [if_pos rfl, if_pos (show tf false = 0 from rfl), jn_eq, if_pos (show isb 1 = true from rfl), jn_eq, if_neg (show ¬ (1 : Int32) = 0 by decide), Int32.add_zero]
    rfl
  · rw [if_pos rfl, if_neg (show ¬ tf true = 0 by decide), jn_eq, if_pos (show isb 0 = true from rfl), jn_eq, if_pos rfl]
    rfl
theorem must1 (p x : Int32) : f_X7_must p 1 x = some (p, 1) := by
  unfold f_X7_must
  rw [if_neg (show ¬ (1 : Int32) = 0 by decide), jn_eq, if_pos (show isb 1 = true from rfl), jn_eq, if_neg (show ¬ (1 : Int32) = 0 by decide), Int32.add_zero]
theorem sub48 {h : Nat} (hh : h ≤ 126) : (nI h - 48).toInt = (h : Int) - 48 := pk_sub_toInt (b := 48) (by omega) (by decide)
theorem digit7 (hT : TP c len letters tape) {p m : Nat} (hp : p ≤ len) (hm : m ≤ 9) : f_X7_digit tape (nI len) (nI p) 0 (nI m) = some (if 48 ≤ hc c len (sk c len p) ∧ hc c len (sk c len p) ≤ 48 + m then (nI (hc c len (sk c len p) - 48), nI (sk c len p + 1), 0) else (nI (hc c len (sk c len p)) - 48, nI (sk c len p), 1)) := by
  have hb := hc_le hT (sk c len p)
  unfold f_X7_digit
  rw [if_pos rfl, here7 hT hp, sb]
  unfold f_X7_digit_c18
  rw [in7w, sb, must0, sb, sub48 hb, w_toInt, l_lit (by omega), show ((0 : Int64)).toInt = 0 from rfl]
  by_cases h : 48 ≤ hc c len (sk c len p) ∧ hc c len (sk c len p) ≤ 48 + m
  · rw [if_pos h, decide_eq_true (by omega), if_pos rfl, show (48 : Int32) = nI 48 from rfl, pk_sub h.1, nI_1]
  · rw [if_neg h, decide_eq_false (by omega), if_neg (by decide)]
theorem digit7F (tape : Nat → Int32) (typed place m : Int32) : f_X7_digit tape typed place 1 m = some ((-1), place, 1) := by
  unfold f_X7_digit
  rw [if_neg (show ¬ (1 : Int32) = 0 by decide)]
  unfold f_X7_digit_c18
  rw [in7w, sb, must1, sb]
theorem takes5 (hT : TP c len letters tape) {p s : Nat} (hp : p ≤ len) (h0 : 0 < s) (hs : s ≤ 126) : f_X5_takesSign letters (nI len) (nI p) (nI s) = some (if hc c len (sk c len p) = s then (1, nI (sk c len p + 1)) else (0, nI (sk c len p))) := by
  have h80 := hT.1
  have hq := sk_le (c := c) hp
  unfold f_X5_takesSign
  rw [skip5 hT hp, sb]
  by_cases h : sk c len p < len
  · obtain ⟨c1, c2, c3, c4⟩ := hT.2 _ h
    rw [if_pos (nI_lt h (by omega)), if_pos (inb_nI (show sk c len p < 80 by omega) (by decide)), nI_cl (by omega), jn_eq, c3, hc_in h, if_n_eq (by omega) (by omega), nI_1]
    by_cases k : c (sk c len p) = s
    · rw [if_pos k, if_pos k]
    · rw [if_neg k, if_neg k]
  · rw [if_neg (nI_nlt (by omega) (by omega)), hc_out h, if_neg (by omega)]
/-! kinds -/
theorem kd_le {h k : Nat} (e : kd h = some k) : k ≤ 4 ∧ ¬ h = 0 := by
  by_cases h0 : h = 0
  · subst h0
    rw [show kd 0 = none from rfl] at e
    cases e
  · refine ⟨?_, h0⟩
    unfold kd at e
    repeat' split at e
    all_goals first | (cases e; done) | (cases e; decide)
theorem ioc_s (f : Nat) (x : Int32) {k : Nat} (hk : k < 5) : f_J_ioc_c7 (f + 1) 5 x (nI k) = if kb k = x then some (nI k) else f_J_ioc_c7 f 5 x (nI (k + 1)) := by
  rw [f_J_ioc_c7, if_pos (show nI k < (5 : Int32) from nI_lt (b := 5) hk (by decide)), if_pos (inb_nI hk (by decide)), nI_cl (by omega), nI_1]
theorem ioc_e (f : Nat) (x : Int32) : f_J_ioc_c7 (f + 1) 5 x (nI 5) = some (-1) := by
  rw [f_J_ioc_c7, if_neg (show ¬ nI 5 < (5 : Int32) by decide)]
theorem nar8 : ∀ h : Fin 127, (nI h.val).toInt8.toInt32 = nI h.val := by decide +kernel
theorem kbs : ∀ h : Fin 127, (if kb 0 = nI h.val then some (nI 0) else if kb 1 = nI h.val then some (nI 1) else if kb 2 = nI h.val then some (nI 2) else if kb 3 = nI h.val then some (nI 3) else if kb 4 = nI h.val then some (nI 4) else some (-1)) = some (wI (kd h.val) (-1)) := by decide +kernel
theorem kds : ∀ h : Fin 127, (if nI h.val = 112 then (0 : Int32) else (if nI h.val = 115 then 1 else (if nI h.val = 109 then 2 else (if nI h.val = 108 then 3 else (if nI h.val = 121 then 4 else (-1)))))) = wI (kd h.val) (-1) := by decide +kernel
theorem kindJ {h : Nat} (hh : h ≤ 126) : f_J_i1 (nI h) = some (wI (kd h) (-1)) := by
  have hL : f_J_length = some 5 := by decide +kernel
  have hE : f_J_canEncode (nI h) = some 1 := by
    unfold f_J_canEncode
    rw [if_neg (nI_pos (by omega)), if_neg (show ¬ (255 : Int32) < nI h from nI_nlt (b := h) (a := 255) (by omega) (by decide))]
  have hO : f_J_ioc (nI h) 0 5 = some (wI (kd h) (-1)) := by
    unfold f_J_ioc
    rw [nar8 ⟨h, by omega⟩]
    show f_J_ioc_c7 (99994 + 1 + 1 + 1 + 1 + 1 + 1) 5 (nI h) (nI 0) = _
    rw [ioc_s _ _ (by decide), ioc_s _ _ (by decide), ioc_s _ _ (by decide), ioc_s _ _ (by decide), ioc_s _ _ (by decide), ioc_e]
    exact kbs ⟨h, by omega⟩
  unfold f_J_i1 f_J_i2
  rw [sb, hL, sb]
  unfold f_J_io
  rw [hE, sb, if_neg (show ¬ (1 : Int32) = 0 by decide), jn_eq, jn_eq, if_neg (show ¬ (0 : Int32) < 0 by decide), if_neg (show ¬ (5 : Int32) < 5 by decide), if_pos (show (0 : Int32) < 5 by decide), hO, sb, sb, sb]
theorem kind5 (hT : TP c len letters tape) {p : Nat} (hp : p ≤ len) : f_X5_readKind letters (nI len) (nI p) = some (wI (kd (hc c len (sk c len p))) (-1), nI (if (kd (hc c len (sk c len p))).isSome = true then sk c len p + 1 else sk c len p)) := by
  have h80 := hT.1
  have hq := sk_le (c := c) hp
  have hb := hc_le hT (sk c len p)
  unfold f_X5_readKind
  rw [skip5 hT hp, sb]
  have h33 : f_X5_readKind_c33 letters (nI len) (nI (sk c len p)) (wI (kd (hc c len (sk c len p))) (-1)) = some (wI (kd (hc c len (sk c len p))) (-1), nI (if (kd (hc c len (sk c len p))).isSome = true then sk c len p + 1 else sk c len p)) := by
    unfold f_X5_readKind_c33
    cases e : kd (hc c len (sk c len p)) with
    | none => rw [if_pos (show wI none (-1) < 0 by decide), if_neg (by decide)]
    | some k =>
      have := (kd_le e).1
      rw [if_neg (show ¬ wI (some k) (-1) < 0 from nI_pos (by omega)), if_pos (show (some k).isSome = true from rfl), nI_1]
  by_cases h : sk c len p < len
  · obtain ⟨c1, c2, c3, c4⟩ := hT.2 _ h
    rw [if_pos (nI_lt h (by omega)), if_pos (inb_nI (show sk c len p < 80 by omega) (by decide)), nI_cl (by omega), jn_eq, c3, kindJ c2, sb, ← hc_in (c := c) h]
    exact h33
  · rw [if_neg (nI_nlt (by omega) (by omega))]
    rw [hc_out h] at h33 ⊢
    exact h33
/-! numbers -/
theorem n53F (f : Nat) (tape : Nat → Int32) (typed place x2 x3 : Int32) : f_X7_number_c53 (f + 1) tape typed place 1 x2 x3 = some (x3, place, 1) := by
  rw [f_X7_number_c53, if_neg (show ¬ (1 : Int32) = 0 by decide)]
theorem num7F (tape : Nat → Int32) (typed place : Int32) : f_X7_number tape typed place 1 = some (0, place, 1) := by
  unfold f_X7_number
  rw [if_neg (show ¬ (1 : Int32) = 0 by decide)]
  unfold f_X7_number_c15
  rw [if_neg (show ¬ (1 : Int32) = 0 by decide)]
  unfold f_X7_number_c45 f_X7_number_c50
  exact n53F 99999 _ _ _ _ _
theorem n53_e (hT : TP c len letters tape) (f : Nat) {q b : Nat} (hq : q ≤ len) (hb : b ≤ q) (x3 : Int32) (h : ¬ (q - b < 2 ∧ 48 ≤ hc c len q ∧ hc c len q ≤ 57)) : f_X7_number_c53 (f + 1) tape (nI len) (nI q) 0 (nI b) x3 = some (x3, nI q, 0) := by
  have h80 := hT.1
  rw [f_X7_number_c53, if_pos rfl]
  by_cases h1 : q < len
  · rw [if_pos (nI_lt h1 (by omega)), pk_sub hb, show (2 : Int32) = nI 2 from rfl, if_n_lt (by omega) (by decide)]
    by_cases h2 : q - b < 2
    · obtain ⟨c1, c2, c3, c4⟩ := hT.2 _ h1
      rw [hc_in h1] at h
      rw [if_pos h2, if_pos (inb_nI (show q < 80 by omega) (by decide)), nI_cl (by omega), jn_eq, c4, in7w, sb, l_lit (by omega), if_pos (tf_x (fun k => h ⟨h2, by have := k.1; have e : ((48 : Int64)).toInt = 48 := rfl; omega, by have := k.2; have e : ((57 : Int64)).toInt = 57 := rfl; omega⟩))]
    · rw [if_neg h2]
  · rw [if_neg (nI_nlt (by omega) (by omega))]
theorem n53_s (hT : TP c len letters tape) (f : Nat) {q b : Nat} (hb : b ≤ q) (x3 : Int32) (h2 : q - b < 2) (h3 : 48 ≤ hc c len q ∧ hc c len q ≤ 57) : f_X7_number_c53 (f + 1) tape (nI len) (nI q) 0 (nI b) x3 = f_X7_number_c53 f tape (nI len) (nI (q + 1)) 0 (nI b) (10 * x3 + nI (hc c len q) - 48) := by
  have h80 := hT.1
  have h1 : q < len := hc_lt (c := c) (by omega)
  obtain ⟨c1, c2, c3, c4⟩ := hT.2 _ h1
  rw [hc_in h1] at h3 ⊢
  rw [f_X7_number_c53, if_pos rfl, if_pos (nI_lt h1 (by omega)), pk_sub hb, show (2 : Int32) = nI 2 from rfl, if_n_lt (by omega) (by decide), if_pos h2, if_pos (inb_nI (show q < 80 by omega) (by decide)), nI_cl (by omega), jn_eq, jn_eq, c4, in7w, sb, l_lit (by omega), if_neg (tf_y (show ((48 : Int64)).toInt ≤ (c q : Int) ∧ (c q : Int) ≤ ((57 : Int64)).toInt from ⟨by show (48 : Int) ≤ _; omega, by show _ ≤ (57 : Int); omega⟩)), nI_1]
/-- a number on both sides: a fault at the same place, or the same number and the same place -/
theorem numB (hT : TP c len letters tape) {p : Nat} (hp : p ≤ len) : (f_X5_readNumber letters (nI len) (nI p) = some ((-1), nI (sk c len p)) ∧ f_X7_number tape (nI len) (nI p) 0 = some (0, nI (sk c len p), 1)) ∨ ∃ u q, u ≤ 99 ∧ q ≤ len ∧ f_X5_readNumber letters (nI len) (nI p) = some (nI u, nI q) ∧ f_X7_number tape (nI len) (nI p) 0 = some (nI u, nI q, 0) := by
  have h80 := hT.1
  have hq := sk_le (c := c) hp
  have hb := hc_le hT (sk c len p)
  have hb2 := hc_le hT (sk c len p + 1)
  have h7 : f_X7_number tape (nI len) (nI p) 0 = f_X7_number_c15 tape (nI len) (nI (sk c len p)) 0 (nI (hc c len (sk c len p))) := by
    unfold f_X7_number
    rw [if_pos rfl, here7 hT hp, sb]
  have h5 : f_X5_readNumber letters (nI len) (nI p) = (f_X5_readDigit letters (nI len) (nI p) (nI 9)).bind fun r3 => (if r3.1 < 0 then (some (r3.1, r3.2)) else ((f_X5_digitHere letters (nI len) r3.2 (nI 9)).bind fun r14 => (if r14 < 0 then (some (r3.1, r3.2)) else ((f_X5_digitHere letters (nI len) r3.2 (nI 9)).bind fun r27 => (some (((10 * r3.1) + r27), (r3.2 + 1))))))) := rfl
  rw [h7, h5, readDigit5 hT hp (by decide), sb]
  unfold f_X7_number_c15
  rw [if_pos rfl, in7w, sb, l_lit (by omega), jn_eq, show ((48 : Int64)).toInt = 48 from rfl, show ((57 : Int64)).toInt = 57 from rfl]
  by_cases h : 48 ≤ hc c len (sk c len p) ∧ hc c len (sk c len p) ≤ 48 + 9
  · right
    have hl : sk c len p < len := hc_lt (c := c) (by omega)
    rw [if_pos h, if_neg (tf_y (by omega)), if_pos (show isb 0 = true from rfl), if_neg (show ¬ nI (hc c len (sk c len p) - 48) < 0 from nI_pos (by omega))]
    dsimp only
    rw [digitHere5 hT (show sk c len p + 1 ≤ len by omega) (by decide), sb, show fu = 99997 + 1 + 1 + 1 from rfl, n53_s hT _ (Nat.le_refl _) 0 (by omega) ⟨h.1, h.2⟩]
    have e1 : (10 : Int32) * 0 + nI (hc c len (sk c len p)) - 48 = nI (hc c len (sk c len p) - 48) := by
      rw [show (48 : Int32) = nI 48 from rfl, show (10 : Int32) * 0 = nI 0 by decide, n_add, pk_sub (by omega), Nat.zero_add]
    rw [e1]
    by_cases h2 : 48 ≤ hc c len (sk c len p + 1) ∧ hc c len (sk c len p + 1) ≤ 48 + 9
    · have hl2 : sk c len p + 1 < len := hc_lt (c := c) (by omega)
      rw [if_pos h2, if_neg (nI_pos (by omega)), sb, n53_s hT _ (by omega) _ (by omega) ⟨h2.1, h2.2⟩, n53_e hT _ (show sk c len p + 1 + 1 ≤ len by omega) (by omega) _ (by omega)]
      refine ⟨10 * (hc c len (sk c len p) - 48) + (hc c len (sk c len p + 1) - 48), sk c len p + 1 + 1, by omega, by omega, ?_, ?_⟩
      · show some ((10 : Int32) * nI (hc c len (sk c len p) - 48) + nI (hc c len (sk c len p + 1) - 48), nI (sk c len p + 1) + 1) = _
        rw [show (10 : Int32) = nI 10 from rfl, n_mul, n_add, nI_1]
      · rw [show (10 : Int32) = nI 10 from rfl, n_mul, n_add, show (48 : Int32) = nI 48 from rfl, pk_sub (by omega)]
        congr 3
        omega
    · rw [if_neg h2, if_pos neg1, n53_e hT _ (show sk c len p + 1 ≤ len by omega) (by omega) _ (by omega)]
      exact ⟨hc c len (sk c len p) - 48, sk c len p + 1, by omega, by omega, rfl, rfl⟩
  · left
    rw [if_neg h, if_pos (tf_x (by omega)), if_pos (show isb 1 = true from rfl)]
    exact ⟨if_pos neg1, n53F 99999 _ _ _ _ _⟩
end TP1
