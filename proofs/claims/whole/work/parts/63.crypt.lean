/-! MATHEMATICS 34: crypt -/
def pfS (S : Sc) (h : Nat) : Sc := (h, S.2)
abbrev R9T : Type := Int32 × Int32 × (Nat → Int32) × (Nat → Int32) × (Nat → Int32) × (Nat → Int32) × (Nat → Int32) × (Nat → Int32) × Int32
abbrev RMT : Type := Int32 × (Nat → Int32) × Int32 × Int32 × Int32 × (Nat → Int32) × (Nat → Int32) × Int32
theorem mv_id (B : Nat → Nat) (k h : Nat) : mvB B k (B k) h = B h := by
  by_cases c : h = k
  · subst c; exact mv_s _ _ _
  · exact mv_n _ c
theorem M_pf {S : Sc} {a : Nat → Int32} {k : Nat} (h : isM (entS (pfS S k) (sK S k) (sU S k) (sB S k) (sL S k)) a) : isM (pfS S (k + 1)) a := by
  obtain ⟨m0, m1, m2, m3, m4, m5⟩ := h
  refine ⟨m0, m1, m2, m3, fun g hg => ?_, m5⟩
  obtain ⟨a1, a2, a3, a4⟩ := m4 g hg
  exact ⟨a1.trans (congrArg nI (mv_id (sK S) k g)), a2.trans (congrArg nI (mv_id (sU S) k g)), a3.trans (congrArg nI (mv_id (sB S) k g)), a4.trans (congrArg nI (mv_id (sL S) k g))⟩
section CR
variable {c : Nat → Nat} {len : Nat} {letters tape : Nat → Int32} {S : Sc} {kind used bay likes who lamp due : Nat → Int32} {count day dues draw : Int32} {read : Nat → Int32} {now : Nat → Int32}
theorem c69F (now tape : Nat → Int32) (typed place : Int32) (rl read : Nat → Int32) (undos x1 : Int32) : f_X7_crypt_c69 now tape typed place 1 rl read undos x1 = some ((-20) - place, now, 0, place, 1, rl, read, undos) := by
  unfold f_X7_crypt_c69
  rw [if_neg n10]
  unfold f_X7_crypt_c84 f_X7_crypt_c89
  rw [if_neg n10]
theorem c12F (now tape : Nat → Int32) (typed place : Int32) (read : Nat → Int32) (undos : Int32) : ∀ (d k f : Nat) (rl : Nat → Int32), k + d = 6 → d < f → ∃ rl', f_X7_crypt_c12 f now tape typed place 1 rl read undos (nI k) = some ((-20) - place, now, 0, place, 1, rl', read, undos) := by
  intro d
  induction d with
  | zero =>
    intro k f rl hk hf
    have : k = 6 := by omega
    subst this
    obtain ⟨f, rfl⟩ : ∃ g, f = g + 1 := ⟨f - 1, by omega⟩
    rw [f_X7_crypt_c12, if_neg (show ¬ nI 6 < (6 : Int32) by decide), if_neg n10, c69F]
    exact ⟨_, rfl⟩
  | succ d ih =>
    intro k f rl hk hf
    obtain ⟨f, rfl⟩ : ∃ g, f = g + 1 := ⟨f - 1, by omega⟩
    rw [f_X7_crypt_c12, if_pos (show nI k < (6 : Int32) from nI_lt (b := 6) (by omega) (by decide)), digit7F, sb]
    dsimp only
    rw [if_pos (inb_nI (show k < 6 by omega) (by decide)), nI_1]
    exact ih (k + 1) f _ (by omega) (by omega)
theorem lampsL (hT : TP c len letters tape) (now read : Nat → Int32) (undos : Int32) : ∀ (d k p : Nat) (lamp rl : Nat → Int32) (f g : Nat), k + d = 6 → p ≤ len → d < f → d < g → (∀ b, b < k → ∃ v, v ≤ 9 ∧ lamp b = nI v ∧ rl b = nI v) →
    (∃ q lamp' rl', q ≤ len ∧ f_X5_readLamps_c2 f letters (nI len) (nI p) lamp (nI k) = some (0, nI q, lamp') ∧ f_X7_crypt_c12 g now tape (nI len) (nI p) 0 rl read undos (nI k) = some ((-20) - nI q, now, 0, nI q, 1, rl', read, undos)) ∨
    (∃ q lamp' rl' g', q ≤ len ∧ f_X5_readLamps_c2 f letters (nI len) (nI p) lamp (nI k) = some (1, nI q, lamp') ∧ f_X7_crypt_c12 g now tape (nI len) (nI p) 0 rl read undos (nI k) = f_X7_crypt_c12 (g' + 1) now tape (nI len) (nI q) 0 rl' read undos (nI 6) ∧ ∀ b, b < 6 → ∃ v, v ≤ 9 ∧ lamp' b = nI v ∧ rl' b = nI v) := by
  intro d
  induction d with
  | zero =>
    intro k p lamp rl f g hk hp hf hg hv
    have : k = 6 := by omega
    subst this
    obtain ⟨f, rfl⟩ : ∃ f', f = f' + 1 := ⟨f - 1, by omega⟩
    obtain ⟨g, rfl⟩ : ∃ g', g = g' + 1 := ⟨g - 1, by omega⟩
    refine Or.inr ⟨p, lamp, rl, g, hp, ?_, rfl, hv⟩
    rw [f_X5_readLamps_c2, if_neg (show ¬ nI 6 < (6 : Int32) by decide)]
  | succ d ih =>
    intro k p lamp rl f g hk hp hf hg hv
    obtain ⟨f, rfl⟩ : ∃ f', f = f' + 1 := ⟨f - 1, by omega⟩
    obtain ⟨g, rfl⟩ : ∃ g', g = g' + 1 := ⟨g - 1, by omega⟩
    have h6 : nI k < (6 : Int32) := nI_lt (b := 6) (by omega) (by decide)
    have d5 : f_X5_readDigit letters (nI len) (nI p) 9 = _ := readDigit5 hT (m := 9) hp (by decide)
    have d7 : f_X7_digit tape (nI len) (nI p) 0 9 = _ := digit7 hT (m := 9) hp (by decide)
    have hq := sk_le (c := c) hp
    rw [f_X5_readLamps_c2, f_X7_crypt_c12, if_pos h6, if_pos h6, d5, sb, d7, sb]
    by_cases h : 48 ≤ hc c len (sk c len p) ∧ hc c len (sk c len p) ≤ 48 + 9
    · have hl : sk c len p < len := hc_lt (c := c) (by omega)
      rw [if_pos h, if_pos h]
      dsimp only
      rw [if_neg (show ¬ nI (hc c len (sk c len p) - 48) < 0 from nI_pos (by omega)), if_pos (inb_nI (show k < 6 by omega) (by decide)), if_pos (inb_nI (show k < 6 by omega) (by decide)), nI_cl (show k < 2 ^ 31 by omega), nI_1]
      refine ih (k + 1) (sk c len p + 1) _ _ f g (by omega) (by omega) (by omega) (by omega) (fun b hb => ?_)
      by_cases e : b = k
      · subst e
        exact ⟨hc c len (sk c len p) - 48, by omega, pk_us, pk_us⟩
      · obtain ⟨v, h1, h2, h3⟩ := hv b (by omega)
        exact ⟨v, h1, (pk_un e).trans h2, (pk_un e).trans h3⟩
    · rw [if_neg h, if_neg h]
      dsimp only
      rw [if_pos neg1, if_pos (inb_nI (show k < 6 by omega) (by decide)), nI_1]
      obtain ⟨rl', e⟩ := c12F now tape (nI len) (nI (sk c len p)) read undos d (k + 1) g (upd rl (nI k).toNatClampNeg (nI (hc c len (sk c len p)) - 48)) (by omega) (by omega)
      exact Or.inl ⟨_, _, rl', hq, rfl, e⟩
theorem lampsTo (now tape : Nat → Int32) (typed place fault : Int32) (rl read : Nat → Int32) (undos x1 : Int32) : ∃ now', f_X7_crypt_c140 fu now tape typed place fault rl read undos x1 0 = f_X7_crypt_c169 fu now' tape typed place fault rl read undos x1 0 ∧ (∀ j, (j < 28 ∨ 34 ≤ j) → now' j = now j) ∧ ∀ b, b < 6 → now' (28 + b) = rl b := by
  refine inv_all (fun f a k => f_X7_crypt_c140 f a tape typed place fault rl read undos x1 (nI k)) (fun k a => (∀ j, (j < 28 ∨ 34 ≤ j) → a j = now j) ∧ ∀ b, b < k → a (28 + b) = rl b) 6 (fun o => ∃ now', o = f_X7_crypt_c169 fu now' tape typed place fault rl read undos x1 0 ∧ (∀ j, (j < 28 ∨ 34 ≤ j) → now' j = now j) ∧ ∀ b, b < 6 → now' (28 + b) = rl b) (by decide) now ⟨fun j _ => rfl, fun b hb => by omega⟩ ?_ ?_
  · rintro f k a hk ⟨h1, h2⟩
    refine ⟨upd a (28 + k) (rl k), ?_, fun j hj => ?_, fun b hb => ?_⟩
    · show f_X7_crypt_c140 (f + 1) a tape typed place fault rl read undos x1 (nI k) = f_X7_crypt_c140 f (upd a (28 + k) (rl k)) tape typed place fault rl read undos x1 (nI (k + 1))
      rw [f_X7_crypt_c140, if_pos (show nI k < (6 : Int32) from nI_lt (b := 6) hk (by decide)), if_pos (inb_nI hk (by decide)), nI_cl (show k < 2 ^ 31 by omega), jn_eq, show (28 : Int32) + nI k = nI (28 + k) from n_add 28 k, if_pos (inb_nI (show 28 + k < 40 by omega) (by decide)), nI_cl (show 28 + k < 2 ^ 31 by omega), nI_1]
    · rw [pk_un (by omega)]
      exact h1 j hj
    · by_cases e : b = k
      · subst e; exact pk_us
      · rw [pk_un (by omega)]
        exact h2 b (by omega)
  · rintro f a ⟨h1, h2⟩
    refine ⟨a, ?_, h1, h2⟩
    show f_X7_crypt_c140 (f + 1) a tape typed place fault rl read undos x1 (nI 6) = _
    rw [f_X7_crypt_c140, if_neg (show ¬ nI 6 < (6 : Int32) by decide)]
theorem comesTo {S : Sc} (ho : okS S) {read : Nat → Int32} (hR : Rd S read) {now : Nat → Int32} (hM : isM (pfS S 0) now) (tape : Nat → Int32) (typed place fault : Int32) (rl : Nat → Int32) : ∃ now', f_X7_crypt_c169 fu now tape typed place fault rl read 0 (nI (sN S)) 0 = some (nI (sN S), now', typed, place, fault, rl, read, 0) ∧ isM S now' := by
  have hn := ho.1
  refine inv_all (fun f a k => f_X7_crypt_c169 f a tape typed place fault rl read 0 (nI (sN S)) (nI k)) (fun k a => isM (pfS S k) a) (sN S) (fun o => ∃ now', o = some (nI (sN S), now', typed, place, fault, rl, read, 0) ∧ isM S now') (by omega) now hM ?_ ?_
  · intro f k a hk hI
    obtain ⟨r0, r1, r2, r3⟩ := hR k hk
    have hk6 : k < 6 := by omega
    obtain ⟨r, er, q0, hq, -⟩ := comes7 (S := pfS S k) hI hk6 0 (sK S k) (sU S k) (sB S k) (sL S k)
    refine ⟨r.1, ?_, M_pf hq⟩
    show f_X7_crypt_c169 (f + 1) a tape typed place fault rl read 0 (nI (sN S)) (nI k) = f_X7_crypt_c169 f r.1 tape typed place fault rl read 0 (nI (sN S)) (nI (k + 1))
    have i0 : (4 : Int32) * nI k = nI (4 * k) := n_mul 4 k
    have i1 : nI (4 * k) + 1 = nI (4 * k + 1) := nI_1 _
    have i2 : nI (4 * k) + 2 = nI (4 * k + 2) := n_add _ 2
    have i3 : nI (4 * k) + 3 = nI (4 * k + 3) := n_add _ 3
    rw [f_X7_crypt_c169, if_pos (nI_lt hk (by omega)), i0, i1, i2, i3, if_pos (inb_nI (show 4 * k < 24 by omega) (by decide)), jn_eq, if_pos (inb_nI (show 4 * k + 1 < 24 by omega) (by decide)), jn_eq, if_pos (inb_nI (show 4 * k + 2 < 24 by omega) (by decide)), jn_eq, if_pos (inb_nI (show 4 * k + 3 < 24 by omega) (by decide)), jn_eq, nI_cl (show 4 * k < 2 ^ 31 by omega), nI_cl (show 4 * k + 1 < 2 ^ 31 by omega), nI_cl (show 4 * k + 2 < 2 ^ 31 by omega), nI_cl (show 4 * k + 3 < 2 ^ 31 by omega), r0, r1, r2, r3, er, sb, q0, nI_1 k]
  · intro f a hI
    refine ⟨a, ?_, hI⟩
    show f_X7_crypt_c169 (f + 1) a tape typed place fault rl read 0 (nI (sN S)) (nI (sN S)) = _
    rw [f_X7_crypt_c169, if_neg (nI_nlt (Nat.le_refl _) (by omega))]
theorem c69_0 (hT : TP c len letters tape) {q : Nat} (hq : q ≤ len) (now rl read : Nat → Int32) (undos x1 : Int32) : f_X7_crypt_c69 now tape (nI len) (nI q) 0 rl read undos x1 = if sk c len q = len then f_X7_crypt_c140 fu (upd (upd (upd now 0 0) 1 0) 2 0) tape 0 (nI (sk c len q)) 0 rl read 0 x1 0 else some ((-20) - nI (sk c len q), now, 0, nI (sk c len q), 1, rl, read, undos) := by
  have hb := hc_le hT (sk c len q)
  have h0 := hc_0 hT (sk_le (c := c) hq)
  unfold f_X7_crypt_c69
  rw [if_pos rfl, here7 hT hq, sb]
  dsimp only
  by_cases h : hc c len (sk c len q) = 0
  · rw [if_pos (h0.mp h), if_pos (show nI (hc c len (sk c len q)) = 0 by rw [h]; rfl), jn_eq, if_pos (show isb 0 = true from rfl), if_pos rfl]
  · rw [if_neg (fun k => h (h0.mpr k)), if_neg (nI_ne0 (by omega) (by omega)), jn_eq, if_pos (show isb 1 = true from rfl), if_neg n10]
theorem c34_5 (hT : TP c len letters tape) {q : Nat} (hq : q ≤ len) (kind used bay likes who lamp : Nat → Int32) (count : Int32) : f_X5_readInto_c34 letters (nI len) (nI q) kind used bay likes who lamp count = some (if sk c len q = len then 1 else 0, nI (sk c len q), kind, used, bay, likes, who, lamp, count) := by
  have h80 := hT.1
  have hq2 := sk_le (c := c) hq
  unfold f_X5_readInto_c34
  rw [skip5 hT hq, sb, if_n_eq (by omega) (by omega), jn_eq]
  by_cases h : sk c len q = len
  · rw [if_pos h, if_pos (show isb 1 = true from rfl)]
  · rw [if_neg h, if_pos (show isb 0 = true from rfl)]
/-- the tape read on both sides -/
def ReadG (now due : Nat → Int32) (draw undos : Int32) (A : Option R9T) (B : Option RMT) : Prop :=
  (∃ (r : R9T) (rl read : Nat → Int32), A = some r ∧ r.1 = 0 ∧ B = some ((-20) - r.2.1, now, 0, r.2.1, 1, rl, read, undos)) ∨
  (∃ (r : R9T) (S' : Sc) (now' : Nat → Int32) (q : Int32) (rl read : Nat → Int32), A = some r ∧ r.1 = 1 ∧ okS S' ∧ isX S' r.2.2.1 r.2.2.2.1 r.2.2.2.2.1 r.2.2.2.2.2.1 r.2.2.2.2.2.2.1 r.2.2.2.2.2.2.2.1 due r.2.2.2.2.2.2.2.2 0 0 draw ∧ isM S' now' ∧ B = some (nI (sN S'), now', 0, q, 0, rl, read, 0))
theorem endG (hT : TP c len letters tape) (hM : isM S now) {S' : Sc} (ho : okS S') (hX : isX S' kind used bay likes who lamp due count 0 0 draw) (hR : Rd S' read) {P : Nat → Nat} {rl : Nat → Int32} (hl : ∀ b, b < 6 → rl b = nI (P b)) (ht : S'.2.2.2.2.2 = (P, sD S, 0, 0, sR S)) (undos : Int32) {q q2 : Nat} (hq : q ≤ len) (hq2 : q2 ≤ len) (hs : sk c len q2 = sk c len q) {x1 : Int32} (hx : x1 = nI (sN S')) : ReadG now due draw undos (f_X5_readInto_c34 letters (nI len) (nI q) kind used bay likes who lamp count) (f_X7_crypt_c69 now tape (nI len) (nI q2) 0 rl read undos x1) := by
  subst hx
  rw [c34_5 hT hq, c69_0 hT hq2, hs]
  by_cases h : sk c len q = len
  · rw [if_pos h, if_pos h]
    refine Or.inr ?_
    have tP : sP S' = P := (have e := congrArg (fun t : (Nat → Nat) × (Nat → Nat) × Int32 × Int32 × Nat => t.1) ht; e)
    have tD : sD S' = sD S := (have e := congrArg (fun t : (Nat → Nat) × (Nat → Nat) × Int32 × Int32 × Nat => t.2.1) ht; e)
    have tY : sY S' = 0 := (have e := congrArg (fun t : (Nat → Nat) × (Nat → Nat) × Int32 × Int32 × Nat => t.2.2.1) ht; e)
    have tZ : sZ S' = 0 := (have e := congrArg (fun t : (Nat → Nat) × (Nat → Nat) × Int32 × Int32 × Nat => t.2.2.2.1) ht; e)
    have tR : sR S' = sR S := (have e := congrArg (fun t : (Nat → Nat) × (Nat → Nat) × Int32 × Int32 × Nat => t.2.2.2.2) ht; e)
    obtain ⟨now1, e1, g1, g2⟩ := lampsTo (upd (upd (upd now 0 0) 1 0) 2 0) tape 0 (nI (sk c len q)) 0 rl read 0 (nI (sN S')) 
    have hM0 : isM (pfS S' 0) now1 := by
      refine ⟨?_, ?_, ?_, ?_, fun h hh => absurd hh (Nat.not_lt_zero _), fun b hb => ⟨?_, ?_⟩⟩
      · rw [g1 0 (by omega), pk_un (by decide), pk_un (by decide), pk_us]
        rfl
      · rw [g1 1 (by omega), pk_un (by decide), pk_us]
        exact tY.symm
      · rw [g1 2 (by omega), pk_us]
        exact tZ.symm
      · rw [g1 3 (by omega), pk_un (by decide), pk_un (by decide), pk_un (by decide), hM.2.2.2.1]
        exact congrArg nI tR.symm
      · rw [g2 b hb, hl b hb]
        exact congrArg nI (congrFun tP.symm b)
      · rw [g1 (34 + b) (by omega), pk_un (by omega), pk_un (by omega), pk_un (by omega), (hM.2.2.2.2.2 b hb).2]
        exact congrArg nI (congrFun tD.symm b)
    obtain ⟨now2, e2, hM2⟩ := comesTo ho hR hM0 tape 0 (nI (sk c len q)) 0 rl
    exact ⟨_, S', now2, _, rl, read, rfl, rfl, ho, hX, hM2, e1.trans e2⟩
  · rw [if_neg h, if_neg h]
    exact Or.inl ⟨_, rl, read, rfl, rfl, rfl⟩
theorem readG (hT : TP c len letters tape) (hM : isM S now) (ho : okS S) (hw : ∀ b, b < 6 → who b = (-1)) (hd : ∀ b, b < 6 → due b = nI (sD S b)) (hr : draw = nI (sR S)) (undos : Int32) (lamp rl : Nat → Int32) (pl p7 f7 : Int32) : ReadG now due draw undos (f_X5_readInto letters (nI len) pl kind used bay likes who lamp 0) (f_X7_crypt now tape (nI len) p7 f7 rl read undos) := by
  have h80 := hT.1
  unfold f_X5_readInto f_X7_crypt f_X5_readLamps
  rcases lampsL hT now read undos 6 0 0 lamp rl fu fu rfl (Nat.zero_le _) (show 6 < 100000 by decide) (show 6 < 100000 by decide) (fun b hb => absurd hb (Nat.not_lt_zero _)) with ⟨q, lamp', rl', hq, e5, e7⟩ | ⟨q, lamp', rl', g', hq, e5, e7, hv⟩
  · have e5 : f_X5_readLamps_c2 fu letters (nI len) 0 lamp 0 = some (0, nI q, lamp') := e5
    rw [e5, sb]
    exact Or.inl ⟨_, rl', read, if_pos rfl, rfl, e7⟩
  · have e5 : f_X5_readLamps_c2 fu letters (nI len) 0 lamp 0 = some (1, nI q, lamp') := e5
    have e7 : f_X7_crypt_c12 fu now tape (nI len) 0 0 rl read undos 0 = f_X7_crypt_c12 (g' + 1) now tape (nI len) (nI q) 0 rl' read undos (nI 6) := e7
    have t59 : f_X5_takesSign letters (nI len) (nI q) 59 = _ := takes5 hT hq (s := 59) (by decide) (by decide)
    have hb := hc_le hT (sk c len q)
    have hq2 := sk_le (c := c) hq
    have hP : ∀ b, b < 6 → (lamp' b).toNatClampNeg ≤ 9 ∧ lamp' b = nI (lamp' b).toNatClampNeg ∧ rl' b = nI (lamp' b).toNatClampNeg := by
      intro b hb
      obtain ⟨v, h1, h2, h3⟩ := hv b hb
      have e : (lamp' b).toNatClampNeg = v := by rw [h2, nI_cl (by omega)]
      rw [e]
      exact ⟨h1, h2, h3⟩
    have hS0 : okS ((0, fun _ => 0, fun _ => 0, fun _ => 0, fun _ => 0, fun b => (lamp' b).toNatClampNeg, sD S, 0, 0, sR S) : Sc) := ⟨Nat.zero_le _, fun h hh => absurd hh (Nat.not_lt_zero _), fun g h hg _ _ => absurd hg (Nat.not_lt_zero _), fun b hb => ⟨(hP b hb).1, (ho.2.2.2.1 b hb).2⟩, ho.2.2.2.2⟩
    have hX0 : isX ((0, fun _ => 0, fun _ => 0, fun _ => 0, fun _ => 0, fun b => (lamp' b).toNatClampNeg, sD S, 0, 0, sR S) : Sc) kind used bay likes who lamp' due 0 0 0 draw := ⟨rfl, rfl, rfl, hr, fun h hh => absurd hh (Nat.not_lt_zero _), fun b hb => ⟨(hP b hb).2.1, hd b hb⟩, fun b hb => hw b hb⟩
    have hR0 : Rd ((0, fun _ => 0, fun _ => 0, fun _ => 0, fun _ => 0, fun b => (lamp' b).toNatClampNeg, sD S, 0, 0, sR S) : Sc) read := fun h hh => absurd hh (Nat.not_lt_zero _)
    have hs0 : Sat ((0, fun _ => 0, fun _ => 0, fun _ => 0, fun _ => 0, fun b => (lamp' b).toNatClampNeg, sD S, 0, 0, sR S) : Sc) 0 := ⟨0, by decide, rfl, fun b _ => Nat.zero_testBit b⟩
    rw [e5, sb, e7, f_X7_crypt_c12, if_neg (show ¬ nI 6 < (6 : Int32) by decide), if_pos rfl, here7 hT hq, sb]
    dsimp only
    rw [if_neg n10, t59, sb, show (59 : Int32) = nI 59 from rfl, if_n_eq (by omega) (by decide)]
    by_cases h59 : hc c len (sk c len q) = 59
    · have hl : sk c len q < len := hc_lt (c := c) (by omega)
      rw [if_pos h59, if_pos h59]
      dsimp only
      rw [if_neg n10, nI_1]
      have h7 : f_X7_readHolders tape (nI len) (nI (sk c len q + 1)) 0 read = f_X7_readHolders_c43 (f_X7_readHolders_c4 99999) tape (nI len) (nI (sk c len q + 1)) 0 read (nI 0) 0 := by
        unfold f_X7_readHolders
        show f_X7_readHolders_c4 (99999 + 1) tape (nI len) (nI (sk c len q + 1)) 0 read 0 0 = _
        rw [f_X7_readHolders_c4, if_pos rfl, if_pos rfl]
        unfold f_X7_readHolders_c24
        rw [if_neg (show ¬ (0 : Int32) < 0 by decide)]
        rfl
      unfold f_X5_readHolders
      obtain ⟨rx, rm, a5, a7, q', hq', hA⟩ := holdL (lamp := lamp') (due := due) (day := 0) (dues := 0) (draw := draw) hT 5 (0, fun _ => 0, fun _ => 0, fun _ => 0, fun _ => 0, fun b => (lamp' b).toNatClampNeg, sD S, 0, 0, sR S) kind used bay likes who 0 read 0 (sk c len q + 1) fu 99999 rfl (by omega) hS0 hX0 hR0 hs0 (show 6 ≤ 100000 by decide) (by decide)
      have a5 : f_X5_readHolders_c2 fu letters (nI len) (nI (sk c len q + 1)) kind used bay likes who 0 0 = some rx := a5
      have a7 : f_X7_readHolders_c43 (f_X7_readHolders_c4 99999) tape (nI len) (nI (sk c len q + 1)) 0 read (nI 0) 0 = some rm := a7
      rw [a5, sb, h7, a7, sb]
      rcases hA with ⟨b1, b2, b3, b4⟩ | ⟨b1, b2, b3, b4, b5⟩ | ⟨b1, b2, b3, b4, S', b5, b6, b7, b8, b9⟩
      · rw [if_pos b1, b2, b3, b4, c69F]
        exact Or.inl ⟨_, _, _, rfl, rfl, rfl⟩
      · rw [if_neg (show ¬ rx.1 = 0 by rw [b1]; exact n10), b2, b3, b4, c69F, c34_5 hT hq', if_neg (fun k => b5 ((hc_0 hT (sk_le hq')).mpr k))]
        exact Or.inl ⟨_, _, _, rfl, rfl, rfl⟩
      · rw [if_neg (show ¬ rx.1 = 0 by rw [b1]; exact n10), b2, b3, b4]
        exact endG (P := fun b => (lamp' b).toNatClampNeg) hT hM b5 b6 b7 (fun b hb => (hP b hb).2.2) b9 undos hq' (sk_le hq') (sk_sk q') b8
    · rw [if_neg h59, if_neg h59]
      dsimp only
      rw [if_pos rfl]
      exact endG (P := fun b => (lamp' b).toNatClampNeg) hT hM hS0 hX0 hR0 (fun b hb => (hP b hb).2.2) rfl undos hq2 hq2 rfl rfl
theorem clear3 (who : Nat → Int32) (count day dues : Int32) : ∃ w, f_X3_clear who count day dues = some (w, 0, 0, 0) ∧ ∀ b, b < 6 → w b = (-1) := by
  unfold f_X3_clear
  refine inv_all (fun f a k => f_X3_clear_c2 f a count day dues (nI k)) (fun k a => ∀ b, b < k → a b = (-1)) 6 (fun o => ∃ w, o = some (w, 0, 0, 0) ∧ ∀ b, b < 6 → w b = (-1)) (by decide) who (fun b hb => absurd hb (Nat.not_lt_zero _)) ?_ ?_
  · intro f k a hk hI
    refine ⟨upd a k (-1), ?_, fun b hb => ?_⟩
    · show f_X3_clear_c2 (f + 1) a count day dues (nI k) = f_X3_clear_c2 f (upd a k (-1)) count day dues (nI (k + 1))
      rw [f_X3_clear_c2, if_pos (show nI k < (6 : Int32) from nI_lt (b := 6) hk (by decide)), if_pos (inb_nI hk (by decide)), nI_cl (show k < 2 ^ 31 by omega), nI_1]
    · by_cases e : b = k
      · subst e; exact pk_us
      · rw [pk_un e]; exact hI b (by omega)
  · intro f a hI
    exact ⟨a, rfl, hI⟩
end CR
section CR2
variable {kind used bay likes who lamp due : Nat → Int32} {count day dues draw : Int32} {mu mb : Nat → Nat → Int32} {md mz mr : Nat → Int32} {next known : Int32} {now undone : Nat → Int32} {undos : Int32} {letters tape : Nat → Int32} {length typed : Int32}
theorem st_crypt (hC : RC kind used bay likes who lamp due count day dues draw mu mb md mz mr next known now undone undos) (hT : RT letters length tape typed) (fkind fused fbay flikes fwho flamp fdue : Nat → Int32) (fcount fday fdues fdraw pl p7 f7 : Int32) (rl read : Nat → Int32) : ∃ rx rm, f_X6_crypt kind used bay likes who lamp due count day dues draw known fkind fused fbay flikes fwho flamp fdue fcount fday fdues fdraw letters length pl = some rx ∧ f_X7_crypt now tape typed p7 f7 rl read undos = some rm ∧ rx.1 = rm.1 ∧ RC rx.2.1 rx.2.2.1 rx.2.2.2.1 rx.2.2.2.2.1 rx.2.2.2.2.2.1 rx.2.2.2.2.2.2.1 rx.2.2.2.2.2.2.2.1 rx.2.2.2.2.2.2.2.2.1 rx.2.2.2.2.2.2.2.2.2.1 rx.2.2.2.2.2.2.2.2.2.2.1 rx.2.2.2.2.2.2.2.2.2.2.2.1 mu mb md mz mr next rx.2.2.2.2.2.2.2.2.2.2.2.2.1 rm.2.1 undone rm.2.2.2.2.2.2.2 ∧ RT letters rx.2.2.2.2.2.2.2.2.2.2.2.2.2.2.2.2.2.2.2.2.2.2.2.2.1 tape rm.2.2.1 := by
  obtain ⟨S, hs, ho, hh, hX, hM, hp, hq⟩ := id hC
  obtain ⟨c, len, hT', rfl, rfl⟩ := TP_of hT
  obtain ⟨r8, e8, h8⟩ := become3 hX ho fkind fused fbay flikes fwho flamp fdue fcount fday fdues fdraw
  obtain ⟨w, e15, hw⟩ := clear3 r8.2.2.2.2.1 r8.2.2.2.2.2.2.2.1 r8.2.2.2.2.2.2.2.2.1 r8.2.2.2.2.2.2.2.2.2.1
  have hG := readG (kind := r8.1) (used := r8.2.1) (bay := r8.2.2.1) (likes := r8.2.2.2.1) (read := read) hT' hM ho hw (fun b hb => (h8.2.2.2.2.2.1 b hb).2) h8.2.2.2.1 undos r8.2.2.2.2.2.1 rl pl p7 f7
  have hT0 : RT letters 0 tape 0 := ⟨0, by decide, rfl, rfl, fun j hj => absurd hj (Nat.not_lt_zero _)⟩
  unfold f_X6_crypt
  rw [e8, sb, e15, sb]
  dsimp only
  rcases hG with ⟨r, rl', read', a5, a1, a7⟩ | ⟨r, S', now', q, rl', read', a5, a1, ho', hX', hM', a7⟩
  · rw [a5, sb, show f_X5_clear (nI len) = some 0 from rfl, sb, if_pos a1, a7]
    exact ⟨_, _, rfl, rfl, rfl, hC, hT0⟩
  · obtain ⟨r62, e62, h62⟩ := become3 hX' ho' kind used bay likes who lamp due count day dues draw
    rw [a5, sb, show f_X5_clear (nI len) = some 0 from rfl, sb, if_neg (show ¬ r.1 = 0 by rw [a1]; exact n10), e62, sb, show f_X2_forget known = some 0 from rfl, sb, a7]
    exact ⟨_, _, rfl, rfl, h62.1, RC_mk (S' := S') (hs' := []) ho' (okH_nil _) h62 hM' (XP_nil hp) (MP_nil undone), hT0⟩
end CR2
theorem S_crypt : St_crypt Rel := by
  intro t_now_kind t_now_used t_now_bay t_now_likes t_now_who t_now_lamp t_now_due t_now_gain t_now_count t_now_day t_now_dues t_now_draw t_past_marks_used t_past_marks_bay t_past_marks_day t_past_marks_dues t_past_marks_draw t_past_next t_past_known t_foreseen_kind t_foreseen_used t_foreseen_bay t_foreseen_likes t_foreseen_who t_foreseen_lamp t_foreseen_due t_foreseen_gain t_foreseen_count t_foreseen_day t_foreseen_dues t_foreseen_draw t_imageOfNow_kind t_imageOfNow_used t_imageOfNow_bay t_imageOfNow_likes t_imageOfNow_who t_imageOfNow_lamp t_imageOfNow_due t_imageOfNow_gain t_imageOfNow_count t_imageOfNow_day t_imageOfNow_dues t_imageOfNow_draw t_imageOfPast_marks_used t_imageOfPast_marks_bay t_imageOfPast_marks_day t_imageOfPast_marks_dues t_imageOfPast_marks_draw t_imageOfPast_next t_imageOfPast_known t_hasImage t_deal_bay t_deal_best t_deal_worth t_deal_free t_deal_count t_tape_letters t_tape_length t_tape_place t_sheets_items t_sheets_lane t_sheets_size u_now u_mores u_tape u_typed u_place u_isFault u_readLamps u_read u_undone u_undos u_aside u_bays u_bests u_kept u_keptUndos u_isKept u_lanes u_sizes u_items u_moved hR
  obtain ⟨hC, hI, hT, hS⟩ := hR
  obtain ⟨rx, rm, e1, e2, e3, e4, e5⟩ := st_crypt hC hT t_foreseen_kind t_foreseen_used t_foreseen_bay t_foreseen_likes t_foreseen_who t_foreseen_lamp t_foreseen_due t_foreseen_count t_foreseen_day t_foreseen_dues t_foreseen_draw t_tape_place u_place u_isFault u_readLamps u_read
  exact ⟨rx, rm, e1, e2, e3, e4, hI, e5, hS⟩
