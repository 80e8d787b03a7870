/-! MATHEMATICS 33: holders read from the tape on both sides -/
def Rd (S : Sc) (read : Nat → Int32) : Prop := ∀ h, h < sN S → read (4 * h) = nI (sK S h) ∧ read (4 * h + 1) = nI (sU S h) ∧ read (4 * h + 2) = nI (sB S h) ∧ read (4 * h + 3) = nI (sL S h)
def Sat (S : Sc) (sat : Int32) : Prop := ∃ m : Nat, m < 64 ∧ sat = nI m ∧ ∀ b, b < 6 → m.testBit b = (wf (sB S) b (sN S)).isSome
theorem sat_bit : ∀ b : Fin 6, ∀ m : Fin 64, (((nI m.val) >>> (nI b.val &&& 31)) &&& 1 = 0 ↔ m.val.testBit b.val = false) := by decide +kernel
theorem sat_or : ∀ b : Fin 6, ∀ m : Fin 64, nI m.val ||| ((1 : Int32) <<< (nI b.val &&& 31)) = nI (m.val ||| 2 ^ b.val) := by decide +kernel
theorem sat_lt : ∀ b : Fin 6, ∀ m : Fin 64, m.val ||| 2 ^ b.val < 64 := by decide +kernel
theorem sat_tb : ∀ b d : Fin 6, ∀ m : Fin 64, (m.val ||| 2 ^ b.val).testBit d.val = (m.val.testBit d.val || decide (b.val = d.val)) := by decide +kernel
theorem Sat_ent {S : Sc} {sat : Int32} (h : Sat S sat) {k u b l : Nat} (hb : b < 6) : Sat (entS S k u b l) (sat ||| ((1 : Int32) <<< (nI b &&& 31))) := by
  obtain ⟨m, hm, rfl, h⟩ := h
  refine ⟨m ||| 2 ^ b, sat_lt ⟨b, hb⟩ ⟨m, hm⟩, sat_or ⟨b, hb⟩ ⟨m, hm⟩, fun d hd => ?_⟩
  show (m ||| 2 ^ b).testBit d = (wf (mvB (sB S) (sN S) b) d (sN S + 1)).isSome
  rw [sat_tb ⟨b, hb⟩ ⟨d, hd⟩ ⟨m, hm⟩, wf_s, mv_s]
  show (m.testBit d || decide (b = d)) = _
  by_cases c : b = d
  · rw [if_pos c, decide_eq_true c, Bool.or_true]
    rfl
  · rw [if_neg c, decide_eq_false c, Bool.or_false, h d hd]
    congr 1
    exact wf_congr (fun g hg => by rw [mv_n _ (by omega)])
theorem Rd_ent {S : Sc} {read : Nat → Int32} (h : Rd S read) (k u b l : Nat) : Rd (entS S k u b l) (upd (upd (upd (upd read (4 * sN S) (nI k)) (4 * sN S + 1) (nI u)) (4 * sN S + 2) (nI b)) (4 * sN S + 3) (nI l)) := by
  intro g hg
  have hg : g < sN S + 1 := hg
  show _ = nI (mvB (sK S) (sN S) k g) ∧ _ = nI (mvB (sU S) (sN S) u g) ∧ _ = nI (mvB (sB S) (sN S) b g) ∧ _ = nI (mvB (sL S) (sN S) l g)
  by_cases c : g = sN S
  · subst c
    rw [mv_s, mv_s, mv_s, mv_s]
    refine ⟨?_, ?_, ?_, ?_⟩
    · rw [pk_un (by omega), pk_un (by omega), pk_un (by omega), pk_us]
    · rw [pk_un (by omega), pk_un (by omega), pk_us]
    · rw [pk_un (by omega), pk_us]
    · rw [pk_us]
  · rw [mv_n _ c, mv_n _ c, mv_n _ c, mv_n _ c]
    have out : ∀ j, j < 4 * sN S → upd (upd (upd (upd read (4 * sN S) (nI k)) (4 * sN S + 1) (nI u)) (4 * sN S + 2) (nI b)) (4 * sN S + 3) (nI l) j = read j := by
      intro j hj
      rw [pk_un (by omega), pk_un (by omega), pk_un (by omega), pk_un (by omega)]
    obtain ⟨a1, a2, a3, a4⟩ := h g (by omega)
    exact ⟨(out _ (by omega)).trans a1, (out _ (by omega)).trans a2, (out _ (by omega)).trans a3, (out _ (by omega)).trans a4⟩
theorem must_t (p : Int32) : f_X7_must p 0 1 = some (p + 1, 0) := must0 p true
theorem must_f (p : Int32) : f_X7_must p 0 0 = some (p, 1) := must0 p false
theorem n10 : ¬ (1 : Int32) = 0 := by decide
abbrev K4T : Type := (Nat → Int32) → Int32 → Int32 → Int32 → (Nat → Int32) → Int32 → Int32 → (Option (Int32 × Int32 × Int32 × (Nat → Int32)))
section HF
variable (k4 : K4T) (tape : Nat → Int32) (typed place : Int32) (read : Nat → Int32)
theorem F240 (x1 x2 x4 x5 x6 x7 : Int32) : f_X7_readHolders_c240 k4 tape typed place 1 read x1 x2 x4 x5 x6 x7 = k4 tape typed place 1 read (x1 + 1) x2 := by
  unfold f_X7_readHolders_c240
  rw [if_neg n10]
  rfl
theorem F175 (x1 x2 x4 x5 s0 : Int32) : f_X7_readHolders_c175 k4 tape typed place 1 read x1 x2 x4 x5 s0 = k4 tape typed place 1 read (x1 + 1) x2 := by
  unfold f_X7_readHolders_c175
  rw [isBay7, sb, jn_eq, must1, sb, if_neg n10, F240]
theorem F154 (x1 x2 x4 x5 : Int32) : f_X7_readHolders_c154 k4 tape typed place 1 read x1 x2 x4 x5 = k4 tape typed place 1 read (x1 + 1) x2 := by
  unfold f_X7_readHolders_c154
  rw [must1, sb, if_neg n10, F175]
theorem F153 (x1 x2 x4 x5 : Int32) : f_X7_readHolders_c153 k4 tape typed place 1 read x1 x2 x4 x5 = k4 tape typed place 1 read (x1 + 1) x2 := F154 k4 tape typed place read x1 x2 x4 x5
theorem F58 (x1 x2 s0 : Int32) : f_X7_readHolders_c58 k4 tape typed place 1 read x1 x2 s0 = k4 tape typed place 1 read (x1 + 1) x2 := by
  unfold f_X7_readHolders_c58
  rw [jn_eq, jn_eq, must1, sb, num7F, sb, if_neg n10, F153]
theorem F43 (x1 x2 : Int32) : f_X7_readHolders_c43 k4 tape typed place 1 read x1 x2 = k4 tape typed place 1 read (x1 + 1) x2 := by
  unfold f_X7_readHolders_c43
  rw [if_neg n10, F58]
theorem fin7 {n : Nat} (hn : n < 6) (sat x4 x5 x6 x7 : Int32) : f_X7_readHolders_c240 k4 tape typed place 0 read (nI n) sat x4 x5 x6 x7 = k4 tape typed place 0 (upd (upd (upd (upd read (4 * n) x4) (4 * n + 1) x5) (4 * n + 2) x6) (4 * n + 3) x7) (nI (n + 1)) (sat ||| ((1 : Int32) <<< (x6 &&& 31))) := by
  have i0 : (4 : Int32) * nI n = nI (4 * n) := n_mul 4 n
  have i1 : nI (4 * n) + 1 = nI (4 * n + 1) := nI_1 _
  have i2 : nI (4 * n) + 2 = nI (4 * n + 2) := n_add _ 2
  have i3 : nI (4 * n) + 3 = nI (4 * n + 3) := n_add _ 3
  unfold f_X7_readHolders_c240 f_X7_readHolders_c300
  rw [if_pos rfl, i0, i1, i2, i3, if_pos (inb_nI (show 4 * n < 24 by omega) (by decide)), if_pos (inb_nI (show 4 * n + 1 < 24 by omega) (by decide)), if_pos (inb_nI (show 4 * n + 2 < 24 by omega) (by decide)), if_pos (inb_nI (show 4 * n + 3 < 24 by omega) (by decide)), nI_cl (show 4 * n < 2 ^ 31 by omega), nI_cl (show 4 * n + 1 < 2 ^ 31 by omega), nI_cl (show 4 * n + 2 < 2 ^ 31 by omega), nI_cl (show 4 * n + 3 < 2 ^ 31 by omega), nI_1 n]
theorem c4F (g : Nat) (x1 x2 : Int32) : f_X7_readHolders_c4 (g + 1) tape typed place 1 read x1 x2 = some (x1, place, 1, read) := by
  rw [f_X7_readHolders_c4, if_neg n10]
end HF
abbrev R5T : Type := Int32 × Int32 × (Nat → Int32) × (Nat → Int32) × (Nat → Int32) × (Nat → Int32) × (Nat → Int32) × Int32
/-- one holder read on both sides: the same fault, or the same holder -/
def OneG (len : Nat) (S : Sc) (kind used bay likes who lamp due : Nat → Int32) (count day dues draw : Int32) (tape read : Nat → Int32) (sat : Int32) (k4 : K4T) (A : Option R5T) (B : Option (Int32 × Int32 × Int32 × (Nat → Int32))) : Prop :=
  (∃ q, q ≤ len ∧ A = some (0, nI q, kind, used, bay, likes, who, count) ∧ B = k4 tape (nI len) (nI q) 1 read (nI (sN S) + 1) sat) ∨
  (∃ q k u b l r read' sat', q ≤ len ∧ okS (entS S k u b l) ∧ A = some (1, nI q, r) ∧ isX (entS S k u b l) r.1 r.2.1 r.2.2.1 r.2.2.2.1 r.2.2.2.2.1 lamp due r.2.2.2.2.2 day dues draw ∧ B = k4 tape (nI len) (nI q) 0 read' (nI (sN S + 1)) sat' ∧ Rd (entS S k u b l) read' ∧ Sat (entS S k u b l) sat')
section HR
variable {c : Nat → Nat} {len : Nat} {letters tape : Nat → Int32} {S : Sc} {kind used bay likes who lamp due : Nat → Int32} {count day dues draw : Int32} {read : Nat → Int32} {sat : Int32}
theorem bay5_y (hT : TP c len letters tape) (hX : isX S kind used bay likes who lamp due count day dues draw) {p : Nat} (hp : p ≤ len) (h : 48 ≤ hc c len (sk c len p) ∧ hc c len (sk c len p) ≤ 53 ∧ wf (sB S) (hc c len (sk c len p) - 48) (sN S) = none) : f_X5_readFreeBay letters (nI len) (nI p) who = some (nI (hc c len (sk c len p) - 48), nI (sk c len p + 1)) := by
  have hd : f_X5_digitHere letters (nI len) (nI (sk c len p)) 5 = _ := digitHere5 hT (m := 5) (sk_le hp) (by decide)
  unfold f_X5_readFreeBay
  rw [skip5 hT hp, sb, hd, sb, if_pos (show 48 ≤ hc c len (sk c len p) ∧ hc c len (sk c len p) ≤ 48 + 5 from ⟨h.1, h.2.1⟩), if_neg (nI_pos (by omega)), whoIn3 hX (by omega), sb, h.2.2, if_pos (show wI none (-1) = (-1) from rfl), nI_1]
theorem bay5_n (hT : TP c len letters tape) (hX : isX S kind used bay likes who lamp due count day dues draw) (ho : okS S) {p : Nat} (hp : p ≤ len) (h : ¬ (48 ≤ hc c len (sk c len p) ∧ hc c len (sk c len p) ≤ 53 ∧ wf (sB S) (hc c len (sk c len p) - 48) (sN S) = none)) : f_X5_readFreeBay letters (nI len) (nI p) who = some ((-1), nI (sk c len p)) := by
  have hn := ho.1
  have hd : f_X5_digitHere letters (nI len) (nI (sk c len p)) 5 = _ := digitHere5 hT (m := 5) (sk_le hp) (by decide)
  unfold f_X5_readFreeBay
  rw [skip5 hT hp, sb, hd, sb]
  by_cases h1 : 48 ≤ hc c len (sk c len p) ∧ hc c len (sk c len p) ≤ 48 + 5
  · rw [if_pos h1, if_neg (nI_pos (by omega)), whoIn3 hX (by omega), sb]
    cases e : wf (sB S) (hc c len (sk c len p) - 48) (sN S) with
    | none => exact absurd ⟨h1.1, h1.2, e⟩ h
    | some g =>
      have hg := (wf_some e).1
      rw [if_neg (show ¬ wI (some g) (-1) = (-1) from wI_ne (by omega))]
  · rw [if_neg h1, if_pos neg1]
theorem v200 (hs : Sat S sat) {H : Nat} (hH : H ≤ 126) : (if tf (decide (0 ≤ (nI H - 48).toInt ∧ (nI H - 48).toInt ≤ 5)) = 0 then (0 : Int32) else (if (sat >>> ((nI H - 48) &&& 31)) &&& 1 = 0 then 1 else 0)) = tf (decide (48 ≤ H ∧ H ≤ 53 ∧ wf (sB S) (H - 48) (sN S) = none)) := by
  obtain ⟨m, hm, rfl, h⟩ := hs
  rw [sub48 hH]
  by_cases h1 : 48 ≤ H ∧ H ≤ 53
  · rw [if_neg (tf_y (by omega)), show (48 : Int32) = nI 48 from rfl, pk_sub h1.1]
    have hb : H - 48 < 6 := by omega
    have e := sat_bit ⟨H - 48, hb⟩ ⟨m, hm⟩
    have hw := h (H - 48) hb
    by_cases h2 : wf (sB S) (H - 48) (sN S) = none
    · rw [h2] at hw
      rw [if_pos (e.mpr hw), decide_eq_true (And.intro h1.1 (And.intro h1.2 h2))]
      rfl
    · rw [if_neg (fun k => ?_), decide_eq_false (fun k => h2 k.2.2)]
      · rfl
      · have := e.mp k
        rw [hw] at this
        cases e' : wf (sB S) (H - 48) (sN S) with
        | none => exact h2 e'
        | some g => rw [e'] at this; cases this
  · rw [if_pos (tf_x (by omega)), decide_eq_false (fun k => h1 ⟨k.1, k.2.1⟩)]
    rfl
theorem OneG_y (hX : isX S kind used bay likes who lamp due count day dues draw) (ho : okS S) (hn : sN S < 6) (hR : Rd S read) (hs : Sat S sat) (k4 : K4T) {q k u b l : Nat} (hq : q ≤ len) (hk : k ≤ 4) (hu : u ≤ 99) (hb : b < 6) (hl : l < 6) (hf : wf (sB S) b (sN S) = none) : OneG len S kind used bay likes who lamp due count day dues draw tape read sat k4 (f_X5_readOneHolder_c64 letters (nI len) (nI q) kind used bay likes who count (nI k) (nI u) (nI b) (nI l)) (f_X7_readHolders_c240 k4 tape (nI len) (nI q) 0 read (nI (sN S)) sat (nI k) (nI u) (nI b) (nI l)) := by
  obtain ⟨r, e, hr⟩ := enter3 hX hn (k := k) (u := u) (b := b) (l := l) hb
  refine Or.inr ?_
  refine ⟨q, k, u, b, l, r, _, _, hq, ok_ent ho hn hk hu hb hl hf, ?_, hr, fin7 k4 tape (nI len) (nI q) read hn sat (nI k) (nI u) (nI b) (nI l), Rd_ent hR k u b l, Sat_ent hs hb⟩
  unfold f_X5_readOneHolder_c64
  rw [if_neg (nI_pos (by omega)), e, sb]
theorem oneH (hT : TP c len letters tape) (hX : isX S kind used bay likes who lamp due count day dues draw) (ho : okS S) (hn : sN S < 6) (hR : Rd S read) (hs : Sat S sat) (k4 : K4T) {p : Nat} (hp : p ≤ len) : OneG len S kind used bay likes who lamp due count day dues draw tape read sat k4 (f_X5_readOneHolder letters (nI len) (nI p) kind used bay likes who count) (f_X7_readHolders_c43 k4 tape (nI len) (nI p) 0 read (nI (sN S)) sat) := by
  unfold f_X5_readOneHolder f_X7_readHolders_c43
  rw [if_pos rfl, here7 hT hp, sb, kind5 hT hp, sb]
  unfold f_X7_readHolders_c58
  have hq1 := sk_le (c := c) hp
  have hb1 := hc_le hT (sk c len p)
  generalize sk c len p = q1 at hq1 hb1 ⊢
  have e0 : (if nI (hc c len q1) = 112 then (0 : Int32) else (if nI (hc c len q1) = 115 then 1 else (if nI (hc c len q1) = 109 then 2 else (if nI (hc c len q1) = 108 then 3 else (if nI (hc c len q1) = 121 then 4 else (-1)))))) = wI (kd (hc c len q1)) (-1) := kds ⟨hc c len q1, by omega⟩
  dsimp only
  rw [e0, jn_eq, jn_eq]
  cases e1 : kd (hc c len q1) with
  | none =>
    refine Or.inl ?_
    refine ⟨q1, hq1, if_pos (show wI none (-1) < 0 by decide), ?_⟩
    rw [if_pos (show wI none (-1) < 0 by decide), must_f, sb, num7F, sb, if_neg n10]
    exact F153 _ _ _ _ _ _ _ _ _
  | some k =>
    obtain ⟨hk, h0⟩ := kd_le e1
    have hl1 : q1 < len := hc_lt h0
    have hw : ¬ wI (some k) (-1) < 0 := nI_pos (by omega)
    rw [if_neg hw, if_neg hw, must_t, sb, nI_1, if_pos (show (some k).isSome = true from rfl)]
    dsimp only
    rcases numB hT (show q1 + 1 ≤ len by omega) with ⟨a5, a7⟩ | ⟨u, p3, hu, hp3, a5, a7⟩
    · rw [a5, sb, a7, sb]
      refine Or.inl ?_
      refine ⟨_, sk_le (c := c) (show q1 + 1 ≤ len by omega), if_pos neg1, ?_⟩
      rw [if_neg n10]
      exact F153 _ _ _ _ _ _ _ _ _
    · have t64 : f_X5_takesSign letters (nI len) (nI p3) 64 = _ := takes5 hT hp3 (s := 64) (by decide) (by decide)
      rw [a5, sb, a7, sb]
      dsimp only
      rw [if_neg (show ¬ nI u < 0 from nI_pos (by omega)), if_pos rfl, t64, sb, here7 hT hp3, sb]
      have hq3 := sk_le (c := c) hp3
      have hb3 := hc_le hT (sk c len p3)
      generalize sk c len p3 = q3 at hq3 hb3 ⊢
      dsimp only
      rw [show (64 : Int32) = nI 64 from rfl, if_n_eq (by omega) (by decide)]
      by_cases h64 : hc c len q3 = 64
      · have hl3 : q3 < len := hc_lt (c := c) (by omega)
        rw [if_pos h64, if_pos h64, jn_eq, must_t, sb]
        dsimp only
        rw [if_neg n10, if_pos rfl, nI_1, here7 hT (show q3 + 1 ≤ len by omega), sb]
        dsimp only
        unfold f_X7_readHolders_c175
        have hq4 := sk_le (c := c) (show q3 + 1 ≤ len by omega)
        have hb4 := hc_le hT (sk c len (q3 + 1))
        rw [isBay7, sb, v200 hs hb4, jn_eq]
        by_cases hf : 48 ≤ hc c len (sk c len (q3 + 1)) ∧ hc c len (sk c len (q3 + 1)) ≤ 53 ∧ wf (sB S) (hc c len (sk c len (q3 + 1)) - 48) (sN S) = none
        · rw [bay5_y hT hX (show q3 + 1 ≤ len by omega) hf, sb, decide_eq_true hf, show tf true = 1 from rfl, must_t, sb]
          generalize sk c len (q3 + 1) = q4 at hq4 hb4 hf ⊢
          have hl4 : q4 < len := hc_lt (c := c) (by omega)
          have e48 : nI (hc c len q4) - 48 = nI (hc c len q4 - 48) := pk_sub (b := 48) hf.1
          rw [e48]
          have hb6 : hc c len q4 - 48 < 6 := by omega
          have hwf := hf.2.2
          generalize hc c len q4 - 48 = b at hb6 hwf ⊢
          have t62 : f_X5_takesSign letters (nI len) (nI (q4 + 1)) 62 = _ := takes5 hT (show q4 + 1 ≤ len by omega) (s := 62) (by decide) (by decide)
          dsimp only
          rw [if_neg (show ¬ nI b < 0 from nI_pos (by omega)), if_pos rfl, nI_1, t62, sb, here7 hT (show q4 + 1 ≤ len by omega), sb]
          have hq5 := sk_le (c := c) (show q4 + 1 ≤ len by omega)
          have hb5 := hc_le hT (sk c len (q4 + 1))
          generalize sk c len (q4 + 1) = q5 at hq5 hb5 ⊢
          dsimp only
          rw [show (62 : Int32) = nI 62 from rfl, if_n_eq (by omega) (by decide)]
          by_cases h62 : hc c len q5 = 62
          · have hl5 : q5 < len := hc_lt (c := c) (by omega)
            have d5 : f_X5_readDigit letters (nI len) (nI (q5 + 1)) 5 = _ := readDigit5 hT (m := 5) (show q5 + 1 ≤ len by omega) (by decide)
            have d7 : f_X7_digit tape (nI len) (nI (q5 + 1)) 0 5 = _ := digit7 hT (m := 5) (show q5 + 1 ≤ len by omega) (by decide)
            rw [if_pos h62, if_pos h62]
            dsimp only
            rw [if_neg n10, nI_1, d5, sb, d7, sb]
            have hq6 := sk_le (c := c) (show q5 + 1 ≤ len by omega)
            have hb6' := hc_le hT (sk c len (q5 + 1))
            generalize sk c len (q5 + 1) = q6 at hq6 hb6' ⊢
            by_cases hd : 48 ≤ hc c len q6 ∧ hc c len q6 ≤ 48 + 5
            · have hl6 : q6 < len := hc_lt (c := c) (by omega)
              rw [if_pos hd, if_pos hd]
              exact OneG_y hX ho hn hR hs k4 (show q6 + 1 ≤ len by omega) hk hu hb6 (by omega) hwf
            · rw [if_neg hd, if_neg hd]
              refine Or.inl ?_
              refine ⟨q6, hq6, ?_, F240 _ _ _ _ _ _ _ _ _ _ _⟩
              unfold f_X5_readOneHolder_c64
              exact if_pos neg1
          · rw [if_neg h62, if_neg h62]
            dsimp only
            rw [if_pos rfl]
            exact OneG_y hX ho hn hR hs k4 hq5 hk hu hb6 hb6 hwf
        · rw [bay5_n hT hX ho (show q3 + 1 ≤ len by omega) hf, sb, decide_eq_false hf, show tf false = 0 from rfl, must_f, sb]
          refine Or.inl ?_
          refine ⟨_, hq4, if_pos neg1, ?_⟩
          rw [if_neg n10]
          exact F240 _ _ _ _ _ _ _ _ _ _ _
      · rw [if_neg h64, if_neg h64, jn_eq, must_f, sb]
        refine Or.inl ?_
        refine ⟨q3, hq3, if_pos rfl, ?_⟩
        rw [if_neg n10]
        exact F175 _ _ _ _ _ _ _ _ _ _
/-- all holders read: the same fault; a comma behind the sixth; or the same holders -/
def AllG (c : Nat → Nat) (len : Nat) (S : Sc) (lamp due : Nat → Int32) (day dues draw : Int32) (rx : R5T) (rm : Int32 × Int32 × Int32 × (Nat → Int32)) : Prop :=
  ∃ q, q ≤ len ∧ ((rx.1 = 0 ∧ rx.2.1 = nI q ∧ rm.2.1 = nI q ∧ rm.2.2.1 = 1) ∨ (rx.1 = 1 ∧ rx.2.1 = nI q ∧ rm.2.1 = nI (sk c len q) ∧ rm.2.2.1 = 1 ∧ ¬ hc c len (sk c len q) = 0) ∨ (rx.1 = 1 ∧ rx.2.1 = nI q ∧ rm.2.1 = nI (sk c len q) ∧ rm.2.2.1 = 0 ∧ ∃ S', okS S' ∧ isX S' rx.2.2.1 rx.2.2.2.1 rx.2.2.2.2.1 rx.2.2.2.2.2.1 rx.2.2.2.2.2.2.1 lamp due rx.2.2.2.2.2.2.2 day dues draw ∧ Rd S' rm.2.2.2 ∧ rm.1 = nI (sN S') ∧ S'.2.2.2.2.2 = S.2.2.2.2.2))
theorem holdL (hT : TP c len letters tape) : ∀ (d : Nat) (S : Sc) (kind used bay likes who : Nat → Int32) (count : Int32) (read : Nat → Int32) (sat : Int32) (p f g : Nat), sN S + (d + 1) = 6 → p ≤ len → okS S → isX S kind used bay likes who lamp due count day dues draw → Rd S read → Sat S sat → d + 1 ≤ f → d + 2 ≤ g → ∃ rx rm, f_X5_readHolders_c2 f letters (nI len) (nI p) kind used bay likes who count (nI (sN S)) = some rx ∧ f_X7_readHolders_c43 (f_X7_readHolders_c4 g) tape (nI len) (nI p) 0 read (nI (sN S)) sat = some rm ∧ AllG c len S lamp due day dues draw rx rm := by
  intro d
  induction d with
  | zero =>
    intro S kind used bay likes who count read sat p f g hd hp ho hX hR hs hf hg
    have h5 : sN S = 5 := by omega
    obtain ⟨f, rfl⟩ : ∃ f', f = f' + 1 := ⟨f - 1, by omega⟩
    obtain ⟨g, rfl⟩ : ∃ g', g = g' + 1 + 1 := ⟨g - 2, by omega⟩
    rw [f_X5_readHolders_c2, if_pos (show nI (sN S) < (6 : Int32) from nI_lt (b := 6) (by omega) (by decide))]
    rcases oneH hT hX ho (by omega) hR hs (f_X7_readHolders_c4 (g + 1 + 1)) hp with ⟨q, hq, e5, e7⟩ | ⟨q, k, u, b, l, r, read', sat', hq, ho', e5, hr, e7, hR', hs'⟩
    · rw [e5, sb, e7, c4F]
      exact ⟨_, _, if_pos rfl, rfl, q, hq, Or.inl ⟨rfl, rfl, rfl, rfl⟩⟩
    · rw [e5, sb, e7]
      dsimp only
      rw [if_neg n10, if_pos (show nI (sN S) = 5 by rw [h5]; rfl), f_X7_readHolders_c4, if_pos rfl, if_neg (nI_ne0 (by omega) (by omega)), here7 hT hq, sb]
      have hb := hc_le hT (sk c len q)
      dsimp only
      rw [show (44 : Int32) = nI 44 from rfl, if_n_eq (by omega) (by decide)]
      by_cases h44 : hc c len (sk c len q) = 44
      · rw [if_pos h44]
        unfold f_X7_readHolders_c24
        rw [if_pos (show (0 : Int32) < nI (sN S + 1) from nI_lt (a := 0) (by omega) (by omega)), if_neg (show ¬ nI (sN S + 1) < (6 : Int32) from nI_nlt (b := 6) (by omega) (by omega)), jn_eq, must_f, sb]
        dsimp only
        rw [F43, c4F]
        exact ⟨_, _, rfl, rfl, q, hq, Or.inr (Or.inl ⟨rfl, rfl, rfl, rfl, by omega⟩)⟩
      · rw [if_neg h44]
        exact ⟨_, _, rfl, rfl, q, hq, Or.inr (Or.inr ⟨rfl, rfl, rfl, rfl, entS S k u b l, ho', hr, hR', rfl, rfl⟩)⟩
  | succ d ih =>
    intro S kind used bay likes who count read sat p f g hd hp ho hX hR hs hf hg
    obtain ⟨f, rfl⟩ : ∃ f', f = f' + 1 := ⟨f - 1, by omega⟩
    obtain ⟨g, rfl⟩ : ∃ g', g = g' + 1 := ⟨g - 1, by omega⟩
    rw [f_X5_readHolders_c2, if_pos (show nI (sN S) < (6 : Int32) from nI_lt (b := 6) (by omega) (by decide))]
    rcases oneH hT hX ho (by omega) hR hs (f_X7_readHolders_c4 (g + 1)) hp with ⟨q, hq, e5, e7⟩ | ⟨q, k, u, b, l, r, read', sat', hq, ho', e5, hr, e7, hR', hs'⟩
    · rw [e5, sb, e7, c4F]
      exact ⟨_, _, if_pos rfl, rfl, q, hq, Or.inl ⟨rfl, rfl, rfl, rfl⟩⟩
    · have t44 : f_X5_takesSign letters (nI len) (nI q) 44 = _ := takes5 hT hq (s := 44) (by decide) (by decide)
      rw [e5, sb, e7]
      dsimp only
      rw [if_neg n10, if_neg (show ¬ nI (sN S) = (5 : Int32) from fun e => by rw [show (5 : Int32) = nI 5 from rfl, n_eq (by omega) (by decide)] at e; omega), f_X7_readHolders_c4, if_pos rfl, if_neg (nI_ne0 (by omega) (by omega)), t44, sb, here7 hT hq, sb]
      have hb := hc_le hT (sk c len q)
      have hq2 := sk_le (c := c) hq
      dsimp only
      rw [show (44 : Int32) = nI 44 from rfl, if_n_eq (by omega) (by decide)]
      by_cases h44 : hc c len (sk c len q) = 44
      · have hl : sk c len q < len := hc_lt (c := c) (by omega)
        rw [if_pos h44, if_pos h44]
        unfold f_X7_readHolders_c24
        rw [if_pos (show (0 : Int32) < nI (sN S + 1) from nI_lt (a := 0) (by omega) (by omega)), if_pos (show nI (sN S + 1) < (6 : Int32) from nI_lt (b := 6) (by omega) (by decide)), jn_eq, must_t, sb]
        dsimp only
        rw [if_neg n10, nI_1, nI_1]
        obtain ⟨rx, rm, a1, a2, q', hq', a3⟩ := ih (entS S k u b l) r.1 r.2.1 r.2.2.1 r.2.2.2.1 r.2.2.2.2.1 r.2.2.2.2.2 read' sat' (sk c len q + 1) f g (by show sN S + 1 + (d + 1) = 6; omega) (by omega) ho' hr hR' hs' (by omega) (by omega)
        exact ⟨rx, rm, a1, a2, q', hq', a3⟩
      · rw [if_neg h44, if_neg h44]
        refine ⟨_, _, if_pos rfl, rfl, sk c len q, hq2, Or.inr (Or.inr ⟨rfl, rfl, ?_, rfl, entS S k u b l, ho', hr, hR', rfl, rfl⟩)⟩
        rw [sk_sk]
end HR
