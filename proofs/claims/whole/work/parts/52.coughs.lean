/-! MATHEMATICS 23: coughs -/
def bitN (p k : Nat) : Bool := decide (p / 2 ^ k % 2 = 1)
def prt (c p : Nat) : Nat → Nat
  | 0 => 1
  | k + 1 => prt c p k * (if bitN p k = true then c else 10 - c)
theorem prt_s (c p k : Nat) : prt c p (k + 1) = prt c p k * (if bitN p k = true then c else 10 - c) := rfl
def pthS (S : Sc) (h p : Nat) : Nat → Sc
  | 0 => S
  | k + 1 => passS (if bitN p k = true then talkS (pthS S h p k) h else pthS S h p k)
theorem pthS_s (S : Sc) (h p k : Nat) : pthS S h p (k + 1) = passS (if bitN p k = true then talkS (pthS S h p k) h else pthS S h p k) := rfl
def cgW (S : Sc) (h u n c p : Nat) : Nat := if sU (pthS S h p n) h < u then 0 else prt c p n
theorem pth_N (S : Sc) (h p : Nat) : ∀ k, sN (pthS S h p k) = sN S := by
  intro k
  induction k with
  | zero => rfl
  | succ k ih =>
    rw [pthS_s]
    show sN (if bitN p k = true then talkS (pthS S h p k) h else pthS S h p k) = _
    split
    · rw [talk_N, ih]
    · exact ih
theorem ok_pth {S : Sc} (ho : okS S) {h : Nat} (hh : h < sN S) (p : Nat) : ∀ k, okS (pthS S h p k) := by
  intro k
  induction k with
  | zero => exact ho
  | succ k ih =>
    rw [pthS_s]
    apply ok_pass
    split
    · exact ok_talk ih (by rw [pth_N]; exact hh)
    · exact ih
theorem prt_le {c : Nat} (hc : c ≤ 10) (p : Nat) : ∀ k, prt c p k ≤ 10 ^ k := by
  intro k
  induction k with
  | zero => exact Nat.le_refl _
  | succ k ih =>
    rw [prt_s, Nat.pow_succ]
    refine Nat.mul_le_mul ih ?_
    split <;> omega
theorem prt_0 {c p k : Nat} (h : prt c p k = 0) : ∀ d, prt c p (k + d) = 0 := by
  intro d
  induction d with
  | zero => exact h
  | succ d ih =>
    rw [show k + (d + 1) = (k + d) + 1 from rfl, prt_s, ih, Nat.zero_mul]
theorem prt_sum : ∀ c : Fin 11, ∀ n : Fin 7, sumN (fun p => prt c.val p n.val) (2 ^ n.val) = 10 ^ n.val := by decide +kernel
theorem bit31 : ∀ p : Fin 64, ∀ k : Fin 6, (nI p.val >>> (nI k.val &&& 31)) &&& 1 = if p.val / 2 ^ k.val % 2 = 1 then 1 else 0 := by decide +kernel
theorem shl7 : ∀ k : Fin 7, (1 : Int32) <<< (nI k.val &&& 31) = nI (2 ^ k.val) := by decide +kernel
theorem bit_y {p k : Nat} (hp : p < 64) (hk : k < 6) (h : bitN p k = true) : (nI p >>> (nI k &&& 31)) &&& 1 = 1 := by
  have e : (nI p >>> (nI k &&& 31)) &&& 1 = if p / 2 ^ k % 2 = 1 then 1 else 0 := bit31 ⟨p, hp⟩ ⟨k, hk⟩
  rw [e, if_pos (of_decide_eq_true h)]
theorem bit_n {p k : Nat} (hp : p < 64) (hk : k < 6) (h : ¬ bitN p k = true) : ¬ (nI p >>> (nI k &&& 31)) &&& 1 = 1 := by
  have e : (nI p >>> (nI k &&& 31)) &&& 1 = if p / 2 ^ k % 2 = 1 then 1 else 0 := bit31 ⟨p, hp⟩ ⟨k, hk⟩
  rw [e, if_neg (fun q => h (decide_eq_true q))]
  decide
theorem gcd_st (a b : Nat) : Nat.gcd b (a % b) = Nat.gcd a b := by
  rw [Nat.gcd_comm b (a % b), ← Nat.gcd_rec b a, Nat.gcd_comm]
theorem half {a b k : Nat} (hb : b < 2 ^ (k + 1)) (h0 : 0 < b) (hr : 0 < a % b) : b % (a % b) < 2 ^ k := by
  have h1 : a % b < b := Nat.mod_lt _ h0
  have h2 : b % (a % b) < a % b := Nat.mod_lt _ hr
  have h3 := Nat.div_add_mod b (a % b)
  have h4 : 0 < b / (a % b) := Nat.div_pos (by omega) hr
  have h5 : a % b * 1 ≤ a % b * (b / (a % b)) := Nat.mul_le_mul_left _ h4
  rw [Nat.pow_succ] at hb
  omega
theorem n_0 {b : Nat} (h0 : 0 < b) (hb : b < 2 ^ 31) : ¬ nI b = 0 := fun e => by
  have e : nI b = nI 0 := e
  rw [n_eq hb (by decide)] at e
  omega
theorem cd6_0 (a : Nat) {s : Nat} (hs : s ≤ 64) (f : Nat) : f_X6_commonDivisor_c2 (f + 1) (nI a) (nI 0) (nI s) = some (nI a) := by
  rw [f_X6_commonDivisor_c2, if_pos (show nI 0 = 0 from rfl)]
  split <;> rfl
theorem cd6_s {a b s : Nat} (ha : a < 2 ^ 31) (h0 : 0 < b) (hb : b < 2 ^ 31) (hs : s < 64) (f : Nat) : f_X6_commonDivisor_c2 (f + 1) (nI a) (nI b) (nI s) = f_X6_commonDivisor_c2 f (nI b) (nI (a % b)) (nI (s + 1)) := by
  rw [f_X6_commonDivisor_c2, if_pos (show nI s < (64 : Int32) from nI_lt (b := 64) hs (by decide)), if_neg (n_0 h0 hb), if_neg (n_0 h0 hb), pk_rem ha h0 hb, nI_1]
theorem cd6 : ∀ k a b s f, b < 2 ^ k → k ≤ 30 → a < 2 ^ 31 → 2 * k + s ≤ 64 → 2 * k < f → f_X6_commonDivisor_c2 f (nI a) (nI b) (nI s) = some (nI (Nat.gcd a b)) := by
  intro k
  induction k with
  | zero =>
    intro a b s f hb _ ha hs hf
    obtain ⟨f, rfl⟩ : ∃ g, f = g + 1 := ⟨f - 1, by omega⟩
    have : b = 0 := by omega
    subst this
    rw [cd6_0 a (by omega) f, Nat.gcd_zero_right]
  | succ k ih =>
    intro a b s f hb hk ha hs hf
    have hp : 2 ^ (k + 1) ≤ 2 ^ 30 := Nat.pow_le_pow_right (by decide) hk
    by_cases h0 : b = 0
    · subst h0
      obtain ⟨f, rfl⟩ : ∃ g, f = g + 1 := ⟨f - 1, by omega⟩
      rw [cd6_0 a (by omega) f, Nat.gcd_zero_right]
    · obtain ⟨f, rfl⟩ : ∃ g, f = g + 2 := ⟨f - 2, by omega⟩
      have hlt : a % b < b := Nat.mod_lt _ (by omega)
      rw [cd6_s ha (by omega) (by omega) (by omega) (f + 1)]
      by_cases hr : a % b = 0
      · rw [hr, cd6_0 b (by omega) f, ← gcd_st a b, hr, Nat.gcd_zero_right]
      · rw [cd6_s (by omega) (by omega) (by omega) (by omega) f, ih (a % b) (b % (a % b)) (s + 1 + 1) f (half hb (by omega) (by omega)) (by omega) (by omega) (by omega) (by omega), gcd_st b (a % b), gcd_st a b]
theorem cd7_s (now mores aside : Nat → Int32) (x5 x6 x7 : Int32) {a b : Nat} (ha : a < 2 ^ 31) (h0 : 0 < b) (hb : b < 2 ^ 31) (f : Nat) : f_X7_coughs_c194 (f + 1) now mores aside x5 x6 x7 (nI a) (nI b) = f_X7_coughs_c194 f now mores aside x5 x6 x7 (nI b) (nI (a % b)) := by
  rw [f_X7_coughs_c194, if_neg (n_0 h0 hb), if_neg (n_0 h0 hb), pk_rem ha h0 hb]
theorem cd7 (now mores aside : Nat → Int32) (x5 x6 x7 : Int32) : ∀ k a b f, b < 2 ^ k → k ≤ 30 → a < 2 ^ 31 → 2 * k < f → ∃ g, f_X7_coughs_c194 f now mores aside x5 x6 x7 (nI a) (nI b) = f_X7_coughs_c194 (g + 1) now mores aside x5 x6 x7 (nI (Nat.gcd a b)) (nI 0) := by
  intro k
  induction k with
  | zero =>
    intro a b f hb _ ha hf
    obtain ⟨f, rfl⟩ : ∃ g, f = g + 1 := ⟨f - 1, by omega⟩
    have : b = 0 := by omega
    subst this
    exact ⟨f, by rw [Nat.gcd_zero_right]⟩
  | succ k ih =>
    intro a b f hb hk ha hf
    have hp : 2 ^ (k + 1) ≤ 2 ^ 30 := Nat.pow_le_pow_right (by decide) hk
    by_cases h0 : b = 0
    · subst h0
      obtain ⟨f, rfl⟩ : ∃ g, f = g + 1 := ⟨f - 1, by omega⟩
      exact ⟨f, by rw [Nat.gcd_zero_right]⟩
    · obtain ⟨f, rfl⟩ : ∃ g, f = g + 2 := ⟨f - 2, by omega⟩
      have hlt : a % b < b := Nat.mod_lt _ (by omega)
      by_cases hr : a % b = 0
      · refine ⟨f, ?_⟩
        rw [cd7_s now mores aside x5 x6 x7 ha (by omega) (by omega) (f + 1), ← gcd_st a b, hr, Nat.gcd_zero_right]
      · obtain ⟨g, eg⟩ := ih (a % b) (b % (a % b)) f (half hb (by omega) (by omega)) (by omega) (by omega) (by omega)
        refine ⟨g, ?_⟩
        rw [cd7_s now mores aside x5 x6 x7 ha (by omega) (by omega) (f + 1), cd7_s now mores aside x5 x6 x7 (by omega) (by omega) (by omega) f, eg, gcd_st b (a % b), gcd_st a b]
theorem in6 (x : Int32) : f_X7_in x.toInt64 0 6 = some (tf (decide (0 ≤ x.toInt ∧ x.toInt ≤ 6))) := in7w x 0 6
theorem wi6 (x : Int32) : f_X6_within x 0 6 = some (tf (decide (0 ≤ x.toInt ∧ x.toInt ≤ 6))) := within6 x 0 6
theorem in10 (x : Int32) : f_X7_in x.toInt64 0 10 = some (tf (decide (0 ≤ x.toInt ∧ x.toInt ≤ 10))) := in7w x 0 10
theorem wi10 (x : Int32) : f_X6_within x 0 10 = some (tf (decide (0 ≤ x.toInt ∧ x.toInt ≤ 10))) := within6 x 0 10
theorem w10 {c : Nat} (hc : c ≤ 10) : (10 : Int32) - nI c = nI (10 - c) := pk_sub (a := 10) (b := c) hc
theorem p10 {n : Nat} (hn : n ≤ 6) : 10 ^ n ≤ 1000000 := Nat.pow_le_pow_right (n := 10) (by decide) hn
theorem p64 {n : Nat} (hn : n ≤ 6) : 2 ^ n ≤ 64 := Nat.pow_le_pow_right (n := 2) (by decide) hn
section CG
variable {kind used bay likes who lamp due : Nat → Int32} {count day dues draw : Int32} {fkind fused fbay flikes fwho flamp fdue fgain : Nat → Int32} {fcount fday fdues fdraw : Int32} {mu mb : Nat → Nat → Int32} {md mz mr : Nat → Int32} {next known : Int32} {now undone : Nat → Int32} {undos : Int32} {S : Sc}
theorem w80 {T : Sc} (hX : isX T fkind fused fbay flikes fwho flamp fdue fcount fday fdues fdraw) (ho : okS T) (fgain : Nat → Int32) {h u w : Nat} (hh : h < sN T) (hu : u ≤ 99) : ∃ r, f_X6_weightIfUsed_c80 kind used bay likes who lamp due count day dues draw fkind fused fbay flikes fwho flamp fdue fgain fcount fday fdues fdraw (nI h) (nI u) (nI w) = some r ∧ r.1 = nI (if sU T h < u then 0 else w) := by
  have hn := ho.1
  have hU := (ho.2.1 h hh).2.1
  unfold f_X6_weightIfUsed_c80
  rw [if_pos (inb_nI (show h < 6 by omega) (by decide)), nI_cl (by omega), (hX.2.2.2.2.1 h hh).2.1, jn_eq, jn_eq, if_n_lt (by omega) (by omega)]
  refine ⟨_, rfl, ?_⟩
  show (if sU T h < u then 0 else nI w) = _
  split <;> rfl
theorem w17 (ho : okS S) {h u n c p : Nat} (hh : h < sN S) (hu : u ≤ 99) (hn : n ≤ 6) (hc : c ≤ 10) (hp : p < 64) : ∀ d k f {fused fgain : Nat → Int32} {fday fdues : Int32}, k + d = n → d < f → isX (pthS S h p k) fkind fused fbay flikes fwho flamp fdue fcount fday fdues fdraw → ∃ r, f_X6_weightIfUsed_c17 f kind used bay likes who lamp due count day dues draw fkind fused fbay flikes fwho flamp fdue fgain fcount fday fdues fdraw (nI h) (nI u) (nI n) (nI c) (nI p) (nI (prt c p k)) (nI k) = some r ∧ r.1 = nI (cgW S h u n c p) := by
  intro d
  induction d with
  | zero =>
    intro k f fused fgain fday fdues hk hf hX
    obtain ⟨f, rfl⟩ : ∃ g, f = g + 1 := ⟨f - 1, by omega⟩
    have : k = n := by omega
    subst this
    rw [f_X6_weightIfUsed_c17, if_neg (nI_nlt (Nat.le_refl _) (by omega))]
    exact w80 hX (ok_pth ho hh p k) fgain (by rw [pth_N]; exact hh) hu
  | succ d ih =>
    intro k f fused fgain fday fdues hk hf hX
    obtain ⟨f, rfl⟩ : ∃ g, f = g + 1 := ⟨f - 1, by omega⟩
    have hok := ok_pth ho hh p k
    have hhk : h < sN (pthS S h p k) := by rw [pth_N]; exact hh
    have hle := prt_le hc p k
    have h10 := p10 (show k ≤ 6 by omega)
    rw [f_X6_weightIfUsed_c17, if_pos (nI_lt (show k < n by omega) (by omega))]
    by_cases c0 : prt c p k = 0
    · rw [c0, if_neg (show ¬ (0 : Int32) < nI 0 by decide)]
      obtain ⟨r, e1, e2⟩ := w80 (kind := kind) (used := used) (bay := bay) (likes := likes) (who := who) (lamp := lamp) (due := due) (count := count) (day := day) (dues := dues) (draw := draw) (w := 0) hX hok fgain hhk hu
      refine ⟨r, e1, e2.trans ?_⟩
      unfold cgW
      rw [← hk, prt_0 c0]
      split <;> split <;> rfl
    · rw [if_pos (show (0 : Int32) < nI (prt c p k) from nI_lt (a := 0) (by omega) (by omega))]
      by_cases cb : bitN p k = true
      · obtain ⟨t, et, ht⟩ := talkTo3 hX hok hhk
        obtain ⟨q, eq, hq⟩ := passDay3 ht (ok_talk hok hhk) fgain
        rw [if_pos (bit_y hp (by omega) cb), et, sb]
        unfold f_X6_weightIfUsed_c67
        rw [eq, sb, n_mul, nI_1]
        have e1 : prt c p k * c = prt c p (k + 1) := by rw [prt_s, if_pos cb]
        have e2 : pthS S h p (k + 1) = passS (talkS (pthS S h p k) h) := by rw [pthS_s, if_pos cb]
        rw [e1]
        exact ih (k + 1) f (by omega) (by omega) (by rw [e2]; exact hq)
      · obtain ⟨q, eq, hq⟩ := passDay3 hX hok fgain
        rw [if_neg (bit_n hp (by omega) cb)]
        unfold f_X6_weightIfUsed_c67
        rw [eq, sb, w10 hc, n_mul, nI_1]
        have e1 : prt c p k * (10 - c) = prt c p (k + 1) := by rw [prt_s, if_neg cb]
        have e2 : pthS S h p (k + 1) = passS (pthS S h p k) := by rw [pthS_s, if_neg cb]
        rw [e1]
        exact ih (k + 1) f (by omega) (by omega) (by rw [e2]; exact hq)
theorem weight6 (hX : isX S kind used bay likes who lamp due count day dues draw) (ho : okS S) {h u n c p : Nat} (hh : h < sN S) (hu : u ≤ 99) (hn : n ≤ 6) (hc : c ≤ 10) (hp : p < 64) (F : F12) : ∃ r, f_X6_weightIfUsed kind used bay likes who lamp due count day dues draw F.1 F.2.1 F.2.2.1 F.2.2.2.1 F.2.2.2.2.1 F.2.2.2.2.2.1 F.2.2.2.2.2.2.1 F.2.2.2.2.2.2.2.1 F.2.2.2.2.2.2.2.2.1 F.2.2.2.2.2.2.2.2.2.1 F.2.2.2.2.2.2.2.2.2.2.1 F.2.2.2.2.2.2.2.2.2.2.2 (nI h) (nI u) (nI n) (nI c) (nI p) = some r ∧ r.1 = nI (cgW S h u n c p) := by
  obtain ⟨b, eb, hb⟩ := become3 hX ho F.1 F.2.1 F.2.2.1 F.2.2.2.1 F.2.2.2.2.1 F.2.2.2.2.2.1 F.2.2.2.2.2.2.1 F.2.2.2.2.2.2.2.2.1 F.2.2.2.2.2.2.2.2.2.1 F.2.2.2.2.2.2.2.2.2.2.1 F.2.2.2.2.2.2.2.2.2.2.2
  unfold f_X6_weightIfUsed
  rw [eb, sb]
  have hfu : fu = 100000 := rfl
  exact w17 ho hh hu hn hc hp n 0 fu (by omega) (by omega) hb
theorem such_le {h u n c : Nat} (hc : c ≤ 10) (hn : n ≤ 6) : sumN (cgW S h u n c) (2 ^ n) ≤ 10 ^ n := by
  have h1 : sumN (cgW S h u n c) (2 ^ n) ≤ sumN (fun p => prt c p n) (2 ^ n) := sum_le (fun p _ => by
    unfold cgW
    split
    · exact Nat.zero_le _
    · exact Nat.le_refl _)
  have h2 : sumN (fun p => prt c p n) (2 ^ n) = 10 ^ n := prt_sum ⟨c, by omega⟩ ⟨n, by omega⟩
  omega
def cgA (a b g w : Nat) : Int32 := if w = 0 then nI (a / g) else nI (b / g)
theorem coughs_x (hX : isX S kind used bay likes who lamp due count day dues draw) (ho : okS S) {h u n c w : Nat} (hh : h < sN S) (hu : u ≤ 99) (hn : n ≤ 6) (hc : c ≤ 10) (hw : w ≤ 1) (F : F12) : ∃ r, f_X6_coughs_c85 fu kind used bay likes who lamp due count day dues draw F.1 F.2.1 F.2.2.1 F.2.2.2.1 F.2.2.2.2.1 F.2.2.2.2.2.1 F.2.2.2.2.2.2.1 F.2.2.2.2.2.2.2.1 F.2.2.2.2.2.2.2.2.1 F.2.2.2.2.2.2.2.2.2.1 F.2.2.2.2.2.2.2.2.2.2.1 F.2.2.2.2.2.2.2.2.2.2.2 (nI h) (nI u) (nI n) (nI c) (nI w) (nI (10 ^ n)) 0 0 = some r ∧ r.1 = cgA (sumN (cgW S h u n c) (2 ^ n)) (10 ^ n) (Nat.gcd (10 ^ n) (sumN (cgW S h u n c) (2 ^ n))) w := by
  have h10 := p10 hn
  have h64 := p64 hn
  have hs : (1 : Int32) <<< (nI n &&& 31) = nI (2 ^ n) := shl7 ⟨n, by omega⟩
  have hle : sumN (cgW S h u n c) (2 ^ n) ≤ 10 ^ n := such_le hc hn
  refine inv_all (fun f (a : F12 × Int32) k => f_X6_coughs_c85 f kind used bay likes who lamp due count day dues draw a.1.1 a.1.2.1 a.1.2.2.1 a.1.2.2.2.1 a.1.2.2.2.2.1 a.1.2.2.2.2.2.1 a.1.2.2.2.2.2.2.1 a.1.2.2.2.2.2.2.2.1 a.1.2.2.2.2.2.2.2.2.1 a.1.2.2.2.2.2.2.2.2.2.1 a.1.2.2.2.2.2.2.2.2.2.2.1 a.1.2.2.2.2.2.2.2.2.2.2.2 (nI h) (nI u) (nI n) (nI c) (nI w) (nI (10 ^ n)) a.2 (nI k)) (fun k a => a.2 = nI (sumN (cgW S h u n c) k)) (2 ^ n) (fun o => ∃ r, o = some r ∧ r.1 = cgA (sumN (cgW S h u n c) (2 ^ n)) (10 ^ n) (Nat.gcd (10 ^ n) (sumN (cgW S h u n c) (2 ^ n))) w) (by omega) (F, 0) rfl ?_ ?_
  · rintro f k ⟨G, x⟩ hk hI
    have hI : x = nI (sumN (cgW S h u n c) k) := hI
    obtain ⟨r, e1, e2⟩ := weight6 hX ho hh hu hn hc (p := k) (by omega) G
    refine ⟨(r.2, nI (sumN (cgW S h u n c) (k + 1))), ?_, rfl⟩
    show f_X6_coughs_c85 (f + 1) kind used bay likes who lamp due count day dues draw G.1 G.2.1 G.2.2.1 G.2.2.2.1 G.2.2.2.2.1 G.2.2.2.2.2.1 G.2.2.2.2.2.2.1 G.2.2.2.2.2.2.2.1 G.2.2.2.2.2.2.2.2.1 G.2.2.2.2.2.2.2.2.2.1 G.2.2.2.2.2.2.2.2.2.2.1 G.2.2.2.2.2.2.2.2.2.2.2 (nI h) (nI u) (nI n) (nI c) (nI w) (nI (10 ^ n)) x (nI k) = f_X6_coughs_c85 f kind used bay likes who lamp due count day dues draw r.2.1 r.2.2.1 r.2.2.2.1 r.2.2.2.2.1 r.2.2.2.2.2.1 r.2.2.2.2.2.2.1 r.2.2.2.2.2.2.2.1 r.2.2.2.2.2.2.2.2.1 r.2.2.2.2.2.2.2.2.2.1 r.2.2.2.2.2.2.2.2.2.2.1 r.2.2.2.2.2.2.2.2.2.2.2.1 r.2.2.2.2.2.2.2.2.2.2.2.2 (nI h) (nI u) (nI n) (nI c) (nI w) (nI (10 ^ n)) (nI (sumN (cgW S h u n c) (k + 1))) (nI (k + 1))
    rw [f_X6_coughs_c85, hs, if_pos (nI_lt hk (by omega)), e1, sb, e2, hI, n_add, nI_1]
    rfl
  · rintro f ⟨G, x⟩ hI
    have hI : x = nI (sumN (cgW S h u n c) (2 ^ n)) := hI
    show ∃ r, f_X6_coughs_c85 (f + 1) kind used bay likes who lamp due count day dues draw G.1 G.2.1 G.2.2.1 G.2.2.2.1 G.2.2.2.2.1 G.2.2.2.2.2.1 G.2.2.2.2.2.2.1 G.2.2.2.2.2.2.2.1 G.2.2.2.2.2.2.2.2.1 G.2.2.2.2.2.2.2.2.2.1 G.2.2.2.2.2.2.2.2.2.2.1 G.2.2.2.2.2.2.2.2.2.2.2 (nI h) (nI u) (nI n) (nI c) (nI w) (nI (10 ^ n)) x (nI (2 ^ n)) = some r ∧ _
    have hfu : fu = 100000 := rfl
    have hg : 0 < Nat.gcd (10 ^ n) (sumN (cgW S h u n c) (2 ^ n)) := Nat.gcd_pos_of_pos_left _ (Nat.pow_pos (by decide))
    have hgle : Nat.gcd (10 ^ n) (sumN (cgW S h u n c) (2 ^ n)) ≤ 10 ^ n := Nat.gcd_le_left _ (Nat.pow_pos (by decide))
    have h20 : (2 : Nat) ^ 20 = 1048576 := rfl
    have hcd : f_X6_commonDivisor (nI (10 ^ n)) (nI (sumN (cgW S h u n c) (2 ^ n))) = some (nI (Nat.gcd (10 ^ n) (sumN (cgW S h u n c) (2 ^ n)))) := cd6 20 _ _ 0 fu (by omega) (by decide) (by omega) (by decide) (by omega)
    rw [f_X6_coughs_c85, hs, if_neg (nI_nlt (Nat.le_refl _) (by omega)), hI, hcd, sb, jn_eq]
    generalize Nat.gcd (10 ^ n) (sumN (cgW S h u n c) (2 ^ n)) = g at hg hgle
    have hv : (if 1 < nI g then nI g else 1) = nI g := by
      by_cases c1 : 1 < g
      · rw [if_pos (show (1 : Int32) < nI g from nI_lt (a := 1) c1 (by omega))]
      · have : g = 1 := by omega
        subst this
        rfl
    rw [hv, if_neg (n_0 hg (by omega)), if_neg (n_0 hg (by omega)), pk_div (by omega) hg (by omega), pk_div (by omega) hg (by omega)]
    have hw2 : w = 0 ∨ w = 1 := by omega
    rcases hw2 with rfl | rfl
    · exact ⟨_, rfl, rfl⟩
    · exact ⟨_, rfl, rfl⟩
theorem coughs60 (F : F12) {n : Nat} (hn : n ≤ 6) (x1 x2 x4 x5 : Int32) : f_X6_coughs_c60 fu kind used bay likes who lamp due count day dues draw F.1 F.2.1 F.2.2.1 F.2.2.2.1 F.2.2.2.2.1 F.2.2.2.2.2.1 F.2.2.2.2.2.2.1 F.2.2.2.2.2.2.2.1 F.2.2.2.2.2.2.2.2.1 F.2.2.2.2.2.2.2.2.2.1 F.2.2.2.2.2.2.2.2.2.2.1 F.2.2.2.2.2.2.2.2.2.2.2 x1 x2 (nI n) x4 x5 1 0 = f_X6_coughs_c85 fu kind used bay likes who lamp due count day dues draw F.1 F.2.1 F.2.2.1 F.2.2.2.1 F.2.2.2.2.1 F.2.2.2.2.2.1 F.2.2.2.2.2.2.1 F.2.2.2.2.2.2.2.1 F.2.2.2.2.2.2.2.2.1 F.2.2.2.2.2.2.2.2.2.1 F.2.2.2.2.2.2.2.2.2.2.1 F.2.2.2.2.2.2.2.2.2.2.2 x1 x2 (nI n) x4 x5 (nI (10 ^ n)) 0 0 := by
  refine pre_all (fun f (a : Int32) k => f_X6_coughs_c60 f kind used bay likes who lamp due count day dues draw F.1 F.2.1 F.2.2.1 F.2.2.2.1 F.2.2.2.2.1 F.2.2.2.2.2.1 F.2.2.2.2.2.2.1 F.2.2.2.2.2.2.2.1 F.2.2.2.2.2.2.2.2.1 F.2.2.2.2.2.2.2.2.2.1 F.2.2.2.2.2.2.2.2.2.2.1 F.2.2.2.2.2.2.2.2.2.2.2 x1 x2 (nI n) x4 x5 a (nI k)) (fun k => nI (10 ^ k)) n _ (by omega) ?_ ?_
  · intro f k hk
    show f_X6_coughs_c60 (f + 1) kind used bay likes who lamp due count day dues draw F.1 F.2.1 F.2.2.1 F.2.2.2.1 F.2.2.2.2.1 F.2.2.2.2.2.1 F.2.2.2.2.2.2.1 F.2.2.2.2.2.2.2.1 F.2.2.2.2.2.2.2.2.1 F.2.2.2.2.2.2.2.2.2.1 F.2.2.2.2.2.2.2.2.2.2.1 F.2.2.2.2.2.2.2.2.2.2.2 x1 x2 (nI n) x4 x5 (nI (10 ^ k)) (nI k) = f_X6_coughs_c60 f kind used bay likes who lamp due count day dues draw F.1 F.2.1 F.2.2.1 F.2.2.2.1 F.2.2.2.2.1 F.2.2.2.2.2.1 F.2.2.2.2.2.2.1 F.2.2.2.2.2.2.2.1 F.2.2.2.2.2.2.2.2.1 F.2.2.2.2.2.2.2.2.2.1 F.2.2.2.2.2.2.2.2.2.2.1 F.2.2.2.2.2.2.2.2.2.2.2 x1 x2 (nI n) x4 x5 (nI (10 ^ (k + 1))) (nI (k + 1))
    rw [f_X6_coughs_c60, if_pos (nI_lt hk (by omega)), show (10 : Int32) = nI 10 from rfl, n_mul, nI_1, Nat.pow_succ]
  · intro f
    show f_X6_coughs_c60 (f + 1) kind used bay likes who lamp due count day dues draw F.1 F.2.1 F.2.2.1 F.2.2.2.1 F.2.2.2.2.1 F.2.2.2.2.2.1 F.2.2.2.2.2.2.1 F.2.2.2.2.2.2.2.1 F.2.2.2.2.2.2.2.2.1 F.2.2.2.2.2.2.2.2.2.1 F.2.2.2.2.2.2.2.2.2.2.1 F.2.2.2.2.2.2.2.2.2.2.2 x1 x2 (nI n) x4 x5 (nI (10 ^ n)) (nI n) = _
    rw [f_X6_coughs_c60, if_neg (nI_nlt (Nat.le_refl _) (by omega))]
theorem coughs85 (hM : isM S now) (ho : okS S) (mores aside : Nat → Int32) {h u n c p A B : Nat} (hh : h < sN S) (hu : u ≤ 99) (hn : n ≤ 6) (hc : c ≤ 10) (hp : p < 64) (x5 : Int32) (k71) : ∃ b mo, f_X7_coughs_c85 k71 fu now mores aside (nI h) (nI u) (nI n) (nI c) x5 (nI A) (nI B) (nI p) 1 0 = k71 b mo aside (nI h) (nI u) (nI n) (nI c) x5 (nI (A + cgW S h u n c p)) (nI (B + prt c p n)) (nI (p + 1)) ∧ ∀ j, j < 40 → b j = aside j := by
  refine inv_all (fun f (a : (Nat → Int32) × (Nat → Int32)) k => f_X7_coughs_c85 k71 f a.1 a.2 aside (nI h) (nI u) (nI n) (nI c) x5 (nI A) (nI B) (nI p) (nI (prt c p k)) (nI k)) (fun k a => isM (pthS S h p k) a.1) n (fun o => ∃ b mo, o = k71 b mo aside (nI h) (nI u) (nI n) (nI c) x5 (nI (A + cgW S h u n c p)) (nI (B + prt c p n)) (nI (p + 1)) ∧ ∀ j, j < 40 → b j = aside j) (by omega) (now, mores) hM ?_ ?_
  · rintro f k ⟨a, mo⟩ hk hI
    have hI : isM (pthS S h p k) a := hI
    have hok := ok_pth ho hh p k
    have hhk : h < sN (pthS S h p k) := by rw [pth_N]; exact hh
    by_cases cb : bitN p k = true
    · obtain ⟨t, et, ht⟩ := talks7 hI hok hhk
      obtain ⟨q, eq, hq⟩ := goesBy7 mo ht (ok_talk hok hhk)
      have e1 : prt c p k * c = prt c p (k + 1) := by rw [prt_s, if_pos cb]
      have e2 : pthS S h p (k + 1) = passS (talkS (pthS S h p k) h) := by rw [pthS_s, if_pos cb]
      refine ⟨q, ?_, ?_⟩
      · show f_X7_coughs_c85 k71 (f + 1) a mo aside (nI h) (nI u) (nI n) (nI c) x5 (nI A) (nI B) (nI p) (nI (prt c p k)) (nI k) = f_X7_coughs_c85 k71 f q.1 q.2 aside (nI h) (nI u) (nI n) (nI c) x5 (nI A) (nI B) (nI p) (nI (prt c p (k + 1))) (nI (k + 1))
        rw [f_X7_coughs_c85, if_pos (nI_lt hk (by omega)), jn_eq, jn_eq, if_pos (bit_y hp (by omega) cb), if_neg (show ¬ (1 : Int32) = 0 by decide), if_neg (show ¬ (1 : Int32) = 0 by decide), et, sb]
        unfold f_X7_coughs_c139
        rw [eq, sb, n_mul, e1, nI_1]
      · show isM (pthS S h p (k + 1)) q.1
        rw [e2]
        exact hq
    · obtain ⟨q, eq, hq⟩ := goesBy7 mo hI hok
      have e1 : prt c p k * (10 - c) = prt c p (k + 1) := by rw [prt_s, if_neg cb]
      have e2 : pthS S h p (k + 1) = passS (pthS S h p k) := by rw [pthS_s, if_neg cb]
      refine ⟨q, ?_, ?_⟩
      · show f_X7_coughs_c85 k71 (f + 1) a mo aside (nI h) (nI u) (nI n) (nI c) x5 (nI A) (nI B) (nI p) (nI (prt c p k)) (nI k) = f_X7_coughs_c85 k71 f q.1 q.2 aside (nI h) (nI u) (nI n) (nI c) x5 (nI A) (nI B) (nI p) (nI (prt c p (k + 1))) (nI (k + 1))
        rw [f_X7_coughs_c85, if_pos (nI_lt hk (by omega)), jn_eq, jn_eq, if_neg (bit_n hp (by omega) cb), if_pos (show (0 : Int32) = 0 from rfl), if_pos (show (0 : Int32) = 0 from rfl)]
        unfold f_X7_coughs_c139
        rw [eq, sb, w10 hc, n_mul, e1, nI_1]
      · show isM (pthS S h p (k + 1)) q.1
        rw [e2]
        exact hq
  · rintro f ⟨a, mo⟩ hI
    have hI : isM (pthS S h p n) a := hI
    have hok := ok_pth ho hh p n
    have hhk : h < sN (pthS S h p n) := by rw [pth_N]; exact hh
    have hU := (hok.2.1 h hhk).2.1
    obtain ⟨b, eb, hb⟩ := backs7 a aside
    refine ⟨b, mo, ?_, hb⟩
    show f_X7_coughs_c85 k71 (f + 1) a mo aside (nI h) (nI u) (nI n) (nI c) x5 (nI A) (nI B) (nI p) (nI (prt c p n)) (nI n) = _
    rw [f_X7_coughs_c85, if_neg (nI_nlt (Nat.le_refl _) (by omega)), used7 hI hok hhk, sb, jn_eq, if_n_lt (by omega) (by omega), eb, sb, n_add, nI_1]
    have e : nI A + (if sU (pthS S h p n) h < u then 0 else nI (prt c p n)) = nI (A + cgW S h u n c p) := by
      rw [← n_add]
      congr 1
      unfold cgW
      split <;> rfl
    rw [e]
theorem coughs_m (hM : isM S now) (ho : okS S) (mores aside : Nat → Int32) (has : ∀ j, j < 40 → aside j = now j) {h u n c w : Nat} (hh : h < sN S) (hu : u ≤ 99) (hn : n ≤ 6) (hc : c ≤ 10) (hw : w ≤ 1) : ∃ r, f_X7_coughs_c71 fu now mores aside (nI h) (nI u) (nI n) (nI c) (nI w) 0 0 0 = some r ∧ r.1 = cgA (sumN (cgW S h u n c) (2 ^ n)) (10 ^ n) (Nat.gcd (10 ^ n) (sumN (cgW S h u n c) (2 ^ n))) w ∧ ∀ j, j < 40 → r.2.1 j = aside j := by
  have h10 := p10 hn
  have h64 := p64 hn
  have hs : (1 : Int32) <<< (nI n &&& 31) = nI (2 ^ n) := shl7 ⟨n, by omega⟩
  have hle : sumN (cgW S h u n c) (2 ^ n) ≤ 10 ^ n := such_le hc hn
  have hall : sumN (fun p => prt c p n) (2 ^ n) = 10 ^ n := prt_sum ⟨c, by omega⟩ ⟨n, by omega⟩
  refine inv_all (fun f (a : (Nat → Int32) × (Nat → Int32)) k => f_X7_coughs_c71 f a.1 a.2 aside (nI h) (nI u) (nI n) (nI c) (nI w) (nI (sumN (cgW S h u n c) k)) (nI (sumN (fun p => prt c p n) k)) (nI k)) (fun k a => ∀ j, j < 40 → a.1 j = aside j) (2 ^ n) (fun o => ∃ r, o = some r ∧ r.1 = cgA (sumN (cgW S h u n c) (2 ^ n)) (10 ^ n) (Nat.gcd (10 ^ n) (sumN (cgW S h u n c) (2 ^ n))) w ∧ ∀ j, j < 40 → r.2.1 j = aside j) (by omega) (now, mores) (fun j hj => (has j hj).symm) ?_ ?_
  · rintro f k ⟨a, mo⟩ hk hI
    have hI : ∀ j, j < 40 → a j = aside j := hI
    have hMa : isM S a := M_now (T := S) hM (fun j hj => (hI j hj).trans (has j hj)) ho
    obtain ⟨b, mo', e1, e2⟩ := coughs85 hMa ho mo aside (A := sumN (cgW S h u n c) k) (B := sumN (fun p => prt c p n) k) hh hu hn hc (p := k) (by omega) (nI w) (f_X7_coughs_c71 f)
    refine ⟨(b, mo'), ?_, e2⟩
    show f_X7_coughs_c71 (f + 1) a mo aside (nI h) (nI u) (nI n) (nI c) (nI w) (nI (sumN (cgW S h u n c) k)) (nI (sumN (fun p => prt c p n) k)) (nI k) = _
    rw [f_X7_coughs_c71, hs, if_pos (nI_lt hk (by omega)), e1]
    rfl
  · rintro f ⟨a, mo⟩ hI
    have hI : ∀ j, j < 40 → a j = aside j := hI
    have hfu : fu = 100000 := rfl
    show ∃ r, f_X7_coughs_c71 (f + 1) a mo aside (nI h) (nI u) (nI n) (nI c) (nI w) (nI (sumN (cgW S h u n c) (2 ^ n))) (nI (sumN (fun p => prt c p n) (2 ^ n))) (nI (2 ^ n)) = some r ∧ _
    rw [f_X7_coughs_c71, hs, if_neg (nI_nlt (Nat.le_refl _) (by omega)), hall]
    have h20 : (2 : Nat) ^ 20 = 1048576 := rfl
    obtain ⟨g', eg⟩ := cd7 a mo aside (nI w) (nI (sumN (cgW S h u n c) (2 ^ n))) (nI (10 ^ n)) 20 (sumN (cgW S h u n c) (2 ^ n)) (10 ^ n) fu (by omega) (by decide) (by omega) (by omega)
    rw [eg, Nat.gcd_comm (sumN (cgW S h u n c) (2 ^ n)) (10 ^ n)]
    have hg : 0 < Nat.gcd (10 ^ n) (sumN (cgW S h u n c) (2 ^ n)) := Nat.gcd_pos_of_pos_left _ (Nat.pow_pos (by decide))
    have hgle : Nat.gcd (10 ^ n) (sumN (cgW S h u n c) (2 ^ n)) ≤ 10 ^ n := Nat.gcd_le_left _ (Nat.pow_pos (by decide))
    generalize Nat.gcd (10 ^ n) (sumN (cgW S h u n c) (2 ^ n)) = g at hg hgle
    rw [f_X7_coughs_c194, if_pos (show nI 0 = 0 from rfl), if_neg (n_0 hg (by omega)), if_neg (n_0 hg (by omega)), pk_div (by omega) hg (by omega), pk_div (by omega) hg (by omega)]
    have hw2 : w = 0 ∨ w = 1 := by omega
    rcases hw2 with rfl | rfl
    · exact ⟨_, rfl, rfl, hI⟩
    · exact ⟨_, rfl, rfl, hI⟩
theorem st_coughs (hC : RC kind used bay likes who lamp due count day dues draw mu mb md mz mr next known now undone undos) (mores aside : Nat → Int32) (F : F12) (x u n c w : Int32) : ∃ rx rm, f_X6_coughs kind used bay likes who lamp due count day dues draw F.1 F.2.1 F.2.2.1 F.2.2.2.1 F.2.2.2.2.1 F.2.2.2.2.2.1 F.2.2.2.2.2.2.1 F.2.2.2.2.2.2.2.1 F.2.2.2.2.2.2.2.2.1 F.2.2.2.2.2.2.2.2.2.1 F.2.2.2.2.2.2.2.2.2.2.1 F.2.2.2.2.2.2.2.2.2.2.2 x u n c w = some rx ∧ f_X7_coughs now mores aside x u n c w = some rm ∧ rx.1 = rm.1 ∧ RC kind used bay likes who lamp due count day dues draw mu mb md mz mr next known rm.2.1 undone undos := by
  obtain ⟨S, hs, ho, hh, hX, hM, hp, hq⟩ := id hC
  have hn := ho.1
  unfold f_X6_coughs f_X7_coughs
  rw [has3 hX ho, sb, isHolder7 hM ho, sb]
  by_cases c0 : 0 ≤ x.toInt ∧ x.toInt < sN S
  · rw [if_neg (tf_y c0), if_neg (tf_y c0), wi99, sb, in99, sb]
    by_cases c1 : 0 ≤ u.toInt ∧ u.toInt ≤ 99
    · rw [if_neg (tf_y c1), if_neg (tf_y c1), wi6, sb, in6, sb]
      by_cases c2 : 0 ≤ n.toInt ∧ n.toInt ≤ 6
      · rw [if_neg (tf_y c2), if_neg (tf_y c2), wi10, sb, in10, sb]
        by_cases c3 : 0 ≤ c.toInt ∧ c.toInt ≤ 10
        · rw [if_neg (tf_y c3), if_neg (tf_y c3), wi1, sb, in1, sb]
          by_cases c4 : 0 ≤ w.toInt ∧ w.toInt ≤ 1
          · rw [if_neg (tf_y c4), if_neg (tf_y c4)]
            obtain ⟨h, hlt, rfl⟩ := hold_x hn c0
            obtain ⟨u, hu, rfl⟩ := l_of (m := 99) (x := u) (by omega) (by omega)
            obtain ⟨m, hm, rfl⟩ := l_of (m := 6) (x := n) (by omega) (by omega)
            obtain ⟨c, hc, rfl⟩ := l_of (m := 10) (x := c) (by omega) (by omega)
            obtain ⟨w, hw, rfl⟩ := l_of (m := 1) (x := w) (by omega) (by omega)
            obtain ⟨as, ea, ha⟩ := asides7 now aside
            rw [ea, sb, coughs60 F hm]
            obtain ⟨rx, e1, e2⟩ := coughs_x hX ho hlt hu hm hc hw F
            obtain ⟨rm, e3, e4, e5⟩ := coughs_m hM ho mores as ha hlt hu hm hc hw
            exact ⟨rx, rm, e1, e3, e2.trans e4.symm, RC_now hC (fun j hj => (e5 j hj).trans (ha j hj))⟩
          · rw [if_pos (tf_x c4), if_pos (tf_x c4)]
            exact ⟨_, _, rfl, rfl, rfl, hC⟩
        · rw [if_pos (tf_x c3), if_pos (tf_x c3)]
          exact ⟨_, _, rfl, rfl, rfl, hC⟩
      · rw [if_pos (tf_x c2), if_pos (tf_x c2)]
        exact ⟨_, _, rfl, rfl, rfl, hC⟩
    · rw [if_pos (tf_x c1), if_pos (tf_x c1)]
      exact ⟨_, _, rfl, rfl, rfl, hC⟩
  · rw [if_pos (tf_x c0), if_pos (tf_x c0)]
    exact ⟨_, _, rfl, rfl, rfl, hC⟩
end CG
theorem S_coughs : St_coughs Rel := by
  intro t_now_kind t_now_used t_now_bay t_now_likes t_now_who t_now_lamp t_now_due t_now_gain t_now_count t_now_day t_now_dues t_now_draw t_past_marks_used t_past_marks_bay t_past_marks_day t_past_marks_dues t_past_marks_draw t_past_next t_past_known t_foreseen_kind t_foreseen_used t_foreseen_bay t_foreseen_likes t_foreseen_who t_foreseen_lamp t_foreseen_due t_foreseen_gain t_foreseen_count t_foreseen_day t_foreseen_dues t_foreseen_draw t_imageOfNow_kind t_imageOfNow_used t_imageOfNow_bay t_imageOfNow_likes t_imageOfNow_who t_imageOfNow_lamp t_imageOfNow_due t_imageOfNow_gain t_imageOfNow_count t_imageOfNow_day t_imageOfNow_dues t_imageOfNow_draw t_imageOfPast_marks_used t_imageOfPast_marks_bay t_imageOfPast_marks_day t_imageOfPast_marks_dues t_imageOfPast_marks_draw t_imageOfPast_next t_imageOfPast_known t_hasImage t_deal_bay t_deal_best t_deal_worth t_deal_free t_deal_count t_tape_letters t_tape_length t_tape_place t_sheets_items t_sheets_lane t_sheets_size u_now u_mores u_tape u_typed u_place u_isFault u_readLamps u_read u_undone u_undos u_aside u_bays u_bests u_kept u_keptUndos u_isKept u_lanes u_sizes u_items u_moved y0 y1 y2 y3 y4 hR
  obtain ⟨hC, hI, hT, hS⟩ := hR
  obtain ⟨rx, rm, e1, e2, e3, e4⟩ := st_coughs hC u_mores u_aside (t_foreseen_kind, t_foreseen_used, t_foreseen_bay, t_foreseen_likes, t_foreseen_who, t_foreseen_lamp, t_foreseen_due, t_foreseen_gain, t_foreseen_count, t_foreseen_day, t_foreseen_dues, t_foreseen_draw) y0 y1 y2 y3 y4
  exact ⟨rx, rm, e1, e2, e3, e4, hI, hT, hS⟩
