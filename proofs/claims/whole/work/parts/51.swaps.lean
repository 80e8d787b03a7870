/-! MATHEMATICS 22: swaps -/
def wsw (S : Sc) (i j : Nat) : Bool := decide (dist (sB S j) (sL S i) < farS S i) && decide (dist (sB S i) (sL S j) < farS S j)
theorem dist_lt {x y m : Nat} (hx : x < m) (hy : y < m) : dist x y < m := by
  unfold dist
  split <;> omega
theorem apart7d {x y : Nat} (hx : x < 2 ^ 30) (hy : y < 2 ^ 30) : f_X7_apart (nI x) (nI y) = some (nI (dist x y)) := apart7 hx hy
/-- how many pairs -/
def cin (P : Nat → Bool) : Nat → Nat → Nat
  | 0, _ => 0
  | d + 1, j => c2 (P j) + cin P d (j + 1)
theorem cin_s (P : Nat → Bool) (d j : Nat) : cin P (d + 1) j = c2 (P j) + cin P d (j + 1) := rfl
def cout (P : Nat → Nat → Bool) (n : Nat) : Nat → Nat → Nat
  | 0, _ => 0
  | m + 1, i => cin (P i) (n - 1 - i) (i + 1) + cout P n m (i + 1)
theorem cout_s (P : Nat → Nat → Bool) (n m i : Nat) : cout P n (m + 1) i = cin (P i) (n - 1 - i) (i + 1) + cout P n m (i + 1) := rfl
theorem cnt_in {β : Type} (L : Nat → Nat → Nat → Option β) (P : Nat → Bool) (n : Nat) (K : Nat → Option β) (step : ∀ f x j, j < n → L (f + 1) x j = L f (x + c2 (P j)) (j + 1)) (stop : ∀ f x, L (f + 1) x n = K x) : ∀ d j f x, j + d = n → d < f → L f x j = K (x + cin P d j) := by
  intro d
  induction d with
  | zero =>
    intro j f x hj hf
    obtain ⟨f, rfl⟩ : ∃ g, f = g + 1 := ⟨f - 1, by omega⟩
    have : j = n := by omega
    subst this
    exact stop f x
  | succ d ih =>
    intro j f x hj hf
    obtain ⟨f, rfl⟩ : ∃ g, f = g + 1 := ⟨f - 1, by omega⟩
    rw [step f x j (by omega), ih (j + 1) f _ (by omega) (by omega), cin_s, Nat.add_assoc]
theorem cnt_out {β : Type} (L : Nat → Nat → Nat → Option β) (P : Nat → Nat → Bool) (n : Nat) (K : Nat → Option β) (step : ∀ f x i, i < n → L (f + 1) x i = L f (x + cin (P i) (n - 1 - i) (i + 1)) (i + 1)) (stop : ∀ f x, L (f + 1) x n = K x) : ∀ m i f x, i + m = n → m < f → L f x i = K (x + cout P n m i) := by
  intro m
  induction m with
  | zero =>
    intro i f x hi hf
    obtain ⟨f, rfl⟩ : ∃ g, f = g + 1 := ⟨f - 1, by omega⟩
    have : i = n := by omega
    subst this
    exact stop f x
  | succ m ih =>
    intro i f x hi hf
    obtain ⟨f, rfl⟩ : ∃ g, f = g + 1 := ⟨f - 1, by omega⟩
    rw [step f x i (by omega), ih (i + 1) f _ (by omega) (by omega), cout_s, Nat.add_assoc]
theorem sub1 (k : Nat) : nI (k + 1) - 1 = nI k := pk_sub (a := k + 1) (b := 1) (by omega)
theorem sub1' (n : Nat) : nI n - 1 = nI n + (-1) := by
  cases n with
  | zero => rfl
  | succ n => rw [sub1, pk_m1]
theorem ten_q {a b : Nat} (ha : a < 6) (hb : b < 6) : nI (10 * a + b) / 10 = nI a ∧ nI (10 * a + b) - nI (10 * a + b) / 10 * 10 = nI b := by
  have h1 : nI (10 * a + b) / nI 10 = nI ((10 * a + b) / 10) := pk_div (by omega) (by decide) (by decide)
  have h2 : nI (10 * a + b) - nI (10 * a + b) / nI 10 * nI 10 = nI ((10 * a + b) % 10) := pk_rem (by omega) (by decide) (by decide)
  refine ⟨h1.trans ?_, h2.trans ?_⟩
  · rw [show (10 * a + b) / 10 = a by omega]
  · rw [show (10 * a + b) % 10 = b by omega]
theorem sum_le {f g : Nat → Nat} : ∀ {n : Nat}, (∀ k, k < n → f k ≤ g k) → sumN f n ≤ sumN g n := by
  intro n
  induction n with
  | zero => intro _; exact Nat.le_refl _
  | succ n ih =>
    intro h
    rw [sumN_s, sumN_s]
    have := ih (fun k hk => h k (by omega))
    have := h n (by omega)
    omega
theorem sum_1 {f g : Nat → Nat} {i : Nat} : ∀ {n : Nat}, (∀ k, k < n → f k ≤ g k) → i < n → f i < g i → sumN f n + 1 ≤ sumN g n := by
  intro n
  induction n with
  | zero => intro _ h; omega
  | succ n ih =>
    intro h hi hl
    rw [sumN_s, sumN_s]
    have h1 := h n (by omega)
    by_cases e : i = n
    · subst e
      have := sum_le (f := f) (g := g) (n := i) (fun k hk => h k (by omega))
      omega
    · have := ih (fun k hk => h k (by omega)) (by omega) hl
      omega
theorem sum_2 {f g : Nat → Nat} {i j : Nat} (hij : i < j) : ∀ {n : Nat}, (∀ k, k < n → f k ≤ g k) → j < n → f i < g i → f j < g j → sumN f n + 2 ≤ sumN g n := by
  intro n
  induction n with
  | zero => intro _ h; omega
  | succ n ih =>
    intro h hi hl hl2
    rw [sumN_s, sumN_s]
    have h1 := h n (by omega)
    by_cases e : j = n
    · subst e
      have := sum_1 (f := f) (g := g) (n := j) (fun k hk => h k (by omega)) hij hl
      omega
    · have := ih (fun k hk => h k (by omega)) (by omega) hl hl2
      omega
theorem sum_0 {f : Nat → Nat} {i : Nat} : ∀ {n : Nat}, sumN f n = 0 → i < n → f i = 0 := by
  intro n
  induction n with
  | zero => intro _ h; omega
  | succ n ih =>
    intro h hi
    rw [sumN_s] at h
    by_cases e : i = n
    · subst e; omega
    · exact ih (by omega) (by omega)
theorem sum_b {f : Nat → Nat} {m : Nat} : ∀ {n : Nat}, (∀ k, k < n → f k ≤ m) → sumN f n ≤ m * n := by
  intro n
  induction n with
  | zero => intro _; exact Nat.zero_le _
  | succ n ih =>
    intro h
    rw [sumN_s, Nat.mul_succ]
    have := ih (fun k hk => h k (by omega))
    have := h n (by omega)
    omega
def fsw (S : Sc) : Option Nat := pr (wsw S) (sN S) (sN S) 0
/-- how many swaps, the first each time -/
def calm : Nat → Sc → Nat
  | 0, _ => 0
  | d + 1, S => match fsw S with
    | none => 0
    | some c => 1 + calm d (swS S (c / 10) (c % 10))
theorem calm_n {d : Nat} {S : Sc} (h : fsw S = none) : calm (d + 1) S = 0 := by
  unfold calm
  rw [h]
theorem calm_c {d : Nat} {S : Sc} {a b : Nat} (h : fsw S = some (10 * a + b)) (hb : b < 6) : calm (d + 1) S = 1 + calm d (swS S a b) := by
  have e1 : (10 * a + b) / 10 = a := by omega
  have e2 : (10 * a + b) % 10 = b := by omega
  rw [calm, h]
  show 1 + calm d (swS S ((10 * a + b) / 10) ((10 * a + b) % 10)) = _
  rw [e1, e2]
theorem sw_far {S : Sc} (ho : okS S) {i j : Nat} (hij : i < j) (hj : j < sN S) (h : wsw S i j = true) : sumN (farS (swS S i j)) (sN S) + 2 ≤ sumN (farS S) (sN S) := by
  unfold wsw at h
  rw [Bool.and_eq_true, decide_eq_true_eq, decide_eq_true_eq] at h
  have ei : farS (swS S i j) i = dist (sB S j) (sL S i) := by
    show dist (swB (sB S) i j i) (sL S i) = _
    unfold swB
    rw [if_pos rfl]
  have ej : farS (swS S i j) j = dist (sB S i) (sL S j) := by
    show dist (swB (sB S) i j j) (sL S j) = _
    unfold swB
    rw [if_neg (by omega), if_pos rfl]
  have ek : ∀ k, k ≠ i → k ≠ j → farS (swS S i j) k = farS S k := by
    intro k h1 h2
    show dist (swB (sB S) i j k) (sL S k) = dist (sB S k) (sL S k)
    unfold swB
    rw [if_neg h1, if_neg h2]
  refine sum_2 hij (fun k hk => ?_) hj (by omega) (by omega)
  by_cases e1 : k = i
  · subst e1; omega
  · by_cases e2 : k = j
    · subst e2; omega
    · rw [ek k e1 e2]; exact Nat.le_refl _
section SW
variable {kind used bay likes who lamp due : Nat → Int32} {count day dues draw : Int32} {fkind fused fbay flikes fwho flamp fdue fgain : Nat → Int32} {fcount fday fdues fdraw : Int32} {mu mb : Nat → Nat → Int32} {md mz mr : Nat → Int32} {next known : Int32} {now undone : Nat → Int32} {undos : Int32} {S : Sc}
theorem swap3 (hX : isX S kind used bay likes who lamp due count day dues draw) (ho : okS S) {i j : Nat} (hi : i < sN S) (hj : j < sN S) : f_X3_wouldSwap bay likes (nI i) (nI j) = some (tf (wsw S i j)) := by
  have hn := ho.1
  obtain ⟨hK, hU, hB, hL⟩ := ho.2.1 i hi
  obtain ⟨hKj, hUj, hBj, hLj⟩ := ho.2.1 j hj
  have d1 : dist (sB S j) (sL S i) < 2 ^ 31 := Nat.lt_trans (dist_lt hBj hL) (by decide)
  have d2 : dist (sB S i) (sL S i) < 2 ^ 31 := Nat.lt_trans (dist_lt hB hL) (by decide)
  have d3 : dist (sB S i) (sL S j) < 2 ^ 31 := Nat.lt_trans (dist_lt hB hLj) (by decide)
  have d4 : dist (sB S j) (sL S j) < 2 ^ 31 := Nat.lt_trans (dist_lt hBj hLj) (by decide)
  unfold f_X3_wouldSwap wsw farS
  simp only [jn_eq]
  rw [if_pos (inb_nI (show j < 6 by omega) (by decide)), nI_cl (show j < 2 ^ 31 by omega), (hX.2.2.2.2.1 j hj).2.2.1, farFrom3 hX ho hi (b := sB S j) (by omega), sb, if_pos (inb_nI (show i < 6 by omega) (by decide)), nI_cl (show i < 2 ^ 31 by omega), (hX.2.2.2.2.1 i hi).2.2.1, farFrom3 hX ho hi (b := sB S i) (by omega), sb, if_n_lt d1 d2]
  by_cases c1 : dist (sB S j) (sL S i) < dist (sB S i) (sL S i)
  · rw [if_pos c1, decide_eq_true c1, farFrom3 hX ho hj (b := sB S i) (by omega), sb, farFrom3 hX ho hj (b := sB S j) (by omega), sb, if_n_lt d3 d4]
    by_cases c2 : dist (sB S i) (sL S j) < dist (sB S j) (sL S j)
    · rw [if_pos c2, decide_eq_true c2]
      rfl
    · rw [if_neg c2, decide_eq_false c2]
      rfl
  · rw [if_neg c1, decide_eq_false c1]
    rfl
theorem swap7 (hM : isM S now) (ho : okS S) {i j : Nat} (hi : i < sN S) (hj : j < sN S) : f_X7_wouldSwap now (nI i) (nI j) = some (tf (wsw S i j)) := by
  have hn := ho.1
  obtain ⟨hK, hU, hB, hL⟩ := ho.2.1 i hi
  obtain ⟨hKj, hUj, hBj, hLj⟩ := ho.2.1 j hj
  have d1 : dist (sB S j) (sL S i) < 2 ^ 31 := Nat.lt_trans (dist_lt hBj hL) (by decide)
  have d2 : farS S i < 2 ^ 31 := Nat.lt_trans (dist_lt hB hL) (by decide)
  have d3 : dist (sB S i) (sL S j) < 2 ^ 31 := Nat.lt_trans (dist_lt hB hLj) (by decide)
  have d4 : farS S j < 2 ^ 31 := Nat.lt_trans (dist_lt hBj hLj) (by decide)
  unfold f_X7_wouldSwap wsw
  rw [bay7 hM ho hj, sb, likes7 hM ho hi, sb, apart7d (by omega) (by omega), sb, far7 hM ho hi, sb, if_n_lt d1 d2]
  by_cases c1 : dist (sB S j) (sL S i) < farS S i
  · rw [if_pos c1, decide_eq_true c1, bay7 hM ho hi, sb, likes7 hM ho hj, sb, apart7d (by omega) (by omega), sb, far7 hM ho hj, sb, if_n_lt d3 d4]
    by_cases c2 : dist (sB S i) (sL S j) < farS S j
    · rw [if_pos c2, decide_eq_true c2]
      rfl
    · rw [if_neg c2, decide_eq_false c2]
      rfl
  · rw [if_neg c1, decide_eq_false c1]
    rfl
theorem fsw3 (hX : isX S kind used bay likes who lamp due count day dues draw) (ho : okS S) : f_X3_firstSwap bay likes count = some (wI (fsw S) (-4)) := by
  have hn := ho.1
  have hfu : fu = 100000 := rfl
  have x0 := hX.1
  subst x0
  unfold f_X3_firstSwap fsw
  refine fwd_out (fun f i => f_X3_firstSwap_c2 f bay likes (nI (sN S)) (nI i)) (wsw S) (sN S) ?_ ?_ (sN S) 0 fu (by omega) (by omega)
  · intro f i hi
    show f_X3_firstSwap_c2 (f + 1) bay likes (nI (sN S)) (nI i) = _
    rw [f_X3_firstSwap_c2, if_pos (nI_lt hi (by omega)), nI_1]
    have key := fwd_in (fun g j => f_X3_firstSwap_c14 (f_X3_firstSwap_c2 f) g bay likes (nI (sN S)) (nI i) (nI j)) (wsw S i) (sN S) (fun j => some (nI (10 * i + j))) (f_X3_firstSwap_c2 f bay likes (nI (sN S)) (nI (i + 1))) ?_ ?_ (sN S - 1 - i) (i + 1) fu (by omega) (by omega)
    · exact key
    · intro g j hj
      show f_X3_firstSwap_c14 (f_X3_firstSwap_c2 f) (g + 1) bay likes (nI (sN S)) (nI i) (nI j) = if wsw S i j = true then some (nI (10 * i + j)) else f_X3_firstSwap_c14 (f_X3_firstSwap_c2 f) g bay likes (nI (sN S)) (nI i) (nI (j + 1))
      rw [f_X3_firstSwap_c14, if_pos (nI_lt hj (by omega)), swap3 hX ho hi hj, sb, ten, nI_1]
      cases wsw S i j <;> rfl
    · intro g
      show f_X3_firstSwap_c14 (f_X3_firstSwap_c2 f) (g + 1) bay likes (nI (sN S)) (nI i) (nI (sN S)) = f_X3_firstSwap_c2 f bay likes (nI (sN S)) (nI (i + 1))
      rw [f_X3_firstSwap_c14, if_neg (nI_nlt (Nat.le_refl _) (by omega)), nI_1]
  · intro f
    show f_X3_firstSwap_c2 (f + 1) bay likes (nI (sN S)) (nI (sN S)) = _
    rw [f_X3_firstSwap_c2, if_neg (nI_nlt (Nat.le_refl _) (by omega))]
theorem fsw7 (hM : isM S now) (ho : okS S) : f_X7_firstSwap now = some (wI (fsw S) (-4)) := by
  have hn := ho.1
  have hfu : fu = 100000 := rfl
  have inner : ∀ k12 (i : Nat) (old : Int32), i < sN S → f_X7_firstSwap_c25 k12 fu now old (nI i) (nI (sN S) - 1) = k12 now (bV (wsw S i) i (sN S - 1 - i) (i + 1) old) (nI i + (-1)) := by
    intro k12 i old hi
    have key := back_in (fun f x j => f_X7_firstSwap_c25 k12 f now x (nI i) (nI j)) (wsw S i) i (sN S) (fun x => k12 now x (nI i + (-1))) old ?_ ?_ (sN S - 1 - i) fu (by omega) (by omega)
    · rw [show sN S - 1 - i - (sN S - 1 - i) = 0 by omega, bV_top] at key
      have e : nI (sN S) - 1 = nI (i + (sN S - 1 - i)) := by
        rw [show i + (sN S - 1 - i) = sN S - 1 by omega]
        exact pk_sub (a := sN S) (b := 1) (by omega)
      rw [e]
      exact key
    · intro f x j h1 h2
      show f_X7_firstSwap_c25 k12 (f + 1) now x (nI i) (nI (j + 1)) = f_X7_firstSwap_c25 k12 f now (if wsw S i (j + 1) = true then nI (10 * i + (j + 1)) else x) (nI i) (nI j)
      rw [f_X7_firstSwap_c25, if_pos (nI_lt h1 (by omega)), swap7 hM ho hi h2, sb, jn_eq, ten, pk_m1]
      cases wsw S i (j + 1) <;> rfl
    · intro f x
      show f_X7_firstSwap_c25 k12 (f + 1) now x (nI i) (nI i) = _
      rw [f_X7_firstSwap_c25, if_neg (nI_nlt (Nat.le_refl _) (by omega))]
  have outer := back_out (fun f x i => f_X7_firstSwap_c12 f now x (nI i + (-1))) (wsw S) (sN S) ?_ ?_ (sN S) fu (by omega) (by omega)
  · unfold f_X7_firstSwap
    rw [jn_eq, hM.1]
    rw [Nat.sub_self] at outer
    rw [sub1']
    exact outer
  · intro f x i hi
    show f_X7_firstSwap_c12 (f + 1) now x (nI (i + 1) + (-1)) = f_X7_firstSwap_c12 f now (bV (wsw S i) i (sN S - 1 - i) (i + 1) x) (nI i + (-1))
    rw [pk_m1, f_X7_firstSwap_c12, if_neg (nI_pos (by omega)), jn_eq, hM.1, inner _ i x hi]
  · intro f x
    rfl
theorem cnt3 (hX : isX S kind used bay likes who lamp due count day dues draw) (ho : okS S) : f_X3_countSwaps bay likes count = some (nI (cout (wsw S) (sN S) (sN S) 0)) := by
  have hn := ho.1
  have hfu : fu = 100000 := rfl
  have x0 := hX.1
  subst x0
  have outer := cnt_out (fun f x i => f_X3_countSwaps_c4 f bay likes (nI (sN S)) (nI x) (nI i)) (wsw S) (sN S) (fun x => some (nI x)) ?_ ?_ (sN S) 0 fu 0 (by omega) (by omega)
  · rw [Nat.zero_add] at outer
    exact outer
  · intro f x i hi
    show f_X3_countSwaps_c4 (f + 1) bay likes (nI (sN S)) (nI x) (nI i) = f_X3_countSwaps_c4 f bay likes (nI (sN S)) (nI (x + cin (wsw S i) (sN S - 1 - i) (i + 1))) (nI (i + 1))
    rw [f_X3_countSwaps_c4, if_pos (nI_lt hi (by omega)), nI_1]
    refine cnt_in (fun g y j => f_X3_countSwaps_c16 (f_X3_countSwaps_c4 f) g bay likes (nI (sN S)) (nI y) (nI i) (nI j)) (wsw S i) (sN S) (fun y => f_X3_countSwaps_c4 f bay likes (nI (sN S)) (nI y) (nI (i + 1))) ?_ ?_ (sN S - 1 - i) (i + 1) fu x (by omega) (by omega)
    · intro g y j hj
      show f_X3_countSwaps_c16 (f_X3_countSwaps_c4 f) (g + 1) bay likes (nI (sN S)) (nI y) (nI i) (nI j) = f_X3_countSwaps_c16 (f_X3_countSwaps_c4 f) g bay likes (nI (sN S)) (nI (y + c2 (wsw S i j))) (nI i) (nI (j + 1))
      rw [f_X3_countSwaps_c16, if_pos (nI_lt hj (by omega)), swap3 hX ho hi hj, sb]
      unfold f_X3_countSwaps_c36
      rw [nI_1, nI_1]
      cases wsw S i j <;> rfl
    · intro g y
      show f_X3_countSwaps_c16 (f_X3_countSwaps_c4 f) (g + 1) bay likes (nI (sN S)) (nI y) (nI i) (nI (sN S)) = _
      rw [f_X3_countSwaps_c16, if_neg (nI_nlt (Nat.le_refl _) (by omega)), nI_1]
  · intro f x
    show f_X3_countSwaps_c4 (f + 1) bay likes (nI (sN S)) (nI x) (nI (sN S)) = _
    rw [f_X3_countSwaps_c4, if_neg (nI_nlt (Nat.le_refl _) (by omega))]
theorem cnt7 (hM : isM S now) (ho : okS S) : f_X7_swapsNow now = some (nI (cout (wsw S) (sN S) (sN S) 0)) := by
  have hn := ho.1
  have hfu : fu = 100000 := rfl
  have outer := cnt_out (fun f x i => f_X7_swapsNow_c4 f now (nI x) (nI i)) (wsw S) (sN S) (fun x => some (nI x)) ?_ ?_ (sN S) 0 fu 0 (by omega) (by omega)
  · rw [Nat.zero_add] at outer
    exact outer
  · intro f x i hi
    show f_X7_swapsNow_c4 (f + 1) now (nI x) (nI i) = f_X7_swapsNow_c4 f now (nI (x + cin (wsw S i) (sN S - 1 - i) (i + 1))) (nI (i + 1))
    rw [f_X7_swapsNow_c4, jn_eq, hM.1, if_pos (nI_lt hi (by omega)), nI_1]
    refine cnt_in (fun g y j => f_X7_swapsNow_c18 (f_X7_swapsNow_c4 f) g now (nI y) (nI i) (nI j)) (wsw S i) (sN S) (fun y => f_X7_swapsNow_c4 f now (nI y) (nI (i + 1))) ?_ ?_ (sN S - 1 - i) (i + 1) fu x (by omega) (by omega)
    · intro g y j hj
      show f_X7_swapsNow_c18 (f_X7_swapsNow_c4 f) (g + 1) now (nI y) (nI i) (nI j) = f_X7_swapsNow_c18 (f_X7_swapsNow_c4 f) g now (nI (y + c2 (wsw S i j))) (nI i) (nI (j + 1))
      rw [f_X7_swapsNow_c18, jn_eq, hM.1, if_pos (nI_lt hj (by omega)), swap7 hM ho hi hj, sb, jn_eq, nI_1]
      cases wsw S i j
      · show f_X7_swapsNow_c18 (f_X7_swapsNow_c4 f) g now (nI y + nI 0) (nI i) (nI (j + 1)) = _
        rw [n_add]
        rfl
      · show f_X7_swapsNow_c18 (f_X7_swapsNow_c4 f) g now (nI y + nI 1) (nI i) (nI (j + 1)) = _
        rw [n_add]
        rfl
    · intro g y
      show f_X7_swapsNow_c18 (f_X7_swapsNow_c4 f) (g + 1) now (nI y) (nI i) (nI (sN S)) = _
      rw [f_X7_swapsNow_c18, jn_eq, hM.1, if_neg (nI_nlt (Nat.le_refl _) (by omega)), nI_1]
  · intro f x
    show f_X7_swapsNow_c4 (f + 1) now (nI x) (nI (sN S)) = _
    rw [f_X7_swapsNow_c4, jn_eq, hM.1, if_neg (nI_nlt (Nat.le_refl _) (by omega))]
theorem fsw_some (ho : okS S) {c : Nat} (e : fsw S = some c) : ∃ a b, a < b ∧ b < sN S ∧ c = 10 * a + b ∧ wsw S a b = true := by
  obtain ⟨a, b, h1, h2, h3, h4, h5, h6⟩ := pr_some e
  exact ⟨a, b, h3, h4, h5, h6⟩
theorem fsw_4 (ho : okS S) : (wI (fsw S) (-4) = (-4)) ↔ fsw S = none := wI_4 (pr_lt ho.1 ho.1)
theorem calm_x : ∀ d k f {S : Sc} {fbay fwho : Nat → Int32}, isX S fkind fused fbay flikes fwho flamp fdue fcount fday fdues fdraw → okS S → k + d = 15 → d < f → ∃ r, f_X6_swapsTillCalm_c13 f kind used bay likes who lamp due count day dues draw fkind fused fbay flikes fwho flamp fdue fcount fday fdues fdraw (nI k) = some r ∧ r.1 = nI (k + calm d S) := by
  intro d
  induction d with
  | zero =>
    intro k f S fbay fwho hX ho hk hf
    obtain ⟨f, rfl⟩ : ∃ g, f = g + 1 := ⟨f - 1, by omega⟩
    have : k = 15 := by omega
    subst this
    exact ⟨_, rfl, rfl⟩
  | succ d ih =>
    intro k f S fbay fwho hX ho hk hf
    obtain ⟨f, rfl⟩ : ∃ g, f = g + 1 := ⟨f - 1, by omega⟩
    have hn := ho.1
    rw [f_X6_swapsTillCalm_c13, if_pos (show nI k < (15 : Int32) from nI_lt (b := 15) (by omega) (by decide)), fsw3 hX ho, sb]
    cases e : fsw S with
    | none =>
      refine ⟨_, if_pos rfl, ?_⟩
      rw [calm_n e]
      rfl
    | some c =>
      obtain ⟨a, b, h1, h2, h3, h4⟩ := fsw_some ho e
      have hne : ¬ wI (some c) (-4) = (-4) := by rw [← e, fsw_4 ho, e]; exact fun q => by cases q
      rw [if_neg hne]
      show ∃ r, (f_X3_swapBays fbay fwho (nI c / 10) (nI c - nI c / 10 * 10)).bind _ = some r ∧ _
      obtain ⟨q1, q2⟩ := ten_q (a := a) (b := b) (by omega) (by omega)
      obtain ⟨s, es, hs⟩ := swapBays3 hX ho (g := a) (h := b) (by omega) h2 (by omega)
      rw [h3, q2, q1, es, sb, nI_1]
      obtain ⟨r, er, hr⟩ := ih (k + 1) f hs (ok_sw ho (by omega) h2 (by omega)) (by omega) (by omega)
      refine ⟨r, er, ?_⟩
      rw [hr, calm_c (h3 ▸ e) (by omega)]
      congr 1
      omega
theorem calm_m (aside : Nat → Int32) : ∀ d k f {S : Sc} {now : Nat → Int32}, isM S now → okS S → sumN (farS S) (sN S) ≤ 2 * d → d < f → ∃ r, f_X7_swaps_c46 f now aside (nI k) (wI (fsw S) (-4)) = some r ∧ r.1 = nI (k + calm d S) ∧ ∀ j, j < 40 → r.2.1 j = aside j := by
  intro d
  induction d with
  | zero =>
    intro k f S now hM ho hs hf
    obtain ⟨f, rfl⟩ : ∃ g, f = g + 1 := ⟨f - 1, by omega⟩
    have e : fsw S = none := by
      cases e : fsw S with
      | none => rfl
      | some c =>
        obtain ⟨a, b, h1, h2, h3, h4⟩ := fsw_some ho e
        have := sw_far ho h1 h2 h4
        omega
    obtain ⟨b, eb, hb⟩ := backs7 now aside
    refine ⟨(nI k, b, aside), ?_, rfl, hb⟩
    rw [e, f_X7_swaps_c46, if_pos (show wI none (-4) = (-4) from rfl), eb, sb]
  | succ d ih =>
    intro k f S now hM ho hs hf
    obtain ⟨f, rfl⟩ : ∃ g, f = g + 1 := ⟨f - 1, by omega⟩
    have hn := ho.1
    cases e : fsw S with
    | none =>
      obtain ⟨b, eb, hb⟩ := backs7 now aside
      refine ⟨(nI k, b, aside), ?_, ?_, hb⟩
      · rw [f_X7_swaps_c46, if_pos (show wI none (-4) = (-4) from rfl), eb, sb]
      · rw [calm_n e]
        rfl
    | some c =>
      obtain ⟨a, b, h1, h2, h3, h4⟩ := fsw_some ho e
      have hne : ¬ wI (some c) (-4) = (-4) := by rw [← e, fsw_4 ho, e]; exact fun q => by cases q
      obtain ⟨q1, q2⟩ := ten_q (a := a) (b := b) (by omega) (by omega)
      obtain ⟨s, es, hs'⟩ := exch7 hM ho (g := a) (h := b) (by omega) h2 (by omega)
      have hok := ok_sw ho (g := a) (h := b) (by omega) h2 (by omega)
      have hfar := sw_far ho h1 h2 h4
      obtain ⟨r, er, hr, hr2⟩ := ih (k + 1) f hs' hok (show sumN (farS (swS S a b)) (sN S) ≤ 2 * d by omega) (by omega)
      refine ⟨r, ?_, ?_, hr2⟩
      · rw [f_X7_swaps_c46, if_neg hne]
        show (f_X7_exchanges now (nI c / 10) (nI c - nI c / 10 * 10)).bind _ = some r
        rw [h3, q2, q1, es, sb, fsw7 hs' hok, sb, nI_1]
        exact er
      · rw [hr, calm_c (h3 ▸ e) (by omega)]
        congr 1
        omega
theorem st_swaps (hC : RC kind used bay likes who lamp due count day dues draw mu mb md mz mr next known now undone undos) (aside : Nat → Int32) (fkind fused fbay flikes fwho flamp fdue : Nat → Int32) (fcount fday fdues fdraw : Int32) (x : Int32) : ∃ rx rm, f_X6_swaps kind used bay likes who lamp due count day dues draw fkind fused fbay flikes fwho flamp fdue fcount fday fdues fdraw x = some rx ∧ f_X7_swaps now aside x = some rm ∧ rx.1 = rm.1 ∧ RC kind used bay likes who lamp due count day dues draw mu mb md mz mr next known rm.2.1 undone undos := by
  obtain ⟨S, hs, ho, hh, hX, hM, hp, hq⟩ := id hC
  have hn := ho.1
  unfold f_X6_swaps f_X7_swaps
  rw [in2, sb]
  by_cases c0 : 0 ≤ x.toInt ∧ x.toInt ≤ 2
  · rw [if_neg (tf_y c0)]
    obtain ⟨w, hw, rfl⟩ := l_of (m := 2) c0.1 (by omega)
    have hw3 : w = 0 ∨ w = 1 ∨ w = 2 := by omega
    rcases hw3 with rfl | rfl | rfl
    · rw [if_pos (show nI 0 = 0 from rfl), if_pos (show nI 0 < 2 by decide), if_pos (show nI 0 = 0 from rfl), cnt3 hX ho, sb, cnt7 hM ho, sb]
      exact ⟨_, _, rfl, rfl, rfl, hC⟩
    · rw [if_neg (show ¬ nI 1 = 0 by decide), if_pos (show nI 1 = 1 from rfl), if_pos (show nI 1 < 2 by decide), if_neg (show ¬ nI 1 = 0 by decide), fsw3 hX ho, sb, fsw7 hM ho, sb]
      exact ⟨_, _, rfl, rfl, rfl, hC⟩
    · rw [if_neg (show ¬ nI 2 = 0 by decide), if_neg (show ¬ nI 2 = 1 by decide), if_pos (show nI 2 = 2 from rfl), if_neg (show ¬ nI 2 < 2 by decide)]
      obtain ⟨b, eb, hb⟩ := become3 hX ho fkind fused fbay flikes fwho flamp fdue fcount fday fdues fdraw
      obtain ⟨as, ea, ha⟩ := asides7 now aside
      unfold f_X6_swapsTillCalm
      rw [eb, sb, ea, sb, fsw7 hM ho, sb]
      have hfar : sumN (farS S) (sN S) ≤ 2 * 15 := by
        have h1 : sumN (farS S) (sN S) ≤ 5 * sN S := sum_b (fun k hk => by
          obtain ⟨hK, hU, hB, hL⟩ := ho.2.1 k hk
          have := dist_lt hB hL
          show dist (sB S k) (sL S k) ≤ 5
          omega)
        omega
      obtain ⟨rx, e1, e2⟩ := calm_x (kind := kind) (used := used) (bay := bay) (likes := likes) (who := who) (lamp := lamp) (due := due) (count := count) (day := day) (dues := dues) (draw := draw) 15 0 fu hb ho (by omega) (by decide)
      obtain ⟨rm, e3, e4, e5⟩ := calm_m as 15 0 fu hM ho hfar (by decide)
      refine ⟨_, rm, by rw [show (0 : Int32) = nI 0 from rfl, e1, sb], e3, ?_, RC_now hC (fun j hj => (e5 j hj).trans (ha j hj))⟩
      rw [e4]
      exact e2
  · rw [if_pos (tf_x c0)]
    have h0 : ¬ x = 0 := fun e => c0 (by rw [e]; decide)
    have h1 : ¬ x = 1 := fun e => c0 (by rw [e]; decide)
    have h2 : ¬ x = 2 := fun e => c0 (by rw [e]; decide)
    rw [if_neg h0, if_neg h1, if_neg h2]
    exact ⟨_, _, rfl, rfl, rfl, hC⟩
end SW
theorem S_swaps : St_swaps Rel := by
  intro t_now_kind t_now_used t_now_bay t_now_likes t_now_who t_now_lamp t_now_due t_now_gain t_now_count t_now_day t_now_dues t_now_draw t_past_marks_used t_past_marks_bay t_past_marks_day t_past_marks_dues t_past_marks_draw t_past_next t_past_known t_foreseen_kind t_foreseen_used t_foreseen_bay t_foreseen_likes t_foreseen_who t_foreseen_lamp t_foreseen_due t_foreseen_gain t_foreseen_count t_foreseen_day t_foreseen_dues t_foreseen_draw t_imageOfNow_kind t_imageOfNow_used t_imageOfNow_bay t_imageOfNow_likes t_imageOfNow_who t_imageOfNow_lamp t_imageOfNow_due t_imageOfNow_gain t_imageOfNow_count t_imageOfNow_day t_imageOfNow_dues t_imageOfNow_draw t_imageOfPast_marks_used t_imageOfPast_marks_bay t_imageOfPast_marks_day t_imageOfPast_marks_dues t_imageOfPast_marks_draw t_imageOfPast_next t_imageOfPast_known t_hasImage t_deal_bay t_deal_best t_deal_worth t_deal_free t_deal_count t_tape_letters t_tape_length t_tape_place t_sheets_items t_sheets_lane t_sheets_size u_now u_mores u_tape u_typed u_place u_isFault u_readLamps u_read u_undone u_undos u_aside u_bays u_bests u_kept u_keptUndos u_isKept u_lanes u_sizes u_items u_moved y0 hR
  obtain ⟨hC, hI, hT, hS⟩ := hR
  obtain ⟨rx, rm, e1, e2, e3, e4⟩ := st_swaps hC u_aside t_foreseen_kind t_foreseen_used t_foreseen_bay t_foreseen_likes t_foreseen_who t_foreseen_lamp t_foreseen_due t_foreseen_count t_foreseen_day t_foreseen_dues t_foreseen_draw y0
  exact ⟨rx, rm, e1, e2, e3, e4, hI, hT, hS⟩
