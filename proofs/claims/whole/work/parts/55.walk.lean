/-! MATHEMATICS 26: the walk over all deals on both sides -/
def agX (n : Nat) (b c : Nat → Int32) : Prop := ∀ h, h < n → c h = 99 ∨ b h = c h
theorem agX_upd {n : Nat} {b c : Nat → Int32} (h : agX n b c) (k : Nat) (v : Int32) : agX n (upd b k v) (upd c k v) := by
  intro j hj
  by_cases e : j = k
  · subst e; right; rw [pk_us, pk_us]
  · rw [pk_un e, pk_un e]; exact h j hj
theorem bind_none {α β : Type} (f : α → Option β) : (none : Option α).bind f = none := rfl
theorem fill_cg (n : Nat) (ct : Int32) : ∀ f (b c : Nat → Int32) (free x : Int32), agX n b c → ∀ r, f_X0_fillFrom_c2 f c free ct x = some r → ∃ b', f_X0_fillFrom_c2 f b free ct x = some (b', r.2) ∧ agX n b' r.1 := by
  intro f
  induction f with
  | zero => intro b c free x _ r hr; cases hr
  | succ f ih =>
    intro b c free x hbc r hr
    rw [f_X0_fillFrom_c2] at hr ⊢
    by_cases c0 : x < ct
    · rw [if_pos c0] at hr ⊢
      cases e : f_X0_freeFrom free 0 with
      | none => rw [e, bind_none] at hr; cases hr
      | some v =>
        rw [e, sb] at hr
        rw [sb]
        by_cases c1 : v < 6
        · rw [if_pos c1] at hr ⊢
          unfold f_X0_give at hr ⊢
          by_cases c2 : inb x 6 = true
          · rw [if_pos c2, sb] at hr ⊢
            exact ih _ _ _ _ (agX_upd hbc _ _) r hr
          · rw [if_neg c2, bind_none] at hr; cases hr
        · rw [if_neg c1] at hr ⊢
          exact ih _ _ _ _ hbc r hr
    · rw [if_neg c0] at hr ⊢
      cases hr
      exact ⟨b, rfl, hbc⟩
theorem next_cg {n : Nat} (hn : n ≤ 6) (ct : Int32) : ∀ f k (b c : Nat → Int32) (free : Int32), k ≤ n → (∀ h, h < n → b h = c h) → ∀ r, f_X0_next_c7 f c free ct (nI k + (-1)) = some r → ∃ b', f_X0_next_c7 f b free ct (nI k + (-1)) = some (r.1, b', r.2.2) ∧ agX n b' r.2.1 := by
  intro f
  induction f with
  | zero => intro k b c free _ _ r hr; cases hr
  | succ f ih =>
    intro k b c free hk hbc r hr
    cases k with
    | zero =>
      rw [f_X0_next_c7, if_pos (show nI 0 + (-1) < 0 by decide)] at hr ⊢
      cases hr
      exact ⟨b, rfl, fun h hh => Or.inr (hbc h hh)⟩
    | succ k =>
      rw [pk_m1] at hr ⊢
      rw [f_X0_next_c7, if_neg (nI_pos (by omega)), if_pos (inb_nI (show k < 6 by omega) (by decide)), jn_eq, jn_eq, nI_cl (by omega)] at hr ⊢
      rw [hbc k (by omega)]
      cases e : f_X0_freeFrom (free ||| 1 <<< (c k &&& 31)) (c k + 1) with
      | none => rw [e, bind_none] at hr; cases hr
      | some v =>
        rw [e, sb] at hr
        rw [sb]
        by_cases c1 : v < 6
        · rw [if_pos c1] at hr ⊢
          unfold f_X0_give at hr ⊢
          rw [if_pos (inb_nI (show k < 6 by omega) (by decide)), sb, nI_cl (by omega)] at hr ⊢
          unfold f_X0_fillFrom at hr ⊢
          dsimp only at hr ⊢
          cases e2 : f_X0_fillFrom_c2 fu (upd c k v) ((free ||| 1 <<< (c k &&& 31)) &&& (1 <<< (v &&& 31) ^^^ (-1))) ct (nI k + 1) with
          | none => rw [e2, bind_none] at hr; cases hr
          | some w =>
            rw [e2, sb] at hr
            cases hr
            obtain ⟨b', eb, hb⟩ := fill_cg n ct fu (upd b k v) (upd c k v) _ _ (agX_upd (fun h hh => Or.inr (hbc h hh)) k v) w e2
            refine ⟨b', ?_, hb⟩
            rw [eb, sb]
        · rw [if_neg c1] at hr ⊢
          exact ih k b c _ (by omega) hbc r hr
theorem ne99 {x : Nat} (h : x < 6) : ¬ nI x = 99 := fun e => by
  have e : nI x = nI 99 := e
  rw [n_eq (by omega) (by decide)] at e
  omega
theorem dg_lt (n N h : Nat) : dg n N h < 6 := Nat.mod_lt _ (by decide)
theorem next_N {M n p N : Nat} (hn : n ≤ 6) {b : Nat → Int32} (hb : ∀ h, h < n → b h = nI (dg n p h)) (hc : chkN M n p N = true) : ∃ b', f_X0_next b (nI (frD M n p)) (nI n) = some (1, b', nI (frD M n N)) ∧ ∀ h, h < n → b' h = nI (dg n N h) := by
  unfold chkN at hc
  cases e : f_X0_next (dgI n p) (nI (frD M n p)) (nI n) with
  | none => rw [e] at hc; cases hc
  | some r =>
    rw [e] at hc
    have hc : (decide (r.1 = 1) && (decide (r.2.2 = nI (frD M n N)) && agD r.2.1 n N n)) = true := hc
    rw [Bool.and_eq_true, Bool.and_eq_true, decide_eq_true_eq, decide_eq_true_eq] at hc
    unfold f_X0_next at e ⊢
    rw [sub1'] at e ⊢
    obtain ⟨b', eb, hb'⟩ := next_cg hn (nI n) fu n b (dgI n p) _ (Nat.le_refl _) hb r e
    refine ⟨b', ?_, fun h hh => ?_⟩
    · rw [eb, hc.1, hc.2.1]
    · have h1 := agD_h hc.2.2 h hh
      rcases hb' h hh with h2 | h2
      · rw [h1] at h2; exact absurd h2 (ne99 (dg_lt n N h))
      · rw [h2, h1]
theorem next_E {M n p : Nat} (hn : n ≤ 6) {b : Nat → Int32} (hb : ∀ h, h < n → b h = nI (dg n p h)) (hc : chkE M n p = true) : ∃ r, f_X0_next b (nI (frD M n p)) (nI n) = some r ∧ r.1 = 0 := by
  unfold chkE at hc
  cases e : f_X0_next (dgI n p) (nI (frD M n p)) (nI n) with
  | none => rw [e] at hc; cases hc
  | some r =>
    rw [e] at hc
    have hc : decide (r.1 = 0) = true := hc
    rw [decide_eq_true_eq] at hc
    unfold f_X0_next at e ⊢
    rw [sub1'] at e ⊢
    obtain ⟨b', eb, hb'⟩ := next_cg hn (nI n) fu n b (dgI n p) _ (Nat.le_refl _) hb r e
    exact ⟨_, eb, hc⟩
theorem begin_B {M n N : Nat} (b : Nat → Int32) (fr ct : Int32) (hc : chkB M n N = true) : ∃ b', f_X0_begin b fr ct (nI n) (nI M) = some (b', nI (frD M n N), nI n) ∧ ∀ h, h < n → b' h = nI (dg n N h) := by
  unfold chkB f_X0_begin at hc
  unfold f_X0_begin
  unfold f_X0_fillFrom at hc ⊢
  cases e : f_X0_fillFrom_c2 fu (fun _ => 99) (nI M) (nI n) 0 with
  | none => rw [e] at hc; cases hc
  | some r =>
    rw [e, sb] at hc
    have hc : (decide (r.2 = nI (frD M n N)) && agD r.1 n N n) = true := hc
    rw [Bool.and_eq_true, decide_eq_true_eq] at hc
    obtain ⟨b', eb, hb'⟩ := fill_cg n (nI n) fu b (fun _ => 99) (nI M) 0 (fun h _ => Or.inl rfl) r e
    refine ⟨b', ?_, fun h hh => ?_⟩
    · rw [eb, sb, hc.1]
    · have h1 := agD_h hc.2 h hh
      rcases hb' h hh with h2 | h2
      · rw [h1] at h2; exact absurd h2 (ne99 (dg_lt n N h))
      · rw [h2, h1]
/-- over numbers from N on, those that may be -/
def foD {A : Type} (q : Nat → Bool) (st : A → Nat → A) : Nat → Nat → A → A
  | 0, _, a => a
  | d + 1, N, a => foD q st d (N + 1) (if q N = true then st a N else a)
theorem foD_s {A : Type} (q : Nat → Bool) (st : A → Nat → A) (d N : Nat) (a : A) : foD q st (d + 1) N a = foD q st d (N + 1) (if q N = true then st a N else a) := rfl
theorem fo_first {A : Type} {q : Nat → Bool} {st : A → Nat → A} : ∀ {d k N : Nat} {a : A}, fF q d k = some N → foD q st d k a = foD q st (k + d - 1 - N) (N + 1) (st a N) := by
  intro d
  induction d with
  | zero => intro k N a e; cases e
  | succ d ih =>
    intro k N a e
    rw [fF_s] at e
    rw [foD_s]
    by_cases c : q k = true
    · rw [if_pos c] at e ⊢
      have : k = N := by
        simp only [Option.some.injEq] at e
        exact e
      subst this
      rw [show k + (d + 1) - 1 - k = d by omega]
    · rw [if_neg c] at e ⊢
      rw [ih e, show k + 1 + d - 1 - N = k + (d + 1) - 1 - N by omega]
theorem scn_ok {A X Y : Type} {M n t T : Nat} {Rp : Nat → Nat → A → X → Prop} {st : A → Nat → A} {Nx : X → Y} (hN : ∀ p N i a x, N < T → qd n t N = true → chkN M n p N = true → i < 719 → Rp p i a x → ∃ x', Nx x = Nx x' ∧ Rp N (i + 1) (st a N) x') : ∀ d p i a x r, d ≤ T → scn M n t T d p i = some r → Rp p i a x → ∃ x', Nx x = Nx x' ∧ Rp r.1 r.2 (foD (qd n t) st d (T - d) a) x' := by
  intro d
  induction d with
  | zero =>
    intro p i a x r _ e hx
    cases e
    exact ⟨x, rfl, hx⟩
  | succ d ih =>
    intro p i a x r hd e hx
    rw [scn] at e
    have e : (if qd n t (T - (d + 1)) = true then (if (chkN M n p (T - (d + 1)) && Nat.blt i 719) = true then scn M n t T d (T - (d + 1)) (i + 1) else none) else scn M n t T d p i) = some r := e
    rw [foD_s, show T - (d + 1) + 1 = T - d by omega]
    by_cases c : qd n t (T - (d + 1)) = true
    · rw [if_pos c] at e ⊢
      by_cases c1 : (chkN M n p (T - (d + 1)) && Nat.blt i 719) = true
      · rw [if_pos c1] at e
        rw [Bool.and_eq_true] at c1
        have hi : i < 719 := Nat.le_of_ble_eq_true c1.2
        obtain ⟨x', h1, h2⟩ := hN p (T - (d + 1)) i a x (by omega) c c1.1 hi hx
        obtain ⟨x2, h3, h4⟩ := ih (T - (d + 1)) (i + 1) _ x' r (by omega) e h2
        exact ⟨x2, h1.trans h3, h4⟩
      · rw [if_neg c1] at e; cases e
    · rw [if_neg c] at e ⊢
      exact ih p i a x r (by omega) e hx
theorem walk_all {A X Y : Type} {M n t : Nat} (hf : fulD M n t = true) {Rp : Nat → Nat → A → X → Prop} {st : A → Nat → A} {Nx : X → Y} (a0 : A) (hN : ∀ p N i a x, N < 6 ^ n → qd n t N = true → chkN M n p N = true → i < 719 → Rp p i a x → ∃ x', Nx x = Nx x' ∧ Rp N (i + 1) (st a N) x') : ∃ N0, N0 < 6 ^ n ∧ qd n t N0 = true ∧ chkB M n N0 = true ∧ ∀ x, Rp N0 0 (st a0 N0) x → ∃ p i x', chkE M n p = true ∧ Nx x = Nx x' ∧ Rp p i (foD (qd n t) st (6 ^ n) 0 a0) x' := by
  unfold fulD at hf
  cases e : fF (qd n t) (6 ^ n) 0 with
  | none => rw [e] at hf; cases hf
  | some N0 =>
    rw [e] at hf
    have hf : (chkB M n N0 && endD M n (scn M n t (6 ^ n) (6 ^ n - 1 - N0) N0 0)) = true := hf
    rw [Bool.and_eq_true] at hf
    obtain ⟨h1, h2, h3⟩ := fF_some e
    refine ⟨N0, by omega, h3, hf.1, fun x hx => ?_⟩
    cases e2 : scn M n t (6 ^ n) (6 ^ n - 1 - N0) N0 0 with
    | none =>
      rw [e2] at hf
      have q : false = true := hf.2
      cases q
    | some r =>
      rw [e2] at hf
      obtain ⟨x', h4, h5⟩ := scn_ok (Nx := Nx) hN (6 ^ n - 1 - N0) N0 0 (st a0 N0) x r (by omega) e2 hx
      refine ⟨r.1, r.2, x', hf.2, h4, ?_⟩
      rw [fo_first e, Nat.zero_add]
      rw [show 6 ^ n - (6 ^ n - 1 - N0) = N0 + 1 by omega] at h5
      exact h5
theorem full_C {n : Nat} (hn : n ≤ 6) : fulD 63 n 64 = true := by
  by_cases c : n = 6
  · subst c; exact full_c6
  · exact full_c ⟨n, by omega⟩
theorem full_E {m : Nat} (hm : m < 64) : fulD m (popD m) m = true := by
  by_cases c : m = 63
  · subst c; exact full_e6
  · exact full_e ⟨m, by omega⟩
/-! sets of bays -/
theorem lor_f : ∀ s : Fin 64, ∀ d : Fin 6, Nat.lor s.val (Nat.shiftLeft 1 d.val) < 64 ∧ nI s.val ||| ((1 : Int32) <<< (nI d.val &&& 31)) = nI (Nat.lor s.val (Nat.shiftLeft 1 d.val)) := by decide +kernel
theorem shr_f : ∀ s : Fin 64, ∀ d : Fin 6, ((nI s.val >>> (nI d.val &&& 31)) &&& 1 = 0 ↔ Nat.beq (Nat.land (Nat.shiftRight s.val d.val) 1) 0 = true) := by decide +kernel
theorem bit_lor : ∀ s : Fin 64, ∀ d c : Fin 6, bitN (Nat.lor s.val (Nat.shiftLeft 1 d.val)) c.val = (bitN s.val c.val || decide (c = d)) := by decide +kernel
theorem pop_lor : ∀ s : Fin 64, ∀ d : Fin 6, bitN s.val d.val = false → popD (Nat.lor s.val (Nat.shiftLeft 1 d.val)) = popD s.val + 1 := by decide +kernel
theorem bit_beq : ∀ s : Fin 64, ∀ d : Fin 6, Nat.beq (Nat.land (Nat.shiftRight s.val d.val) 1) 0 = !bitN s.val d.val := by decide +kernel
theorem msk_lt {B : Nat → Nat} : ∀ {k : Nat}, (∀ h, h < k → B h < 6) → msk B k < 64 := by
  intro k
  induction k with
  | zero =>
    intro _
    show 0 < 64
    decide
  | succ k ih =>
    intro h
    exact (lor_f ⟨msk B k, ih (fun g hg => h g (by omega))⟩ ⟨B k, h k (by omega)⟩).1
theorem msk_s {B : Nat → Nat} {k : Nat} (h : ∀ g, g < k + 1 → B g < 6) : nI (msk B k) ||| ((1 : Int32) <<< (nI (B k) &&& 31)) = nI (msk B (k + 1)) := (lor_f ⟨msk B k, msk_lt (fun g hg => h g (by omega))⟩ ⟨B k, h k (by omega)⟩).2
theorem msk_bit {B : Nat → Nat} : ∀ {k : Nat}, (∀ h, h < k → B h < 6) → ∀ c, c < 6 → (bitN (msk B k) c = true ↔ ∃ h, h < k ∧ B h = c) := by
  intro k
  induction k with
  | zero =>
    intro _ c hc
    have : ∀ c : Fin 6, bitN (msk B 0) c.val = false := by
      show ∀ c : Fin 6, bitN 0 c.val = false
      decide
    have h1 : bitN (msk B 0) c = false := this ⟨c, hc⟩
    rw [h1]
    exact ⟨fun e => (by cases e), fun ⟨h, hh, _⟩ => by omega⟩
  | succ k ih =>
    intro h c hc
    have h1 : bitN (msk B (k + 1)) c = (bitN (msk B k) c || decide ((⟨c, hc⟩ : Fin 6) = ⟨B k, h k (by omega)⟩)) := bit_lor ⟨msk B k, msk_lt (fun g hg => h g (by omega))⟩ ⟨B k, h k (by omega)⟩ ⟨c, hc⟩
    rw [h1, Bool.or_eq_true, ih (fun g hg => h g (by omega)) c hc, decide_eq_true_eq, Fin.mk.injEq]
    constructor
    · rintro (⟨g, hg, e⟩ | e)
      · exact ⟨g, by omega, e⟩
      · exact ⟨k, by omega, e.symm⟩
    · rintro ⟨g, hg, e⟩
      by_cases c1 : g = k
      · subst c1; exact Or.inr e.symm
      · exact Or.inl ⟨g, by omega, e⟩
theorem msk_pop {B : Nat → Nat} : ∀ {k : Nat}, (∀ h, h < k → B h < 6) → (∀ g h, g < k → h < k → B g = B h → g = h) → popD (msk B k) = k := by
  intro k
  induction k with
  | zero =>
    intro _ _
    show popD 0 = 0
    decide
  | succ k ih =>
    intro h hi
    have hb : bitN (msk B k) (B k) = false := by
      cases e : bitN (msk B k) (B k) with
      | false => rfl
      | true =>
        obtain ⟨g, hg, e2⟩ := (msk_bit (fun g hg => h g (by omega)) (B k) (h k (by omega))).mp e
        have := hi g k (by omega) (by omega) e2
        omega
    have := pop_lor ⟨msk B k, msk_lt (fun g hg => h g (by omega))⟩ ⟨B k, h k (by omega)⟩ hb
    have h2 : popD (msk B (k + 1)) = popD (msk B k) + 1 := this
    rw [h2, ih (fun g hg => h g (by omega)) (fun g g' hg hg' => hi g g' (by omega) (by omega))]
/-- distinct digits -/
theorem inj_iff : ∀ {k N s : Nat}, s < 64 → injD k N s = true → (∀ h, h < k → bitN s (dg k N h) = false) ∧ ∀ g h, g < k → h < k → dg k N g = dg k N h → g = h := by
  intro k
  induction k with
  | zero => intro N s _ _; exact ⟨fun h hh => by omega, fun g h hg => by omega⟩
  | succ k ih =>
    intro N s hs e
    have hm : N % 6 < 6 := Nat.mod_lt _ (by decide)
    have e : cond (Nat.beq (Nat.land (Nat.shiftRight s (N % 6)) 1) 0) (injD k (N / 6) (Nat.lor s (Nat.shiftLeft 1 (N % 6)))) false = true := e
    have hb : Nat.beq (Nat.land (Nat.shiftRight s (N % 6)) 1) 0 = !bitN s (N % 6) := bit_beq ⟨s, hs⟩ ⟨N % 6, hm⟩
    rw [hb] at e
    cases c : bitN s (N % 6) with
    | true => rw [c] at e; cases e
    | false =>
      rw [c] at e
      have e : injD k (N / 6) (Nat.lor s (Nat.shiftLeft 1 (N % 6))) = true := e
      obtain ⟨h1, h2⟩ := ih (lor_f ⟨s, hs⟩ ⟨N % 6, hm⟩).1 e
      have hd : ∀ h, h < k → dg (k + 1) N h = dg k (N / 6) h := by
        intro h hh
        unfold dg
        rw [Nat.div_div_eq_div_mul, show k + 1 - 1 - h = (k - 1 - h) + 1 by omega, Nat.pow_succ, Nat.mul_comm 6]
      have hk : dg (k + 1) N k = N % 6 := by
        unfold dg
        rw [show k + 1 - 1 - k = 0 by omega, Nat.pow_zero, Nat.div_one]
      have h3 : ∀ h, h < k → bitN s (dg k (N / 6) h) = false ∧ dg k (N / 6) h ≠ N % 6 := by
        intro h hh
        have h4 : bitN (Nat.lor s (Nat.shiftLeft 1 (N % 6))) (dg k (N / 6) h) = (bitN s (dg k (N / 6) h) || decide ((⟨dg k (N / 6) h, dg_lt _ _ _⟩ : Fin 6) = ⟨N % 6, hm⟩)) := bit_lor ⟨s, hs⟩ ⟨N % 6, hm⟩ ⟨dg k (N / 6) h, dg_lt _ _ _⟩
        rw [h1 h hh] at h4
        have h5 := h4.symm
        rw [Bool.or_eq_false_iff, decide_eq_false_iff_not, Fin.mk.injEq] at h5
        exact h5
      refine ⟨fun h hh => ?_, fun g h hg hh e2 => ?_⟩
      · by_cases c1 : h = k
        · subst c1; rw [hk]; exact c
        · rw [hd h (by omega)]; exact (h3 h (by omega)).1
      · by_cases c1 : g = k
        · by_cases c2 : h = k
          · omega
          · subst c1
            rw [hk, hd h (by omega)] at e2
            exact absurd e2.symm (h3 h (by omega)).2
        · by_cases c2 : h = k
          · subst c2
            rw [hk, hd g (by omega)] at e2
            exact absurd e2 (h3 g (by omega)).2
          · rw [hd g (by omega), hd h (by omega)] at e2
            exact h2 g h (by omega) (by omega) e2
theorem qd_inj {n t N : Nat} (h : qd n t N = true) : injD n N 0 = true := by
  unfold qd at h
  cases c : injD n N 0 with
  | true => rfl
  | false => rw [c] at h; cases h
theorem dealt17 (now : Nat → Int32) : ∀ k f (bays : Nat → Int32) (N s : Nat) (is : Bool), k ≤ 6 → N < 2 ^ 31 → s < 64 → k < f → ∃ b', f_X7_isDealt_c17 f now bays (nI N) (nI s) (tf is) (nI k + (-1)) = some (tf (is && injD k N s), b') ∧ (∀ h, h < k → b' h = nI (dg k N h)) ∧ ∀ h, k ≤ h → b' h = bays h := by
  intro k
  induction k with
  | zero =>
    intro f bays N s is _ _ _ hf
    obtain ⟨f, rfl⟩ : ∃ g, f = g + 1 := ⟨f - 1, by omega⟩
    refine ⟨bays, ?_, fun h hh => by omega, fun h _ => rfl⟩
    rw [f_X7_isDealt_c17, if_pos (show nI 0 + (-1) < 0 by decide), if_pos (tf_isb _)]
    cases is <;> rfl
  | succ k ih =>
    intro f bays N s is hk hN hs hf
    obtain ⟨f, rfl⟩ : ∃ g, f = g + 1 := ⟨f - 1, by omega⟩
    have hm : N % 6 < 6 := Nat.mod_lt _ (by decide)
    have hq : N / 6 ≤ N := Nat.div_le_self _ _
    obtain ⟨b', e1, e2, e3⟩ := ih f (upd bays k (nI (N % 6))) (N / 6) (Nat.lor s (Nat.shiftLeft 1 (N % 6))) (is && !bitN s (N % 6)) (by omega) (by omega) (lor_f ⟨s, hs⟩ ⟨N % 6, hm⟩).1 (by omega)
    refine ⟨b', ?_, fun h hh => ?_, fun h hh => ?_⟩
    · rw [pk_m1, f_X7_isDealt_c17, if_neg (nI_pos (by omega)), if_pos (inb_nI (show k < 6 by omega) (by decide)), nI_cl (by omega), jn_eq, jn_eq, show (6 : Int32) = nI 6 from rfl, pk_rem hN (by decide) (by decide), pk_div hN (by decide) (by decide), pk_us, (lor_f ⟨s, hs⟩ ⟨N % 6, hm⟩).2]
      have hv : (if tf is = 0 then (0 : Int32) else if (nI s >>> (nI (N % 6) &&& 31)) &&& 1 = 0 then 1 else 0) = tf (is && !bitN s (N % 6)) := by
        have h1 := shr_f ⟨s, hs⟩ ⟨N % 6, hm⟩
        have h2 : Nat.beq (Nat.land (Nat.shiftRight s (N % 6)) 1) 0 = !bitN s (N % 6) := bit_beq ⟨s, hs⟩ ⟨N % 6, hm⟩
        have h1 : ((nI s >>> (nI (N % 6) &&& 31)) &&& 1 = 0 ↔ Nat.beq (Nat.land (Nat.shiftRight s (N % 6)) 1) 0 = true) := h1
        rw [h2] at h1
        cases is
        · rfl
        · rw [if_neg (show ¬ tf true = 0 by decide)]
          cases c : bitN s (N % 6) with
          | true =>
            rw [c] at h1
            rw [if_neg (fun q => by cases h1.mp q)]
            rfl
          | false =>
            rw [c] at h1
            rw [if_pos (h1.mpr rfl)]
            rfl
      rw [hv]
      have hi : (is && injD (k + 1) N s) = (is && !bitN s (N % 6) && injD k (N / 6) (Nat.lor s (Nat.shiftLeft 1 (N % 6)))) := by
        have h2 : Nat.beq (Nat.land (Nat.shiftRight s (N % 6)) 1) 0 = !bitN s (N % 6) := bit_beq ⟨s, hs⟩ ⟨N % 6, hm⟩
        show (is && cond (Nat.beq (Nat.land (Nat.shiftRight s (N % 6)) 1) 0) (injD k (N / 6) (Nat.lor s (Nat.shiftLeft 1 (N % 6)))) false) = _
        rw [h2]
        cases is <;> cases bitN s (N % 6) <;> rfl
      rw [hi]
      exact e1
    · by_cases c : h = k
      · subst c
        rw [e3 h (Nat.le_refl _), pk_us]
        unfold dg
        rw [show h + 1 - 1 - h = 0 by omega, Nat.pow_zero, Nat.div_one]
      · rw [e2 h (by omega)]
        unfold dg
        rw [Nat.div_div_eq_div_mul, show k + 1 - 1 - h = (k - 1 - h) + 1 by omega, Nat.pow_succ, Nat.mul_comm 6]
    · rw [e3 h (by omega), pk_un (by omega)]
section WK
variable {kind used bay likes who lamp due : Nat → Int32} {count day dues draw : Int32} {fkind fused fbay flikes fwho flamp fdue fgain : Nat → Int32} {fcount fday fdues fdraw : Int32} {mu mb : Nat → Nat → Int32} {md mz mr : Nat → Int32} {next known : Int32} {now undone : Nat → Int32} {undos : Int32} {S : Sc}
theorem dealt7 (hM : isM S now) (ho : okS S) (bays : Nat → Int32) {N : Nat} (hN : N < 2 ^ 31) : ∃ b', f_X7_isDealt now bays (nI N) = some (tf (injD (sN S) N 0), b') ∧ ∀ h, h < sN S → b' h = nI (dg (sN S) N h) := by
  have hn := ho.1
  have hfu : fu = 100000 := rfl
  obtain ⟨b', e1, e2, e3⟩ := dealt17 now (sN S) fu bays N 0 true hn hN (by decide) (by omega)
  refine ⟨b', ?_, e2⟩
  unfold f_X7_isDealt
  rw [jn_eq, hM.1, sub1']
  exact e1
theorem p6 {n : Nat} (hn : n ≤ 6) : 6 ^ n ≤ 46656 := Nat.pow_le_pow_right (n := 6) (by decide) hn
theorem numbers7 (hM : isM S now) (ho : okS S) : f_X7_numbers now = some (nI (6 ^ sN S)) := by
  have hn := ho.1
  unfold f_X7_numbers
  refine pre_all (fun f (a : Int32) k => f_X7_numbers_c4 f now a (nI k)) (fun k => nI (6 ^ k)) (sN S) _ (by omega) ?_ ?_
  · intro f k hk
    show f_X7_numbers_c4 (f + 1) now (nI (6 ^ k)) (nI k) = f_X7_numbers_c4 f now (nI (6 ^ (k + 1))) (nI (k + 1))
    rw [f_X7_numbers_c4, jn_eq, hM.1, if_pos (nI_lt hk (by omega)), show (6 : Int32) = nI 6 from rfl, n_mul, nI_1, Nat.pow_succ]
  · intro f
    show f_X7_numbers_c4 (f + 1) now (nI (6 ^ sN S)) (nI (sN S)) = _
    rw [f_X7_numbers_c4, jn_eq, hM.1, if_neg (nI_nlt (Nat.le_refl _) (by omega))]
end WK
