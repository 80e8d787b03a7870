/-! MATHEMATICS 17: holder, image, restore -/
theorem cnt_all {P : Nat → Bool} : ∀ {n : Nat}, cnt P n = n → ∀ b, b < n → P b = true := by
  intro n
  induction n with
  | zero => intro _ b hb; omega
  | succ n ih =>
    intro h b hb
    rw [cnt_s] at h
    have := cnt_le (P := P) n
    by_cases c : P n = true
    · rw [if_pos c] at h
      by_cases e : b = n
      · subst e; exact c
      · exact ih (by omega) b (by omega)
    · rw [if_neg c] at h
      omega
theorem cnt_full {P : Nat → Bool} : ∀ {n : Nat}, (∀ b, b < n → P b = true) → cnt P n = n := by
  intro n
  induction n with
  | zero => intro _; rfl
  | succ n ih =>
    intro h
    rw [cnt_s, ih (fun b hb => h b (by omega)), if_pos (h n (by omega))]
/-- as many bays are held as there are holders -/
theorem held_n {B : Nat → Nat} : ∀ {n : Nat}, (∀ h, h < n → B h < 6) → (∀ g h, g < n → h < n → B g = B h → g = h) → cnt (fun b => (wf B b n).isSome) 6 = n := by
  intro n
  induction n with
  | zero => intro _ _; exact cnt_zero (fun g _ => rfl)
  | succ n ih =>
    intro h1 h2
    have ih := ih (fun h hh => h1 h (by omega)) (fun g h hg hh => h2 g h (by omega) (by omega))
    have hBn := h1 n (by omega)
    have hnone : wf B (B n) n = none := by
      cases e : wf B (B n) n with
      | none => rfl
      | some g =>
        obtain ⟨g1, g2⟩ := wf_some e
        have := h2 g n (by omega) (by omega) g2
        omega
    have e1 : cnt (fun b => (wf B b (n + 1)).isSome) 6 = cnt (fun b => (wf B b n).isSome || decide (B n = b)) 6 := by
      refine cnt_congr (fun b _ => ?_)
      rw [wf_s]
      by_cases c : B n = b
      · rw [if_pos c, decide_eq_true c, Bool.or_true]; rfl
      · rw [if_neg c, decide_eq_false c, Bool.or_false]
    have e2 : cnt (fun b => decide (B n = b)) 6 = 1 := by
      rw [cnt_one (h := B n) hBn (fun g _ hp => (decide_eq_true_eq.mp hp).symm)]
      simp
    rw [e1, ← cnt_add (P := fun b => (wf B b n).isSome) (Q := fun b => decide (B n = b)) (fun b _ hp => by
      have c : B n = b := decide_eq_true_eq.mp hp.2
      subst c
      have := hp.1
      rw [hnone] at this
      cases this), ih, e2]
def freeB (S : Sc) (b : Nat) : Bool := (wf (sB S) b (sN S)).isNone
theorem free_6 {S : Sc} (ho : okS S) : (fF (freeB S) 6 0 = none ↔ sN S = 6) := by
  have hc := held_n (B := sB S) (n := sN S) (fun h hh => (ho.2.1 h hh).2.2.1) ho.2.2.1
  constructor
  · intro e
    have h1 : ∀ b, b < 6 → (wf (sB S) b (sN S)).isSome = true := by
      intro b hb
      have := fF_none e b (by omega) (by omega)
      unfold freeB at this
      cases e' : wf (sB S) b (sN S) with
      | none => rw [e'] at this; cases this
      | some g => rfl
    rw [cnt_full h1] at hc
    omega
  · intro e
    rw [e] at hc
    have h1 := cnt_all hc
    refine fF_zero (fun b _ hb => ?_)
    have := h1 b (by omega)
    unfold freeB
    rw [e]
    cases e' : wf (sB S) b 6 with
    | none => rw [e'] at this; cases this
    | some g => rfl
/-- one more holder -/
def entS (S : Sc) (k u b l : Nat) : Sc := (sN S + 1, mvB (sK S) (sN S) k, mvB (sU S) (sN S) u, mvB (sB S) (sN S) b, mvB (sL S) (sN S) l, sP S, sD S, sY S, sZ S, sR S)
theorem mv_s (B : Nat → Nat) (h b : Nat) : mvB B h b h = b := if_pos rfl
theorem mv_n (B : Nat → Nat) {h b k : Nat} (e : k ≠ h) : mvB B h b k = B k := if_neg e
theorem ok_ent {S : Sc} (ho : okS S) (hn : sN S < 6) {k u b l : Nat} (hk : k ≤ 4) (hu : u ≤ 99) (hb : b < 6) (hl : l < 6) (hf : wf (sB S) b (sN S) = none) : okS (entS S k u b l) := by
  have hfree := wf_none hf
  refine ⟨by show sN S + 1 ≤ 6; omega, fun h hh => ?_, fun g h hg hh e => ?_, ho.2.2.2.1, ho.2.2.2.2⟩
  · have hh : h < sN S + 1 := hh
    show mvB (sK S) (sN S) k h ≤ 4 ∧ mvB (sU S) (sN S) u h ≤ 99 ∧ mvB (sB S) (sN S) b h < 6 ∧ mvB (sL S) (sN S) l h < 6
    by_cases c : h = sN S
    · subst c
      rw [mv_s, mv_s, mv_s, mv_s]
      exact ⟨hk, hu, hb, hl⟩
    · rw [mv_n _ c, mv_n _ c, mv_n _ c, mv_n _ c]
      exact ho.2.1 h (by omega)
  · have hh : h < sN S + 1 := hh
    have hg : g < sN S + 1 := hg
    have e : mvB (sB S) (sN S) b g = mvB (sB S) (sN S) b h := e
    by_cases c1 : g = sN S
    · by_cases c2 : h = sN S
      · omega
      · rw [c1, mv_s, mv_n _ c2] at e
        exact absurd e.symm (hfree h (by omega))
    · by_cases c2 : h = sN S
      · rw [c2, mv_s, mv_n _ c1] at e
        exact absurd e (hfree g (by omega))
      · rw [mv_n _ c1, mv_n _ c2] at e
        exact ho.2.2.1 g h (by omega) (by omega) e
section HD
variable {kind used bay likes who lamp due : Nat → Int32} {count day dues draw : Int32} {fkind fused fbay flikes fwho flamp fdue fgain : Nat → Int32} {fcount fday fdues fdraw : Int32} {mu mb : Nat → Nat → Int32} {md mz mr : Nat → Int32} {next known : Int32} {now undone : Nat → Int32} {undos : Int32} {S : Sc} {hs : List Mk}
theorem enter3 (hX : isX S kind used bay likes who lamp due count day dues draw) (hn : sN S < 6) {k u b l : Nat} (hb : b < 6) : ∃ r, f_X3_enter kind used bay likes who count (nI k) (nI u) (nI b) (nI l) = some r ∧ isX (entS S k u b l) r.1 r.2.1 r.2.2.1 r.2.2.2.1 r.2.2.2.2.1 lamp due r.2.2.2.2.2 day dues draw := by
  obtain ⟨x0, x1, x2, x3, x4, x5, x6⟩ := hX
  unfold f_X3_enter
  rw [x0, if_pos (show nI (sN S) < (6 : Int32) from nI_lt (b := 6) hn (by decide)), if_pos (inb_nI hn (by decide)), nI_cl (by omega), seat3 _ _ hn hb, sb]
  have key : ∀ (f : Nat → Int32) (B : Nat → Nat) (v h : Nat), h < sN S + 1 → (∀ g, g < sN S → f g = nI (B g)) → upd f (sN S) (nI v) h = nI (mvB B (sN S) v h) := by
    intro f B v h hh hf
    by_cases c : h = sN S
    · subst c; rw [pk_us, mv_s]
    · rw [pk_un c, mv_n _ c]; exact hf h (by omega)
  refine ⟨_, rfl, nI_1 _, x1, x2, x3, fun h hh => ⟨key _ _ _ _ hh (fun g hg => (x4 g hg).1), key _ _ _ _ hh (fun g hg => (x4 g hg).2.1), key _ _ _ _ hh (fun g hg => (x4 g hg).2.2.1), key _ _ _ _ hh (fun g hg => (x4 g hg).2.2.2)⟩, x5, fun d hd => ?_⟩
  show upd who b (nI (sN S)) d = wI (wf (mvB (sB S) (sN S) b) d (sN S + 1)) (-1)
  rw [wf_s, mv_s]
  by_cases c : b = d
  · subst c; rw [pk_us, if_pos rfl]; rfl
  · rw [pk_un (fun e => c e.symm), if_neg c, x6 d hd]
    congr 1
    exact wf_congr (fun k hk => by rw [mv_n _ (by omega)])
theorem comes7 (hM : isM S now) (hn : sN S < 6) (undos : Int32) (k u b l : Nat) : ∃ r, f_X7_holderComes now undos (nI k) (nI u) (nI b) (nI l) = some r ∧ r.2 = 0 ∧ isM (entS S k u b l) r.1 ∧ r.1 0 = nI (sN S + 1) := by
  obtain ⟨m0, m1, m2, m3, m4, m5⟩ := hM
  have i0 : (4 : Int32) + 4 * nI (sN S) = nI (4 + 4 * sN S) := by
    show nI 4 + nI 4 * nI (sN S) = _
    rw [n_mul, n_add]
  have i1 : nI (4 + 4 * sN S) + 1 = nI (4 + 4 * sN S + 1) := n_add _ 1
  have i2 : nI (4 + 4 * sN S) + 2 = nI (4 + 4 * sN S + 2) := n_add _ 2
  have i3 : nI (4 + 4 * sN S) + 3 = nI (4 + 4 * sN S + 3) := n_add _ 3
  unfold f_X7_holderComes
  rw [m0, jn_eq, i0, i1, i2, i3, if_pos (inb_nI (show 4 + 4 * sN S < 40 by omega) (by decide)), if_pos (inb_nI (show 4 + 4 * sN S + 1 < 40 by omega) (by decide)), if_pos (inb_nI (show 4 + 4 * sN S + 2 < 40 by omega) (by decide)), if_pos (inb_nI (show 4 + 4 * sN S + 3 < 40 by omega) (by decide)), nI_cl (show 4 + 4 * sN S < 2 ^ 31 by omega), nI_cl (show 4 + 4 * sN S + 1 < 2 ^ 31 by omega), nI_cl (show 4 + 4 * sN S + 2 < 2 ^ 31 by omega), nI_cl (show 4 + 4 * sN S + 3 < 2 ^ 31 by omega), jn_eq]
  have e0 : upd (upd (upd (upd now (4 + 4 * sN S) (nI k)) (4 + 4 * sN S + 1) (nI u)) (4 + 4 * sN S + 2) (nI b)) (4 + 4 * sN S + 3) (nI l) 0 = nI (sN S) := by
    rw [pk_un (by omega), pk_un (by omega), pk_un (by omega), pk_un (by omega)]
    exact m0
  rw [e0, nI_1]
  refine ⟨_, rfl, rfl, ?_, ?_⟩
  rotate_left
  · show upd (upd (upd (upd (upd now (4 + 4 * sN S) (nI k)) (4 + 4 * sN S + 1) (nI u)) (4 + 4 * sN S + 2) (nI b)) (4 + 4 * sN S + 3) (nI l)) 0 (nI (sN S + 1)) 0 = nI (sN S + 1)
    exact pk_us
  show isM (entS S k u b l) (upd (upd (upd (upd (upd now (4 + 4 * sN S) (nI k)) (4 + 4 * sN S + 1) (nI u)) (4 + 4 * sN S + 2) (nI b)) (4 + 4 * sN S + 3) (nI l)) 0 (nI (sN S + 1)))
  have out : ∀ j, j ≠ 0 → j ≠ 4 + 4 * sN S → j ≠ 4 + 4 * sN S + 1 → j ≠ 4 + 4 * sN S + 2 → j ≠ 4 + 4 * sN S + 3 → upd (upd (upd (upd (upd now (4 + 4 * sN S) (nI k)) (4 + 4 * sN S + 1) (nI u)) (4 + 4 * sN S + 2) (nI b)) (4 + 4 * sN S + 3) (nI l)) 0 (nI (sN S + 1)) j = now j := by
    intro j a1 a2 a3 a4 a5
    rw [pk_un a1, pk_un a5, pk_un a4, pk_un a3, pk_un a2]
  refine ⟨if_pos rfl, (out 1 (by omega) (by omega) (by omega) (by omega) (by omega)).trans m1, (out 2 (by omega) (by omega) (by omega) (by omega) (by omega)).trans m2, (out 3 (by omega) (by omega) (by omega) (by omega) (by omega)).trans m3, fun h hh => ?_, fun d hd => ⟨(out _ (by omega) (by omega) (by omega) (by omega) (by omega)).trans (m5 d hd).1, (out _ (by omega) (by omega) (by omega) (by omega) (by omega)).trans (m5 d hd).2⟩⟩
  have hh : h < sN S + 1 := hh
  show _ = nI (mvB (sK S) (sN S) k h) ∧ _ = nI (mvB (sU S) (sN S) u h) ∧ _ = nI (mvB (sB S) (sN S) b h) ∧ _ = nI (mvB (sL S) (sN S) l h)
  by_cases c : h = sN S
  · subst c
    rw [mv_s, mv_s, mv_s, mv_s]
    refine ⟨?_, ?_, ?_, ?_⟩
    · rw [pk_un (by omega), pk_un (by omega), pk_un (by omega), pk_un (by omega), pk_us]
    · rw [pk_un (by omega), pk_un (by omega), pk_un (by omega), pk_us]
    · rw [pk_un (by omega), pk_un (by omega), pk_us]
    · rw [pk_un (by omega), pk_us]
  · rw [mv_n _ c, mv_n _ c, mv_n _ c, mv_n _ c]
    obtain ⟨a1, a2, a3, a4⟩ := m4 h (by omega)
    exact ⟨(out _ (by omega) (by omega) (by omega) (by omega) (by omega)).trans a1, (out _ (by omega) (by omega) (by omega) (by omega) (by omega)).trans a2, (out _ (by omega) (by omega) (by omega) (by omega) (by omega)).trans a3, (out _ (by omega) (by omega) (by omega) (by omega) (by omega)).trans a4⟩
theorem lowest3 (hX : isX S kind used bay likes who lamp due count day dues draw) (ho : okS S) : f_X3_lowestFreeBay who = some (wI (fF (freeB S) 6 0) (-1)) := by
  have hn := ho.1
  unfold f_X3_lowestFreeBay
  refine ex_all (fun f (_ : Unit) k => f_X3_lowestFreeBay_c2 f who (nI k)) (fun _ _ => True) (freeB S) 6 (fun o res => res = some (wI o (-1))) (by decide) () trivial ?_ ?_ ?_
  · intro f k _ hk _ hP
    show f_X3_lowestFreeBay_c2 (f + 1) who (nI k) = some (nI k)
    unfold freeB at hP
    rw [f_X3_lowestFreeBay_c2, if_pos (show nI k < (6 : Int32) from nI_lt (b := 6) hk (by decide)), if_pos (inb_nI hk (by decide)), nI_cl (by omega), jn_eq, hX.2.2.2.2.2.2 k hk]
    cases e : wf (sB S) k (sN S) with
    | none => exact if_pos rfl
    | some g => rw [e] at hP; cases hP
  · intro f k _ hk _ hP
    refine ⟨(), ?_, trivial⟩
    show f_X3_lowestFreeBay_c2 (f + 1) who (nI k) = f_X3_lowestFreeBay_c2 f who (nI (k + 1))
    unfold freeB at hP
    rw [f_X3_lowestFreeBay_c2, if_pos (show nI k < (6 : Int32) from nI_lt (b := 6) hk (by decide)), if_pos (inb_nI hk (by decide)), nI_cl (by omega), jn_eq, hX.2.2.2.2.2.2 k hk]
    cases e : wf (sB S) k (sN S) with
    | none => rw [e] at hP; cases hP
    | some g =>
      have hg := (wf_some e).1
      rw [if_neg (show ¬ wI (some g) (-1) = (-1) from wI_ne (by omega)), nI_1]
  · intro f _ _
    rfl
theorem holder50 (hM : isM S now) (ho : okS S) (undos : Int32) (x y z : Int32) {b : Nat} (hb : fF (freeB S) 6 0 = some b) : f_X7_holder_c50 fu now undos x y z 0 = (f_X7_holderComes now undos x y (nI b) z).bind fun r => some (r.1 0 - 1, r.1, r.2) := by
  have hn := ho.1
  have := ex_all (fun f (_ : Unit) k => f_X7_holder_c50 f now undos x y z (nI k)) (fun _ _ => True) (freeB S) 6 (fun o res => match o with
    | some b => res = (f_X7_holderComes now undos x y (nI b) z).bind fun r => some (r.1 0 - 1, r.1, r.2)
    | none => True) (by decide) () trivial ?_ ?_ ?_
  · rw [hb] at this
    exact this
  · intro f k _ hk _ hP
    show f_X7_holder_c50 (f + 1) now undos x y z (nI k) = _
    unfold freeB at hP
    rw [f_X7_holder_c50, who7 hM ho hk, sb]
    cases e : wf (sB S) k (sN S) with
    | none => exact if_pos rfl
    | some g => rw [e] at hP; cases hP
  · intro f k _ hk _ hP
    refine ⟨(), ?_, trivial⟩
    show f_X7_holder_c50 (f + 1) now undos x y z (nI k) = f_X7_holder_c50 f now undos x y z (nI (k + 1))
    unfold freeB at hP
    rw [f_X7_holder_c50, who7 hM ho hk, sb]
    cases e : wf (sB S) k (sN S) with
    | none => rw [e] at hP; cases hP
    | some g =>
      have hg := (wf_some e).1
      rw [if_neg (show ¬ wI (some g) (-4) = (-4) from fun e => by
          have e : nI g = (-4) := e
          rw [l_eq, l_lit (by omega)] at e
          have : ((-4 : Int32)).toInt = -4 := rfl
          omega), nI_1]
  · intro f _ _
    trivial
theorem in4 (x : Int32) : f_X7_in x.toInt64 0 4 = some (tf (decide (0 ≤ x.toInt ∧ x.toInt ≤ 4))) := in7w x 0 4
theorem wi4 (x : Int32) : f_X6_within x 0 4 = some (tf (decide (0 ≤ x.toInt ∧ x.toInt ≤ 4))) := within6 x 0 4
theorem XP_nil {n n' : Nat} (hp : isXP n hs mu mb md mz mr next known) : isXP n' [] mu mb md mz mr next 0 := by
  obtain ⟨nx, hnx, e1, -, -⟩ := hp
  exact ⟨nx, hnx, e1, rfl, fun i m hi => by cases hi⟩
theorem MP_nil {n' : Nat} (undone : Nat → Int32) : isMP n' [] undone 0 := ⟨rfl, fun i m hi => by cases hi⟩
theorem okH_nil (n : Nat) : okH n [] := ⟨Nat.zero_le _, fun m hm => by cases hm⟩
theorem st_holder (hC : RC kind used bay likes who lamp due count day dues draw mu mb md mz mr next known now undone undos) (x y z : Int32) : ∃ rx rm, f_X6_holder kind used bay likes who count known x y z = some rx ∧ f_X7_holder now undos x y z = some rm ∧ rx.1 = rm.1 ∧ RC rx.2.1 rx.2.2.1 rx.2.2.2.1 rx.2.2.2.2.1 rx.2.2.2.2.2.1 lamp due rx.2.2.2.2.2.2.1 day dues draw mu mb md mz mr next rx.2.2.2.2.2.2.2 rm.2.1 undone rm.2.2 := by
  obtain ⟨S, hs, ho, hh, hX, hM, hp, hq⟩ := id hC
  have hn := ho.1
  unfold f_X6_holder f_X7_holder
  rw [wi4, sb, in4, sb]
  by_cases c0 : 0 ≤ x.toInt ∧ x.toInt ≤ 4
  · rw [if_neg (tf_y c0), if_neg (tf_y c0), wi99, sb, in99, sb]
    by_cases c1 : 0 ≤ y.toInt ∧ y.toInt ≤ 99
    · rw [if_neg (tf_y c1), if_neg (tf_y c1), isBay6, sb, isBay7, sb]
      by_cases c2 : 0 ≤ z.toInt ∧ z.toInt ≤ 5
      · rw [if_neg (tf_y c2), if_neg (tf_y c2), lowest3 hX ho, sb, jn_eq, hM.1, show (6 : Int32) = nI 6 from rfl, if_n_eq (by omega) (by decide)]
        cases e : fF (freeB S) 6 0 with
        | none =>
          rw [if_pos ((free_6 ho).mp e), if_pos (show wI none (-1) < 0 by decide)]
          exact ⟨_, _, rfl, rfl, rfl, hC⟩
        | some b =>
          obtain ⟨b1, b2, b3⟩ := fF_some e
          have h6 : ¬ sN S = 6 := fun h => by
            rw [(free_6 ho).mpr h] at e
            cases e
          have hf : wf (sB S) b (sN S) = none := by
            unfold freeB at b3
            cases e' : wf (sB S) b (sN S) with
            | none => rfl
            | some g => rw [e'] at b3; cases b3
          obtain ⟨k, hk, rfl⟩ := l_of (m := 4) c0.1 (by omega)
          obtain ⟨u, hu, rfl⟩ := l_of (m := 99) c1.1 (by omega)
          obtain ⟨l, hl, rfl⟩ := bay_x c2
          obtain ⟨r, er, hr⟩ := enter3 hX (show sN S < 6 by omega) (k := k) (u := u) (b := b) (l := l) (by omega)
          obtain ⟨q, eq, q0, hq2, q3⟩ := comes7 hM (show sN S < 6 by omega) undos k u b l
          rw [if_neg h6, if_neg (show ¬ wI (some b) (-1) < 0 from nI_pos (by omega))]
          unfold f_X2_forget
          rw [sb, show wI (some b) (-1) = nI b from rfl, er, sb, holder50 hM ho undos _ _ _ e, eq, sb]
          refine ⟨_, _, rfl, rfl, ?_, RC_mk (S' := entS S k u b l) (hs' := []) (ok_ent ho (by omega) hk hu (by omega) hl hf) (okH_nil _) hr hq2 (XP_nil hp) ?_⟩
          · show r.2.2.2.2.2 - 1 = q.1 0 - 1
            rw [q3]
            have : r.2.2.2.2.2 = nI (sN S + 1) := hr.1
            rw [this]
          · show isMP _ [] undone q.2
            rw [q0]
            exact MP_nil undone
      · rw [if_pos (tf_x c2), if_pos (tf_x c2)]
        exact ⟨_, _, rfl, rfl, rfl, hC⟩
    · rw [if_pos (tf_x c1), if_pos (tf_x c1)]
      exact ⟨_, _, rfl, rfl, rfl, hC⟩
  · rw [if_pos (tf_x c0), if_pos (tf_x c0)]
    exact ⟨_, _, rfl, rfl, rfl, hC⟩
theorem MP_rows {n : Nat} (hl : okH n hs) (hn : n ≤ 6) (hq : isMP n hs undone undos) {undone' : Nat → Int32} (he : ∀ j, j < 120 → undone' j = undone j) : isMP n hs undone' undos := by
  refine ⟨hq.1, fun i m hi => ?_⟩
  have hil : i < hs.length := by
    rcases Nat.lt_or_ge i hs.length with h | h
    · exact h
    · rw [List.getElem?_eq_none h] at hi; cases hi
  have h8 := hl.1
  obtain ⟨a1, a2, a3, a4⟩ := hq.2 i m hi
  exact ⟨(he _ (by omega)).trans a1, (he _ (by omega)).trans a2, (he _ (by omega)).trans a3, fun h hh => ⟨(he _ (by omega)).trans (a4 h hh).1, (he _ (by omega)).trans (a4 h hh).2⟩⟩
theorem RC_rows (hC : RC kind used bay likes who lamp due count day dues draw mu mb md mz mr next known now undone undos) {now' undone' : Nat → Int32} (h1 : ∀ j, j < 40 → now' j = now j) (h2 : ∀ j, j < 120 → undone' j = undone j) : RC kind used bay likes who lamp due count day dues draw mu mb md mz mr next known now' undone' undos := by
  obtain ⟨S, hs, ho, hh, hX, hM, hp, hq⟩ := hC
  exact ⟨S, hs, ho, hh, hX, M_now (T := S) hM h1 ho, hp, MP_rows hh ho.1 hq h2⟩
theorem become2 {n : Nat} (hn : n ≤ 6) (hp : isXP n hs mu mb md mz mr next known) (nu nb' : Nat → Nat → Int32) (nd nz nr : Nat → Int32) (nn nk : Int32) : ∃ r, f_X2_become nu nb' nd nz nr nn nk mu mb md mz mr next known = some r ∧ isXP n hs r.1 r.2.1 r.2.2.1 r.2.2.2.1 r.2.2.2.2.1 r.2.2.2.2.2.1 r.2.2.2.2.2.2 := by
  unfold f_X2_become
  refine inv_all (fun f (a : (Nat → Nat → Int32) × (Nat → Nat → Int32) × (Nat → Int32) × (Nat → Int32) × (Nat → Int32)) k => f_X2_become_c2 f a.1 a.2.1 a.2.2.1 a.2.2.2.1 a.2.2.2.2 nn nk mu mb md mz mr next known (nI k)) (fun k a => ∀ s, s < k → (∀ h, h < 6 → a.1 s h = mu s h ∧ a.2.1 s h = mb s h) ∧ a.2.2.1 s = md s ∧ a.2.2.2.1 s = mz s ∧ a.2.2.2.2 s = mr s) 8 (fun o => ∃ r, o = some r ∧ isXP n hs r.1 r.2.1 r.2.2.1 r.2.2.2.1 r.2.2.2.2.1 r.2.2.2.2.2.1 r.2.2.2.2.2.2) (by decide) (nu, nb', nd, nz, nr) (fun s hs => by omega) ?_ ?_
  · rintro f k ⟨a1, a2, a3, a4, a5⟩ hk hI
    refine ⟨(va_up a1 k (va_cpy (mu k) (a1 k) 0 0 6), va_up a2 k (va_cpy (mb k) (a2 k) 0 0 6), va_up a3 k (md k), va_up a4 k (mz k), va_up a5 k (mr k)), ?_, ?_⟩
    · show f_X2_become_c2 (f + 1) a1 a2 a3 a4 a5 nn nk mu mb md mz mr next known (nI k) = f_X2_become_c2 f (va_up a1 k (va_cpy (mu k) (a1 k) 0 0 6)) (va_up a2 k (va_cpy (mb k) (a2 k) 0 0 6)) (va_up a3 k (md k)) (va_up a4 k (mz k)) (va_up a5 k (mr k)) nn nk mu mb md mz mr next known (nI (k + 1))
      rw [f_X2_become_c2, if_pos (show nI k < (8 : Int32) from nI_lt (b := 8) hk (by decide)), if_pos (inb_nI hk (by decide)), nI_cl (by omega)]
      unfold f_X1_become
      rw [sb, nI_1]
    · intro s hs'
      show (∀ h, h < 6 → va_up a1 k (va_cpy (mu k) (a1 k) 0 0 6) s h = mu s h ∧ va_up a2 k (va_cpy (mb k) (a2 k) 0 0 6) s h = mb s h) ∧ va_up a3 k (md k) s = md s ∧ va_up a4 k (mz k) s = mz s ∧ va_up a5 k (mr k) s = mr s
      by_cases e : s = k
      · subst e
        rw [up_s, up_s, up_s, up_s, up_s]
        exact ⟨fun h hh => ⟨cp6 _ _ hh, cp6 _ _ hh⟩, rfl, rfl, rfl⟩
      · rw [up_n e, up_n e, up_n e, up_n e, up_n e]
        exact hI s (by omega)
  · rintro f ⟨a1, a2, a3, a4, a5⟩ hI
    refine ⟨(a1, a2, a3, a4, a5, next, known), rfl, ?_⟩
    obtain ⟨nx, hnx, e1, e2, hm⟩ := hp
    refine ⟨nx, hnx, e1, e2, fun i m hi => ?_⟩
    obtain ⟨b1, b2, b3, b4⟩ := hm i m hi
    obtain ⟨g1, g2, g3, g4⟩ := hI ((nx + 7 - i) % 8) (by omega)
    exact ⟨fun h hh => ⟨((g1 h (by omega)).1).trans (b1 h hh).1, ((g1 h (by omega)).2).trans (b1 h hh).2⟩, g2.trans b2, g3.trans b3, g4.trans b4⟩
theorem image7 (now undone : Nat → Int32) (undos : Int32) (kept : Nat → Int32) (ku ik : Int32) : ∃ r, f_X7_image now undone undos kept ku ik = some (1, r, undos, 1) ∧ (∀ j, j < 40 → r j = now j) ∧ ∀ j, j < 120 → r (40 + j) = undone j := by
  unfold f_X7_image
  refine inv_all (fun f a k => f_X7_image_c2 f now undone undos a ku ik (nI k)) (fun k a => ∀ j, j < k → a j = now j) 40 (fun o => ∃ r, o = some (1, r, undos, 1) ∧ (∀ j, j < 40 → r j = now j) ∧ ∀ j, j < 120 → r (40 + j) = undone j) (by decide) kept (fun j hj => by omega) ?_ ?_
  · intro f k a hk hI
    refine ⟨upd a k (now k), ?_, fun j hj => ?_⟩
    · show f_X7_image_c2 (f + 1) now undone undos a ku ik (nI k) = f_X7_image_c2 f now undone undos (upd a k (now k)) ku ik (nI (k + 1))
      rw [f_X7_image_c2, if_pos (show nI k < (40 : Int32) from nI_lt (b := 40) hk (by decide)), jn_eq, if_pos (inb_nI hk (by decide)), if_pos (inb_nI (show k < 160 by omega) (by decide)), nI_cl (by omega), nI_1]
    · by_cases e : j = k
      · subst e; exact pk_us
      · rw [pk_un e]; exact hI j (by omega)
  · intro f a hI
    show ∃ r, f_X7_image_c2 (f + 1) now undone undos a ku ik (nI 40) = some (1, r, undos, 1) ∧ _
    rw [f_X7_image_c2, if_neg (show ¬ nI 40 < (40 : Int32) by decide)]
    refine inv_all (fun f b k => f_X7_image_c28 f now undone undos b ku ik (nI k)) (fun k b => (∀ j, j < 40 → b j = now j) ∧ ∀ j, j < k → b (40 + j) = undone j) 120 (fun o => ∃ r, o = some (1, r, undos, 1) ∧ (∀ j, j < 40 → r j = now j) ∧ ∀ j, j < 120 → r (40 + j) = undone j) (by decide) a ⟨hI, fun j hj => by omega⟩ ?_ ?_
    · rintro f k b hk ⟨h1, h2⟩
      refine ⟨upd b (40 + k) (undone k), ?_, fun j hj => ?_, fun j hj => ?_⟩
      · show f_X7_image_c28 (f + 1) now undone undos b ku ik (nI k) = f_X7_image_c28 f now undone undos (upd b (40 + k) (undone k)) ku ik (nI (k + 1))
        rw [f_X7_image_c28, if_pos (show nI k < (120 : Int32) from nI_lt (b := 120) hk (by decide)), jn_eq, if_pos (inb_nI hk (by decide)), show (40 : Int32) + nI k = nI (40 + k) from n_add 40 k, if_pos (inb_nI (show 40 + k < 160 by omega) (by decide)), nI_cl (by omega), nI_cl (by omega), nI_1]
      · rw [pk_un (by omega)]; exact h1 j hj
      · by_cases e : j = k
        · subst e; exact pk_us
        · rw [pk_un (by omega)]; exact h2 j (by omega)
    · rintro f b ⟨h1, h2⟩
      exact ⟨b, rfl, h1, h2⟩
theorem restore7 (now undone : Nat → Int32) (undos : Int32) (kept : Nat → Int32) (ku : Int32) : ∃ r q, f_X7_restore now undone undos kept ku 1 = some (1, r, q, ku) ∧ (∀ j, j < 40 → r j = kept j) ∧ ∀ j, j < 120 → q j = kept (40 + j) := by
  unfold f_X7_restore
  rw [if_neg (show ¬ (1 : Int32) = 0 by decide)]
  refine inv_all (fun f a k => f_X7_restore_c12 f a undone undos kept ku 1 (nI k)) (fun k a => ∀ j, j < k → a j = kept j) 40 (fun o => ∃ r q, o = some (1, r, q, ku) ∧ (∀ j, j < 40 → r j = kept j) ∧ ∀ j, j < 120 → q j = kept (40 + j)) (by decide) now (fun j hj => by omega) ?_ ?_
  · intro f k a hk hI
    refine ⟨upd a k (kept k), ?_, fun j hj => ?_⟩
    · show f_X7_restore_c12 (f + 1) a undone undos kept ku 1 (nI k) = f_X7_restore_c12 f (upd a k (kept k)) undone undos kept ku 1 (nI (k + 1))
      rw [f_X7_restore_c12, if_pos (show nI k < (40 : Int32) from nI_lt (b := 40) hk (by decide)), jn_eq, if_pos (inb_nI (show k < 160 by omega) (by decide)), if_pos (inb_nI hk (by decide)), nI_cl (by omega), nI_1]
    · by_cases e : j = k
      · subst e; exact pk_us
      · rw [pk_un e]; exact hI j (by omega)
  · intro f a hI
    show ∃ r q, f_X7_restore_c12 (f + 1) a undone undos kept ku 1 (nI 40) = some (1, r, q, ku) ∧ _
    rw [f_X7_restore_c12, if_neg (show ¬ nI 40 < (40 : Int32) by decide)]
    refine inv_all (fun f b k => f_X7_restore_c38 f a b undos kept ku 1 (nI k)) (fun k b => ∀ j, j < k → b j = kept (40 + j)) 120 (fun o => ∃ r q, o = some (1, r, q, ku) ∧ (∀ j, j < 40 → r j = kept j) ∧ ∀ j, j < 120 → q j = kept (40 + j)) (by decide) undone (fun j hj => by omega) ?_ ?_
    · intro f k b hk h2
      refine ⟨upd b k (kept (40 + k)), ?_, fun j hj => ?_⟩
      · show f_X7_restore_c38 (f + 1) a b undos kept ku 1 (nI k) = f_X7_restore_c38 f a (upd b k (kept (40 + k))) undos kept ku 1 (nI (k + 1))
        rw [f_X7_restore_c38, if_pos (show nI k < (120 : Int32) from nI_lt (b := 120) hk (by decide)), jn_eq, show (40 : Int32) + nI k = nI (40 + k) from n_add 40 k, if_pos (inb_nI (show 40 + k < 160 by omega) (by decide)), if_pos (inb_nI hk (by decide)), nI_cl (by omega), nI_cl (by omega), nI_1]
      · by_cases e : j = k
        · subst e; exact pk_us
        · rw [pk_un e]; exact h2 j (by omega)
    · intro f b h2
      exact ⟨a, b, rfl, hI, h2⟩
theorem RC_become (hC : RC kind used bay likes who lamp due count day dues draw mu mb md mz mr next known now undone undos) (fkind fused fbay flikes fwho flamp fdue : Nat → Int32) (fcount fday fdues fdraw : Int32) (nu nb' : Nat → Nat → Int32) (nd nz nr : Nat → Int32) (nn nk : Int32) : ∃ r q, f_X3_become fkind fused fbay flikes fwho flamp fdue fcount fday fdues fdraw kind used bay likes who lamp due count day dues draw = some r ∧ f_X2_become nu nb' nd nz nr nn nk mu mb md mz mr next known = some q ∧ RC r.1 r.2.1 r.2.2.1 r.2.2.2.1 r.2.2.2.2.1 r.2.2.2.2.2.1 r.2.2.2.2.2.2.1 r.2.2.2.2.2.2.2.1 r.2.2.2.2.2.2.2.2.1 r.2.2.2.2.2.2.2.2.2.1 r.2.2.2.2.2.2.2.2.2.2 q.1 q.2.1 q.2.2.1 q.2.2.2.1 q.2.2.2.2.1 q.2.2.2.2.2.1 q.2.2.2.2.2.2 now undone undos := by
  obtain ⟨S, hs, ho, hh, hX, hM, hp, hq⟩ := hC
  obtain ⟨r, e1, hr⟩ := become3 hX ho fkind fused fbay flikes fwho flamp fdue fcount fday fdues fdraw
  obtain ⟨q, e2, hq2⟩ := become2 ho.1 hp nu nb' nd nz nr nn nk
  exact ⟨r, q, e1, e2, RC_mk ho hh hr hM hq2 hq⟩
end HD
theorem S_holder : St_holder Rel := by
  intro t_now_kind t_now_used t_now_bay t_now_likes t_now_who t_now_lamp t_now_due t_now_gain t_now_count t_now_day t_now_dues t_now_draw t_past_marks_used t_past_marks_bay t_past_marks_day t_past_marks_dues t_past_marks_draw t_past_next t_past_known t_foreseen_kind t_foreseen_used t_foreseen_bay t_foreseen_likes t_foreseen_who t_foreseen_lamp t_foreseen_due t_foreseen_gain t_foreseen_count t_foreseen_day t_foreseen_dues t_foreseen_draw t_imageOfNow_kind t_imageOfNow_used t_imageOfNow_bay t_imageOfNow_likes t_imageOfNow_who t_imageOfNow_lamp t_imageOfNow_due t_imageOfNow_gain t_imageOfNow_count t_imageOfNow_day t_imageOfNow_dues t_imageOfNow_draw t_imageOfPast_marks_used t_imageOfPast_marks_bay t_imageOfPast_marks_day t_imageOfPast_marks_dues t_imageOfPast_marks_draw t_imageOfPast_next t_imageOfPast_known t_hasImage t_deal_bay t_deal_best t_deal_worth t_deal_free t_deal_count t_tape_letters t_tape_length t_tape_place t_sheets_items t_sheets_lane t_sheets_size u_now u_mores u_tape u_typed u_place u_isFault u_readLamps u_read u_undone u_undos u_aside u_bays u_bests u_kept u_keptUndos u_isKept u_lanes u_sizes u_items u_moved y0 y1 y2 hR
  obtain ⟨hC, hI, hT, hS⟩ := hR
  obtain ⟨rx, rm, e1, e2, e3, e4⟩ := st_holder hC y0 y1 y2
  exact ⟨rx, rm, e1, e2, e3, e4, hI, hT, hS⟩
theorem S_image : St_image Rel := by
  intro t_now_kind t_now_used t_now_bay t_now_likes t_now_who t_now_lamp t_now_due t_now_gain t_now_count t_now_day t_now_dues t_now_draw t_past_marks_used t_past_marks_bay t_past_marks_day t_past_marks_dues t_past_marks_draw t_past_next t_past_known t_foreseen_kind t_foreseen_used t_foreseen_bay t_foreseen_likes t_foreseen_who t_foreseen_lamp t_foreseen_due t_foreseen_gain t_foreseen_count t_foreseen_day t_foreseen_dues t_foreseen_draw t_imageOfNow_kind t_imageOfNow_used t_imageOfNow_bay t_imageOfNow_likes t_imageOfNow_who t_imageOfNow_lamp t_imageOfNow_due t_imageOfNow_gain t_imageOfNow_count t_imageOfNow_day t_imageOfNow_dues t_imageOfNow_draw t_imageOfPast_marks_used t_imageOfPast_marks_bay t_imageOfPast_marks_day t_imageOfPast_marks_dues t_imageOfPast_marks_draw t_imageOfPast_next t_imageOfPast_known t_hasImage t_deal_bay t_deal_best t_deal_worth t_deal_free t_deal_count t_tape_letters t_tape_length t_tape_place t_sheets_items t_sheets_lane t_sheets_size u_now u_mores u_tape u_typed u_place u_isFault u_readLamps u_read u_undone u_undos u_aside u_bays u_bests u_kept u_keptUndos u_isKept u_lanes u_sizes u_items u_moved  hR
  obtain ⟨hC, hI, hT, hS⟩ := hR
  obtain ⟨r, q, e1, e2, e3⟩ := RC_become hC t_imageOfNow_kind t_imageOfNow_used t_imageOfNow_bay t_imageOfNow_likes t_imageOfNow_who t_imageOfNow_lamp t_imageOfNow_due t_imageOfNow_count t_imageOfNow_day t_imageOfNow_dues t_imageOfNow_draw t_imageOfPast_marks_used t_imageOfPast_marks_bay t_imageOfPast_marks_day t_imageOfPast_marks_dues t_imageOfPast_marks_draw t_imageOfPast_next t_imageOfPast_known
  obtain ⟨k, e4, e5, e6⟩ := image7 u_now u_undone u_undos u_kept u_keptUndos u_isKept
  unfold f_X6_image
  rw [e1, sb, e2, sb]
  exact ⟨_, _, rfl, e4, rfl, hC, Or.inr ⟨rfl, rfl, RC_rows e3 e5 e6⟩, hT, hS⟩
theorem S_restore : St_restore Rel := by
  intro t_now_kind t_now_used t_now_bay t_now_likes t_now_who t_now_lamp t_now_due t_now_gain t_now_count t_now_day t_now_dues t_now_draw t_past_marks_used t_past_marks_bay t_past_marks_day t_past_marks_dues t_past_marks_draw t_past_next t_past_known t_foreseen_kind t_foreseen_used t_foreseen_bay t_foreseen_likes t_foreseen_who t_foreseen_lamp t_foreseen_due t_foreseen_gain t_foreseen_count t_foreseen_day t_foreseen_dues t_foreseen_draw t_imageOfNow_kind t_imageOfNow_used t_imageOfNow_bay t_imageOfNow_likes t_imageOfNow_who t_imageOfNow_lamp t_imageOfNow_due t_imageOfNow_gain t_imageOfNow_count t_imageOfNow_day t_imageOfNow_dues t_imageOfNow_draw t_imageOfPast_marks_used t_imageOfPast_marks_bay t_imageOfPast_marks_day t_imageOfPast_marks_dues t_imageOfPast_marks_draw t_imageOfPast_next t_imageOfPast_known t_hasImage t_deal_bay t_deal_best t_deal_worth t_deal_free t_deal_count t_tape_letters t_tape_length t_tape_place t_sheets_items t_sheets_lane t_sheets_size u_now u_mores u_tape u_typed u_place u_isFault u_readLamps u_read u_undone u_undos u_aside u_bays u_bests u_kept u_keptUndos u_isKept u_lanes u_sizes u_items u_moved  hR
  obtain ⟨hC, hI, hT, hS⟩ := hR
  rcases id hI with ⟨h1, h2⟩ | ⟨h1, h2, h3⟩
  · subst h1
    subst h2
    unfold f_X6_restore f_X7_restore
    rw [if_pos rfl, if_pos rfl]
    exact ⟨_, _, rfl, rfl, rfl, hC, hI, hT, hS⟩
  · subst h1
    subst h2
    obtain ⟨r, q, e1, e2, e3⟩ := RC_become h3 t_now_kind t_now_used t_now_bay t_now_likes t_now_who t_now_lamp t_now_due t_now_count t_now_day t_now_dues t_now_draw t_past_marks_used t_past_marks_bay t_past_marks_day t_past_marks_dues t_past_marks_draw t_past_next t_past_known
    obtain ⟨k, k2, e4, e5, e6⟩ := restore7 u_now u_undone u_undos u_kept u_keptUndos
    unfold f_X6_restore
    rw [if_neg (show ¬ (1 : Int32) = 0 by decide), e1, sb, e2, sb]
    exact ⟨_, _, rfl, e4, rfl, RC_rows e3 e5 e6, hI, hT, hS⟩
