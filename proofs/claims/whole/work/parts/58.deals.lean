/-! MATHEMATICS 29: the reference's deals -/
theorem qd_t {n t N : Nat} (ht : t < 64) : qd n t N = (injD n N 0 && Nat.beq (msk (dg n N) n) t) := by
  have h : Nat.beq t 64 = false := by
    cases e : Nat.beq t 64 with
    | false => rfl
    | true =>
      have := Nat.eq_of_beq_eq_true e
      omega
  unfold qd
  rw [h]
  cases injD n N 0 <;> rfl
theorem ok_dg {S : Sc} (ho : okS S) {N : Nat} (h : injD (sN S) N 0 = true) : okS (withB S (dg (sN S) N)) := ok_withB ho (fun k _ => dg_lt _ _ k) (inj_iff (by decide) h).2
def stI (v : Nat → Int32) (a : Nat × Int32) (N : Nat) : Nat × Int32 := if v N < a.2 then (N, v N) else a
/-- what a way of sitting is worth: one's use, or dues below 0 -/
def vB (S : Sc) (m : Nat) (x : Int32) (B : Nat → Nat) : Int32 := if x < 0 then -(nI (dueN m (withB S B))) else nI (sU (passN m (withB S B)) x.toNatClampNeg)
theorem sub_self_add (a b : Int32) : a - (a + b) = -b := by
  rw [← Int32.neg_sub, Int32.add_comm, Int32.add_sub_cancel]
section DL
variable {kind used bay likes who lamp due : Nat → Int32} {count day dues draw : Int32} {fkind fused fbay flikes fwho flamp fdue fgain : Nat → Int32} {fcount fday fdues fdraw : Int32} {mu mb : Nat → Nat → Int32} {md mz mr : Nat → Int32} {next known : Int32} {now undone : Nat → Int32} {undos : Int32} {S : Sc}
theorem sat7 (hM : isM S now) (ho : okS S) : f_X7_sat now = some (nI (msk (sB S) (sN S))) := by
  have hn := ho.1
  unfold f_X7_sat
  refine pre_all (fun f (a : Int32) k => f_X7_sat_c4 f now a (nI k)) (fun k => nI (msk (sB S) k)) (sN S) _ (by omega) ?_ ?_
  · intro f k hk
    show f_X7_sat_c4 (f + 1) now (nI (msk (sB S) k)) (nI k) = f_X7_sat_c4 f now (nI (msk (sB S) (k + 1))) (nI (k + 1))
    rw [f_X7_sat_c4, jn_eq, hM.1, if_pos (nI_lt hk (by omega)), bay7 hM ho hk, sb, msk_s (fun g hg => (ho.2.1 g (by omega)).2.2.1), nI_1]
  · intro f
    show f_X7_sat_c4 (f + 1) now (nI (msk (sB S) (sN S))) (nI (sN S)) = _
    rw [f_X7_sat_c4, jn_eq, hM.1, if_neg (nI_nlt (Nat.le_refl _) (by omega))]
theorem held3 (hX : isX S kind used bay likes who lamp due count day dues draw) (ho : okS S) : f_X3_heldBays bay count = some (nI (msk (sB S) (sN S))) := by
  have hn := ho.1
  have x0 := hX.1
  unfold f_X3_heldBays
  refine pre_all (fun f (a : Int32) k => f_X3_heldBays_c4 f bay count a (nI k)) (fun k => nI (msk (sB S) k)) (sN S) _ (by omega) ?_ ?_
  · intro f k hk
    show f_X3_heldBays_c4 (f + 1) bay count (nI (msk (sB S) k)) (nI k) = f_X3_heldBays_c4 f bay count (nI (msk (sB S) (k + 1))) (nI (k + 1))
    rw [f_X3_heldBays_c4, if_pos (by rw [x0]; exact nI_lt hk (by omega)), if_pos (inb_nI (show k < 6 by omega) (by decide)), nI_cl (by omega), (hX.2.2.2.2.1 k hk).2.2.1, jn_eq, msk_s (fun g hg => (ho.2.1 g (by omega)).2.2.1), nI_1]
  · intro f
    show f_X3_heldBays_c4 (f + 1) bay count (nI (msk (sB S) (sN S))) (nI (sN S)) = _
    rw [f_X3_heldBays_c4, if_neg (by rw [x0]; exact nI_nlt (Nat.le_refl _) (by omega))]
theorem deals43 (hM : isM S now) (ho : okS S) {B : Nat → Nat} (hB : ∀ h, h < sN S → B h < 6) (k22) (mores aside b bests : Nat → Int32) (x1 x2 x3 x4 x5 x6 x7 : Int32) (hb : ∀ h, h < sN S → b h = nI (B h)) : f_X7_deals_c43 k22 fu now mores aside b bests x1 x2 x3 x4 x5 x6 x7 0 0 = if x7 = 0 then f_X7_deals_c207 k22 now mores aside b bests x1 x2 x3 x4 x5 x6 else if nI (msk B (sN S)) = x3 then f_X7_deals_c88 k22 fu now mores aside b bests x1 x2 x3 x4 x5 x6 0 else f_X7_deals_c207 k22 now mores aside b bests x1 x2 x3 x4 x5 x6 := by
  have hn := ho.1
  refine pre_all (fun f (a : Int32) k => f_X7_deals_c43 k22 f now mores aside b bests x1 x2 x3 x4 x5 x6 x7 a (nI k)) (fun k => nI (msk B k)) (sN S) _ (by omega) ?_ ?_
  · intro f k hk
    show f_X7_deals_c43 k22 (f + 1) now mores aside b bests x1 x2 x3 x4 x5 x6 x7 (nI (msk B k)) (nI k) = f_X7_deals_c43 k22 f now mores aside b bests x1 x2 x3 x4 x5 x6 x7 (nI (msk B (k + 1))) (nI (k + 1))
    rw [f_X7_deals_c43, jn_eq, hM.1, if_pos (nI_lt hk (by omega)), if_pos (inb_nI (show k < 6 by omega) (by decide)), nI_cl (by omega), hb k hk, jn_eq, msk_s (fun g hg => hB g (by omega)), nI_1]
  · intro f
    show f_X7_deals_c43 k22 (f + 1) now mores aside b bests x1 x2 x3 x4 x5 x6 x7 (nI (msk B (sN S))) (nI (sN S)) = _
    rw [f_X7_deals_c43, jn_eq, hM.1, if_neg (nI_nlt (Nat.le_refl _) (by omega))]
theorem deals88 (hM : isM S now) (ho : okS S) {B : Nat → Nat} (hok : okS (withB S B)) {m : Nat} (hm : m ≤ 40) (k22) (mores aside b bests : Nat → Int32) (has : ∀ j, j < 40 → aside j = now j) (x1 x3 x4 x5 x6 : Int32) (hx : x1 < 0 ∨ ∃ h, h < sN S ∧ x1 = nI h) (hb : ∀ h, h < sN S → b h = nI (B h)) : ∃ r mo, f_X7_deals_c88 k22 fu now mores aside b bests x1 (nI m) x3 x4 x5 x6 0 = f_X7_deals_c148 k22 r mo aside b bests x1 (nI m) x3 x4 x5 x6 (vB S m x1 B) := by
  have hn := ho.1
  refine inv_all (fun f a k => f_X7_deals_c88 k22 f a mores aside b bests x1 (nI m) x3 x4 x5 x6 (nI k)) (fun k a => (∀ j, j < 40 → (∀ h, h < sN S → j ≠ 4 + 4 * h + 2) → a j = now j) ∧ ∀ h, h < k → a (4 + 4 * h + 2) = nI (B h)) (sN S) (fun o => ∃ r mo, o = f_X7_deals_c148 k22 r mo aside b bests x1 (nI m) x3 x4 x5 x6 (vB S m x1 B)) (by omega) now ⟨fun j _ _ => rfl, fun h hh => by omega⟩ ?_ ?_
  · rintro f k a hk ⟨h1, h2⟩
    have h0 : a 0 = nI (sN S) := (h1 0 (by decide) (fun h _ => by omega)).trans hM.1
    refine ⟨upd a (4 + 4 * k + 2) (nI (B k)), ?_, fun j hj hj2 => ?_, fun h hh => ?_⟩
    · show f_X7_deals_c88 k22 (f + 1) a mores aside b bests x1 (nI m) x3 x4 x5 x6 (nI k) = f_X7_deals_c88 k22 f (upd a (4 + 4 * k + 2) (nI (B k))) mores aside b bests x1 (nI m) x3 x4 x5 x6 (nI (k + 1))
      rw [f_X7_deals_c88, jn_eq, h0, if_pos (nI_lt hk (by omega)), if_pos (inb_nI (show k < 6 by omega) (by decide)), nI_cl (by omega), hb k hk, jn_eq, sits7 _ (by omega), sb, nI_1]
    · rw [pk_un (hj2 k hk)]
      exact h1 j hj hj2
    · by_cases e : h = k
      · subst e; exact pk_us
      · rw [pk_un (by omega)]
        exact h2 h (by omega)
  · rintro f a ⟨h1, h2⟩
    have h0 : a 0 = nI (sN S) := (h1 0 (by decide) (fun h _ => by omega)).trans hM.1
    have hMB : isM (withB S B) a := M_withB hM hn h1 h2
    obtain ⟨g, eg, hg⟩ := goesOn7 mores hMB hok (k := m) (by omega)
    refine ⟨g.1, g.2, ?_⟩
    show f_X7_deals_c88 k22 (f + 1) a mores aside b bests x1 (nI m) x3 x4 x5 x6 (nI (sN S)) = _
    rw [f_X7_deals_c88, jn_eq, h0, if_neg (nI_nlt (Nat.le_refl _) (by omega)), eg, sb]
    unfold vB
    rcases hx with hx | ⟨h, hh, rfl⟩
    · rw [if_pos hx, if_pos hx, jn_eq, jn_eq, has 2 (by decide), hM.2.2.1, hg.2.2.1, dueN_Z]
      have e : sZ (withB S B) = sZ S := rfl
      rw [e, sub_self_add]
    · have hNm : sN (passN m (withB S B)) = sN S := passN_N m (withB S B)
      rw [if_neg (nI_pos (by omega)), if_neg (nI_pos (by omega)), used7 hg (ok_passN m hok) (by omega), sb, nI_cl (by omega)]
theorem deals148 (k22) (r mo aside b bests : Nat → Int32) (x1 x2 x3 x4 x5 x6 v : Int32) : ∃ b2 bests', f_X7_deals_c148 k22 r mo aside b bests x1 x2 x3 x4 x5 x6 v = k22 b2 mo aside b bests' x1 x2 x3 x4 (if v < x5 then v else x5) (x6 + 1) ∧ (∀ j, j < 40 → b2 j = aside j) ∧ (v < x5 → ∀ h, h < 6 → bests' h = b h) ∧ (¬ v < x5 → bests' = bests) := by
  obtain ⟨b2, eb, hb⟩ := backs7 r aside
  unfold f_X7_deals_c148
  rw [eb, sb]
  by_cases c : v < x5
  · have key : ∃ bests', f_X7_deals_c157 k22 fu b2 mo aside b bests x1 x2 x3 x4 x5 x6 v 0 = k22 b2 mo aside b bests' x1 x2 x3 x4 v (x6 + 1) ∧ ∀ h, h < 6 → bests' h = b h := by
      refine inv_all (fun f a k => f_X7_deals_c157 k22 f b2 mo aside b a x1 x2 x3 x4 x5 x6 v (nI k)) (fun k a => ∀ h, h < k → a h = b h) 6 (fun o => ∃ bests', o = k22 b2 mo aside b bests' x1 x2 x3 x4 v (x6 + 1) ∧ ∀ h, h < 6 → bests' h = b h) (by decide) bests (fun h hh => by omega) ?_ ?_
      · intro f k a hk hI
        refine ⟨upd a k (b k), ?_, fun h hh => ?_⟩
        · show f_X7_deals_c157 k22 (f + 1) b2 mo aside b a x1 x2 x3 x4 x5 x6 v (nI k) = f_X7_deals_c157 k22 f b2 mo aside b (upd a k (b k)) x1 x2 x3 x4 x5 x6 v (nI (k + 1))
          rw [f_X7_deals_c157, if_pos (show nI k < (6 : Int32) from nI_lt (b := 6) hk (by decide)), if_pos c, if_pos (inb_nI hk (by decide)), nI_cl (by omega), jn_eq, nI_1]
        · by_cases e : h = k
          · subst e; exact pk_us
          · rw [pk_un e]; exact hI h (by omega)
      · intro f a hI
        refine ⟨a, ?_, hI⟩
        show f_X7_deals_c157 k22 (f + 1) b2 mo aside b a x1 x2 x3 x4 x5 x6 v (nI 6) = _
        rw [f_X7_deals_c157, if_neg (show ¬ nI 6 < (6 : Int32) by decide)]
        unfold f_X7_deals_c191 f_X7_deals_c207
        rw [jn_eq, if_pos c]
    obtain ⟨bests', e1, e2⟩ := key
    refine ⟨b2, bests', ?_, hb, fun _ => e2, fun n => absurd c n⟩
    rw [e1, if_pos c]
  · refine ⟨b2, bests, ?_, hb, fun n => absurd n c, fun _ => rfl⟩
    show f_X7_deals_c157 k22 (99999 + 1) b2 mo aside b bests x1 x2 x3 x4 x5 x6 v 0 = _
    rw [f_X7_deals_c157, if_pos (show (0 : Int32) < 6 by decide), if_neg c]
    unfold f_X7_deals_c191 f_X7_deals_c207
    rw [jn_eq]
theorem deals22 (hM : isM S now) (ho : okS S) {m : Nat} (hm : m ≤ 40) (aside : Nat → Int32) (has : ∀ j, j < 40 → aside j = now j) (x1 : Int32) (hx : x1 < 0 ∨ ∃ h, h < sN S ∧ x1 = nI h) : ∀ d N f (a mo b bests : Nat → Int32) (ac : Nat × Int32), N + d = 6 ^ sN S → d < f → (∀ j, j < 40 → a j = aside j) → (ac.2 = 999999 ∨ ∀ h, h < sN S → bests h = nI (dg (sN S) ac.1 h)) → ∃ r, f_X7_deals_c22 f a mo aside b bests x1 (nI m) (nI (msk (sB S) (sN S))) (nI (6 ^ sN S)) ac.2 (nI N) = some r ∧ r.1 = (foD (qd (sN S) (msk (sB S) (sN S))) (stI (fun N => vB S m x1 (dg (sN S) N))) d N ac).2 ∧ (∀ j, j < 40 → r.2.1 j = aside j) ∧ ((foD (qd (sN S) (msk (sB S) (sN S))) (stI (fun N => vB S m x1 (dg (sN S) N))) d N ac).2 = 999999 ∨ ∀ h, h < sN S → r.2.2.2.2.2 h = nI (dg (sN S) (foD (qd (sN S) (msk (sB S) (sN S))) (stI (fun N => vB S m x1 (dg (sN S) N))) d N ac).1 h)) := by
  have hn := ho.1
  have h6 := p6 hn
  have ht : msk (sB S) (sN S) < 64 := msk_lt (fun h hh => (ho.2.1 h hh).2.2.1)
  intro d
  induction d with
  | zero =>
    intro N f a mo b bests ac hN hf ha hbe
    obtain ⟨f, rfl⟩ : ∃ g, f = g + 1 := ⟨f - 1, by omega⟩
    have : N = 6 ^ sN S := by omega
    subst this
    rw [f_X7_deals_c22, if_neg (nI_nlt (Nat.le_refl _) (by omega))]
    exact ⟨_, rfl, rfl, ha, hbe⟩
  | succ d ih =>
    intro N f a mo b bests ac hN hf ha hbe
    obtain ⟨f, rfl⟩ : ∃ g, f = g + 1 := ⟨f - 1, by omega⟩
    have hMa : isM S a := M_now (T := S) hM (fun j hj => (ha j hj).trans (has j hj)) ho
    obtain ⟨b', eb, hb'⟩ := dealt7 hMa ho b (N := N) (by omega)
    rw [f_X7_deals_c22, if_pos (nI_lt (show N < 6 ^ sN S by omega) (by omega)), eb, sb, deals43 hMa ho (B := dg (sN S) N) (fun h _ => dg_lt _ _ h) _ _ _ _ _ _ _ _ _ _ _ _ hb', foD_s, qd_t ht]
    have hm1 : msk (dg (sN S) N) (sN S) < 64 := msk_lt (fun h _ => dg_lt _ _ h)
    have skip : ∃ r, f_X7_deals_c207 (f_X7_deals_c22 f) a mo aside b' bests x1 (nI m) (nI (msk (sB S) (sN S))) (nI (6 ^ sN S)) ac.2 (nI N) = some r ∧ r.1 = (foD (qd (sN S) (msk (sB S) (sN S))) (stI (fun N => vB S m x1 (dg (sN S) N))) d (N + 1) ac).2 ∧ (∀ j, j < 40 → r.2.1 j = aside j) ∧ ((foD (qd (sN S) (msk (sB S) (sN S))) (stI (fun N => vB S m x1 (dg (sN S) N))) d (N + 1) ac).2 = 999999 ∨ ∀ h, h < sN S → r.2.2.2.2.2 h = nI (dg (sN S) (foD (qd (sN S) (msk (sB S) (sN S))) (stI (fun N => vB S m x1 (dg (sN S) N))) d (N + 1) ac).1 h)) := by
      unfold f_X7_deals_c207
      rw [nI_1]
      exact ih (N + 1) f a mo b' bests ac (by omega) (by omega) ha hbe
    cases c : injD (sN S) N 0 with
    | false =>
      rw [if_pos (show tf false = 0 from rfl), if_neg (by rw [Bool.false_and]; decide)]
      exact skip
    | true =>
      rw [if_neg (show ¬ tf true = 0 by decide), Bool.true_and]
      by_cases c2 : msk (dg (sN S) N) (sN S) = msk (sB S) (sN S)
      · rw [if_pos (by rw [c2]), if_pos (by rw [c2]; exact Nat.beq_refl _)]
        obtain ⟨r, mo2, e1⟩ := deals88 hMa ho (ok_dg ho c) hm (f_X7_deals_c22 f) mo aside b' bests (fun j hj => (ha j hj).symm) x1 (nI (msk (sB S) (sN S))) (nI (6 ^ sN S)) ac.2 (nI N) hx hb'
        obtain ⟨b2, be2, e2, e3, e4, e5⟩ := deals148 (f_X7_deals_c22 f) r mo2 aside b' bests x1 (nI m) (nI (msk (sB S) (sN S))) (nI (6 ^ sN S)) ac.2 (nI N) (vB S m x1 (dg (sN S) N))
        rw [e1, e2, nI_1]
        have e6 : (if vB S m x1 (dg (sN S) N) < ac.2 then vB S m x1 (dg (sN S) N) else ac.2) = (stI (fun N => vB S m x1 (dg (sN S) N)) ac N).2 := by
          unfold stI
          show _ = (if vB S m x1 (dg (sN S) N) < ac.2 then (N, vB S m x1 (dg (sN S) N)) else ac).2
          split <;> rfl
        rw [e6]
        refine ih (N + 1) f b2 mo2 b' be2 _ (by omega) (by omega) e3 ?_
        by_cases c3 : vB S m x1 (dg (sN S) N) < ac.2
        · right
          intro h hh
          have e7 : stI (fun N => vB S m x1 (dg (sN S) N)) ac N = (N, vB S m x1 (dg (sN S) N)) := if_pos c3
          rw [e7, e4 c3 h (by omega), hb' h hh]
        · have e7 : stI (fun N => vB S m x1 (dg (sN S) N)) ac N = ac := if_neg c3
          rw [e7, e5 c3]
          exact hbe
      · rw [if_neg (fun e => c2 (by rw [n_eq (by omega) (by omega)] at e; exact e)), if_neg (fun e => c2 (Nat.eq_of_beq_eq_true e))]
        exact skip
theorem deals7 (hM : isM S now) (ho : okS S) {m : Nat} (hm : m ≤ 40) (mores aside b bests : Nat → Int32) (x1 : Int32) (hx : x1 < 0 ∨ ∃ h, h < sN S ∧ x1 = nI h) : ∃ r, f_X7_deals now mores aside b bests x1 (nI m) = some r ∧ r.1 = (foD (qd (sN S) (msk (sB S) (sN S))) (stI (fun N => vB S m x1 (dg (sN S) N))) (6 ^ sN S) 0 (0, 999999)).2 ∧ (∀ j, j < 40 → r.2.1 j = now j) ∧ ((foD (qd (sN S) (msk (sB S) (sN S))) (stI (fun N => vB S m x1 (dg (sN S) N))) (6 ^ sN S) 0 (0, 999999)).2 = 999999 ∨ ∀ h, h < sN S → r.2.2.2.2.2 h = nI (dg (sN S) (foD (qd (sN S) (msk (sB S) (sN S))) (stI (fun N => vB S m x1 (dg (sN S) N))) (6 ^ sN S) 0 (0, 999999)).1 h)) := by
  have h6 := p6 ho.1
  have hfu : fu = 100000 := rfl
  obtain ⟨as, ea, ha⟩ := asides7 now aside
  obtain ⟨r, e1, e2, e3, e4⟩ := deals22 hM ho hm as ha x1 hx (6 ^ sN S) 0 fu now mores b bests (0, 999999) (by omega) (by omega) (fun j hj => (ha j hj).symm) (Or.inl rfl)
  refine ⟨r, ?_, e2, fun j hj => (e3 j hj).trans (ha j hj), e4⟩
  unfold f_X7_deals
  rw [sat7 hM ho, sb, numbers7 hM ho, sb, ea, sb]
  exact e1
theorem fo_map {A C : Type} {q : Nat → Bool} {st : A → Nat → A} {st' : C → Nat → C} {g : A → C} {I : A → Prop} (h : ∀ a N, q N = true → I a → I (st a N) ∧ g (st a N) = st' (g a) N) : ∀ d N a, I a → I (foD q st d N a) ∧ g (foD q st d N a) = foD q st' d N (g a) := by
  intro d
  induction d with
  | zero => intro N a hI; exact ⟨hI, rfl⟩
  | succ d ih =>
    intro N a hI
    rw [foD_s, foD_s]
    by_cases c : q N = true
    · rw [if_pos c, if_pos c, ← (h a N c hI).2]
      exact ih (N + 1) _ (h a N c hI).1
    · rw [if_neg c, if_neg c]
      exact ih (N + 1) a hI
end DL
