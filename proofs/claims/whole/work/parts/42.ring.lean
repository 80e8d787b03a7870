/-! MATHEMATICS 13: what is kept to be undone -/
def mkS (S : Sc) : Mk := (sU S, sB S, sY S, sZ S, sR S)
/-- one more known deed -/
def pushH (m : Mk) (hs : List Mk) : List Mk := (m :: hs).take 8
theorem okM_S {S : Sc} (ho : okS S) : okM (sN S) (mkS S) := ⟨fun h hh => ⟨(ho.2.1 h hh).2.1, (ho.2.1 h hh).2.2.1⟩, ho.2.2.1, ho.2.2.2.2⟩
theorem okH_push {n : Nat} {m : Mk} {hs : List Mk} (hm : okM n m) (hh : okH n hs) : okH n (pushH m hs) := by
  refine ⟨?_, fun x hx => ?_⟩
  · unfold pushH
    rw [List.length_take]
    omega
  · have hx' : x ∈ m :: hs := List.mem_of_mem_take hx
    rcases List.mem_cons.mp hx' with e | e
    · subst e; exact hm
    · exact hh.2 x e
theorem push_0 (m : Mk) (hs : List Mk) : (pushH m hs)[0]? = some m := rfl
theorem push_s (m : Mk) (hs : List Mk) (i : Nat) {x : Mk} (h : (pushH m hs)[i + 1]? = some x) : i < 7 ∧ hs[i]? = some x := by
  unfold pushH at h
  rw [List.getElem?_take] at h
  by_cases c : i + 1 < 8
  · rw [if_pos c, List.getElem?_cons_succ] at h
    exact ⟨by omega, h⟩
  · rw [if_neg c] at h
    cases h
theorem push_len (m : Mk) {hs : List Mk} : (pushH m hs).length = min 8 (hs.length + 1) := by
  unfold pushH
  rw [List.length_take, List.length_cons]
theorem up_s {α : Type} {f : Nat → α} {k : Nat} {x : α} : va_up f k x k = x := if_pos rfl
theorem up_n {α : Type} {f : Nat → α} {k j : Nat} {x : α} (h : j ≠ k) : va_up f k x j = f j := if_neg h
section RG
variable {kind used bay likes who lamp due : Nat → Int32} {count day dues draw : Int32} {fkind fused fbay flikes fwho flamp fdue fgain : Nat → Int32} {fcount fday fdues fdraw : Int32} {mu mb : Nat → Nat → Int32} {md mz mr : Nat → Int32} {next known : Int32} {now undone : Nat → Int32} {undos : Int32} {S : Sc} {hs : List Mk}
theorem keep2 (hX : isX S kind used bay likes who lamp due count day dues draw) (ho : okS S) (hh : okH (sN S) hs) (hp : isXP (sN S) hs mu mb md mz mr next known) : ∃ r, f_X2_keep mu mb md mz mr next known used bay day dues draw = some r ∧ isXP (sN S) (pushH (mkS S) hs) r.1 r.2.1 r.2.2.1 r.2.2.2.1 r.2.2.2.2.1 r.2.2.2.2.2.1 r.2.2.2.2.2.2 := by
  have hn := ho.1
  obtain ⟨x0, x1, x2, x3, x4, x5, x6⟩ := hX
  obtain ⟨nx, hnx, e1, e2, hm⟩ := hp
  have hl := hh.1
  unfold f_X2_keep f_X1_note
  rw [e1, if_pos (inb_nI hnx (by decide)), nI_cl (by omega), sb, jn_eq]
  refine ⟨_, rfl, (nx + 1) % 8, by omega, ?_, ?_, ?_⟩
  · show nI nx + 1 - (nI nx + 1) / 8 * 8 = nI ((nx + 1) % 8)
    rw [nI_1]
    exact pk_rem (d := 8) (by omega) (by decide) (by decide)
  · show (if known + 1 < 8 then known + 1 else 8) = nI (pushH (mkS S) hs).length
    rw [e2, nI_1, push_len, show (8 : Int32) = nI 8 from rfl, if_n_lt (by omega) (by decide)]
    by_cases c : hs.length + 1 < 8
    · rw [if_pos c, Nat.min_eq_right (by omega)]
    · rw [if_neg c, Nat.min_eq_left (by omega)]
  · intro i m hi
    cases i with
    | zero =>
      rw [push_0] at hi
      cases hi
      have e : ((nx + 1) % 8 + 7 - 0) % 8 = nx := by omega
      rw [e]
      refine ⟨fun h hlt => ?_, ?_, ?_, ?_⟩
      · obtain ⟨a1, a2, a3, a4⟩ := x4 h hlt
        refine ⟨?_, ?_⟩
        · show va_up mu nx _ nx h = _
          rw [up_s]
          exact (cp6 used _ (show h < 6 by omega)).trans a2
        · show va_up mb nx _ nx h = _
          rw [up_s]
          exact (cp6 bay _ (show h < 6 by omega)).trans a3
      · show va_up md nx _ nx = _
        rw [up_s]
        exact x1
      · show va_up mz nx _ nx = _
        rw [up_s]
        exact x2
      · show va_up mr nx _ nx = _
        rw [up_s]
        exact x3
    | succ i =>
      obtain ⟨h7, hi'⟩ := push_s _ _ i hi
      have e : ((nx + 1) % 8 + 7 - (i + 1)) % 8 = (nx + 7 - i) % 8 := by omega
      have ne : (nx + 7 - i) % 8 ≠ nx := by omega
      rw [e]
      obtain ⟨b1, b2, b3, b4⟩ := hm i m hi'
      refine ⟨fun h hlt => ?_, ?_, ?_, ?_⟩
      · refine ⟨?_, ?_⟩
        · show va_up mu nx _ _ h = _
          rw [up_n ne]
          exact (b1 h hlt).1
        · show va_up mb nx _ _ h = _
          rw [up_n ne]
          exact (b1 h hlt).2
      · show va_up md nx _ _ = _
        rw [up_n ne]
        exact b2
      · show va_up mz nx _ _ = _
        rw [up_n ne]
        exact b3
      · show va_up mr nx _ _ = _
        rw [up_n ne]
        exact b4
theorem notes84 (now undone : Nat → Int32) (undos : Int32) {t : Nat} (ht : t < 8) : ∃ r, f_X7_notes_c84 fu now undone undos (nI (15 * t)) 0 = some (r, undos + 1) ∧ (∀ j, j < 15 * t + 3 → r j = undone j) ∧ ∀ h, h < 6 → r (15 * t + 3 + h) = now (4 + 4 * h + 1) ∧ r (15 * t + 9 + h) = now (4 + 4 * h + 2) := by
  refine inv_all (fun f a k => f_X7_notes_c84 f now a undos (nI (15 * t)) (nI k)) (fun k a => (∀ j, j < 15 * t + 3 → a j = undone j) ∧ ∀ h, h < k → a (15 * t + 3 + h) = now (4 + 4 * h + 1) ∧ a (15 * t + 9 + h) = now (4 + 4 * h + 2)) 6 (fun o => ∃ r, o = some (r, undos + 1) ∧ (∀ j, j < 15 * t + 3 → r j = undone j) ∧ ∀ h, h < 6 → r (15 * t + 3 + h) = now (4 + 4 * h + 1) ∧ r (15 * t + 9 + h) = now (4 + 4 * h + 2)) (by decide) undone ⟨fun j _ => rfl, fun h hh => by omega⟩ ?_ ?_
  · rintro f k a hk ⟨h1, h2⟩
    refine ⟨upd (upd a (15 * t + 3 + k) (now (4 + 4 * k + 1))) (15 * t + 9 + k) (now (4 + 4 * k + 2)), ?_, ?_, ?_⟩
    · show f_X7_notes_c84 (f + 1) now a undos (nI (15 * t)) (nI k) = f_X7_notes_c84 f now (upd (upd a (15 * t + 3 + k) (now (4 + 4 * k + 1))) (15 * t + 9 + k) (now (4 + 4 * k + 2))) undos (nI (15 * t)) (nI (k + 1))
      have i1 : nI (15 * t) + 3 + nI k = nI (15 * t + 3 + k) := by rw [show (3 : Int32) = nI 3 from rfl, n_add, n_add]
      have i2 : nI (15 * t) + 9 + nI k = nI (15 * t + 9 + k) := by rw [show (9 : Int32) = nI 9 from rfl, n_add, n_add]
      rw [f_X7_notes_c84, if_pos (show nI k < (6 : Int32) from nI_lt (b := 6) hk (by decide)), used7r now hk, sb, bay7r now hk, sb, i1, i2, if_pos (inb_nI (show 15 * t + 3 + k < 120 by omega) (by decide)), if_pos (inb_nI (show 15 * t + 9 + k < 120 by omega) (by decide)), nI_cl (by omega), nI_cl (by omega), nI_1]
    · intro j hj
      rw [pk_un (by omega), pk_un (by omega)]
      exact h1 j hj
    · intro h hh
      by_cases e : h = k
      · subst e
        exact ⟨by rw [pk_un (by omega), pk_us], pk_us⟩
      · obtain ⟨a1, a2⟩ := h2 h (by omega)
        exact ⟨by rw [pk_un (by omega), pk_un (by omega)]; exact a1, by rw [pk_un (by omega), pk_un (by omega)]; exact a2⟩
  · rintro f a ⟨h1, h2⟩
    exact ⟨a, rfl, h1, h2⟩
theorem notes45 (now undone : Nat → Int32) {t : Nat} (ht : t < 8) : ∃ r, f_X7_notes_c45 now undone (nI t) = some (r, nI (t + 1)) ∧ (∀ j, j < 15 * t → r j = undone j) ∧ (∀ j, j < 3 → r (15 * t + j) = now (1 + j)) ∧ ∀ h, h < 6 → r (15 * t + 3 + h) = now (4 + 4 * h + 1) ∧ r (15 * t + 9 + h) = now (4 + 4 * h + 2) := by
  unfold f_X7_notes_c45
  have e15 : (15 : Int32) * nI t = nI (15 * t) := n_mul 15 t
  rw [e15]
  refine inv_all (fun f a k => f_X7_notes_c55 f now a (nI t) (nI (15 * t)) (nI k)) (fun k a => (∀ j, j < 15 * t → a j = undone j) ∧ (∀ j, j < k → a (15 * t + j) = now (1 + j))) 3 (fun o => ∃ r, o = some (r, nI (t + 1)) ∧ (∀ j, j < 15 * t → r j = undone j) ∧ (∀ j, j < 3 → r (15 * t + j) = now (1 + j)) ∧ ∀ h, h < 6 → r (15 * t + 3 + h) = now (4 + 4 * h + 1) ∧ r (15 * t + 9 + h) = now (4 + 4 * h + 2)) (by decide) undone ⟨fun j _ => rfl, fun h hh => by omega⟩ ?_ ?_
  · rintro f k a hk ⟨h1, h2⟩
    refine ⟨upd a (15 * t + k) (now (1 + k)), ?_, ?_, ?_⟩
    · show f_X7_notes_c55 (f + 1) now a (nI t) (nI (15 * t)) (nI k) = f_X7_notes_c55 f now (upd a (15 * t + k) (now (1 + k))) (nI t) (nI (15 * t)) (nI (k + 1))
      have i1 : (1 : Int32) + nI k = nI (1 + k) := n_add 1 k
      rw [f_X7_notes_c55, if_pos (show nI k < (3 : Int32) from nI_lt (b := 3) hk (by decide)), i1, if_pos (inb_nI (show 1 + k < 40 by omega) (by decide)), n_add, jn_eq, if_pos (inb_nI (show 15 * t + k < 120 by omega) (by decide)), nI_cl (by omega), nI_cl (by omega), nI_1]
    · intro j hj
      rw [pk_un (by omega)]
      exact h1 j hj
    · intro j hj
      by_cases e : j = k
      · subst e; exact pk_us
      · rw [pk_un (by omega)]; exact h2 j (by omega)
  · rintro f a ⟨h1, h2⟩
    obtain ⟨r, e1, e2, e3⟩ := notes84 now a (nI t) ht
    refine ⟨r, ?_, fun j hj => ?_, fun j hj => ?_, e3⟩
    · show f_X7_notes_c55 (f + 1) now a (nI t) (nI (15 * t)) (nI 3) = _
      rw [f_X7_notes_c55, if_neg (show ¬ nI 3 < (3 : Int32) by decide), e1, nI_1]
    · rw [e2 j (by omega)]; exact h1 j hj
    · rw [e2 _ (by omega)]; exact h2 j hj
theorem notesP (hM : isM S now) (ho : okS S) {hs : List Mk} {undone : Nat → Int32} (hl : hs.length < 8) (hq : ∀ i m, hs[i]? = some m → mM (sN S) m (hs.length - 1 - i) undone) : ∃ r, f_X7_notes_c45 now undone (nI hs.length) = some r ∧ isMP (sN S) (mkS S :: hs) r.1 r.2 := by
  have hn := ho.1
  obtain ⟨r, e1, e2, e3, e4⟩ := notes45 now undone hl
  refine ⟨_, e1, rfl, fun i m hi => ?_⟩
  obtain ⟨m0, m1, m2, m3, m4, m5⟩ := hM
  cases i with
  | zero =>
    rw [List.getElem?_cons_zero] at hi
    cases hi
    show mM (sN S) (mkS S) (hs.length + 1 - 1 - 0) r
    rw [show hs.length + 1 - 1 - 0 = hs.length by omega]
    exact ⟨(e3 0 (by decide)).trans m1, (e3 1 (by decide)).trans m2, (e3 2 (by decide)).trans m3, fun h hh => ⟨(e4 h (by omega)).1.trans (m4 h hh).2.1, (e4 h (by omega)).2.trans (m4 h hh).2.2.1⟩⟩
  | succ i =>
    rw [List.getElem?_cons_succ] at hi
    have hil : i < hs.length := by
      rcases Nat.lt_or_ge i hs.length with h | h
      · exact h
      · rw [List.getElem?_eq_none h] at hi; cases hi
    show mM (sN S) m (hs.length + 1 - 1 - (i + 1)) r
    rw [show hs.length + 1 - 1 - (i + 1) = hs.length - 1 - i by omega]
    obtain ⟨a1, a2, a3, a4⟩ := hq i m hi
    exact ⟨(e2 _ (by omega)).trans a1, (e2 _ (by omega)).trans a2, (e2 _ (by omega)).trans a3, fun h hh => ⟨(e2 _ (by omega)).trans (a4 h hh).1, (e2 _ (by omega)).trans (a4 h hh).2⟩⟩
theorem notes12 (now undone : Nat → Int32) (undos : Int32) (Q : Option ((Nat → Int32) × Int32) → Prop) (hQ : ∀ r, (∀ j, j < 105 → r j = undone (j + 15)) → Q (f_X7_notes_c45 now r 7)) : Q (f_X7_notes_c12 fu now undone undos 15) := by
  refine inv_all (fun f a k => f_X7_notes_c12 f now a undos (nI (15 + k))) (fun k a => (∀ j, j < k → a j = undone (j + 15)) ∧ ∀ j, k ≤ j → a j = undone j) 105 Q (by decide) undone ⟨fun j hj => by omega, fun j _ => rfl⟩ ?_ ?_
  · rintro f k a hk ⟨h1, h2⟩
    refine ⟨upd a k (undone (15 + k)), ?_, ?_, ?_⟩
    · show f_X7_notes_c12 (f + 1) now a undos (nI (15 + k)) = f_X7_notes_c12 f now (upd a k (undone (15 + k))) undos (nI (15 + (k + 1)))
      have i1 : nI (15 + k) - 15 = nI k := by
        have := pk_sub (a := 15 + k) (b := 15) (by omega)
        rw [show 15 + k - 15 = k by omega] at this
        exact this
      rw [f_X7_notes_c12, if_pos (show nI (15 + k) < (120 : Int32) from nI_lt (b := 120) (by omega) (by decide)), if_pos (inb_nI (show 15 + k < 120 by omega) (by decide)), i1, jn_eq, if_pos (inb_nI (show k < 120 by omega) (by decide)), nI_cl (by omega), nI_cl (by omega), nI_1, h2 (15 + k) (by omega)]
      rfl
    · intro j hj
      by_cases e : j = k
      · subst e
        rw [pk_us, show 15 + j = j + 15 by omega]
      · rw [pk_un e]; exact h1 j (by omega)
    · intro j hj
      rw [pk_un (by omega)]
      exact h2 j (by omega)
  · rintro f a ⟨h1, h2⟩
    show Q (f_X7_notes_c12 (f + 1) now a undos (nI 120))
    rw [f_X7_notes_c12, if_neg (show ¬ nI 120 < (120 : Int32) by decide)]
    exact hQ a h1
theorem notes7 (hM : isM S now) (ho : okS S) (hh : okH (sN S) hs) (hq : isMP (sN S) hs undone undos) : ∃ r, f_X7_notes now undone undos = some r ∧ isMP (sN S) (pushH (mkS S) hs) r.1 r.2 := by
  have hn := ho.1
  obtain ⟨e1, hm⟩ := hq
  have hl := hh.1
  unfold f_X7_notes
  rw [e1, show (8 : Int32) = nI 8 from rfl, if_n_eq (by omega) (by decide)]
  by_cases c : hs.length = 8
  · rw [if_pos c]
    refine notes12 now undone (nI hs.length) (fun o => ∃ r, o = some r ∧ isMP (sN S) (pushH (mkS S) hs) r.1 r.2) (fun r hr => ?_)
    have hlen : (hs.take 7).length = 7 := by rw [List.length_take]; omega
    have := notesP hM ho (hs := hs.take 7) (undone := r) (by omega) (fun i m hi => ?_)
    · rw [hlen] at this
      exact this
    · rw [hlen]
      rw [List.getElem?_take] at hi
      by_cases ci : i < 7
      · rw [if_pos ci] at hi
        obtain ⟨a1, a2, a3, a4⟩ := hm i m hi
        rw [c] at a1 a2 a3 a4
        have q : 8 - 1 - i = (7 - 1 - i) + 1 := by omega
        rw [q] at a1 a2 a3 a4
        refine ⟨(hr _ (by omega)).trans ?_, (hr _ (by omega)).trans ?_, (hr _ (by omega)).trans ?_, fun h hlt => ⟨(hr _ (by omega)).trans ?_, (hr _ (by omega)).trans ?_⟩⟩
        · exact a1
        · exact a2
        · exact a3
        · rw [← (a4 h hlt).1]
          congr 1
          omega
        · rw [← (a4 h hlt).2]
          congr 1
          omega
      · rw [if_neg ci] at hi
        cases hi
  · rw [if_neg c]
    have h1 := notesP hM ho (hs := hs) (undone := undone) (by omega) hm
    have e : pushH (mkS S) hs = mkS S :: hs := by
      unfold pushH
      rw [List.take_of_length_le (by rw [List.length_cons]; omega)]
    rw [e]
    exact h1
end RG
