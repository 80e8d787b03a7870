/-! MATHEMATICS 18: type; sheets: sheet, drop, item, copy -/
theorem chr_n : ∀ c : Fin 127, vp_nar .char ((nI c.val).toUInt32 % 65536).toInt32 = nI c.val := by decide +kernel
theorem in126 (x : Int32) : f_X7_in x.toInt64 32 126 = some (tf (decide (32 ≤ x.toInt ∧ x.toInt ≤ 126))) := in7w x 32 126
theorem wi126 (x : Int32) : f_X6_within x 32 126 = some (tf (decide (32 ≤ x.toInt ∧ x.toInt ≤ 126))) := within6 x 32 126
theorem st_type {letters : Nat → Int32} {length : Int32} {tape : Nat → Int32} {typed : Int32} (hT : RT letters length tape typed) (x : Int32) : ∃ rx rm, f_X6_type letters length x = some rx ∧ f_X7_type tape typed x = some rm ∧ rx.1 = rm.1 ∧ RT rx.2.1 rx.2.2 rm.2.1 rm.2.2 := by
  obtain ⟨len, hl, e1, e2, hc⟩ := id hT
  unfold f_X6_type f_X7_type
  rw [wi126, sb, in126, sb]
  by_cases c0 : 32 ≤ x.toInt ∧ x.toInt ≤ 126
  · rw [if_neg (tf_y c0), if_neg (tf_y c0)]
    obtain ⟨c, hc2, rfl⟩ := l_of (m := 126) (x := x) (by omega) (by omega)
    rw [l_lit (by omega)] at c0
    unfold f_X5_write
    rw [e1, e2, show (80 : Int32) = nI 80 from rfl, if_n_lt (by omega) (by decide), if_n_eq (by omega) (by decide)]
    by_cases c1 : len = 80
    · rw [if_pos c1, if_neg (show ¬ len < 80 by omega), sb, jn_eq, if_pos (show (0 : Int32) = 0 from rfl)]
      refine ⟨_, _, rfl, rfl, rfl, ?_⟩
      rw [e1, e2] at hT
      exact hT
    · rw [if_neg c1, if_pos (show len < 80 by omega), if_pos (inb_nI (show len < 80 by omega) (by decide)), if_pos (inb_nI (show len < 80 by omega) (by decide)), nI_cl (by omega), sb, jn_eq, chr_n ⟨c, by omega⟩, nI_1, if_neg (show ¬ (1 : Int32) = 0 by decide)]
      refine ⟨_, _, rfl, rfl, rfl, len + 1, by omega, rfl, rfl, fun j hj => ?_⟩
      show ∃ d : Nat, 32 ≤ d ∧ d ≤ 126 ∧ upd letters len (nI c) j = nI d ∧ upd tape len (nI c) j = nI d
      by_cases e : j = len
      · subst e
        exact ⟨c, by omega, by omega, pk_us, pk_us⟩
      · rw [pk_un e, pk_un e]
        exact hc j (by omega)
  · rw [if_pos (tf_x c0), if_pos (tf_x c0)]
    exact ⟨_, _, rfl, rfl, rfl, hT⟩
theorem isSheet6 (x : Int32) : f_X6_isSheet x = some (tf (decide (0 ≤ x.toInt ∧ x.toInt ≤ 3))) := by
  unfold f_X6_isSheet
  rw [within6, sb, if_pos (tf_isb _)]
  rfl
theorem isSheet7 (x : Int32) : f_X7_isSheet x = some (tf (decide (0 ≤ x.toInt ∧ x.toInt ≤ 3))) := by
  unfold f_X7_isSheet
  rw [in7w, sb, if_pos (tf_isb _)]
  rfl
theorem isLane6 (x : Int32) : f_X6_isLane x = some (tf (decide (0 ≤ x.toInt ∧ x.toInt ≤ 3))) := by
  unfold f_X6_isLane
  rw [within6, sb, if_pos (tf_isb _)]
  rfl
theorem isLane7 (x : Int32) : f_X7_isLane x = some (tf (decide (0 ≤ x.toInt ∧ x.toInt ≤ 3))) := by
  unfold f_X7_isLane
  rw [in7w, sb, if_pos (tf_isb _)]
  rfl
theorem sub_int {k : Nat} (hk : k ≤ 24) {n : Int32} (hn : 0 ≤ n.toInt) : (nI k - n).toInt = (k : Int) - n.toInt := by
  have hr := l_rng n
  rw [Int32.toInt_sub, l_lit (by omega)]
  unfold Int.bmod
  simp only []
  split <;> omega
theorem add_int {x n : Int32} (hx : 0 ≤ x.toInt) (hn : 0 ≤ n.toInt) : (x.toInt64 + n.toInt64).toInt = x.toInt + n.toInt := by
  have hr := l_rng n
  have hr2 := l_rng x
  rw [Int64.toInt_add, w_toInt, w_toInt]
  unfold Int.bmod
  simp only []
  split <;> omega
theorem miss4 (x : Int32) : f_X4_isMissing x = some (if x < 0 then 1 else 0) := by
  unfold f_X4_isMissing
  rw [jn_eq]
  by_cases c : x < 0
  · rw [if_pos c]; rfl
  · rw [if_neg c]; rfl
theorem ref_why {items : Nat → Int64} {lane size : Int32} {s : Nat} {lanes sizes : Nat → Int32} {mitems : Nat → Int64} (h : RS1 items lane size s lanes sizes mitems) (hs : s < 4) (l x n : Int32) : ∃ v, f_X4_refusal lane size l x n = some v ∧ f_X7_why lanes sizes (nI s) l x n = some v ∧ (v < 0 ∨ (v = 0 ∧ ∃ k i m l' : Nat, k ≤ 24 ∧ i + m ≤ k ∧ l' ≤ 3 ∧ x = nI i ∧ n = nI m ∧ size = nI k ∧ lane = nI l' ∧ l = nI l')) := by
  unfold f_X4_refusal f_X7_why
  simp only [jn_eq]
  rw [miss4, sb, if_pos (inb_nI hs (by decide)), nI_cl (by omega)]
  rcases h.2 with ⟨h1, h2⟩ | ⟨k, l', hk, hl, h1, h2, h3, h4⟩
  · rw [h1, h2]
    exact ⟨-11, rfl, rfl, Or.inl (by decide)⟩
  · rw [h1, h2, h3, h4, if_neg (show ¬ nI k < 0 from nI_pos (by omega)), if_pos (show (0 : Int32) = 0 from rfl), if_neg (show ¬ nI l' < 0 from nI_pos (by omega))]
    by_cases c1 : nI l' = l
    · rw [if_pos c1, if_pos c1]
      have q0 : ∀ y : Int32, y < 0 ↔ y.toInt < 0 := fun y => l_lt y 0
      by_cases c2 : x < 0
      · rw [if_pos c2, if_pos c2]
        exact ⟨-13, rfl, rfl, Or.inl (by decide)⟩
      · rw [if_neg c2, if_neg c2]
        by_cases c3 : n < 0
        · rw [if_pos c3, if_pos c3]
          exact ⟨-13, rfl, rfl, Or.inl (by decide)⟩
        · rw [if_neg c3, if_neg c3]
          have d2 : 0 ≤ x.toInt := by rw [q0] at c2; omega
          have d3 : 0 ≤ n.toInt := by rw [q0] at c3; omega
          have e1 : (nI k - n < x) ↔ (k : Int) < x.toInt + n.toInt := by
            rw [l_lt, sub_int hk d3]
            omega
          have e2 : (0 < lg_cmp (x.toInt64 + n.toInt64) (nI k).toInt64) ↔ (k : Int) < x.toInt + n.toInt := by
            rw [cmp_gt, add_int d2 d3, w_toInt, l_lit (by omega)]
          by_cases c4 : (k : Int) < x.toInt + n.toInt
          · rw [if_pos (e1.mpr c4), if_pos (e2.mpr c4)]
            exact ⟨-13, rfl, rfl, Or.inl (by decide)⟩
          · rw [if_neg (fun h => c4 (e1.mp h)), if_neg (fun h => c4 (e2.mp h))]
            obtain ⟨i, hi, rfl⟩ := l_of (m := k) d2 (by omega)
            obtain ⟨m, hm, rfl⟩ := l_of (m := k) d3 (by omega)
            rw [l_lit (by omega), l_lit (by omega)] at c4
            exact ⟨0, rfl, rfl, Or.inr ⟨rfl, k, i, m, l', hk, by omega, hl, rfl, rfl, rfl, rfl, c1.symm⟩⟩
    · rw [if_neg c1, if_neg c1]
      exact ⟨-12, rfl, rfl, Or.inl (by decide)⟩
section SH
variable {items : Nat → Nat → Int64} {lane size : Nat → Int32} {lanes sizes : Nat → Int32} {mitems : Nat → Int64}
theorem RS_items (h : RS items lane size lanes sizes mitems) {items' : Nat → Nat → Int64} {mitems' : Nat → Int64} (he : ∀ s, s < 4 → ∀ j, j < 24 → items' s j = mitems' (24 * s + j)) : RS items' lane size lanes sizes mitems' := fun s hs => ⟨he s hs, (h s hs).2⟩
/-- one item put on both sides -/
theorem RS_put (h : RS items lane size lanes sizes mitems) {s i : Nat} (hs : s < 4) (hi : i < 24) (v : Int64) : RS (va_up items s (vp_updL (items s) i v)) lane size lanes sizes (vp_updL mitems (24 * s + i) v) := by
  refine RS_items h (fun t ht j hj => ?_)
  by_cases e : t = s
  · subst e
    rw [up_s]
    by_cases e2 : j = i
    · subst e2; rw [pk_uLs, pk_uLs]
    · rw [pk_uLn e2, pk_uLn (by omega)]
      exact (h t ht).1 j hj
  · rw [up_n e, pk_uLn (by omega)]
    exact (h t ht).1 j hj
theorem ix24 (s i : Nat) : (24 : Int32) * nI s + nI i = nI (24 * s + i) := by
  rw [show (24 : Int32) = nI 24 from rfl, n_mul, n_add]
theorem sheet_x {x : Int32} (h : 0 ≤ x.toInt ∧ x.toInt ≤ 3) : ∃ k : Nat, k < 4 ∧ x = nI k := by
  obtain ⟨k, h1, h2⟩ := l_of (m := 3) h.1 (by omega)
  exact ⟨k, by omega, h2⟩
theorem lay4 (it : Nat → Int64) (a b l k : Int32) : ∃ r, f_X4_lay it a b l k = some (r, l, k) ∧ ∀ j, j < 24 → r j = 0 := by
  unfold f_X4_lay
  refine inv_all (fun f a j => f_X4_lay_c12 f a l k (nI j)) (fun q a => ∀ j, j < q → a j = 0) 24 (fun o => ∃ r, o = some (r, l, k) ∧ ∀ j, j < 24 → r j = 0) (by decide) it (fun j hj => by omega) ?_ ?_
  · intro f q a hq hI
    refine ⟨vp_updL a q 0, ?_, fun j hj => ?_⟩
    · show f_X4_lay_c12 (f + 1) a l k (nI q) = f_X4_lay_c12 f (vp_updL a q 0) l k (nI (q + 1))
      rw [f_X4_lay_c12, if_pos (show nI q < (24 : Int32) from nI_lt (b := 24) hq (by decide)), if_pos (inb_nI hq (by decide)), nI_cl (by omega), nI_1]
    · by_cases e : j = q
      · subst e; exact pk_uLs
      · rw [pk_uLn e]; exact hI j (by omega)
  · intro f a hI
    exact ⟨a, rfl, hI⟩
theorem sheet46 (la sz : Nat → Int32) (it : Nat → Int64) {s : Nat} (hs : s < 4) (k : Int32) : ∃ r, f_X7_sheet_c46 fu la sz it (nI s) k 0 = some (k, la, sz, r) ∧ (∀ j, j < 24 → r (24 * s + j) = 0) ∧ ∀ j, (j < 24 * s ∨ 24 * s + 24 ≤ j) → r j = it j := by
  refine inv_all (fun f a j => f_X7_sheet_c46 f la sz a (nI s) k (nI j)) (fun q a => (∀ j, j < q → a (24 * s + j) = 0) ∧ ∀ j, (j < 24 * s ∨ 24 * s + 24 ≤ j) → a j = it j) 24 (fun o => ∃ r, o = some (k, la, sz, r) ∧ (∀ j, j < 24 → r (24 * s + j) = 0) ∧ ∀ j, (j < 24 * s ∨ 24 * s + 24 ≤ j) → r j = it j) (by decide) it ⟨fun j hj => by omega, fun j _ => rfl⟩ ?_ ?_
  · rintro f q a hq ⟨h1, h2⟩
    refine ⟨vp_updL a (24 * s + q) 0, ?_, fun j hj => ?_, fun j hj => ?_⟩
    · show f_X7_sheet_c46 (f + 1) la sz a (nI s) k (nI q) = f_X7_sheet_c46 f la sz (vp_updL a (24 * s + q) 0) (nI s) k (nI (q + 1))
      rw [f_X7_sheet_c46, if_pos (show nI q < (24 : Int32) from nI_lt (b := 24) hq (by decide)), ix24, if_pos (inb_nI (show 24 * s + q < 96 by omega) (by decide)), nI_cl (by omega), nI_1]
    · by_cases e : j = q
      · subst e; exact pk_uLs
      · rw [pk_uLn (by omega)]; exact h1 j (by omega)
    · rw [pk_uLn (by omega)]; exact h2 j hj
  · rintro f a ⟨h1, h2⟩
    exact ⟨a, rfl, h1, h2⟩
theorem st_sheet (h : RS items lane size lanes sizes mitems) (x y n : Int32) : ∃ rx rm, f_X6_sheet items lane size x y n = some rx ∧ f_X7_sheet lanes sizes mitems x y n = some rm ∧ rx.1 = rm.1 ∧ RS rx.2.1 rx.2.2.1 rx.2.2.2 rm.2.1 rm.2.2.1 rm.2.2.2 := by
  unfold f_X6_sheet f_X7_sheet
  rw [isSheet6, sb, isSheet7, sb]
  by_cases c0 : 0 ≤ x.toInt ∧ x.toInt ≤ 3
  · rw [if_neg (tf_y c0), if_neg (tf_y c0), isLane6, sb, isLane7, sb]
    by_cases c1 : 0 ≤ y.toInt ∧ y.toInt ≤ 3
    · rw [if_neg (tf_y c1), if_neg (tf_y c1)]
      by_cases c2 : 24 < n
      · rw [if_pos c2, if_pos c2]
        exact ⟨_, _, rfl, rfl, rfl, h⟩
      · rw [if_neg c2, if_neg c2]
        by_cases c3 : n < 0
        · rw [if_pos c3, if_pos c3]
          exact ⟨_, _, rfl, rfl, rfl, h⟩
        · rw [if_neg c3, if_neg c3]
          obtain ⟨s, hs, rfl⟩ := sheet_x c0
          obtain ⟨l, hl, rfl⟩ := l_of (m := 3) c1.1 (by omega)
          have d2 : n.toInt ≤ 24 := by
            rw [l_lt] at c2
            have : (24 : Int32).toInt = 24 := rfl
            omega
          have d3 : 0 ≤ n.toInt := by
            rw [l_lt] at c3
            have : (0 : Int32).toInt = 0 := rfl
            omega
          obtain ⟨k, hk, rfl⟩ := l_of (m := 24) d3 (by omega)
          obtain ⟨r, er, hr⟩ := lay4 (items s) (lane s) (size s) (nI l) (nI k)
          obtain ⟨q, eq, q1, q2⟩ := sheet46 (upd lanes s (nI l)) (upd sizes s (nI k)) mitems hs (nI k)
          rw [if_pos (inb_nI hs (by decide)), if_pos (inb_nI hs (by decide)), nI_cl (by omega), er, sb, eq]
          refine ⟨_, _, rfl, rfl, rfl, fun t ht => ?_⟩
          show RS1 (va_up items s r t) (va_up lane s (nI l) t) (va_up size s (nI k) t) t (upd lanes s (nI l)) (upd sizes s (nI k)) q
          by_cases e : t = s
          · subst e
            rw [up_s, up_s, up_s]
            exact ⟨fun j hj => (hr j hj).trans (q1 j hj).symm, Or.inr ⟨k, l, hk, hl, rfl, pk_us, rfl, pk_us⟩⟩
          · rw [up_n e, up_n e, up_n e]
            obtain ⟨a1, a2⟩ := h t ht
            refine ⟨fun j hj => (a1 j hj).trans (q2 _ (by omega)).symm, ?_⟩
            rw [pk_un e, pk_un e]
            exact a2
    · rw [if_pos (tf_x c1), if_pos (tf_x c1)]
      exact ⟨_, _, rfl, rfl, rfl, h⟩
  · rw [if_pos (tf_x c0), if_pos (tf_x c0)]
    exact ⟨_, _, rfl, rfl, rfl, h⟩
theorem st_drop (h : RS items lane size lanes sizes mitems) (x : Int32) : ∃ rx rm, f_X6_drop size x = some rx ∧ f_X7_drop lanes sizes x = some rm ∧ rx.1 = rm.1 ∧ RS items lane rx.2 rm.2 sizes mitems := by
  unfold f_X6_drop f_X7_drop
  rw [isSheet6, sb, isSheet7, sb]
  by_cases c0 : 0 ≤ x.toInt ∧ x.toInt ≤ 3
  · rw [if_neg (tf_y c0), if_neg (tf_y c0)]
    obtain ⟨s, hs, rfl⟩ := sheet_x c0
    rw [if_pos (inb_nI hs (by decide)), if_pos (inb_nI hs (by decide)), nI_cl (by omega), miss4, sb, jn_eq]
    obtain ⟨a1, a2⟩ := h s hs
    rcases a2 with ⟨h1, h2⟩ | ⟨k, l', hk, hl, h1, h2, h3, h4⟩
    · rw [h1, h2]
      exact ⟨_, _, rfl, rfl, rfl, h⟩
    · rw [h1, h4, if_neg (show ¬ nI k < 0 from nI_pos (by omega)), if_pos (show (0 : Int32) = 0 from rfl), if_neg (show ¬ nI l' < 0 from nI_pos (by omega)), jn_eq, h2]
      unfold f_X4_takeAway
      rw [sb]
      refine ⟨_, _, rfl, rfl, rfl, fun t ht => ?_⟩
      show RS1 (items t) (lane t) (va_up size s (-1) t) t (upd lanes s (-1)) sizes mitems
      by_cases e : t = s
      · subst e
        rw [up_s]
        exact ⟨a1, Or.inl ⟨rfl, pk_us⟩⟩
      · rw [up_n e]
        obtain ⟨b1, b2⟩ := h t ht
        refine ⟨b1, ?_⟩
        rw [pk_un e]
        exact b2
  · rw [if_pos (tf_x c0), if_pos (tf_x c0)]
    exact ⟨_, _, rfl, rfl, rfl, h⟩
def cutL (l : Int32) (v : Int64) : Int64 := if l = 0 then v.toInt32.toInt8.toInt32.toInt64 else if l = 1 then v.toInt32.toInt16.toInt32.toInt64 else if l = 2 then v.toInt32.toInt64 else v
theorem cut4 (l : Int32) (v : Int64) : f_X4_cut l v = some (cutL l v) := by
  unfold f_X4_cut cutL
  by_cases c0 : l = 0
  · rw [if_pos c0, if_pos c0]
  · rw [if_neg c0, if_neg c0]
    by_cases c1 : l = 1
    · rw [if_pos c1, if_pos c1]
    · rw [if_neg c1, if_neg c1]
      by_cases c2 : l = 2
      · rw [if_pos c2, if_pos c2]
      · rw [if_neg c2, if_neg c2]
theorem st_item (h : RS items lane size lanes sizes mitems) (x y i : Int32) (v : Int64) : ∃ rx rm, f_X6_item items lane size x y i v = some rx ∧ f_X7_item lanes sizes mitems x y i v = some rm ∧ rx.1 = rm.1 ∧ RS rx.2 lane size lanes sizes rm.2 := by
  unfold f_X6_item f_X7_item
  rw [isSheet6, sb, isSheet7, sb]
  by_cases c0 : 0 ≤ x.toInt ∧ x.toInt ≤ 3
  · rw [if_neg (tf_y c0), if_neg (tf_y c0), isLane6, sb, isLane7, sb]
    by_cases c1 : 0 ≤ y.toInt ∧ y.toInt ≤ 3
    · rw [if_neg (tf_y c1), if_neg (tf_y c1)]
      obtain ⟨s, hs, rfl⟩ := sheet_x c0
      obtain ⟨w, e1, e2, hw⟩ := ref_why (h s hs) hs y i 1
      rw [if_pos (inb_nI hs (by decide)), nI_cl (by omega), e1, sb, e2, sb]
      rcases hw with hw | ⟨hw, k, j, m, l', hk, hj, hl, rfl, hm, hsz, hla, rfl⟩
      · rw [if_pos hw, if_pos hw]
        exact ⟨_, _, rfl, rfl, rfl, h⟩
      · have hm1 : m = 1 := by
          have hm : nI 1 = nI m := hm
          have := (nI_eq (a := 1) (b := m) (by decide) (by omega)).mp hm
          omega
        subst hm1
        rw [hw, if_neg (show ¬ (0 : Int32) < 0 by decide), if_neg (show ¬ (0 : Int32) < 0 by decide)]
        unfold f_X4_put
        rw [hla, cut4, sb, if_pos (inb_nI (show j < 24 by omega) (by decide)), nI_cl (show j < 2 ^ 31 by omega), sb, jn_eq, ix24, if_pos (inb_nI (show 24 * s + j < 96 by omega) (by decide)), nI_cl (by omega)]
        exact ⟨_, _, rfl, rfl, rfl, RS_put h hs (by omega) _⟩
    · rw [if_pos (tf_x c1), if_pos (tf_x c1)]
      exact ⟨_, _, rfl, rfl, rfl, h⟩
  · rw [if_pos (tf_x c0), if_pos (tf_x c0)]
    exact ⟨_, _, rfl, rfl, rfl, h⟩
theorem copy91 (la sz : Nat → Int32) (it mo : Nat → Int64) {a i b j m : Nat} (ha : a < 4) (hb : b < 4) (hi : i + m ≤ 24) (hj : j + m ≤ 24) : ∃ r q, f_X7_copy_c91 fu la sz it mo (nI a) (nI i) (nI b) (nI j) (nI m) 0 = some (nI m, r, q) ∧ (∀ k, k < m → r (24 * b + j + k) = it (24 * a + i + k)) ∧ ∀ k, (k < 24 * b + j ∨ 24 * b + j + m ≤ k) → r k = it k := by
  refine inv_all (fun f q k => f_X7_copy_c91 f la sz it q (nI a) (nI i) (nI b) (nI j) (nI m) (nI k)) (fun t q => ∀ k, k < t → q k = it (24 * a + i + k)) m (fun o => ∃ r q, o = some (nI m, r, q) ∧ (∀ k, k < m → r (24 * b + j + k) = it (24 * a + i + k)) ∧ ∀ k, (k < 24 * b + j ∨ 24 * b + j + m ≤ k) → r k = it k) (by omega) mo (fun k hk => by omega) ?_ ?_
  · intro f t q ht hI
    refine ⟨vp_updL q t (it (24 * a + i + t)), ?_, fun k hk => ?_⟩
    · show f_X7_copy_c91 (f + 1) la sz it q (nI a) (nI i) (nI b) (nI j) (nI m) (nI t) = f_X7_copy_c91 f la sz it (vp_updL q t (it (24 * a + i + t))) (nI a) (nI i) (nI b) (nI j) (nI m) (nI (t + 1))
      rw [f_X7_copy_c91, if_pos (nI_lt ht (by omega)), ix24, n_add, jn_eq, if_pos (inb_nI (show 24 * a + i + t < 96 by omega) (by decide)), if_pos (inb_nI (show t < 24 by omega) (by decide)), nI_cl (by omega), nI_cl (by omega), nI_1]
    · by_cases e : k = t
      · subst e; exact pk_uLs
      · rw [pk_uLn e]; exact hI k (by omega)
  · intro f q hI
    show ∃ r p, f_X7_copy_c91 (f + 1) la sz it q (nI a) (nI i) (nI b) (nI j) (nI m) (nI m) = some (nI m, r, p) ∧ _
    rw [f_X7_copy_c91, if_neg (nI_nlt (Nat.le_refl _) (by omega))]
    refine inv_all (fun f r k => f_X7_copy_c128 f la sz r q (nI b) (nI j) (nI m) (nI k)) (fun t r => (∀ k, k < t → r (24 * b + j + k) = it (24 * a + i + k)) ∧ ∀ k, (k < 24 * b + j ∨ 24 * b + j + m ≤ k) → r k = it k) m (fun o => ∃ r q, o = some (nI m, r, q) ∧ (∀ k, k < m → r (24 * b + j + k) = it (24 * a + i + k)) ∧ ∀ k, (k < 24 * b + j ∨ 24 * b + j + m ≤ k) → r k = it k) (by omega) it ⟨fun k hk => by omega, fun k _ => rfl⟩ ?_ ?_
    · rintro f t r ht ⟨h1, h2⟩
      refine ⟨vp_updL r (24 * b + j + t) (it (24 * a + i + t)), ?_, fun k hk => ?_, fun k hk => ?_⟩
      · show f_X7_copy_c128 (f + 1) la sz r q (nI b) (nI j) (nI m) (nI t) = f_X7_copy_c128 f la sz (vp_updL r (24 * b + j + t) (it (24 * a + i + t))) q (nI b) (nI j) (nI m) (nI (t + 1))
        rw [f_X7_copy_c128, if_pos (nI_lt ht (by omega)), ix24, n_add, jn_eq, if_pos (inb_nI (show t < 24 by omega) (by decide)), if_pos (inb_nI (show 24 * b + j + t < 96 by omega) (by decide)), nI_cl (by omega), nI_cl (by omega), nI_1, hI t ht]
      · by_cases e : k = t
        · subst e; exact pk_uLs
        · rw [pk_uLn (by omega)]; exact h1 k (by omega)
      · rw [pk_uLn (by omega)]; exact h2 k hk
    · rintro f r ⟨h1, h2⟩
      refine ⟨r, q, ?_, h1, h2⟩
      show f_X7_copy_c128 (f + 1) la sz r q (nI b) (nI j) (nI m) (nI m) = _
      rw [f_X7_copy_c128, if_neg (nI_nlt (Nat.le_refl _) (by omega))]
theorem cpok_n {i j m : Nat} (hi : i + m ≤ 24) (hj : j + m ≤ 24) : cpok (nI i) (nI j) (nI m) 24 24 = true := by
  unfold cpok
  rw [nI_cl (by omega), nI_cl (by omega), nI_cl (by omega), decide_eq_true (nI_pos (by omega)), decide_eq_true (nI_pos (by omega)), decide_eq_true (nI_pos (by omega)), decide_eq_true hi, decide_eq_true hj]
  rfl
theorem st_copy (h : RS items lane size lanes sizes mitems) (moved : Nat → Int64) (x i y j n : Int32) : ∃ rx rm, f_X6_copy items lane size x i y j n = some rx ∧ f_X7_copy lanes sizes mitems moved x i y j n = some rm ∧ rx.1 = rm.1 ∧ RS rx.2 lane size lanes sizes rm.2.1 := by
  unfold f_X6_copy f_X7_copy
  rw [isSheet6, sb, isSheet7, sb]
  by_cases c0 : 0 ≤ x.toInt ∧ x.toInt ≤ 3
  · rw [if_neg (tf_y c0), if_neg (tf_y c0), isSheet6, sb, isSheet7, sb]
    by_cases c1 : 0 ≤ y.toInt ∧ y.toInt ≤ 3
    · rw [if_neg (tf_y c1), if_neg (tf_y c1)]
      obtain ⟨a, ha, rfl⟩ := sheet_x c0
      obtain ⟨b, hb, rfl⟩ := sheet_x c1
      simp only [jn_eq]
      rw [if_pos (inb_nI ha (by decide)), if_pos (inb_nI hb (by decide)), if_pos (inb_nI ha (by decide)), if_pos (inb_nI hb (by decide)), nI_cl (show a < 2 ^ 31 by omega), nI_cl (show b < 2 ^ 31 by omega), miss4, sb, miss4, sb]
      obtain ⟨a1, a2⟩ := h a ha
      obtain ⟨b1, b2⟩ := h b hb
      rcases a2 with ⟨p1, p2⟩ | ⟨k, l, hk, hl, p1, p2, p3, p4⟩
      · rw [p1, p2, if_neg (show ¬ (if (-1 : Int32) < 0 then (1 : Int32) else 0) = 0 by decide), if_pos (show (-1 : Int32) < 0 by decide)]
        exact ⟨_, _, rfl, rfl, rfl, h⟩
      rcases b2 with ⟨q1, q2⟩ | ⟨k', l', hk', hl', q1, q2, q3, q4⟩
      · rw [p1, p4, q1, q2, if_neg (show ¬ nI k < 0 from nI_pos (by omega)), if_neg (show ¬ nI l < 0 from nI_pos (by omega)), if_pos (show (0 : Int32) = 0 from rfl), if_neg (show ¬ (if (-1 : Int32) < 0 then (1 : Int32) else 0) = 0 by decide), if_pos (show (-1 : Int32) < 0 by decide)]
        exact ⟨_, _, rfl, rfl, rfl, h⟩
      obtain ⟨v, e1, e2, hv⟩ := ref_why (h a ha) ha (lane b) i n
      obtain ⟨w, f1, f2, hw⟩ := ref_why (h b hb) hb (lane a) j n
      obtain ⟨v2, e3, e4, hv2⟩ := ref_why (h a ha) ha (lanes a) i n
      have hla : lanes a = lane a := by rw [p3, p4]
      have hlb : lanes b = lane b := by rw [q3, q4]
      rw [e1, sb, f1, sb, hla, hlb]
      rw [hla] at e3 e4
      rw [f2, sb, e4, sb]
      rw [p1, q1, p3, q3, if_neg (show ¬ nI k < 0 from nI_pos (by omega)), if_pos (show (0 : Int32) = 0 from rfl), if_neg (show ¬ nI k' < 0 from nI_pos (by omega)), if_pos (show (0 : Int32) = 0 from rfl), if_neg (show ¬ nI l < 0 from nI_pos (by omega)), if_neg (show ¬ nI l' < 0 from nI_pos (by omega))]
      unfold f_X7_copy_c78
      have nz : ∀ z : Int32, z < 0 → ¬ z = 0 := fun z hz e => by rw [e] at hz; exact absurd hz (by decide)
      -- the same lane or not
      by_cases cl : l = l'
      · subst cl
        have hvv : v2 = v := by
          rw [p3] at e3
          rw [q3] at e1
          rw [p3] at e1
          rw [e3] at e1
          exact Option.some.inj e1
        subst hvv
        rcases hv with hv | ⟨hv, kk, ii, mm, ll, g1, g2, g3, g4, g5, g6, g7, g8⟩
        · rw [if_neg (nz _ hv), if_pos hv]
          rcases hw with hw | ⟨hw, kk, ii, mm, ll, g1, g2, g3, g4, g5, g6, g7, g8⟩
          · rw [if_neg (nz _ hw), if_pos hw]
            have hvw : v2 = w := by
              rw [q3, p3] at f1
              rw [p3] at e3
              rw [p1] at e3
              rw [q1] at f1
              unfold f_X4_refusal at e3 f1
              rw [miss4, sb, if_neg (show ¬ nI k < 0 from nI_pos (by omega)), if_pos (show (0 : Int32) = 0 from rfl), if_pos rfl, jn_eq] at e3
              rw [miss4, sb, if_neg (show ¬ nI k' < 0 from nI_pos (by omega)), if_pos (show (0 : Int32) = 0 from rfl), if_pos rfl, jn_eq] at f1
              have e3 := Option.some.inj e3
              have f1 := Option.some.inj f1
              have key : ∀ (c1 c2 c3 : Prop) [Decidable c1] [Decidable c2] [Decidable c3] (z : Int32), (if c1 then (-13 : Int32) else if c2 then (-13) else if c3 then (-13) else 0) = z → z < 0 → z = -13 := by
                intro c1 c2 c3 _ _ _ z hz h0
                split at hz
                · exact hz.symm
                · split at hz
                  · exact hz.symm
                  · split at hz
                    · exact hz.symm
                    · rw [← hz] at h0
                      exact absurd h0 (by decide)
              rw [key _ _ _ _ e3 hv, key _ _ _ _ f1 hw]
            rw [hvw]
            exact ⟨_, _, rfl, rfl, rfl, h⟩
          · rw [if_pos hw, if_pos hv]
            exact ⟨_, _, rfl, rfl, rfl, h⟩
        · subst hv
          rw [if_pos (show (0 : Int32) = 0 from rfl)]
          rcases hw with hw | ⟨hw, kk2, jj, mm2, ll2, r1, r2, r3, r4, r5, r6, r7, r8⟩
          · rw [if_pos hw, if_neg (nz _ hw), if_pos hw]
            exact ⟨_, _, rfl, rfl, rfl, h⟩
          · subst hw
            rw [if_neg (show ¬ (0 : Int32) < 0 by decide), if_pos (show (0 : Int32) = 0 from rfl), if_neg (show ¬ (0 : Int32) < 0 by decide)]
            have hmm : mm2 = mm := by
              rw [g5] at r5
              exact ((nI_eq (by omega) (by omega)).mp r5).symm
            subst hmm
            obtain ⟨r, q, er, r', r''⟩ := copy91 lanes sizes mitems moved (a := a) (i := ii) (b := b) (j := jj) (m := mm2) ha hb (by omega) (by omega)
            rw [g4, r4, g5, if_pos (cpok_n (by omega) (by omega)), nI_cl (by omega), nI_cl (by omega), nI_cl (by omega), er]
            refine ⟨_, _, rfl, rfl, rfl, RS_items h (fun t ht z hz => ?_)⟩
            show va_up items b (va_cpy (items a) (items b) ii jj mm2) t z = r (24 * t + z)
            by_cases e : t = b
            · subst e
              rw [up_s]
              by_cases cz : jj ≤ z ∧ z < jj + mm2
              · rw [pk_cpy_in cz.1 cz.2, a1 _ (by omega)]
                have := r' (z - jj) (by omega)
                rw [show 24 * t + jj + (z - jj) = 24 * t + z by omega] at this
                rw [this]
                congr 1
                omega
              · rw [pk_cpy_out (by omega), b1 z hz, r'' _ (by omega)]
            · rw [up_n e, (h t ht).1 z hz, r'' _ (by omega)]
      · have hne1 : ¬ nI l = nI l' := fun e => cl ((nI_eq (by omega) (by omega)).mp e)
        have hne2 : ¬ nI l' = nI l := fun e => hne1 e.symm
        have hv12 : v = -12 := by
          rw [p1, p3, q3] at e1
          unfold f_X4_refusal at e1
          rw [miss4, sb, if_neg (show ¬ nI k < 0 from nI_pos (by omega)), if_pos (show (0 : Int32) = 0 from rfl), if_neg hne1] at e1
          exact (Option.some.inj e1).symm
        have hw12 : w = -12 := by
          rw [q1, p3, q3] at f1
          unfold f_X4_refusal at f1
          rw [miss4, sb, if_neg (show ¬ nI k' < 0 from nI_pos (by omega)), if_pos (show (0 : Int32) = 0 from rfl), if_neg hne2] at f1
          exact (Option.some.inj f1).symm
        rw [hv12, hw12]
        exact ⟨_, _, rfl, rfl, rfl, h⟩
    · rw [if_pos (tf_x c1), if_pos (tf_x c1)]
      exact ⟨_, _, rfl, rfl, rfl, h⟩
  · rw [if_pos (tf_x c0), if_pos (tf_x c0)]
    exact ⟨_, _, rfl, rfl, rfl, h⟩
end SH
theorem S_type : St_type Rel := by
  intro t_now_kind t_now_used t_now_bay t_now_likes t_now_who t_now_lamp t_now_due t_now_gain t_now_count t_now_day t_now_dues t_now_draw t_past_marks_used t_past_marks_bay t_past_marks_day t_past_marks_dues t_past_marks_draw t_past_next t_past_known t_foreseen_kind t_foreseen_used t_foreseen_bay t_foreseen_likes t_foreseen_who t_foreseen_lamp t_foreseen_due t_foreseen_gain t_foreseen_count t_foreseen_day t_foreseen_dues t_foreseen_draw t_imageOfNow_kind t_imageOfNow_used t_imageOfNow_bay t_imageOfNow_likes t_imageOfNow_who t_imageOfNow_lamp t_imageOfNow_due t_imageOfNow_gain t_imageOfNow_count t_imageOfNow_day t_imageOfNow_dues t_imageOfNow_draw t_imageOfPast_marks_used t_imageOfPast_marks_bay t_imageOfPast_marks_day t_imageOfPast_marks_dues t_imageOfPast_marks_draw t_imageOfPast_next t_imageOfPast_known t_hasImage t_deal_bay t_deal_best t_deal_worth t_deal_free t_deal_count t_tape_letters t_tape_length t_tape_place t_sheets_items t_sheets_lane t_sheets_size u_now u_mores u_tape u_typed u_place u_isFault u_readLamps u_read u_undone u_undos u_aside u_bays u_bests u_kept u_keptUndos u_isKept u_lanes u_sizes u_items u_moved y0 hR
  obtain ⟨hC, hI, hT, hS⟩ := hR
  obtain ⟨rx, rm, e1, e2, e3, e4⟩ := st_type hT y0
  exact ⟨rx, rm, e1, e2, e3, hC, hI, e4, hS⟩
theorem S_sheet : St_sheet Rel := by
  intro t_now_kind t_now_used t_now_bay t_now_likes t_now_who t_now_lamp t_now_due t_now_gain t_now_count t_now_day t_now_dues t_now_draw t_past_marks_used t_past_marks_bay t_past_marks_day t_past_marks_dues t_past_marks_draw t_past_next t_past_known t_foreseen_kind t_foreseen_used t_foreseen_bay t_foreseen_likes t_foreseen_who t_foreseen_lamp t_foreseen_due t_foreseen_gain t_foreseen_count t_foreseen_day t_foreseen_dues t_foreseen_draw t_imageOfNow_kind t_imageOfNow_used t_imageOfNow_bay t_imageOfNow_likes t_imageOfNow_who t_imageOfNow_lamp t_imageOfNow_due t_imageOfNow_gain t_imageOfNow_count t_imageOfNow_day t_imageOfNow_dues t_imageOfNow_draw t_imageOfPast_marks_used t_imageOfPast_marks_bay t_imageOfPast_marks_day t_imageOfPast_marks_dues t_imageOfPast_marks_draw t_imageOfPast_next t_imageOfPast_known t_hasImage t_deal_bay t_deal_best t_deal_worth t_deal_free t_deal_count t_tape_letters t_tape_length t_tape_place t_sheets_items t_sheets_lane t_sheets_size u_now u_mores u_tape u_typed u_place u_isFault u_readLamps u_read u_undone u_undos u_aside u_bays u_bests u_kept u_keptUndos u_isKept u_lanes u_sizes u_items u_moved y0 y1 y2 hR
  obtain ⟨hC, hI, hT, hS⟩ := hR
  obtain ⟨rx, rm, e1, e2, e3, e4⟩ := st_sheet hS y0 y1 y2
  exact ⟨rx, rm, e1, e2, e3, hC, hI, hT, e4⟩
theorem S_drop : St_drop Rel := by
  intro t_now_kind t_now_used t_now_bay t_now_likes t_now_who t_now_lamp t_now_due t_now_gain t_now_count t_now_day t_now_dues t_now_draw t_past_marks_used t_past_marks_bay t_past_marks_day t_past_marks_dues t_past_marks_draw t_past_next t_past_known t_foreseen_kind t_foreseen_used t_foreseen_bay t_foreseen_likes t_foreseen_who t_foreseen_lamp t_foreseen_due t_foreseen_gain t_foreseen_count t_foreseen_day t_foreseen_dues t_foreseen_draw t_imageOfNow_kind t_imageOfNow_used t_imageOfNow_bay t_imageOfNow_likes t_imageOfNow_who t_imageOfNow_lamp t_imageOfNow_due t_imageOfNow_gain t_imageOfNow_count t_imageOfNow_day t_imageOfNow_dues t_imageOfNow_draw t_imageOfPast_marks_used t_imageOfPast_marks_bay t_imageOfPast_marks_day t_imageOfPast_marks_dues t_imageOfPast_marks_draw t_imageOfPast_next t_imageOfPast_known t_hasImage t_deal_bay t_deal_best t_deal_worth t_deal_free t_deal_count t_tape_letters t_tape_length t_tape_place t_sheets_items t_sheets_lane t_sheets_size u_now u_mores u_tape u_typed u_place u_isFault u_readLamps u_read u_undone u_undos u_aside u_bays u_bests u_kept u_keptUndos u_isKept u_lanes u_sizes u_items u_moved y0 hR
  obtain ⟨hC, hI, hT, hS⟩ := hR
  obtain ⟨rx, rm, e1, e2, e3, e4⟩ := st_drop hS y0
  exact ⟨rx, rm, e1, e2, e3, hC, hI, hT, e4⟩
theorem S_item : St_item Rel := by
  intro t_now_kind t_now_used t_now_bay t_now_likes t_now_who t_now_lamp t_now_due t_now_gain t_now_count t_now_day t_now_dues t_now_draw t_past_marks_used t_past_marks_bay t_past_marks_day t_past_marks_dues t_past_marks_draw t_past_next t_past_known t_foreseen_kind t_foreseen_used t_foreseen_bay t_foreseen_likes t_foreseen_who t_foreseen_lamp t_foreseen_due t_foreseen_gain t_foreseen_count t_foreseen_day t_foreseen_dues t_foreseen_draw t_imageOfNow_kind t_imageOfNow_used t_imageOfNow_bay t_imageOfNow_likes t_imageOfNow_who t_imageOfNow_lamp t_imageOfNow_due t_imageOfNow_gain t_imageOfNow_count t_imageOfNow_day t_imageOfNow_dues t_imageOfNow_draw t_imageOfPast_marks_used t_imageOfPast_marks_bay t_imageOfPast_marks_day t_imageOfPast_marks_dues t_imageOfPast_marks_draw t_imageOfPast_next t_imageOfPast_known t_hasImage t_deal_bay t_deal_best t_deal_worth t_deal_free t_deal_count t_tape_letters t_tape_length t_tape_place t_sheets_items t_sheets_lane t_sheets_size u_now u_mores u_tape u_typed u_place u_isFault u_readLamps u_read u_undone u_undos u_aside u_bays u_bests u_kept u_keptUndos u_isKept u_lanes u_sizes u_items u_moved y0 y1 y2 y3 hR
  obtain ⟨hC, hI, hT, hS⟩ := hR
  obtain ⟨rx, rm, e1, e2, e3, e4⟩ := st_item hS y0 y1 y2 y3
  exact ⟨rx, rm, e1, e2, e3, hC, hI, hT, e4⟩
theorem S_copy : St_copy Rel := by
  intro t_now_kind t_now_used t_now_bay t_now_likes t_now_who t_now_lamp t_now_due t_now_gain t_now_count t_now_day t_now_dues t_now_draw t_past_marks_used t_past_marks_bay t_past_marks_day t_past_marks_dues t_past_marks_draw t_past_next t_past_known t_foreseen_kind t_foreseen_used t_foreseen_bay t_foreseen_likes t_foreseen_who t_foreseen_lamp t_foreseen_due t_foreseen_gain t_foreseen_count t_foreseen_day t_foreseen_dues t_foreseen_draw t_imageOfNow_kind t_imageOfNow_used t_imageOfNow_bay t_imageOfNow_likes t_imageOfNow_who t_imageOfNow_lamp t_imageOfNow_due t_imageOfNow_gain t_imageOfNow_count t_imageOfNow_day t_imageOfNow_dues t_imageOfNow_draw t_imageOfPast_marks_used t_imageOfPast_marks_bay t_imageOfPast_marks_day t_imageOfPast_marks_dues t_imageOfPast_marks_draw t_imageOfPast_next t_imageOfPast_known t_hasImage t_deal_bay t_deal_best t_deal_worth t_deal_free t_deal_count t_tape_letters t_tape_length t_tape_place t_sheets_items t_sheets_lane t_sheets_size u_now u_mores u_tape u_typed u_place u_isFault u_readLamps u_read u_undone u_undos u_aside u_bays u_bests u_kept u_keptUndos u_isKept u_lanes u_sizes u_items u_moved y0 y1 y2 y3 y4 hR
  obtain ⟨hC, hI, hT, hS⟩ := hR
  obtain ⟨rx, rm, e1, e2, e3, e4⟩ := st_copy hS u_moved y0 y1 y2 y3 y4
  exact ⟨rx, rm, e1, e2, e3, hC, hI, hT, e4⟩
