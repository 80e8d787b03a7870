/-! MATHEMATICS 19: film, looks -/
abbrev F12 : Type := (Nat → Int32) × (Nat → Int32) × (Nat → Int32) × (Nat → Int32) × (Nat → Int32) × (Nat → Int32) × (Nat → Int32) × (Nat → Int32) × Int32 × Int32 × Int32 × Int32
def setK (S : Sc) (h k : Nat) : Sc := (sN S, mvB (sK S) h k, sU S, sB S, sL S, sP S, sD S, sY S, sZ S, sR S)
theorem ok_setK {S : Sc} (ho : okS S) {h k : Nat} (hk : k ≤ 4) : okS (setK S h k) := ⟨ho.1, fun g hg => ⟨by
  show mvB (sK S) h k g ≤ 4
  unfold mvB
  split
  · exact hk
  · exact (ho.2.1 g hg).1, (ho.2.1 g hg).2⟩, ho.2.2.1, ho.2.2.2.1, ho.2.2.2.2⟩
theorem cmp_eq (x y : Int64) : lg_cmp x y = 0 ↔ x = y := by
  unfold lg_cmp
  by_cases h1 : y < x
  · rw [if_pos h1]
    constructor
    · intro h; exact absurd h (by decide)
    · intro h
      subst h
      rw [ll_lt] at h1
      omega
  · rw [if_neg h1]
    by_cases h2 : x = y
    · rw [if_pos h2]
      exact ⟨fun _ => h2, fun _ => rfl⟩
    · rw [if_neg h2]
      constructor
      · intro h; exact absurd h (by decide)
      · intro h; exact absurd h h2
theorem fF_snoc {P : Nat → Bool} : ∀ {d k : Nat}, fF P (d + 1) k = match fF P d k with
    | some j => some j
    | none => if P (k + d) = true then some (k + d) else none := by
  intro d
  induction d with
  | zero => intro k; rfl
  | succ d ih =>
    intro k
    rw [fF_s, ih, fF_s]
    by_cases c : P k = true
    · rw [if_pos c, if_pos c]
    · rw [if_neg c, if_neg c, show k + 1 + d = k + (d + 1) by omega]
theorem cnt_fF {P : Nat → Bool} : ∀ {d : Nat}, cnt P d = 0 ↔ fF P d 0 = none := by
  intro d
  induction d with
  | zero => exact ⟨fun _ => rfl, fun _ => rfl⟩
  | succ d ih =>
    rw [cnt_s, fF_snoc, Nat.zero_add]
    by_cases c : P d = true
    · rw [if_pos c]
      constructor
      · intro h; omega
      · intro h
        cases e : fF P d 0 with
        | none => rw [e, if_pos c] at h; cases h
        | some j => rw [e] at h; cases h
    · rw [if_neg c, Nat.add_zero, ih]
      cases e : fF P d 0 with
      | none => simp [c]
      | some j => simp
theorem cut_u : ∀ l : Fin 4, ∀ u : Fin 100, cutL (nI l.val) (nI u.val).toInt64 = (nI u.val).toInt64 := by decide +kernel
theorem in24 (x : Int32) : f_X7_in x.toInt64 1 24 = some (tf (decide (1 ≤ x.toInt ∧ x.toInt ≤ 24))) := in7w x 1 24
theorem wi24 (x : Int32) : f_X6_within x 1 24 = some (tf (decide (1 ≤ x.toInt ∧ x.toInt ≤ 24))) := within6 x 1 24
theorem in8 (x : Int32) : f_X7_in x.toInt64 1 8 = some (tf (decide (1 ≤ x.toInt ∧ x.toInt ≤ 8))) := in7w x 1 8
theorem wi8 (x : Int32) : f_X6_within x 1 8 = some (tf (decide (1 ≤ x.toInt ∧ x.toInt ≤ 8))) := within6 x 1 8
theorem in2 (x : Int32) : f_X7_in x.toInt64 0 2 = some (tf (decide (0 ≤ x.toInt ∧ x.toInt ≤ 2))) := in7w x 0 2
theorem wi2 (x : Int32) : f_X6_within x 0 2 = some (tf (decide (0 ≤ x.toInt ∧ x.toInt ≤ 2))) := within6 x 0 2
/-- how used h is d + 1 days on, as an item -/
def usL (S : Sc) (h d : Nat) : Int64 := (nI (sU (passN (d + 1) S) h)).toInt64
section LK2
variable {kind used bay likes who lamp due : Nat → Int32} {count day dues draw : Int32} {fkind fused fbay flikes fwho flamp fdue fgain : Nat → Int32} {fcount fday fdues fdraw : Int32} {mu mb : Nat → Nat → Int32} {md mz mr : Nat → Int32} {next known : Int32} {now undone : Nat → Int32} {undos : Int32} {S : Sc} {items : Nat → Nat → Int64} {lane size : Nat → Int32} {lanes sizes : Nat → Int32} {mitems : Nat → Int64}
theorem X_setK (hX : isX S kind used bay likes who lamp due count day dues draw) (h k : Nat) : isX (setK S h k) (upd kind h (nI k)) used bay likes who lamp due count day dues draw := by
  refine ⟨hX.1, hX.2.1, hX.2.2.1, hX.2.2.2.1, fun g hg => ⟨?_, (hX.2.2.2.2.1 g hg).2⟩, hX.2.2.2.2.2⟩
  show upd kind h (nI k) g = nI (mvB (sK S) h k g)
  by_cases e : g = h
  · subst e; rw [pk_us, mv_s]
  · rw [pk_un e, mv_n _ e]; exact (hX.2.2.2.2.1 g hg).1
theorem M_setK (hM : isM S now) (ho : okS S) {h : Nat} (hh : h < sN S) (u : Nat) : isM (setK S h u) (upd now (4 + 4 * h) (nI u)) := by
  have hn := ho.1
  refine M_at hM ho _ _ _ rfl (fun _ => rfl) (fun e => by omega) (fun _ => rfl) (fun e => by omega) (fun _ => rfl) (fun e => by omega) (by omega) (fun g hg => ⟨fun e => ?_, fun e => ?_, fun _ => rfl, fun e => by omega, fun _ => rfl, fun e => by omega, fun _ => rfl, fun e => by omega⟩) (fun b hb => ⟨fun _ => rfl, fun e => by omega, fun _ => rfl, fun e => by omega⟩)
  · exact mv_n _ (by omega)
  · have : g = h := by omega
    subst this
    exact congrArg nI (mv_s _ _ _).symm
theorem film76 (hX : isX S fkind fused fbay flikes fwho flamp fdue fcount fday fdues fdraw) (ho : okS S) (fgain : Nat → Int32) {h s i m l : Nat} (hh : h < sN S) (hs : s < 4) (hi : i + m ≤ 24) (hl : l ≤ 3) (hla : lane s = nI l) : ∃ r, f_X6_film_c76 fu kind used bay likes who lamp due count day dues draw fkind fused fbay flikes fwho flamp fdue fgain fcount fday fdues fdraw items lane size (nI h) (nI m) (nI s) (nI i) 0 = some r ∧ r.1 = nI m ∧ ∀ t z, r.2.2.2.2.2.2.2.2.2.2.2.2.2 t z = if t = s ∧ i ≤ z ∧ z < i + m then usL S h (z - i) else items t z := by
  have hn := ho.1
  refine inv_all (fun f (a : (Nat → Int32) × (Nat → Int32) × Int32 × Int32 × (Nat → Nat → Int64)) k => f_X6_film_c76 f kind used bay likes who lamp due count day dues draw fkind a.1 fbay flikes fwho flamp fdue a.2.1 fcount a.2.2.1 a.2.2.2.1 fdraw a.2.2.2.2 lane size (nI h) (nI m) (nI s) (nI i) (nI k)) (fun k a => isX (passN k S) fkind a.1 fbay flikes fwho flamp fdue fcount a.2.2.1 a.2.2.2.1 fdraw ∧ ∀ t z, a.2.2.2.2 t z = if t = s ∧ i ≤ z ∧ z < i + k then usL S h (z - i) else items t z) m (fun o => ∃ r, o = some r ∧ r.1 = nI m ∧ ∀ t z, r.2.2.2.2.2.2.2.2.2.2.2.2.2 t z = if t = s ∧ i ≤ z ∧ z < i + m then usL S h (z - i) else items t z) (by omega) (fused, fgain, fday, fdues, items) ⟨hX, fun t z => by rw [if_neg (by omega)]⟩ ?_ ?_
  · rintro f k ⟨u, g, y, z, it⟩ hk ⟨hI, hJ⟩
    have hI : isX (passN k S) fkind u fbay flikes fwho flamp fdue fcount y z fdraw := hI
    have hJ : ∀ t z, it t z = if t = s ∧ i ≤ z ∧ z < i + k then usL S h (z - i) else items t z := hJ
    have hNk := passN_N k S
    obtain ⟨r, e1, e2⟩ := passDay3 hI (ok_passN k ho) g
    have hU := ((ok_passN (k + 1) ho).2.1 h (by rw [passN_N]; exact hh)).2.1
    have hu : r.1 h = nI (sU (passN (k + 1) S) h) := by
      have := (e2.2.2.2.2.1 h (by show h < sN (passN k S); omega)).2.1
      rw [this, passN_s]
    refine ⟨(r.1, r.2.1, r.2.2.1, r.2.2.2, va_up it s (vp_updL (it s) (i + k) (usL S h k))), ?_, ?_, ?_⟩
    · show f_X6_film_c76 (f + 1) kind used bay likes who lamp due count day dues draw fkind u fbay flikes fwho flamp fdue g fcount y z fdraw it lane size (nI h) (nI m) (nI s) (nI i) (nI k) = f_X6_film_c76 f kind used bay likes who lamp due count day dues draw fkind r.1 fbay flikes fwho flamp fdue r.2.1 fcount r.2.2.1 r.2.2.2 fdraw (va_up it s (vp_updL (it s) (i + k) (usL S h k))) lane size (nI h) (nI m) (nI s) (nI i) (nI (k + 1))
      rw [f_X6_film_c76, if_pos (nI_lt hk (by omega)), e1, sb, if_pos (inb_nI hs (by decide)), if_pos (inb_nI (show h < 6 by omega) (by decide)), nI_cl (show h < 2 ^ 31 by omega), nI_cl (show s < 2 ^ 31 by omega), jn_eq, hu]
      unfold f_X4_put
      rw [hla, cut4, sb, cut_u ⟨l, by omega⟩ ⟨_, by omega⟩, n_add, if_pos (inb_nI (show i + k < 24 by omega) (by decide)), nI_cl (by omega), sb, nI_1]
      rfl
    · show isX (passN (k + 1) S) _ _ _ _ _ _ _ _ _ _ _
      rw [passN_s]
      exact e2
    · intro t z
      show va_up it s (vp_updL (it s) (i + k) (usL S h k)) t z = _
      by_cases e : t = s
      · subst e
        rw [up_s]
        by_cases e2 : z = i + k
        · subst e2
          rw [pk_uLs, if_pos ⟨rfl, by omega, by omega⟩, show i + k - i = k by omega]
        · rw [pk_uLn e2, hJ]
          by_cases c : i ≤ z ∧ z < i + k
          · rw [if_pos ⟨rfl, c.1, c.2⟩, if_pos ⟨rfl, c.1, by omega⟩]
          · rw [if_neg (fun q => c q.2), if_neg (fun q => c ⟨q.2.1, by omega⟩)]
      · rw [up_n e, hJ, if_neg (fun q => e q.1), if_neg (fun q => e q.1)]
  · rintro f ⟨u, g, y, z, it⟩ ⟨hI, hJ⟩
    refine ⟨(nI m, fkind, u, fbay, flikes, fwho, flamp, fdue, g, fcount, y, z, fdraw, it), ?_, rfl, hJ⟩
    show f_X6_film_c76 (f + 1) kind used bay likes who lamp due count day dues draw fkind u fbay flikes fwho flamp fdue g fcount y z fdraw it lane size (nI h) (nI m) (nI s) (nI i) (nI m) = _
    rw [f_X6_film_c76, if_neg (nI_nlt (Nat.le_refl _) (by omega))]
theorem film64 (hM : isM S now) (ho : okS S) (mores aside : Nat → Int32) {h s i m : Nat} (hh : h < sN S) (hs : s < 4) (hi : i + m ≤ 24) : ∃ r, f_X7_film_c64 fu now mores aside lanes sizes mitems (nI h) (nI m) (nI s) (nI i) 0 = some r ∧ r.1 = nI m ∧ (∀ j, j < 40 → r.2.1 j = aside j) ∧ ∀ z, r.2.2.2.2 z = if 24 * s + i ≤ z ∧ z < 24 * s + i + m then usL S h (z - (24 * s + i)) else mitems z := by
  have hn := ho.1
  refine inv_all (fun f (a : (Nat → Int32) × (Nat → Int32) × (Nat → Int64)) k => f_X7_film_c64 f a.1 a.2.1 aside lanes sizes a.2.2 (nI h) (nI m) (nI s) (nI i) (nI k)) (fun k a => isM (passN k S) a.1 ∧ ∀ z, a.2.2 z = if 24 * s + i ≤ z ∧ z < 24 * s + i + k then usL S h (z - (24 * s + i)) else mitems z) m (fun o => ∃ r, o = some r ∧ r.1 = nI m ∧ (∀ j, j < 40 → r.2.1 j = aside j) ∧ ∀ z, r.2.2.2.2 z = if 24 * s + i ≤ z ∧ z < 24 * s + i + m then usL S h (z - (24 * s + i)) else mitems z) (by omega) (now, mores, mitems) ⟨hM, fun z => by rw [if_neg (by omega)]⟩ ?_ ?_
  · rintro f k ⟨a, mo, it⟩ hk ⟨hI, hJ⟩
    have hI : isM (passN k S) a := hI
    have hJ : ∀ z, it z = if 24 * s + i ≤ z ∧ z < 24 * s + i + k then usL S h (z - (24 * s + i)) else mitems z := hJ
    obtain ⟨r, e1, e2⟩ := goesBy7 mo hI (ok_passN k ho)
    have e2 : isM (passN (k + 1) S) r.1 := by rw [passN_s]; exact e2
    have hu := used7 e2 (ok_passN (k + 1) ho) (h := h) (by rw [passN_N]; exact hh)
    refine ⟨(r.1, r.2, vp_updL it (24 * s + i + k) (usL S h k)), ?_, e2, ?_⟩
    · show f_X7_film_c64 (f + 1) a mo aside lanes sizes it (nI h) (nI m) (nI s) (nI i) (nI k) = f_X7_film_c64 f r.1 r.2 aside lanes sizes (vp_updL it (24 * s + i + k) (usL S h k)) (nI h) (nI m) (nI s) (nI i) (nI (k + 1))
      rw [f_X7_film_c64, if_pos (nI_lt hk (by omega)), e1, sb, hu, sb, ix24, n_add, if_pos (inb_nI (show 24 * s + i + k < 96 by omega) (by decide)), nI_cl (by omega), nI_1]
      rfl
    · intro z
      show vp_updL it (24 * s + i + k) (usL S h k) z = _
      by_cases e2 : z = 24 * s + i + k
      · subst e2
        rw [pk_uLs, if_pos ⟨by omega, by omega⟩, show 24 * s + i + k - (24 * s + i) = k by omega]
      · rw [pk_uLn e2, hJ]
        by_cases c : 24 * s + i ≤ z ∧ z < 24 * s + i + k
        · rw [if_pos c, if_pos ⟨c.1, by omega⟩]
        · rw [if_neg c, if_neg (fun q => c ⟨q.1, by omega⟩)]
  · rintro f ⟨a, mo, it⟩ ⟨hI, hJ⟩
    obtain ⟨b, eb, hb⟩ := backs7 a aside
    refine ⟨(nI m, b, mo, aside, it), ?_, rfl, hb, hJ⟩
    show f_X7_film_c64 (f + 1) a mo aside lanes sizes it (nI h) (nI m) (nI s) (nI i) (nI m) = _
    rw [f_X7_film_c64, if_neg (nI_nlt (Nat.le_refl _) (by omega)), eb, sb]
theorem st_film (hC : RC kind used bay likes who lamp due count day dues draw mu mb md mz mr next known now undone undos) (hS : RS items lane size lanes sizes mitems) (mores aside : Nat → Int32) (fkind fused fbay flikes fwho flamp fdue fgain : Nat → Int32) (fcount fday fdues fdraw : Int32) (x n y l i : Int32) : ∃ rx rm, f_X6_film kind used bay likes who lamp due count day dues draw fkind fused fbay flikes fwho flamp fdue fgain fcount fday fdues fdraw items lane size x n y l i = some rx ∧ f_X7_film now mores aside lanes sizes mitems x n y l i = some rm ∧ rx.1 = rm.1 ∧ RC kind used bay likes who lamp due count day dues draw mu mb md mz mr next known rm.2.1 undone undos ∧ RS rx.2.2.2.2.2.2.2.2.2.2.2.2.2 lane size lanes sizes rm.2.2.2.2 := by
  obtain ⟨S, hs, ho, hh, hX, hM, hp, hq⟩ := id hC
  have hn := ho.1
  unfold f_X6_film f_X7_film
  rw [has3 hX ho, sb, isHolder7 hM ho, sb]
  by_cases c0 : 0 ≤ x.toInt ∧ x.toInt < sN S
  · rw [if_neg (tf_y c0), if_neg (tf_y c0), wi24, sb, in24, sb]
    by_cases c1 : 1 ≤ n.toInt ∧ n.toInt ≤ 24
    · rw [if_neg (tf_y c1), if_neg (tf_y c1), isSheet6, sb, isSheet7, sb]
      by_cases c2 : 0 ≤ y.toInt ∧ y.toInt ≤ 3
      · rw [if_neg (tf_y c2), if_neg (tf_y c2), isLane6, sb, isLane7, sb]
        by_cases c3 : 0 ≤ l.toInt ∧ l.toInt ≤ 3
        · rw [if_neg (tf_y c3), if_neg (tf_y c3)]
          obtain ⟨h, hlt, rfl⟩ := hold_x hn c0
          obtain ⟨s, hs4, rfl⟩ := sheet_x c2
          obtain ⟨w, e1, e2, hw⟩ := ref_why (hS s hs4) hs4 l i n
          rw [if_pos (inb_nI hs4 (by decide)), nI_cl (by omega), e1, sb, e2, sb]
          rcases hw with hw | ⟨hw, k, j, m, l', hk, hj, hl, rfl, rfl, hsz, hla, rfl⟩
          · rw [if_pos hw, if_pos hw]
            exact ⟨_, _, rfl, rfl, rfl, hC, hS⟩
          · rw [hw, if_neg (show ¬ (0 : Int32) < 0 by decide), if_neg (show ¬ (0 : Int32) < 0 by decide)]
            obtain ⟨b, eb, hb⟩ := become3 hX ho fkind fused fbay flikes fwho flamp fdue fcount fday fdues fdraw
            obtain ⟨as, ea, ha⟩ := asides7 now aside
            rw [eb, sb, ea, sb]
            obtain ⟨rx, f1, f2, f3⟩ := film76 (kind := kind) (used := used) (bay := bay) (likes := likes) (who := who) (lamp := lamp) (due := due) (count := count) (day := day) (dues := dues) (draw := draw) (items := items) (size := size) hb ho fgain hlt hs4 (i := j) (m := m) (by omega) hl hla
            obtain ⟨rm, g1, g2, g3, g4⟩ := film64 (lanes := lanes) (sizes := sizes) (mitems := mitems) hM ho mores as hlt hs4 (i := j) (m := m) (by omega)
            refine ⟨rx, rm, f1, g1, f2.trans g2.symm, RC_now hC (fun q hq => (g3 q hq).trans (ha q hq)), RS_items hS (fun t ht z hz => ?_)⟩
            rw [f3, g4]
            by_cases c : t = s ∧ j ≤ z ∧ z < j + m
            · obtain ⟨d1, d2, d3⟩ := c
              subst d1
              rw [if_pos ⟨rfl, d2, d3⟩, if_pos ⟨by omega, by omega⟩, show 24 * t + z - (24 * t + j) = z - j by omega]
            · rw [if_neg c, if_neg (fun q => c (by omega))]
              exact (hS t ht).1 z hz
        · rw [if_pos (tf_x c3), if_pos (tf_x c3)]
          exact ⟨_, _, rfl, rfl, rfl, hC, hS⟩
      · rw [if_pos (tf_x c2), if_pos (tf_x c2)]
        exact ⟨_, _, rfl, rfl, rfl, hC, hS⟩
    · rw [if_pos (tf_x c1), if_pos (tf_x c1)]
      exact ⟨_, _, rfl, rfl, rfl, hC, hS⟩
  · rw [if_pos (tf_x c0), if_pos (tf_x c0)]
    exact ⟨_, _, rfl, rfl, rfl, hC, hS⟩
/-- the first day that isn't so -/
def soF (it : Nat → Int64) (i : Nat) (S : Sc) (h d : Nat) : Bool := decide (¬ it (i + d) = usL S h d)
def soS (it : Nat → Int64) (i m : Nat) (S : Sc) (h : Nat) : Bool := (fF (soF it i S h) m 0).isNone
theorem goesBy6 (hX : isX S fkind fused fbay flikes fwho flamp fdue fcount fday fdues fdraw) (ho : okS S) (fgain : Nat → Int32) (it : Nat → Int64) {h i m : Nat} (hh : h < sN S) (hi : i + m ≤ 24) : ∃ r, f_X6_goesBy fkind fused fbay fwho flamp fdue fgain fcount fday fdues it (nI h) (nI i) (nI m) = some r ∧ r.1 = tf (soS it i m S h) := by
  have hn := ho.1
  unfold f_X6_goesBy soS
  refine ex_all (fun f (a : (Nat → Int32) × (Nat → Int32) × Int32 × Int32) k => f_X6_goesBy_c3 f fkind a.1 fbay fwho flamp fdue a.2.1 fcount a.2.2.1 a.2.2.2 it (nI h) (nI i) (nI m) (nI k)) (fun k a => isX (passN k S) fkind a.1 fbay flikes fwho flamp fdue fcount a.2.2.1 a.2.2.2 fdraw) (soF it i S h) m (fun o res => ∃ r, res = some r ∧ r.1 = tf o.isNone) (by omega) (fused, fgain, fday, fdues) hX ?_ ?_ ?_
  · rintro f k ⟨u, g, y, z⟩ hk hI hP
    have hI : isX (passN k S) fkind u fbay flikes fwho flamp fdue fcount y z fdraw := hI
    have hNk := passN_N k S
    obtain ⟨r, e1, e2⟩ := passDay3 hI (ok_passN k ho) g
    have hu : r.1 h = nI (sU (passN (k + 1) S) h) := by
      have := (e2.2.2.2.2.1 h (by show h < sN (passN k S); omega)).2.1
      rw [this, passN_s]
    have hP : ¬ it (i + k) = usL S h k := decide_eq_true_eq.mp hP
    refine ⟨(0, r.1, r.2.1, r.2.2.1, r.2.2.2), ?_, rfl⟩
    show f_X6_goesBy_c3 (f + 1) fkind u fbay fwho flamp fdue g fcount y z it (nI h) (nI i) (nI m) (nI k) = _
    rw [f_X6_goesBy_c3, if_pos (nI_lt hk (by omega)), e1, sb]
    simp only [jn_eq]
    rw [n_add, if_pos (inb_nI (show i + k < 24 by omega) (by decide)), if_pos (inb_nI (show h < 6 by omega) (by decide)), nI_cl (show h < 2 ^ 31 by omega), nI_cl (show i + k < 2 ^ 31 by omega), hu, show (nI (sU (passN (k + 1) S) h)).toInt64 = usL S h k from rfl, if_neg (fun e => hP ((cmp_eq _ _).mp e))]
  · rintro f k ⟨u, g, y, z⟩ hk hI hP
    have hI : isX (passN k S) fkind u fbay flikes fwho flamp fdue fcount y z fdraw := hI
    have hNk := passN_N k S
    obtain ⟨r, e1, e2⟩ := passDay3 hI (ok_passN k ho) g
    have hu : r.1 h = nI (sU (passN (k + 1) S) h) := by
      have := (e2.2.2.2.2.1 h (by show h < sN (passN k S); omega)).2.1
      rw [this, passN_s]
    have hP : it (i + k) = usL S h k := by
      have := decide_eq_false_iff_not.mp hP
      exact Classical.not_not.mp this
    refine ⟨r, ?_, ?_⟩
    · show f_X6_goesBy_c3 (f + 1) fkind u fbay fwho flamp fdue g fcount y z it (nI h) (nI i) (nI m) (nI k) = f_X6_goesBy_c3 f fkind r.1 fbay fwho flamp fdue r.2.1 fcount r.2.2.1 r.2.2.2 it (nI h) (nI i) (nI m) (nI (k + 1))
      rw [f_X6_goesBy_c3, if_pos (nI_lt hk (by omega)), e1, sb]
      simp only [jn_eq]
      rw [n_add, if_pos (inb_nI (show i + k < 24 by omega) (by decide)), if_pos (inb_nI (show h < 6 by omega) (by decide)), nI_cl (show h < 2 ^ 31 by omega), nI_cl (show i + k < 2 ^ 31 by omega), hu, show (nI (sU (passN (k + 1) S) h)).toInt64 = usL S h k from rfl, if_pos ((cmp_eq _ _).mpr hP), nI_1]
    · show isX (passN (k + 1) S) _ _ _ _ _ _ _ _ _ _ _
      rw [passN_s]
      exact e2
  · rintro f ⟨u, g, y, z⟩ hI
    refine ⟨(1, u, g, y, z), ?_, rfl⟩
    show f_X6_goesBy_c3 (f + 1) fkind u fbay fwho flamp fdue g fcount y z it (nI h) (nI i) (nI m) (nI m) = _
    rw [f_X6_goesBy_c3, if_neg (nI_nlt (Nat.le_refl _) (by omega))]
theorem so_snoc (it : Nat → Int64) (i k : Nat) (S : Sc) (h : Nat) : soS it i (k + 1) S h = (soS it i k S h && !soF it i S h k) := by
  unfold soS
  rw [fF_snoc, Nat.zero_add]
  cases fF (soF it i S h) k 0 with
  | some j => rfl
  | none =>
    cases soF it i S h k <;> rfl
theorem isSo7 (hM : isM S now) (ho : okS S) (mores aside : Nat → Int32) (it : Nat → Int64) {h i m : Nat} (hh : h < sN S) (hi : i + m ≤ 96) : ∃ r, f_X7_isSo now mores aside it (nI h) (nI i) (nI m) = some r ∧ r.1 = tf (soS it i m S h) ∧ ∀ j, j < 40 → r.2.1 j = aside j := by
  have hn := ho.1
  unfold f_X7_isSo
  refine inv_all (fun f (a : (Nat → Int32) × (Nat → Int32) × Int32) k => f_X7_isSo_c6 f a.1 a.2.1 aside it (nI h) (nI i) (nI m) a.2.2 (nI k)) (fun k a => isM (passN k S) a.1 ∧ a.2.2 = tf (soS it i k S h)) m (fun o => ∃ r, o = some r ∧ r.1 = tf (soS it i m S h) ∧ ∀ j, j < 40 → r.2.1 j = aside j) (by omega) (now, mores, 1) ⟨hM, rfl⟩ ?_ ?_
  · rintro f k ⟨a, mo, x⟩ hk ⟨hI, hJ⟩
    have hI : isM (passN k S) a := hI
    have hJ : x = tf (soS it i k S h) := hJ
    obtain ⟨r, e1, e2⟩ := goesBy7 mo hI (ok_passN k ho)
    have e2 : isM (passN (k + 1) S) r.1 := by rw [passN_s]; exact e2
    have hu := used7 e2 (ok_passN (k + 1) ho) (h := h) (by rw [passN_N]; exact hh)
    refine ⟨(r.1, r.2, tf (soS it i (k + 1) S h)), ?_, e2, rfl⟩
    show f_X7_isSo_c6 (f + 1) a mo aside it (nI h) (nI i) (nI m) x (nI k) = f_X7_isSo_c6 f r.1 r.2 aside it (nI h) (nI i) (nI m) (tf (soS it i (k + 1) S h)) (nI (k + 1))
    rw [f_X7_isSo_c6, if_pos (nI_lt hk (by omega)), e1, sb, hJ, so_snoc]
    unfold f_X7_isSo_c44 f_X7_isSo_c45
    cases c : soS it i k S h
    · rw [if_pos (show tf false = 0 from rfl), nI_1]
      rfl
    · rw [if_neg (show ¬ tf true = 0 by decide), hu, sb]
      simp only [jn_eq]
      rw [n_add, if_pos (inb_nI (show i + k < 96 by omega) (by decide)), nI_cl (by omega), nI_1, show (nI (sU (passN (k + 1) S) h)).toInt64 = usL S h k from rfl]
      unfold soF
      by_cases c2 : it (i + k) = usL S h k
      · rw [if_pos ((cmp_eq _ _).mpr c2.symm), decide_eq_false (fun q => q c2)]
        rfl
      · rw [if_neg (fun e => c2 ((cmp_eq _ _).mp e).symm), decide_eq_true c2]
        rfl
  · rintro f ⟨a, mo, x⟩ ⟨hI, hJ⟩
    have hJ : x = tf (soS it i m S h) := hJ
    obtain ⟨b, eb, hb⟩ := backs7 a aside
    refine ⟨(tf (soS it i m S h), b, mo), ?_, rfl, hb⟩
    show f_X7_isSo_c6 (f + 1) a mo aside it (nI h) (nI i) (nI m) x (nI m) = _
    rw [f_X7_isSo_c6, if_neg (nI_nlt (Nat.le_refl _) (by omega)), eb, sb, hJ, if_pos (tf_isb _)]
theorem kinds6 (hX : isX S kind used bay likes who lamp due count day dues draw) (ho : okS S) (it : Nat → Int64) {h i m : Nat} (hh : h < sN S) (hi : i + m ≤ 24) (F : F12) : ∃ r, f_X6_kindsBy kind used bay likes who lamp due count day dues draw F.1 F.2.1 F.2.2.1 F.2.2.2.1 F.2.2.2.2.1 F.2.2.2.2.2.1 F.2.2.2.2.2.2.1 F.2.2.2.2.2.2.2.1 F.2.2.2.2.2.2.2.2.1 F.2.2.2.2.2.2.2.2.2.1 F.2.2.2.2.2.2.2.2.2.2.1 F.2.2.2.2.2.2.2.2.2.2.2 it (nI h) (nI i) (nI m) = some r ∧ r.1 = nI (bitS (fun k => soS it i m (setK S h k) h) 5) := by
  have hn := ho.1
  unfold f_X6_kindsBy
  refine inv_all (fun f (a : F12 × Int32) k => f_X6_kindsBy_c6 f kind used bay likes who lamp due count day dues draw a.1.1 a.1.2.1 a.1.2.2.1 a.1.2.2.2.1 a.1.2.2.2.2.1 a.1.2.2.2.2.2.1 a.1.2.2.2.2.2.2.1 a.1.2.2.2.2.2.2.2.1 a.1.2.2.2.2.2.2.2.2.1 a.1.2.2.2.2.2.2.2.2.2.1 a.1.2.2.2.2.2.2.2.2.2.2.1 a.1.2.2.2.2.2.2.2.2.2.2.2 it (nI h) (nI i) (nI m) a.2 (nI k)) (fun k a => a.2 = nI (bitS (fun k => soS it i m (setK S h k) h) k)) 5 (fun o => ∃ r, o = some r ∧ r.1 = nI (bitS (fun k => soS it i m (setK S h k) h) 5)) (by decide) (F, 0) rfl ?_ ?_
  · rintro f k ⟨F, x⟩ hk hI
    have hI : x = nI (bitS (fun k => soS it i m (setK S h k) h) k) := hI
    obtain ⟨b, eb, hb⟩ := become3 hX ho F.1 F.2.1 F.2.2.1 F.2.2.2.1 F.2.2.2.2.1 F.2.2.2.2.2.1 F.2.2.2.2.2.2.1 F.2.2.2.2.2.2.2.2.1 F.2.2.2.2.2.2.2.2.2.1 F.2.2.2.2.2.2.2.2.2.2.1 F.2.2.2.2.2.2.2.2.2.2.2
    obtain ⟨g, eg, hg⟩ := goesBy6 (X_setK hb h k) (ok_setK ho (show k ≤ 4 by omega)) F.2.2.2.2.2.2.2.1 it hh hi
    refine ⟨((upd b.1 h (nI k), g.2.1, b.2.2.1, b.2.2.2.1, b.2.2.2.2.1, b.2.2.2.2.2.1, b.2.2.2.2.2.2.1, g.2.2.1, b.2.2.2.2.2.2.2.1, g.2.2.2.1, g.2.2.2.2, b.2.2.2.2.2.2.2.2.2.2), nI (bitS (fun k => soS it i m (setK S h k) h) (k + 1))), ?_, rfl⟩
    show f_X6_kindsBy_c6 (f + 1) kind used bay likes who lamp due count day dues draw F.1 F.2.1 F.2.2.1 F.2.2.2.1 F.2.2.2.2.1 F.2.2.2.2.2.1 F.2.2.2.2.2.2.1 F.2.2.2.2.2.2.2.1 F.2.2.2.2.2.2.2.2.1 F.2.2.2.2.2.2.2.2.2.1 F.2.2.2.2.2.2.2.2.2.2.1 F.2.2.2.2.2.2.2.2.2.2.2 it (nI h) (nI i) (nI m) x (nI k) = f_X6_kindsBy_c6 f kind used bay likes who lamp due count day dues draw (upd b.1 h (nI k)) g.2.1 b.2.2.1 b.2.2.2.1 b.2.2.2.2.1 b.2.2.2.2.2.1 b.2.2.2.2.2.2.1 g.2.2.1 b.2.2.2.2.2.2.2.1 g.2.2.2.1 g.2.2.2.2 b.2.2.2.2.2.2.2.2.2.2 it (nI h) (nI i) (nI m) (nI (bitS (fun k => soS it i m (setK S h k) h) (k + 1))) (nI (k + 1))
    rw [f_X6_kindsBy_c6, if_neg (show ¬ (4 : Int32) < nI k from nI_nlt (a := 4) (by omega) (by decide)), eb, sb, if_pos (inb_nI (show h < 6 by omega) (by decide)), nI_cl (by omega), eg, sb, hg, hI, ← or_b _ (show k < 6 by omega)]
    unfold f_X6_kindsBy_c55
    rw [nI_1]
    cases c : soS it i m (setK S h k) h
    · rw [if_pos (show tf false = 0 from rfl), if_neg (by decide), Int32.or_zero]
    · rw [if_neg (show ¬ tf true = 0 by decide), if_pos rfl]
  · rintro f ⟨F, x⟩ hI
    exact ⟨_, rfl, hI⟩
theorem nums6 (hX : isX S kind used bay likes who lamp due count day dues draw) (ho : okS S) (it : Nat → Int64) {h i m : Nat} (hh : h < sN S) (hi : i + m ≤ 24) (F : F12) : ∃ r, f_X6_numbersBy kind used bay likes who lamp due count day dues draw F.1 F.2.1 F.2.2.1 F.2.2.2.1 F.2.2.2.2.1 F.2.2.2.2.2.1 F.2.2.2.2.2.2.1 F.2.2.2.2.2.2.2.1 F.2.2.2.2.2.2.2.2.1 F.2.2.2.2.2.2.2.2.2.1 F.2.2.2.2.2.2.2.2.2.2.1 F.2.2.2.2.2.2.2.2.2.2.2 it (nI h) (nI i) (nI m) 0 = some r ∧ r.1 = nI (cnt (fun k => soS it i m (setU S h k) h) 100) := by
  have hn := ho.1
  unfold f_X6_numbersBy
  refine inv_all (fun f (a : F12 × Int32) k => f_X6_numbersBy_c6 f kind used bay likes who lamp due count day dues draw a.1.1 a.1.2.1 a.1.2.2.1 a.1.2.2.2.1 a.1.2.2.2.2.1 a.1.2.2.2.2.2.1 a.1.2.2.2.2.2.2.1 a.1.2.2.2.2.2.2.2.1 a.1.2.2.2.2.2.2.2.2.1 a.1.2.2.2.2.2.2.2.2.2.1 a.1.2.2.2.2.2.2.2.2.2.2.1 a.1.2.2.2.2.2.2.2.2.2.2.2 it (nI h) (nI i) (nI m) 0 a.2 (nI k)) (fun k a => a.2 = nI (cnt (fun k => soS it i m (setU S h k) h) k)) 100 (fun o => ∃ r, o = some r ∧ r.1 = nI (cnt (fun k => soS it i m (setU S h k) h) 100)) (by decide) (F, 0) rfl ?_ ?_
  · rintro f k ⟨F, x⟩ hk hI
    have hI : x = nI (cnt (fun k => soS it i m (setU S h k) h) k) := hI
    obtain ⟨b, eb, hb⟩ := become3 hX ho F.1 F.2.1 F.2.2.1 F.2.2.2.1 F.2.2.2.2.1 F.2.2.2.2.2.1 F.2.2.2.2.2.2.1 F.2.2.2.2.2.2.2.2.1 F.2.2.2.2.2.2.2.2.2.1 F.2.2.2.2.2.2.2.2.2.2.1 F.2.2.2.2.2.2.2.2.2.2.2
    obtain ⟨g, eg, hg⟩ := goesBy6 (X_setU hb h k) (ok_setU ho (show k ≤ 99 by omega)) F.2.2.2.2.2.2.2.1 it hh hi
    refine ⟨((b.1, g.2.1, b.2.2.1, b.2.2.2.1, b.2.2.2.2.1, b.2.2.2.2.2.1, b.2.2.2.2.2.2.1, g.2.2.1, b.2.2.2.2.2.2.2.1, g.2.2.2.1, g.2.2.2.2, b.2.2.2.2.2.2.2.2.2.2), nI (cnt (fun k => soS it i m (setU S h k) h) (k + 1))), ?_, rfl⟩
    show f_X6_numbersBy_c6 (f + 1) kind used bay likes who lamp due count day dues draw F.1 F.2.1 F.2.2.1 F.2.2.2.1 F.2.2.2.2.1 F.2.2.2.2.2.1 F.2.2.2.2.2.2.1 F.2.2.2.2.2.2.2.1 F.2.2.2.2.2.2.2.2.1 F.2.2.2.2.2.2.2.2.2.1 F.2.2.2.2.2.2.2.2.2.2.1 F.2.2.2.2.2.2.2.2.2.2.2 it (nI h) (nI i) (nI m) 0 x (nI k) = f_X6_numbersBy_c6 f kind used bay likes who lamp due count day dues draw b.1 g.2.1 b.2.2.1 b.2.2.2.1 b.2.2.2.2.1 b.2.2.2.2.2.1 b.2.2.2.2.2.2.1 g.2.2.1 b.2.2.2.2.2.2.2.1 g.2.2.2.1 g.2.2.2.2 b.2.2.2.2.2.2.2.2.2.2 it (nI h) (nI i) (nI m) 0 (nI (cnt (fun k => soS it i m (setU S h k) h) (k + 1))) (nI (k + 1))
    rw [f_X6_numbersBy_c6, if_neg (show ¬ (99 : Int32) < nI k from nI_nlt (a := 99) (by omega) (by decide)), eb, sb, if_pos (inb_nI (show h < 6 by omega) (by decide)), nI_cl (by omega), eg, sb, hg, hI, cnt_s]
    unfold f_X6_numbersBy_c58
    rw [nI_1, if_pos (show (0 : Int32) = 0 from rfl), nI_1]
    cases c : soS it i m (setU S h k) h
    · rw [if_pos (show tf false = 0 from rfl), if_neg (by decide)]
      rfl
    · rw [if_neg (show ¬ tf true = 0 by decide), if_pos rfl]
  · rintro f ⟨F, x⟩ hI
    exact ⟨_, rfl, hI⟩
theorem least6 (hX : isX S kind used bay likes who lamp due count day dues draw) (ho : okS S) (it : Nat → Int64) {h i m : Nat} (hh : h < sN S) (hi : i + m ≤ 24) (F : F12) : ∃ r, f_X6_numbersBy kind used bay likes who lamp due count day dues draw F.1 F.2.1 F.2.2.1 F.2.2.2.1 F.2.2.2.2.1 F.2.2.2.2.2.1 F.2.2.2.2.2.2.1 F.2.2.2.2.2.2.2.1 F.2.2.2.2.2.2.2.2.1 F.2.2.2.2.2.2.2.2.2.1 F.2.2.2.2.2.2.2.2.2.2.1 F.2.2.2.2.2.2.2.2.2.2.2 it (nI h) (nI i) (nI m) 1 = some r ∧ r.1 = wI (fF (fun k => soS it i m (setU S h k) h) 100 0) (-4) := by
  have hn := ho.1
  unfold f_X6_numbersBy
  refine ex_all (fun f (a : F12) k => f_X6_numbersBy_c6 f kind used bay likes who lamp due count day dues draw a.1 a.2.1 a.2.2.1 a.2.2.2.1 a.2.2.2.2.1 a.2.2.2.2.2.1 a.2.2.2.2.2.2.1 a.2.2.2.2.2.2.2.1 a.2.2.2.2.2.2.2.2.1 a.2.2.2.2.2.2.2.2.2.1 a.2.2.2.2.2.2.2.2.2.2.1 a.2.2.2.2.2.2.2.2.2.2.2 it (nI h) (nI i) (nI m) 1 0 (nI k)) (fun k a => True) (fun k => soS it i m (setU S h k) h) 100 (fun o res => ∃ r, res = some r ∧ r.1 = wI o (-4)) (by decide) F trivial ?_ ?_ ?_
  · intro f k F hk _ hP
    have hP : soS it i m (setU S h k) h = true := hP
    obtain ⟨b, eb, hb⟩ := become3 hX ho F.1 F.2.1 F.2.2.1 F.2.2.2.1 F.2.2.2.2.1 F.2.2.2.2.2.1 F.2.2.2.2.2.2.1 F.2.2.2.2.2.2.2.2.1 F.2.2.2.2.2.2.2.2.2.1 F.2.2.2.2.2.2.2.2.2.2.1 F.2.2.2.2.2.2.2.2.2.2.2
    obtain ⟨g, eg, hg⟩ := goesBy6 (X_setU hb h k) (ok_setU ho (show k ≤ 99 by omega)) F.2.2.2.2.2.2.2.1 it hh hi
    refine ⟨(nI k, b.1, g.2.1, b.2.2.1, b.2.2.2.1, b.2.2.2.2.1, b.2.2.2.2.2.1, b.2.2.2.2.2.2.1, g.2.2.1, b.2.2.2.2.2.2.2.1, g.2.2.2.1, g.2.2.2.2, b.2.2.2.2.2.2.2.2.2.2), ?_, rfl⟩
    show f_X6_numbersBy_c6 (f + 1) kind used bay likes who lamp due count day dues draw F.1 F.2.1 F.2.2.1 F.2.2.2.1 F.2.2.2.2.1 F.2.2.2.2.2.1 F.2.2.2.2.2.2.1 F.2.2.2.2.2.2.2.1 F.2.2.2.2.2.2.2.2.1 F.2.2.2.2.2.2.2.2.2.1 F.2.2.2.2.2.2.2.2.2.2.1 F.2.2.2.2.2.2.2.2.2.2.2 it (nI h) (nI i) (nI m) 1 0 (nI k) = _
    rw [f_X6_numbersBy_c6, if_neg (show ¬ (99 : Int32) < nI k from nI_nlt (a := 99) (by omega) (by decide)), eb, sb, if_pos (inb_nI (show h < 6 by omega) (by decide)), nI_cl (by omega), eg, sb, hg, hP, if_neg (show ¬ tf true = 0 by decide), if_neg (show ¬ (1 : Int32) = 0 by decide)]
  · intro f k F hk _ hP
    have hP : soS it i m (setU S h k) h = false := hP
    obtain ⟨b, eb, hb⟩ := become3 hX ho F.1 F.2.1 F.2.2.1 F.2.2.2.1 F.2.2.2.2.1 F.2.2.2.2.2.1 F.2.2.2.2.2.2.1 F.2.2.2.2.2.2.2.2.1 F.2.2.2.2.2.2.2.2.2.1 F.2.2.2.2.2.2.2.2.2.2.1 F.2.2.2.2.2.2.2.2.2.2.2
    obtain ⟨g, eg, hg⟩ := goesBy6 (X_setU hb h k) (ok_setU ho (show k ≤ 99 by omega)) F.2.2.2.2.2.2.2.1 it hh hi
    refine ⟨(b.1, g.2.1, b.2.2.1, b.2.2.2.1, b.2.2.2.2.1, b.2.2.2.2.2.1, b.2.2.2.2.2.2.1, g.2.2.1, b.2.2.2.2.2.2.2.1, g.2.2.2.1, g.2.2.2.2, b.2.2.2.2.2.2.2.2.2.2), ?_, trivial⟩
    show f_X6_numbersBy_c6 (f + 1) kind used bay likes who lamp due count day dues draw F.1 F.2.1 F.2.2.1 F.2.2.2.1 F.2.2.2.2.1 F.2.2.2.2.2.1 F.2.2.2.2.2.2.1 F.2.2.2.2.2.2.2.1 F.2.2.2.2.2.2.2.2.1 F.2.2.2.2.2.2.2.2.2.1 F.2.2.2.2.2.2.2.2.2.2.1 F.2.2.2.2.2.2.2.2.2.2.2 it (nI h) (nI i) (nI m) 1 0 (nI k) = f_X6_numbersBy_c6 f kind used bay likes who lamp due count day dues draw b.1 g.2.1 b.2.2.1 b.2.2.2.1 b.2.2.2.2.1 b.2.2.2.2.2.1 b.2.2.2.2.2.2.1 g.2.2.1 b.2.2.2.2.2.2.2.1 g.2.2.2.1 g.2.2.2.2 b.2.2.2.2.2.2.2.2.2.2 it (nI h) (nI i) (nI m) 1 0 (nI (k + 1))
    rw [f_X6_numbersBy_c6, if_neg (show ¬ (99 : Int32) < nI k from nI_nlt (a := 99) (by omega) (by decide)), eb, sb, if_pos (inb_nI (show h < 6 by omega) (by decide)), nI_cl (by omega), eg, sb, hg, hP, if_pos (show tf false = 0 from rfl)]
    unfold f_X6_numbersBy_c58
    rw [nI_1]
  · intro f F _
    exact ⟨_, rfl, rfl⟩
end LK2
theorem S_film : St_film Rel := by
  intro t_now_kind t_now_used t_now_bay t_now_likes t_now_who t_now_lamp t_now_due t_now_gain t_now_count t_now_day t_now_dues t_now_draw t_past_marks_used t_past_marks_bay t_past_marks_day t_past_marks_dues t_past_marks_draw t_past_next t_past_known t_foreseen_kind t_foreseen_used t_foreseen_bay t_foreseen_likes t_foreseen_who t_foreseen_lamp t_foreseen_due t_foreseen_gain t_foreseen_count t_foreseen_day t_foreseen_dues t_foreseen_draw t_imageOfNow_kind t_imageOfNow_used t_imageOfNow_bay t_imageOfNow_likes t_imageOfNow_who t_imageOfNow_lamp t_imageOfNow_due t_imageOfNow_gain t_imageOfNow_count t_imageOfNow_day t_imageOfNow_dues t_imageOfNow_draw t_imageOfPast_marks_used t_imageOfPast_marks_bay t_imageOfPast_marks_day t_imageOfPast_marks_dues t_imageOfPast_marks_draw t_imageOfPast_next t_imageOfPast_known t_hasImage t_deal_bay t_deal_best t_deal_worth t_deal_free t_deal_count t_tape_letters t_tape_length t_tape_place t_sheets_items t_sheets_lane t_sheets_size u_now u_mores u_tape u_typed u_place u_isFault u_readLamps u_read u_undone u_undos u_aside u_bays u_bests u_kept u_keptUndos u_isKept u_lanes u_sizes u_items u_moved y0 y1 y2 y3 y4 hR
  obtain ⟨hC, hI, hT, hS⟩ := hR
  obtain ⟨rx, rm, e1, e2, e3, e4, e5⟩ := st_film hC hS u_mores u_aside t_foreseen_kind t_foreseen_used t_foreseen_bay t_foreseen_likes t_foreseen_who t_foreseen_lamp t_foreseen_due t_foreseen_gain t_foreseen_count t_foreseen_day t_foreseen_dues t_foreseen_draw y0 y1 y2 y3 y4
  exact ⟨rx, rm, e1, e2, e3, e4, hI, hT, e5⟩
