/-! facts of the tables, by their places; the constants of the walks -/
def tyz (cI cL cC cM cS : ClassId) : List (ClassId × FieldType) := [(cI, .int), (cL, .long), (cC, .char), (cM, .object "CryptBays$Mark"), (cS, .object "CryptBays$Sheet")]
def fu : Nat := 100000
def cpok (i j n : Int32) (a b : Nat) : Bool := decide (¬ i < 0) && (decide (¬ j < 0) && (decide (¬ n < 0) && (decide (i.toNatClampNeg + n.toNatClampNeg ≤ a) && decide (j.toNatClampNeg + n.toNatClampNeg ≤ b))))
theorem cpok_a {i j n : Int32} {a b : Nat} (h : cpok i j n a b = true) : ¬ i < 0 ∧ ¬ j < 0 ∧ ¬ n < 0 ∧ i.toNatClampNeg + n.toNatClampNeg ≤ a ∧ j.toNatClampNeg + n.toNatClampNeg ≤ b := by
  simp only [cpok, Bool.and_eq_true, decide_eq_true_eq] at h
  exact h
theorem cpok_1 {i j n : Int32} {a b : Nat} (h : cpok i j n a b = true) : ¬ i < 0 := (cpok_a h).1
theorem cpok_2 {i j n : Int32} {a b : Nat} (h : cpok i j n a b = true) : ¬ j < 0 := (cpok_a h).2.1
theorem cpok_3 {i j n : Int32} {a b : Nat} (h : cpok i j n a b = true) : ¬ n < 0 := (cpok_a h).2.2.1
theorem cpok_4 {i j n : Int32} {a b : Nat} (h : cpok i j n a b = true) : i.toNatClampNeg + n.toNatClampNeg ≤ a := (cpok_a h).2.2.2.1
theorem cpok_5 {i j n : Int32} {a b : Nat} (h : cpok i j n a b = true) : j.toNatClampNeg + n.toNatClampNeg ≤ b := (cpok_a h).2.2.2.2
set_option maxRecDepth 20000 in
theorem inu_0 : ∀ w ∈ u_ws RX0 TX0 5, w ∈ ut_bl := by decide +kernel
set_option maxRecDepth 20000 in
theorem inu_1 : ∀ w ∈ u_ws RX1 TX1 5, w ∈ ut_bl := by decide +kernel
set_option maxRecDepth 20000 in
theorem inu_2 : ∀ w ∈ u_ws RX2 TX2 3, w ∈ ut_bl := by decide +kernel
set_option maxRecDepth 20000 in
theorem inu_3 : ∀ w ∈ u_ws RX3 TX3 12, w ∈ ut_bl := by decide +kernel
set_option maxRecDepth 20000 in
theorem inu_4 : ∀ w ∈ u_ws RX4 TX4 3, w ∈ ut_bl := by decide +kernel
set_option maxRecDepth 20000 in
theorem inu_5 : ∀ w ∈ u_ws RX5 TX5 3, w ∈ ut_bl := by decide +kernel
set_option maxRecDepth 20000 in
theorem inu_6 : ∀ w ∈ u_ws RX6 TX6 9, w ∈ ut_bl := by decide +kernel
set_option maxRecDepth 20000 in
theorem inu_7 : ∀ w ∈ u_ws RX7 TX7 20, w ∈ ut_bl := by decide +kernel
theorem fl_6_10 : FL RX6 10 6 0 := ⟨RX6, TX6, 9, rfl, by decide, inu_6, (um_1 _ (List.mem_of_getElem? (i := 188) rfl) rfl)⟩
theorem fl_6_19 : FL RX6 19 6 1 := ⟨RX6, TX6, 9, rfl, by decide, inu_6, (um_1 _ (List.mem_of_getElem? (i := 189) rfl) rfl)⟩
theorem fl_6_23 : FL RX6 23 6 2 := ⟨RX6, TX6, 9, rfl, by decide, inu_6, (um_1 _ (List.mem_of_getElem? (i := 190) rfl) rfl)⟩
theorem fl_6_26 : FL RX6 26 6 3 := ⟨RX6, TX6, 9, rfl, by decide, inu_6, (um_1 _ (List.mem_of_getElem? (i := 191) rfl) rfl)⟩
theorem fl_6_29 : FL RX6 29 6 4 := ⟨RX6, TX6, 9, rfl, by decide, inu_6, (um_1 _ (List.mem_of_getElem? (i := 192) rfl) rfl)⟩
theorem fl_6_35 : FL RX6 35 6 6 := ⟨RX6, TX6, 9, rfl, by decide, inu_6, (um_1 _ (List.mem_of_getElem? (i := 194) rfl) rfl)⟩
theorem fl_6_42 : FL RX6 42 6 7 := ⟨RX6, TX6, 9, rfl, by decide, inu_6, (um_1 _ (List.mem_of_getElem? (i := 195) rfl) rfl)⟩
theorem fl_6_48 : FL RX6 48 6 8 := ⟨RX6, TX6, 9, rfl, by decide, inu_6, (um_1 _ (List.mem_of_getElem? (i := 196) rfl) rfl)⟩
theorem fl_6_72 : FL RX6 72 3 8 := ⟨RX3, TX3, 12, rfl, by decide, inu_3, (um_1 _ (List.mem_of_getElem? (i := 48) rfl) rfl)⟩
theorem fp_6_72 : FP RX6 72 3 8 .int := ⟨RX3, TX3, 12, rfl, by decide, inu_3, (um_1 _ (List.mem_of_getElem? (i := 48) rfl) rfl), rfl, by decide, ⟨tyX3, tyX3_ok⟩, nmX3⟩
theorem fl_6_76 : FL RX6 76 3 5 := ⟨RX3, TX3, 12, rfl, by decide, inu_3, (um_1 _ (List.mem_of_getElem? (i := 43) rfl) rfl)⟩
theorem fl_6_80 : FL RX6 80 3 6 := ⟨RX3, TX3, 12, rfl, by decide, inu_3, (um_1 _ (List.mem_of_getElem? (i := 46) rfl) rfl)⟩
theorem fl_6_86 : FL RX6 86 3 0 := ⟨RX3, TX3, 12, rfl, by decide, inu_3, (um_1 _ (List.mem_of_getElem? (i := 31) rfl) rfl)⟩
theorem fl_6_89 : FL RX6 89 3 1 := ⟨RX3, TX3, 12, rfl, by decide, inu_3, (um_1 _ (List.mem_of_getElem? (i := 34) rfl) rfl)⟩
theorem fl_6_92 : FL RX6 92 3 2 := ⟨RX3, TX3, 12, rfl, by decide, inu_3, (um_1 _ (List.mem_of_getElem? (i := 37) rfl) rfl)⟩
theorem fl_6_95 : FL RX6 95 3 3 := ⟨RX3, TX3, 12, rfl, by decide, inu_3, (um_1 _ (List.mem_of_getElem? (i := 39) rfl) rfl)⟩
theorem fl_6_112 : FL RX6 112 3 4 := ⟨RX3, TX3, 12, rfl, by decide, inu_3, (um_1 _ (List.mem_of_getElem? (i := 41) rfl) rfl)⟩
theorem fl_6_119 : FL RX6 119 5 1 := ⟨RX5, TX5, 3, rfl, by decide, inu_5, (um_1 _ (List.mem_of_getElem? (i := 157) rfl) rfl)⟩
theorem fp_6_119 : FP RX6 119 5 1 .int := ⟨RX5, TX5, 3, rfl, by decide, inu_5, (um_1 _ (List.mem_of_getElem? (i := 157) rfl) rfl), rfl, by decide, ⟨tyX5, tyX5_ok⟩, nmX5⟩
theorem fl_6_133 : FL RX6 133 5 2 := ⟨RX5, TX5, 3, rfl, by decide, inu_5, (um_1 _ (List.mem_of_getElem? (i := 159) rfl) rfl)⟩
theorem fp_6_133 : FP RX6 133 5 2 .int := ⟨RX5, TX5, 3, rfl, by decide, inu_5, (um_1 _ (List.mem_of_getElem? (i := 159) rfl) rfl), rfl, by decide, ⟨tyX5, tyX5_ok⟩, nmX5⟩
theorem fl_6_137 : FL RX6 137 3 9 := ⟨RX3, TX3, 12, rfl, by decide, inu_3, (um_1 _ (List.mem_of_getElem? (i := 52) rfl) rfl)⟩
theorem fp_6_137 : FP RX6 137 3 9 .int := ⟨RX3, TX3, 12, rfl, by decide, inu_3, (um_1 _ (List.mem_of_getElem? (i := 52) rfl) rfl), rfl, by decide, ⟨tyX3, tyX3_ok⟩, nmX3⟩
theorem fl_6_140 : FL RX6 140 3 10 := ⟨RX3, TX3, 12, rfl, by decide, inu_3, (um_1 _ (List.mem_of_getElem? (i := 55) rfl) rfl)⟩
theorem fp_6_140 : FP RX6 140 3 10 .int := ⟨RX3, TX3, 12, rfl, by decide, inu_3, (um_1 _ (List.mem_of_getElem? (i := 55) rfl) rfl), rfl, by decide, ⟨tyX3, tyX3_ok⟩, nmX3⟩
theorem fl_6_152 : FL RX6 152 2 2 := ⟨RX2, TX2, 3, rfl, by decide, inu_2, (um_1 _ (List.mem_of_getElem? (i := 117) rfl) rfl)⟩
theorem fp_6_152 : FP RX6 152 2 2 .int := ⟨RX2, TX2, 3, rfl, by decide, inu_2, (um_1 _ (List.mem_of_getElem? (i := 117) rfl) rfl), rfl, by decide, ⟨tyX2, tyX2_ok⟩, nmX2⟩
theorem fl_6_176 : FL RX6 176 3 11 := ⟨RX3, TX3, 12, rfl, by decide, inu_3, (um_1 _ (List.mem_of_getElem? (i := 58) rfl) rfl)⟩
theorem fp_6_176 : FP RX6 176 3 11 .int := ⟨RX3, TX3, 12, rfl, by decide, inu_3, (um_1 _ (List.mem_of_getElem? (i := 58) rfl) rfl), rfl, by decide, ⟨tyX3, tyX3_ok⟩, nmX3⟩
theorem fl_6_227 : FL RX6 227 6 5 := ⟨RX6, TX6, 9, rfl, by decide, inu_6, (um_1 _ (List.mem_of_getElem? (i := 193) rfl) rfl)⟩
theorem fp_6_227 : FP RX6 227 6 5 .boolean := ⟨RX6, TX6, 9, rfl, by decide, inu_6, (um_1 _ (List.mem_of_getElem? (i := 193) rfl) rfl), rfl, by decide, ⟨tyX6, tyX6_ok⟩, nmX6⟩
theorem fl_6_263 : FL RX6 263 4 1 := ⟨RX4, TX4, 3, rfl, by decide, inu_4, (um_1 _ (List.mem_of_getElem? (i := 178) rfl) rfl)⟩
theorem fp_6_263 : FP RX6 263 4 1 .int := ⟨RX4, TX4, 3, rfl, by decide, inu_4, (um_1 _ (List.mem_of_getElem? (i := 178) rfl) rfl), rfl, by decide, ⟨tyX4, tyX4_ok⟩, nmX4⟩
theorem fl_6_266 : FL RX6 266 4 0 := ⟨RX4, TX4, 3, rfl, by decide, inu_4, (um_1 _ (List.mem_of_getElem? (i := 176) rfl) rfl)⟩
theorem fl_6_282 : FL RX6 282 0 0 := ⟨RX0, TX0, 5, rfl, by decide, inu_0, (um_1 _ (List.mem_of_getElem? (i := 132) rfl) rfl)⟩
theorem fl_6_283 : FL RX6 283 0 2 := ⟨RX0, TX0, 5, rfl, by decide, inu_0, (um_1 _ (List.mem_of_getElem? (i := 135) rfl) rfl)⟩
theorem fp_6_283 : FP RX6 283 0 2 .int := ⟨RX0, TX0, 5, rfl, by decide, inu_0, (um_1 _ (List.mem_of_getElem? (i := 135) rfl) rfl), rfl, by decide, ⟨tyX0, tyX0_ok⟩, nmX0⟩
theorem fl_0_9 : FL RX0 9 0 0 := ⟨RX0, TX0, 5, rfl, by decide, inu_0, (um_1 _ (List.mem_of_getElem? (i := 131) rfl) rfl)⟩
theorem fl_0_15 : FL RX0 15 0 1 := ⟨RX0, TX0, 5, rfl, by decide, inu_0, (um_1 _ (List.mem_of_getElem? (i := 133) rfl) rfl)⟩
theorem fl_0_18 : FL RX0 18 0 4 := ⟨RX0, TX0, 5, rfl, by decide, inu_0, (um_1 _ (List.mem_of_getElem? (i := 137) rfl) rfl)⟩
theorem fp_0_18 : FP RX0 18 0 4 .int := ⟨RX0, TX0, 5, rfl, by decide, inu_0, (um_1 _ (List.mem_of_getElem? (i := 137) rfl) rfl), rfl, by decide, ⟨tyX0, tyX0_ok⟩, nmX0⟩
theorem fl_0_22 : FL RX0 22 0 3 := ⟨RX0, TX0, 5, rfl, by decide, inu_0, (um_1 _ (List.mem_of_getElem? (i := 136) rfl) rfl)⟩
theorem fp_0_22 : FP RX0 22 0 3 .int := ⟨RX0, TX0, 5, rfl, by decide, inu_0, (um_1 _ (List.mem_of_getElem? (i := 136) rfl) rfl), rfl, by decide, ⟨tyX0, tyX0_ok⟩, nmX0⟩
theorem fl_0_37 : FL RX0 37 0 2 := ⟨RX0, TX0, 5, rfl, by decide, inu_0, (um_1 _ (List.mem_of_getElem? (i := 134) rfl) rfl)⟩
theorem fp_0_37 : FP RX0 37 0 2 .int := ⟨RX0, TX0, 5, rfl, by decide, inu_0, (um_1 _ (List.mem_of_getElem? (i := 134) rfl) rfl), rfl, by decide, ⟨tyX0, tyX0_ok⟩, nmX0⟩
theorem fl_1_9 : FL RX1 9 1 0 := ⟨RX1, TX1, 5, rfl, by decide, inu_1, (um_1 _ (List.mem_of_getElem? (i := 98) rfl) rfl)⟩
theorem fl_1_15 : FL RX1 15 1 1 := ⟨RX1, TX1, 5, rfl, by decide, inu_1, (um_1 _ (List.mem_of_getElem? (i := 99) rfl) rfl)⟩
theorem fl_1_18 : FL RX1 18 3 1 := ⟨RX3, TX3, 12, rfl, by decide, inu_3, (um_1 _ (List.mem_of_getElem? (i := 33) rfl) rfl)⟩
theorem fl_1_27 : FL RX1 27 3 2 := ⟨RX3, TX3, 12, rfl, by decide, inu_3, (um_1 _ (List.mem_of_getElem? (i := 36) rfl) rfl)⟩
theorem fl_1_28 : FL RX1 28 3 9 := ⟨RX3, TX3, 12, rfl, by decide, inu_3, (um_1 _ (List.mem_of_getElem? (i := 50) rfl) rfl)⟩
theorem fp_1_28 : FP RX1 28 3 9 .int := ⟨RX3, TX3, 12, rfl, by decide, inu_3, (um_1 _ (List.mem_of_getElem? (i := 50) rfl) rfl), rfl, by decide, ⟨tyX3, tyX3_ok⟩, nmX3⟩
theorem fl_1_32 : FL RX1 32 1 2 := ⟨RX1, TX1, 5, rfl, by decide, inu_1, (um_1 _ (List.mem_of_getElem? (i := 100) rfl) rfl)⟩
theorem fp_1_32 : FP RX1 32 1 2 .int := ⟨RX1, TX1, 5, rfl, by decide, inu_1, (um_1 _ (List.mem_of_getElem? (i := 100) rfl) rfl), rfl, by decide, ⟨tyX1, tyX1_ok⟩, nmX1⟩
theorem fl_1_33 : FL RX1 33 3 10 := ⟨RX3, TX3, 12, rfl, by decide, inu_3, (um_1 _ (List.mem_of_getElem? (i := 53) rfl) rfl)⟩
theorem fp_1_33 : FP RX1 33 3 10 .int := ⟨RX3, TX3, 12, rfl, by decide, inu_3, (um_1 _ (List.mem_of_getElem? (i := 53) rfl) rfl), rfl, by decide, ⟨tyX3, tyX3_ok⟩, nmX3⟩
theorem fl_1_36 : FL RX1 36 1 3 := ⟨RX1, TX1, 5, rfl, by decide, inu_1, (um_1 _ (List.mem_of_getElem? (i := 101) rfl) rfl)⟩
theorem fp_1_36 : FP RX1 36 1 3 .int := ⟨RX1, TX1, 5, rfl, by decide, inu_1, (um_1 _ (List.mem_of_getElem? (i := 101) rfl) rfl), rfl, by decide, ⟨tyX1, tyX1_ok⟩, nmX1⟩
theorem fl_1_37 : FL RX1 37 3 11 := ⟨RX3, TX3, 12, rfl, by decide, inu_3, (um_1 _ (List.mem_of_getElem? (i := 57) rfl) rfl)⟩
theorem fp_1_37 : FP RX1 37 3 11 .int := ⟨RX3, TX3, 12, rfl, by decide, inu_3, (um_1 _ (List.mem_of_getElem? (i := 57) rfl) rfl), rfl, by decide, ⟨tyX3, tyX3_ok⟩, nmX3⟩
theorem fl_1_40 : FL RX1 40 1 4 := ⟨RX1, TX1, 5, rfl, by decide, inu_1, (um_1 _ (List.mem_of_getElem? (i := 102) rfl) rfl)⟩
theorem fp_1_40 : FP RX1 40 1 4 .int := ⟨RX1, TX1, 5, rfl, by decide, inu_1, (um_1 _ (List.mem_of_getElem? (i := 102) rfl) rfl), rfl, by decide, ⟨tyX1, tyX1_ok⟩, nmX1⟩
theorem fl_2_11 : FL RX2 11 2 0 := ⟨RX2, TX2, 3, rfl, by decide, inu_2, (um_1 _ (List.mem_of_getElem? (i := 114) rfl) rfl)⟩
theorem fl_2_18 : FL RX2 18 2 1 := ⟨RX2, TX2, 3, rfl, by decide, inu_2, (um_1 _ (List.mem_of_getElem? (i := 115) rfl) rfl)⟩
theorem fp_2_18 : FP RX2 18 2 1 .int := ⟨RX2, TX2, 3, rfl, by decide, inu_2, (um_1 _ (List.mem_of_getElem? (i := 115) rfl) rfl), rfl, by decide, ⟨tyX2, tyX2_ok⟩, nmX2⟩
theorem fl_2_26 : FL RX2 26 2 2 := ⟨RX2, TX2, 3, rfl, by decide, inu_2, (um_1 _ (List.mem_of_getElem? (i := 116) rfl) rfl)⟩
theorem fp_2_26 : FP RX2 26 2 2 .int := ⟨RX2, TX2, 3, rfl, by decide, inu_2, (um_1 _ (List.mem_of_getElem? (i := 116) rfl) rfl), rfl, by decide, ⟨tyX2, tyX2_ok⟩, nmX2⟩
theorem fl_3_9 : FL RX3 9 3 0 := ⟨RX3, TX3, 12, rfl, by decide, inu_3, (um_1 _ (List.mem_of_getElem? (i := 30) rfl) rfl)⟩
theorem fl_3_15 : FL RX3 15 3 1 := ⟨RX3, TX3, 12, rfl, by decide, inu_3, (um_1 _ (List.mem_of_getElem? (i := 32) rfl) rfl)⟩
theorem fl_3_18 : FL RX3 18 3 2 := ⟨RX3, TX3, 12, rfl, by decide, inu_3, (um_1 _ (List.mem_of_getElem? (i := 35) rfl) rfl)⟩
theorem fl_3_21 : FL RX3 21 3 3 := ⟨RX3, TX3, 12, rfl, by decide, inu_3, (um_1 _ (List.mem_of_getElem? (i := 38) rfl) rfl)⟩
theorem fl_3_24 : FL RX3 24 3 4 := ⟨RX3, TX3, 12, rfl, by decide, inu_3, (um_1 _ (List.mem_of_getElem? (i := 40) rfl) rfl)⟩
theorem fl_3_27 : FL RX3 27 3 5 := ⟨RX3, TX3, 12, rfl, by decide, inu_3, (um_1 _ (List.mem_of_getElem? (i := 42) rfl) rfl)⟩
theorem fl_3_30 : FL RX3 30 3 6 := ⟨RX3, TX3, 12, rfl, by decide, inu_3, (um_1 _ (List.mem_of_getElem? (i := 45) rfl) rfl)⟩
theorem fl_3_33 : FL RX3 33 3 7 := ⟨RX3, TX3, 12, rfl, by decide, inu_3, (um_1 _ (List.mem_of_getElem? (i := 47) rfl) rfl)⟩
theorem fl_3_36 : FL RX3 36 3 11 := ⟨RX3, TX3, 12, rfl, by decide, inu_3, (um_1 _ (List.mem_of_getElem? (i := 56) rfl) rfl)⟩
theorem fp_3_36 : FP RX3 36 3 11 .int := ⟨RX3, TX3, 12, rfl, by decide, inu_3, (um_1 _ (List.mem_of_getElem? (i := 56) rfl) rfl), rfl, by decide, ⟨tyX3, tyX3_ok⟩, nmX3⟩
theorem fl_3_46 : FL RX3 46 3 8 := ⟨RX3, TX3, 12, rfl, by decide, inu_3, (um_1 _ (List.mem_of_getElem? (i := 49) rfl) rfl)⟩
theorem fp_3_46 : FP RX3 46 3 8 .int := ⟨RX3, TX3, 12, rfl, by decide, inu_3, (um_1 _ (List.mem_of_getElem? (i := 49) rfl) rfl), rfl, by decide, ⟨tyX3, tyX3_ok⟩, nmX3⟩
theorem fl_3_49 : FL RX3 49 3 9 := ⟨RX3, TX3, 12, rfl, by decide, inu_3, (um_1 _ (List.mem_of_getElem? (i := 51) rfl) rfl)⟩
theorem fp_3_49 : FP RX3 49 3 9 .int := ⟨RX3, TX3, 12, rfl, by decide, inu_3, (um_1 _ (List.mem_of_getElem? (i := 51) rfl) rfl), rfl, by decide, ⟨tyX3, tyX3_ok⟩, nmX3⟩
theorem fl_3_52 : FL RX3 52 3 10 := ⟨RX3, TX3, 12, rfl, by decide, inu_3, (um_1 _ (List.mem_of_getElem? (i := 54) rfl) rfl)⟩
theorem fp_3_52 : FP RX3 52 3 10 .int := ⟨RX3, TX3, 12, rfl, by decide, inu_3, (um_1 _ (List.mem_of_getElem? (i := 54) rfl) rfl), rfl, by decide, ⟨tyX3, tyX3_ok⟩, nmX3⟩
theorem fl_4_9 : FL RX4 9 4 0 := ⟨RX4, TX4, 3, rfl, by decide, inu_4, (um_1 _ (List.mem_of_getElem? (i := 175) rfl) rfl)⟩
theorem fl_4_15 : FL RX4 15 4 2 := ⟨RX4, TX4, 3, rfl, by decide, inu_4, (um_1 _ (List.mem_of_getElem? (i := 179) rfl) rfl)⟩
theorem fp_4_15 : FP RX4 15 4 2 .int := ⟨RX4, TX4, 3, rfl, by decide, inu_4, (um_1 _ (List.mem_of_getElem? (i := 179) rfl) rfl), rfl, by decide, ⟨tyX4, tyX4_ok⟩, nmX4⟩
theorem fl_4_19 : FL RX4 19 4 1 := ⟨RX4, TX4, 3, rfl, by decide, inu_4, (um_1 _ (List.mem_of_getElem? (i := 177) rfl) rfl)⟩
theorem fp_4_19 : FP RX4 19 4 1 .int := ⟨RX4, TX4, 3, rfl, by decide, inu_4, (um_1 _ (List.mem_of_getElem? (i := 177) rfl) rfl), rfl, by decide, ⟨tyX4, tyX4_ok⟩, nmX4⟩
theorem fl_5_9 : FL RX5 9 5 0 := ⟨RX5, TX5, 3, rfl, by decide, inu_5, (um_1 _ (List.mem_of_getElem? (i := 155) rfl) rfl)⟩
theorem fl_5_15 : FL RX5 15 5 1 := ⟨RX5, TX5, 3, rfl, by decide, inu_5, (um_1 _ (List.mem_of_getElem? (i := 156) rfl) rfl)⟩
theorem fp_5_15 : FP RX5 15 5 1 .int := ⟨RX5, TX5, 3, rfl, by decide, inu_5, (um_1 _ (List.mem_of_getElem? (i := 156) rfl) rfl), rfl, by decide, ⟨tyX5, tyX5_ok⟩, nmX5⟩
theorem fl_5_19 : FL RX5 19 5 2 := ⟨RX5, TX5, 3, rfl, by decide, inu_5, (um_1 _ (List.mem_of_getElem? (i := 158) rfl) rfl)⟩
theorem fp_5_19 : FP RX5 19 5 2 .int := ⟨RX5, TX5, 3, rfl, by decide, inu_5, (um_1 _ (List.mem_of_getElem? (i := 158) rfl) rfl), rfl, by decide, ⟨tyX5, tyX5_ok⟩, nmX5⟩
theorem fl_5_40 : FL RX5 40 3 5 := ⟨RX3, TX3, 12, rfl, by decide, inu_3, (um_1 _ (List.mem_of_getElem? (i := 44) rfl) rfl)⟩
theorem fl_7_7 : FL RX7 7 7 0 := ⟨RX7, TX7, 20, rfl, by decide, inu_7, (um_4 _ (List.mem_of_getElem? (i := 59) rfl) rfl)⟩
theorem fl_7_13 : FL RX7 13 7 1 := ⟨RX7, TX7, 20, rfl, by decide, inu_7, (um_4 _ (List.mem_of_getElem? (i := 60) rfl) rfl)⟩
theorem fl_7_16 : FL RX7 16 7 2 := ⟨RX7, TX7, 20, rfl, by decide, inu_7, (um_4 _ (List.mem_of_getElem? (i := 61) rfl) rfl)⟩
theorem fl_7_19 : FL RX7 19 7 6 := ⟨RX7, TX7, 20, rfl, by decide, inu_7, (um_4 _ (List.mem_of_getElem? (i := 65) rfl) rfl)⟩
theorem fl_7_22 : FL RX7 22 7 7 := ⟨RX7, TX7, 20, rfl, by decide, inu_7, (um_4 _ (List.mem_of_getElem? (i := 66) rfl) rfl)⟩
theorem fl_7_25 : FL RX7 25 7 8 := ⟨RX7, TX7, 20, rfl, by decide, inu_7, (um_4 _ (List.mem_of_getElem? (i := 67) rfl) rfl)⟩
theorem fl_7_28 : FL RX7 28 7 10 := ⟨RX7, TX7, 20, rfl, by decide, inu_7, (um_4 _ (List.mem_of_getElem? (i := 69) rfl) rfl)⟩
theorem fl_7_31 : FL RX7 31 7 11 := ⟨RX7, TX7, 20, rfl, by decide, inu_7, (um_4 _ (List.mem_of_getElem? (i := 70) rfl) rfl)⟩
theorem fl_7_34 : FL RX7 34 7 12 := ⟨RX7, TX7, 20, rfl, by decide, inu_7, (um_4 _ (List.mem_of_getElem? (i := 71) rfl) rfl)⟩
theorem fl_7_37 : FL RX7 37 7 13 := ⟨RX7, TX7, 20, rfl, by decide, inu_7, (um_4 _ (List.mem_of_getElem? (i := 72) rfl) rfl)⟩
theorem fl_7_40 : FL RX7 40 7 16 := ⟨RX7, TX7, 20, rfl, by decide, inu_7, (um_4 _ (List.mem_of_getElem? (i := 75) rfl) rfl)⟩
theorem fl_7_43 : FL RX7 43 7 17 := ⟨RX7, TX7, 20, rfl, by decide, inu_7, (um_4 _ (List.mem_of_getElem? (i := 76) rfl) rfl)⟩
theorem fl_7_46 : FL RX7 46 7 18 := ⟨RX7, TX7, 20, rfl, by decide, inu_7, (um_4 _ (List.mem_of_getElem? (i := 77) rfl) rfl)⟩
theorem fl_7_50 : FL RX7 50 7 19 := ⟨RX7, TX7, 20, rfl, by decide, inu_7, (um_4 _ (List.mem_of_getElem? (i := 78) rfl) rfl)⟩
theorem fl_7_100 : FL RX7 100 7 9 := ⟨RX7, TX7, 20, rfl, by decide, inu_7, (um_4 _ (List.mem_of_getElem? (i := 68) rfl) rfl)⟩
theorem fp_7_100 : FP RX7 100 7 9 .int := ⟨RX7, TX7, 20, rfl, by decide, inu_7, (um_4 _ (List.mem_of_getElem? (i := 68) rfl) rfl), rfl, by decide, ⟨tyX7, tyX7_ok⟩, nmX7⟩
theorem fl_7_135 : FL RX7 135 7 3 := ⟨RX7, TX7, 20, rfl, by decide, inu_7, (um_4 _ (List.mem_of_getElem? (i := 62) rfl) rfl)⟩
theorem fp_7_135 : FP RX7 135 7 3 .int := ⟨RX7, TX7, 20, rfl, by decide, inu_7, (um_4 _ (List.mem_of_getElem? (i := 62) rfl) rfl), rfl, by decide, ⟨tyX7, tyX7_ok⟩, nmX7⟩
theorem fl_7_138 : FL RX7 138 7 4 := ⟨RX7, TX7, 20, rfl, by decide, inu_7, (um_4 _ (List.mem_of_getElem? (i := 63) rfl) rfl)⟩
theorem fp_7_138 : FP RX7 138 7 4 .int := ⟨RX7, TX7, 20, rfl, by decide, inu_7, (um_4 _ (List.mem_of_getElem? (i := 63) rfl) rfl), rfl, by decide, ⟨tyX7, tyX7_ok⟩, nmX7⟩
theorem fl_7_141 : FL RX7 141 7 5 := ⟨RX7, TX7, 20, rfl, by decide, inu_7, (um_4 _ (List.mem_of_getElem? (i := 64) rfl) rfl)⟩
theorem fp_7_141 : FP RX7 141 7 5 .boolean := ⟨RX7, TX7, 20, rfl, by decide, inu_7, (um_4 _ (List.mem_of_getElem? (i := 64) rfl) rfl), rfl, by decide, ⟨tyX7, tyX7_ok⟩, nmX7⟩
theorem fl_7_226 : FL RX7 226 7 14 := ⟨RX7, TX7, 20, rfl, by decide, inu_7, (um_4 _ (List.mem_of_getElem? (i := 73) rfl) rfl)⟩
theorem fp_7_226 : FP RX7 226 7 14 .int := ⟨RX7, TX7, 20, rfl, by decide, inu_7, (um_4 _ (List.mem_of_getElem? (i := 73) rfl) rfl), rfl, by decide, ⟨tyX7, tyX7_ok⟩, nmX7⟩
theorem fl_7_229 : FL RX7 229 7 15 := ⟨RX7, TX7, 20, rfl, by decide, inu_7, (um_4 _ (List.mem_of_getElem? (i := 74) rfl) rfl)⟩
theorem fp_7_229 : FP RX7 229 7 15 .boolean := ⟨RX7, TX7, 20, rfl, by decide, inu_7, (um_4 _ (List.mem_of_getElem? (i := 74) rfl) rfl), rfl, by decide, ⟨tyX7, tyX7_ok⟩, nmX7⟩
theorem lk_6_53 : Cond.methodLink RX6 53 yX6_within ∈ ut_bl := (um_1 _ (List.mem_of_getElem? (i := 220) rfl) rfl)
theorem lk_6_57 : Cond.methodLink RX6 57 yX6_isBay ∈ ut_bl := (um_1 _ (List.mem_of_getElem? (i := 223) rfl) rfl)
theorem lk_6_61 : Cond.methodLink RX6 61 yX3_lowestFreeBay ∈ ut_bl := (um_1 _ (List.mem_of_getElem? (i := 226) rfl) rfl)
theorem lk_6_65 : Cond.methodLink RX6 65 yX2_forget ∈ ut_bl := (um_1 _ (List.mem_of_getElem? (i := 230) rfl) rfl)
theorem lk_6_68 : Cond.methodLink RX6 68 yX3_enter ∈ ut_bl := (um_1 _ (List.mem_of_getElem? (i := 234) rfl) rfl)
theorem lk_6_83 : Cond.methodLink RX6 83 yX3_has ∈ ut_bl := (um_2 _ (List.mem_of_getElem? (i := 10) rfl) rfl)
theorem lk_6_98 : Cond.methodLink RX6 98 yX3_hasTaken ∈ ut_bl := (um_2 _ (List.mem_of_getElem? (i := 14) rfl) rfl)
theorem lk_6_101 : Cond.methodLink RX6 101 yX3_gainOf ∈ ut_bl := (um_2 _ (List.mem_of_getElem? (i := 18) rfl) rfl)
theorem lk_6_105 : Cond.methodLink RX6 105 yX3_besideSet ∈ ut_bl := (um_2 _ (List.mem_of_getElem? (i := 41) rfl) rfl)
theorem lk_6_108 : Cond.methodLink RX6 108 yX3_farFrom ∈ ut_bl := (um_2 _ (List.mem_of_getElem? (i := 45) rfl) rfl)
theorem lk_6_115 : Cond.methodLink RX6 115 yX5_write ∈ ut_bl := (um_2 _ (List.mem_of_getElem? (i := 60) rfl) rfl)
theorem lk_6_122 : Cond.methodLink RX6 122 yX3_become ∈ ut_bl := (um_2 _ (List.mem_of_getElem? (i := 68) rfl) rfl)
theorem lk_6_126 : Cond.methodLink RX6 126 yX3_clear ∈ ut_bl := (um_2 _ (List.mem_of_getElem? (i := 75) rfl) rfl)
theorem lk_6_129 : Cond.methodLink RX6 129 yX5_readInto ∈ ut_bl := (um_2 _ (List.mem_of_getElem? (i := 79) rfl) rfl)
theorem lk_6_136 : Cond.methodLink RX6 136 yX5_clear ∈ ut_bl := (um_2 _ (List.mem_of_getElem? (i := 208) rfl) rfl)
theorem lk_6_143 : Cond.methodLink RX6 143 yX3_takenSet ∈ ut_bl := (um_2 _ (List.mem_of_getElem? (i := 217) rfl) rfl)
theorem lk_6_146 : Cond.methodLink RX6 146 yX3_usedTogether ∈ ut_bl := (um_2 _ (List.mem_of_getElem? (i := 221) rfl) rfl)
theorem lk_6_149 : Cond.methodLink RX6 149 yX3_farTogether ∈ ut_bl := (um_2 _ (List.mem_of_getElem? (i := 225) rfl) rfl)
theorem lk_6_155 : Cond.methodLink RX6 155 yX6_pass ∈ ut_bl := (um_2 _ (List.mem_of_getElem? (i := 234) rfl) rfl)
theorem lk_6_159 : Cond.methodLink RX6 159 yX2_keep ∈ ut_bl := (um_2 _ (List.mem_of_getElem? (i := 238) rfl) rfl)
theorem lk_6_162 : Cond.methodLink RX6 162 yX3_swapBays ∈ ut_bl := (um_3 _ (List.mem_of_getElem? (i := 28) rfl) rfl)
theorem lk_6_166 : Cond.methodLink RX6 166 yX3_seat ∈ ut_bl := (um_3 _ (List.mem_of_getElem? (i := 36) rfl) rfl)
theorem lk_6_169 : Cond.methodLink RX6 169 yX3_talkTo ∈ ut_bl := (um_3 _ (List.mem_of_getElem? (i := 41) rfl) rfl)
theorem lk_6_173 : Cond.methodLink RX6 173 yX2_giveLatest ∈ ut_bl := (um_3 _ (List.mem_of_getElem? (i := 50) rfl) rfl)
theorem lk_6_179 : Cond.methodLink RX6 179 yX6_foresee ∈ ut_bl := (um_3 _ (List.mem_of_getElem? (i := 70) rfl) rfl)
theorem lk_6_182 : Cond.methodLink RX6 182 yX3_passDay ∈ ut_bl := (um_3 _ (List.mem_of_getElem? (i := 19) rfl) rfl)
theorem lk_6_185 : Cond.methodLink RX6 185 yX3_firstAlike ∈ ut_bl := (um_3 _ (List.mem_of_getElem? (i := 91) rfl) rfl)
theorem lk_6_188 : Cond.methodLink RX6 188 yX6_dealNearest ∈ ut_bl := (um_3 _ (List.mem_of_getElem? (i := 99) rfl) rfl)
theorem lk_6_191 : Cond.methodLink RX6 191 yX0_answer ∈ ut_bl := (um_3 _ (List.mem_of_getElem? (i := 128) rfl) rfl)
theorem lk_6_194 : Cond.methodLink RX6 194 yX3_countSwaps ∈ ut_bl := (um_3 _ (List.mem_of_getElem? (i := 136) rfl) rfl)
theorem lk_6_197 : Cond.methodLink RX6 197 yX3_firstSwap ∈ ut_bl := (um_3 _ (List.mem_of_getElem? (i := 144) rfl) rfl)
theorem lk_6_200 : Cond.methodLink RX6 200 yX6_swapsTillCalm ∈ ut_bl := (um_3 _ (List.mem_of_getElem? (i := 148) rfl) rfl)
theorem lk_6_203 : Cond.methodLink RX6 203 yX6_dealLeastUsed ∈ ut_bl := (um_3 _ (List.mem_of_getElem? (i := 156) rfl) rfl)
theorem lk_6_206 : Cond.methodLink RX6 206 yX6_dealMostDues ∈ ut_bl := (um_3 _ (List.mem_of_getElem? (i := 177) rfl) rfl)
theorem lk_6_209 : Cond.methodLink RX6 209 yX3_passDays ∈ ut_bl := (um_3 _ (List.mem_of_getElem? (i := 74) rfl) rfl)
theorem lk_6_212 : Cond.methodLink RX6 212 yX6_weightIfUsed ∈ ut_bl := (um_3 _ (List.mem_of_getElem? (i := 201) rfl) rfl)
theorem lk_6_216 : Cond.methodLink RX6 216 yX6_commonDivisor ∈ ut_bl := (um_3 _ (List.mem_of_getElem? (i := 205) rfl) rfl)
theorem lk_6_219 : Cond.methodLink RX6 219 Lib.Math.max.name ∈ ut_bl := (um_3 _ (List.mem_of_getElem? (i := 208) rfl) rfl)
theorem lk_6_224 : Cond.methodLink RX6 224 yX2_become ∈ ut_bl := (um_3 _ (List.mem_of_getElem? (i := 213) rfl) rfl)
theorem lk_6_231 : Cond.methodLink RX6 231 yX6_isSheet ∈ ut_bl := (um_3 _ (List.mem_of_getElem? (i := 229) rfl) rfl)
theorem lk_6_234 : Cond.methodLink RX6 234 yX6_isLane ∈ ut_bl := (um_3 _ (List.mem_of_getElem? (i := 232) rfl) rfl)
theorem lk_6_237 : Cond.methodLink RX6 237 yX4_refusal ∈ ut_bl := (um_3 _ (List.mem_of_getElem? (i := 235) rfl) rfl)
theorem lk_6_241 : Cond.methodLink RX6 241 yX6_kindsBy ∈ ut_bl := (um_4 _ (List.mem_of_getElem? (i := 3) rfl) rfl)
theorem lk_6_245 : Cond.methodLink RX6 245 yX6_numbersBy ∈ ut_bl := (um_4 _ (List.mem_of_getElem? (i := 11) rfl) rfl)
theorem lk_6_249 : Cond.methodLink RX6 249 yX4_put ∈ ut_bl := (um_4 _ (List.mem_of_getElem? (i := 19) rfl) rfl)
theorem lk_6_253 : Cond.methodLink RX6 253 yX4_lay ∈ ut_bl := (um_4 _ (List.mem_of_getElem? (i := 31) rfl) rfl)
theorem lk_6_256 : Cond.methodLink RX6 256 yX4_isMissing ∈ ut_bl := (um_4 _ (List.mem_of_getElem? (i := 39) rfl) rfl)
theorem lk_6_260 : Cond.methodLink RX6 260 yX4_takeAway ∈ ut_bl := (um_4 _ (List.mem_of_getElem? (i := 40) rfl) rfl)
theorem lk_6_270 : Cond.methodLink RX6 270 arraycopyName ∈ ut_bl := (um_4 _ (List.mem_of_getElem? (i := 52) rfl) rfl)
theorem lk_6_276 : Cond.methodLink RX6 276 yX3_drawTalk ∈ ut_bl := (um_3 _ (List.mem_of_getElem? (i := 8) rfl) rfl)
theorem lk_6_279 : Cond.methodLink RX6 279 yX0_begin ∈ ut_bl := (um_3 _ (List.mem_of_getElem? (i := 103) rfl) rfl)
theorem lk_6_286 : Cond.methodLink RX6 286 yX0_keep ∈ ut_bl := (um_3 _ (List.mem_of_getElem? (i := 119) rfl) rfl)
theorem lk_6_288 : Cond.methodLink RX6 288 yX0_next ∈ ut_bl := (um_3 _ (List.mem_of_getElem? (i := 124) rfl) rfl)
theorem lk_6_291 : Cond.methodLink RX6 291 yX3_heldBays ∈ ut_bl := (um_3 _ (List.mem_of_getElem? (i := 160) rfl) rfl)
theorem lk_6_294 : Cond.methodLink RX6 294 yX6_usedIfDealt ∈ ut_bl := (um_3 _ (List.mem_of_getElem? (i := 164) rfl) rfl)
theorem lk_6_297 : Cond.methodLink RX6 297 yX3_seatAll ∈ ut_bl := (um_3 _ (List.mem_of_getElem? (i := 168) rfl) rfl)
theorem lk_6_301 : Cond.methodLink RX6 301 yX3_usedAtLeast ∈ ut_bl := (um_3 _ (List.mem_of_getElem? (i := 169) rfl) rfl)
theorem lk_6_304 : Cond.methodLink RX6 304 yX6_duesIfDealt ∈ ut_bl := (um_3 _ (List.mem_of_getElem? (i := 181) rfl) rfl)
theorem lk_6_307 : Cond.methodLink RX6 307 yX3_duesAtMost ∈ ut_bl := (um_3 _ (List.mem_of_getElem? (i := 185) rfl) rfl)
theorem lk_6_310 : Cond.methodLink RX6 310 yX6_goesBy ∈ ut_bl := (um_4 _ (List.mem_of_getElem? (i := 7) rfl) rfl)
theorem lk_0_25 : Cond.methodLink RX0 25 yX0_fillFrom ∈ ut_bl := (um_3 _ (List.mem_of_getElem? (i := 107) rfl) rfl)
theorem lk_0_29 : Cond.methodLink RX0 29 yX0_freeFrom ∈ ut_bl := (um_3 _ (List.mem_of_getElem? (i := 111) rfl) rfl)
theorem lk_0_33 : Cond.methodLink RX0 33 yX0_give ∈ ut_bl := (um_3 _ (List.mem_of_getElem? (i := 115) rfl) rfl)
theorem lk_0_40 : Cond.methodLink RX0 40 arraycopyName ∈ ut_bl := (um_3 _ (List.mem_of_getElem? (i := 123) rfl) rfl)
theorem lk_1_21 : Cond.methodLink RX1 21 arraycopyName ∈ ut_bl := (um_3 _ (List.mem_of_getElem? (i := 6) rfl) rfl)
theorem lk_1_41 : Cond.methodLink RX1 41 yX3_seatAll ∈ ut_bl := (um_3 _ (List.mem_of_getElem? (i := 58) rfl) rfl)
theorem lk_2_22 : Cond.methodLink RX2 22 yX1_note ∈ ut_bl := (um_3 _ (List.mem_of_getElem? (i := 2) rfl) rfl)
theorem lk_2_29 : Cond.methodLink RX2 29 Lib.Math.min.name ∈ ut_bl := (um_3 _ (List.mem_of_getElem? (i := 7) rfl) rfl)
theorem lk_2_35 : Cond.methodLink RX2 35 yX1_give ∈ ut_bl := (um_3 _ (List.mem_of_getElem? (i := 54) rfl) rfl)
theorem lk_2_38 : Cond.methodLink RX2 38 yX1_become ∈ ut_bl := (um_3 _ (List.mem_of_getElem? (i := 217) rfl) rfl)
theorem lk_3_40 : Cond.methodLink RX3 40 arraycopyName ∈ ut_bl := (um_2 _ (List.mem_of_getElem? (i := 72) rfl) rfl)
theorem lk_3_55 : Cond.methodLink RX3 55 yX3_seat ∈ ut_bl := (um_1 _ (List.mem_of_getElem? (i := 238) rfl) rfl)
theorem lk_3_59 : Cond.methodLink RX3 59 yX3_hasTaken ∈ ut_bl := (um_2 _ (List.mem_of_getElem? (i := 30) rfl) rfl)
theorem lk_3_63 : Cond.methodLink RX3 63 yX3_whoIn ∈ ut_bl := (um_2 _ (List.mem_of_getElem? (i := 26) rfl) rfl)
theorem lk_3_67 : Cond.methodLink RX3 67 yX3_notTakenIn ∈ ut_bl := (um_2 _ (List.mem_of_getElem? (i := 22) rfl) rfl)
theorem lk_3_70 : Cond.methodLink RX3 70 Lib.Math.max.name ∈ ut_bl := (um_2 _ (List.mem_of_getElem? (i := 31) rfl) rfl)
theorem lk_3_76 : Cond.methodLink RX3 76 Lib.Math.min.name ∈ ut_bl := (um_2 _ (List.mem_of_getElem? (i := 34) rfl) rfl)
theorem lk_3_79 : Cond.methodLink RX3 79 yX3_takenIn ∈ ut_bl := (um_2 _ (List.mem_of_getElem? (i := 37) rfl) rfl)
theorem lk_3_82 : Cond.methodLink RX3 82 yX3_gainOf ∈ ut_bl := (um_3 _ (List.mem_of_getElem? (i := 23) rfl) rfl)
theorem lk_3_85 : Cond.methodLink RX3 85 yX3_passDay ∈ ut_bl := (um_3 _ (List.mem_of_getElem? (i := 78) rfl) rfl)
theorem lk_3_91 : Cond.methodLink RX3 91 yX3_talkTo ∈ ut_bl := (um_3 _ (List.mem_of_getElem? (i := 15) rfl) rfl)
theorem lk_3_95 : Cond.methodLink RX3 95 Lib.Math.abs.name ∈ ut_bl := (um_2 _ (List.mem_of_getElem? (i := 49) rfl) rfl)
theorem lk_3_98 : Cond.methodLink RX3 98 yX3_farFrom ∈ ut_bl := (um_2 _ (List.mem_of_getElem? (i := 229) rfl) rfl)
theorem lk_3_101 : Cond.methodLink RX3 101 yX3_wouldSwap ∈ ut_bl := (um_3 _ (List.mem_of_getElem? (i := 140) rfl) rfl)
theorem lk_4_22 : Cond.methodLink RX4 22 yX4_isMissing ∈ ut_bl := (um_3 _ (List.mem_of_getElem? (i := 239) rfl) rfl)
theorem lk_4_26 : Cond.methodLink RX4 26 yX4_cut ∈ ut_bl := (um_4 _ (List.mem_of_getElem? (i := 23) rfl) rfl)
theorem lk_5_22 : Cond.methodLink RX5 22 yX5_readLamps ∈ ut_bl := (um_2 _ (List.mem_of_getElem? (i := 83) rfl) rfl)
theorem lk_5_26 : Cond.methodLink RX5 26 yX5_takesSign ∈ ut_bl := (um_2 _ (List.mem_of_getElem? (i := 99) rfl) rfl)
theorem lk_5_30 : Cond.methodLink RX5 30 yX5_readHolders ∈ ut_bl := (um_2 _ (List.mem_of_getElem? (i := 103) rfl) rfl)
theorem lk_5_33 : Cond.methodLink RX5 33 yX5_skipBlanks ∈ ut_bl := (um_2 _ (List.mem_of_getElem? (i := 91) rfl) rfl)
theorem lk_5_36 : Cond.methodLink RX5 36 yX5_readDigit ∈ ut_bl := (um_2 _ (List.mem_of_getElem? (i := 87) rfl) rfl)
theorem lk_5_46 : Cond.methodLink RX5 46 yX5_readOneHolder ∈ ut_bl := (um_2 _ (List.mem_of_getElem? (i := 107) rfl) rfl)
theorem lk_5_49 : Cond.methodLink RX5 49 yX5_readKind ∈ ut_bl := (um_2 _ (List.mem_of_getElem? (i := 111) rfl) rfl)
theorem lk_5_53 : Cond.methodLink RX5 53 yX5_readNumber ∈ ut_bl := (um_2 _ (List.mem_of_getElem? (i := 198) rfl) rfl)
theorem lk_5_56 : Cond.methodLink RX5 56 yX5_readFreeBay ∈ ut_bl := (um_2 _ (List.mem_of_getElem? (i := 202) rfl) rfl)
theorem lk_5_60 : Cond.methodLink RX5 60 yX3_enter ∈ ut_bl := (um_2 _ (List.mem_of_getElem? (i := 207) rfl) rfl)
theorem lk_5_71 : Cond.methodLink RX5 71 yX5_digitHere ∈ ut_bl := (um_2 _ (List.mem_of_getElem? (i := 95) rfl) rfl)
theorem lk_5_74 : Cond.methodLink RX5 74 yX3_whoIn ∈ ut_bl := (um_2 _ (List.mem_of_getElem? (i := 206) rfl) rfl)
theorem lk_7_53 : Cond.methodLink RX7 53 yX7_in ∈ ut_bl := (um_4 _ (List.mem_of_getElem? (i := 125) rfl) rfl)
theorem lk_7_59 : Cond.methodLink RX7 59 yX7_told ∈ ut_bl := (um_4 _ (List.mem_of_getElem? (i := 141) rfl) rfl)
theorem lk_7_63 : Cond.methodLink RX7 63 yX7_used ∈ ut_bl := (um_4 _ (List.mem_of_getElem? (i := 166) rfl) rfl)
theorem lk_7_67 : Cond.methodLink RX7 67 yX7_bayOf ∈ ut_bl := (um_4 _ (List.mem_of_getElem? (i := 137) rfl) rfl)
theorem lk_7_70 : Cond.methodLink RX7 70 yX7_apart ∈ ut_bl := (um_4 _ (List.mem_of_getElem? (i := 178) rfl) rfl)
theorem lk_7_73 : Cond.methodLink RX7 73 yX7_far ∈ ut_bl := (um_4 _ (List.mem_of_getElem? (i := 188) rfl) rfl)
theorem lk_7_76 : Cond.methodLink RX7 76 yX7_isUp ∈ ut_bl := (um_4 _ (List.mem_of_getElem? (i := 162) rfl) rfl)
theorem lk_7_80 : Cond.methodLink RX7 80 yX7_besides ∈ ut_bl := (um_4 _ (List.mem_of_getElem? (i := 174) rfl) rfl)
theorem lk_7_83 : Cond.methodLink RX7 83 yX7_ups ∈ ut_bl := (um_4 _ (List.mem_of_getElem? (i := 181) rfl) rfl)
theorem lk_7_87 : Cond.methodLink RX7 87 yX7_many ∈ ut_bl := (um_4 _ (List.mem_of_getElem? (i := 185) rfl) rfl)
theorem lk_7_90 : Cond.methodLink RX7 90 yX7_more ∈ ut_bl := (um_4 _ (List.mem_of_getElem? (i := 170) rfl) rfl)
theorem lk_7_93 : Cond.methodLink RX7 93 yX7_usedBy ∈ ut_bl := (um_5 _ (List.mem_of_getElem? (i := 14) rfl) rfl)
theorem lk_7_97 : Cond.methodLink RX7 97 yX7_goesBy ∈ ut_bl := (um_5 _ (List.mem_of_getElem? (i := 10) rfl) rfl)
theorem lk_7_108 : Cond.methodLink RX7 108 yX7_isBay ∈ ut_bl := (um_4 _ (List.mem_of_getElem? (i := 129) rfl) rfl)
theorem lk_7_111 : Cond.methodLink RX7 111 yX7_whoHas ∈ ut_bl := (um_4 _ (List.mem_of_getElem? (i := 133) rfl) rfl)
theorem lk_7_114 : Cond.methodLink RX7 114 yX7_holderComes ∈ ut_bl := (um_4 _ (List.mem_of_getElem? (i := 145) rfl) rfl)
theorem lk_7_120 : Cond.methodLink RX7 120 yX7_isHolder ∈ ut_bl := (um_4 _ (List.mem_of_getElem? (i := 158) rfl) rfl)
theorem lk_7_125 : Cond.methodLink RX7 125 yX7_usedAll ∈ ut_bl := (um_4 _ (List.mem_of_getElem? (i := 201) rfl) rfl)
theorem lk_7_128 : Cond.methodLink RX7 128 yX7_farAll ∈ ut_bl := (um_4 _ (List.mem_of_getElem? (i := 205) rfl) rfl)
theorem lk_7_145 : Cond.methodLink RX7 145 yX7_here ∈ ut_bl := (um_4 _ (List.mem_of_getElem? (i := 223) rfl) rfl)
theorem lk_7_148 : Cond.methodLink RX7 148 yX7_must ∈ ut_bl := (um_4 _ (List.mem_of_getElem? (i := 227) rfl) rfl)
theorem lk_7_156 : Cond.methodLink RX7 156 yX7_number ∈ ut_bl := (um_4 _ (List.mem_of_getElem? (i := 235) rfl) rfl)
theorem lk_7_159 : Cond.methodLink RX7 159 yX7_digit ∈ ut_bl := (um_4 _ (List.mem_of_getElem? (i := 219) rfl) rfl)
theorem lk_7_162 : Cond.methodLink RX7 162 yX7_readHolders ∈ ut_bl := (um_4 _ (List.mem_of_getElem? (i := 231) rfl) rfl)
theorem lk_7_167 : Cond.methodLink RX7 167 yX7_notes ∈ ut_bl := (um_5 _ (List.mem_of_getElem? (i := 6) rfl) rfl)
theorem lk_7_170 : Cond.methodLink RX7 170 yX7_sits ∈ ut_bl := (um_5 _ (List.mem_of_getElem? (i := 26) rfl) rfl)
theorem lk_7_173 : Cond.methodLink RX7 173 yX7_exchanges ∈ ut_bl := (um_5 _ (List.mem_of_getElem? (i := 22) rfl) rfl)
theorem lk_7_176 : Cond.methodLink RX7 176 yX7_talks ∈ ut_bl := (um_5 _ (List.mem_of_getElem? (i := 38) rfl) rfl)
theorem lk_7_187 : Cond.methodLink RX7 187 yX7_asides ∈ ut_bl := (um_5 _ (List.mem_of_getElem? (i := 62) rfl) rfl)
theorem lk_7_190 : Cond.methodLink RX7 190 yX7_goesOn ∈ ut_bl := (um_5 _ (List.mem_of_getElem? (i := 66) rfl) rfl)
theorem lk_7_193 : Cond.methodLink RX7 193 yX7_backs ∈ ut_bl := (um_5 _ (List.mem_of_getElem? (i := 70) rfl) rfl)
theorem lk_7_196 : Cond.methodLink RX7 196 yX7_alikes ∈ ut_bl := (um_5 _ (List.mem_of_getElem? (i := 86) rfl) rfl)
theorem lk_7_199 : Cond.methodLink RX7 199 yX7_numbers ∈ ut_bl := (um_5 _ (List.mem_of_getElem? (i := 94) rfl) rfl)
theorem lk_7_202 : Cond.methodLink RX7 202 yX7_isDealt ∈ ut_bl := (um_5 _ (List.mem_of_getElem? (i := 98) rfl) rfl)
theorem lk_7_205 : Cond.methodLink RX7 205 yX7_wouldSwap ∈ ut_bl := (um_5 _ (List.mem_of_getElem? (i := 110) rfl) rfl)
theorem lk_7_209 : Cond.methodLink RX7 209 yX7_swapsNow ∈ ut_bl := (um_5 _ (List.mem_of_getElem? (i := 106) rfl) rfl)
theorem lk_7_212 : Cond.methodLink RX7 212 yX7_firstSwap ∈ ut_bl := (um_5 _ (List.mem_of_getElem? (i := 114) rfl) rfl)
theorem lk_7_215 : Cond.methodLink RX7 215 yX7_sat ∈ ut_bl := (um_5 _ (List.mem_of_getElem? (i := 126) rfl) rfl)
theorem lk_7_219 : Cond.methodLink RX7 219 yX7_deals ∈ ut_bl := (um_5 _ (List.mem_of_getElem? (i := 122) rfl) rfl)
theorem lk_7_234 : Cond.methodLink RX7 234 yX7_isSheet ∈ ut_bl := (um_5 _ (List.mem_of_getElem? (i := 161) rfl) rfl)
theorem lk_7_237 : Cond.methodLink RX7 237 yX7_isLane ∈ ut_bl := (um_5 _ (List.mem_of_getElem? (i := 165) rfl) rfl)
theorem lk_7_242 : Cond.methodLink RX7 242 yX7_why ∈ ut_bl := (um_5 _ (List.mem_of_getElem? (i := 169) rfl) rfl)
theorem lk_7_246 : Cond.methodLink RX7 246 yX7_isSo ∈ ut_bl := (um_5 _ (List.mem_of_getElem? (i := 173) rfl) rfl)
theorem kc_3_88 : Cond.constant RX3 88 1103515245 ∈ ut_bl := (um_3 _ (List.mem_of_getElem? (i := 12) rfl) rfl)
theorem kc_3_89 : Cond.constant RX3 89 2147483647 ∈ ut_bl := (um_3 _ (List.mem_of_getElem? (i := 13) rfl) rfl)
theorem kc_3_90 : Cond.constant RX3 90 65536 ∈ ut_bl := (um_3 _ (List.mem_of_getElem? (i := 14) rfl) rfl)
theorem kc_7_186 : Cond.constant RX7 186 65536 ∈ ut_bl := (um_5 _ (List.mem_of_getElem? (i := 49) rfl) rfl)
theorem kc_7_218 : Cond.constant RX7 218 999999 ∈ ut_bl := (um_5 _ (List.mem_of_getElem? (i := 130) rfl) rfl)
theorem kl_7_57 : Cond.constantLong RX7 57 5 ∈ ut_bl := (um_4 _ (List.mem_of_getElem? (i := 132) rfl) rfl)
theorem kl_7_104 : Cond.constantLong RX7 104 4 ∈ ut_bl := (um_4 _ (List.mem_of_getElem? (i := 124) rfl) rfl)
theorem kl_7_106 : Cond.constantLong RX7 106 99 ∈ ut_bl := (um_4 _ (List.mem_of_getElem? (i := 128) rfl) rfl)
theorem kl_7_118 : Cond.constantLong RX7 118 9 ∈ ut_bl := (um_4 _ (List.mem_of_getElem? (i := 153) rfl) rfl)
theorem kl_7_123 : Cond.constantLong RX7 123 2 ∈ ut_bl := (um_4 _ (List.mem_of_getElem? (i := 196) rfl) rfl)
theorem kl_7_131 : Cond.constantLong RX7 131 32 ∈ ut_bl := (um_4 _ (List.mem_of_getElem? (i := 213) rfl) rfl)
theorem kl_7_133 : Cond.constantLong RX7 133 126 ∈ ut_bl := (um_4 _ (List.mem_of_getElem? (i := 214) rfl) rfl)
theorem kl_7_152 : Cond.constantLong RX7 152 48 ∈ ut_bl := (um_4 _ (List.mem_of_getElem? (i := 239) rfl) rfl)
theorem kl_7_154 : Cond.constantLong RX7 154 57 ∈ ut_bl := (um_5 _ (List.mem_of_getElem? (i := 0) rfl) rfl)
theorem kl_7_165 : Cond.constantLong RX7 165 40 ∈ ut_bl := (um_5 _ (List.mem_of_getElem? (i := 5) rfl) rfl)
theorem kl_7_180 : Cond.constantLong RX7 180 1103515245 ∈ ut_bl := (um_5 _ (List.mem_of_getElem? (i := 46) rfl) rfl)
theorem kl_7_182 : Cond.constantLong RX7 182 12345 ∈ ut_bl := (um_5 _ (List.mem_of_getElem? (i := 47) rfl) rfl)
theorem kl_7_184 : Cond.constantLong RX7 184 2147483647 ∈ ut_bl := (um_5 _ (List.mem_of_getElem? (i := 48) rfl) rfl)
theorem kl_7_222 : Cond.constantLong RX7 222 6 ∈ ut_bl := (um_5 _ (List.mem_of_getElem? (i := 147) rfl) rfl)
theorem kl_7_224 : Cond.constantLong RX7 224 10 ∈ ut_bl := (um_5 _ (List.mem_of_getElem? (i := 148) rfl) rfl)
theorem kl_7_232 : Cond.constantLong RX7 232 3 ∈ ut_bl := (um_5 _ (List.mem_of_getElem? (i := 164) rfl) rfl)
theorem kl_7_240 : Cond.constantLong RX7 240 8 ∈ ut_bl := (um_5 _ (List.mem_of_getElem? (i := 168) rfl) rfl)
theorem kl_7_250 : Cond.constantLong RX7 250 24 ∈ ut_bl := (um_5 _ (List.mem_of_getElem? (i := 181) rfl) rfl)
theorem mv_X0_answer : MV yX0_answer cX0_answer 2 ((some .int)) 1 0 := ⟨(um_3 _ (List.mem_of_getElem? (i := 129) rfl) rfl), (um_3 _ (List.mem_of_getElem? (i := 130) rfl) rfl), (um_1 _ (List.mem_of_getElem? (i := 5) rfl) rfl), (um_3 _ (List.mem_of_getElem? (i := 131) rfl) rfl), ⟨by decide, by decide, by decide⟩, TX0, 5, rfl⟩
theorem mv_X0_begin : MV yX0_begin cX0_begin 3 none 2 0 := ⟨(um_3 _ (List.mem_of_getElem? (i := 104) rfl) rfl), (um_3 _ (List.mem_of_getElem? (i := 105) rfl) rfl), (um_1 _ (List.mem_of_getElem? (i := 5) rfl) rfl), (um_3 _ (List.mem_of_getElem? (i := 106) rfl) rfl), ⟨by decide, by decide, by decide⟩, TX0, 5, rfl⟩
theorem mv_X0_fillFrom : MV yX0_fillFrom cX0_fillFrom 4 none 1 0 := ⟨(um_3 _ (List.mem_of_getElem? (i := 109) rfl) rfl), (um_0 _ (List.mem_map.mpr ⟨_, List.mem_of_getElem? (i := 13) rfl, rfl⟩) rfl), (um_1 _ (List.mem_of_getElem? (i := 5) rfl) rfl), (um_3 _ (List.mem_of_getElem? (i := 110) rfl) rfl), ⟨by decide, by decide, by decide⟩, TX0, 5, rfl⟩
theorem mv_X0_freeFrom : MV yX0_freeFrom cX0_freeFrom 2 ((some .int)) 1 0 := ⟨(um_3 _ (List.mem_of_getElem? (i := 113) rfl) rfl), (um_0 _ (List.mem_map.mpr ⟨_, List.mem_of_getElem? (i := 14) rfl, rfl⟩) rfl), (um_1 _ (List.mem_of_getElem? (i := 5) rfl) rfl), (um_3 _ (List.mem_of_getElem? (i := 114) rfl) rfl), ⟨by decide, by decide, by decide⟩, TX0, 5, rfl⟩
theorem mv_X0_give : MV yX0_give cX0_give 3 none 2 0 := ⟨(um_3 _ (List.mem_of_getElem? (i := 117) rfl) rfl), (um_0 _ (List.mem_map.mpr ⟨_, List.mem_of_getElem? (i := 15) rfl, rfl⟩) rfl), (um_1 _ (List.mem_of_getElem? (i := 5) rfl) rfl), (um_3 _ (List.mem_of_getElem? (i := 118) rfl) rfl), ⟨by decide, by decide, by decide⟩, TX0, 5, rfl⟩
theorem mv_X0_keep : MV yX0_keep cX0_keep 2 none 1 0 := ⟨(um_3 _ (List.mem_of_getElem? (i := 120) rfl) rfl), (um_3 _ (List.mem_of_getElem? (i := 121) rfl) rfl), (um_1 _ (List.mem_of_getElem? (i := 5) rfl) rfl), (um_3 _ (List.mem_of_getElem? (i := 122) rfl) rfl), ⟨by decide, by decide, by decide⟩, TX0, 5, rfl⟩
theorem mv_X0_next : MV yX0_next cX0_next 3 ((some .boolean)) 0 0 := ⟨(um_3 _ (List.mem_of_getElem? (i := 125) rfl) rfl), (um_3 _ (List.mem_of_getElem? (i := 126) rfl) rfl), (um_1 _ (List.mem_of_getElem? (i := 5) rfl) rfl), (um_3 _ (List.mem_of_getElem? (i := 127) rfl) rfl), ⟨by decide, by decide, by decide⟩, TX0, 5, rfl⟩
theorem mv_X1_become : MV yX1_become cX1_become 2 none 1 1 := ⟨(um_3 _ (List.mem_of_getElem? (i := 218) rfl) rfl), (um_3 _ (List.mem_of_getElem? (i := 219) rfl) rfl), (um_1 _ (List.mem_of_getElem? (i := 4) rfl) rfl), (um_3 _ (List.mem_of_getElem? (i := 220) rfl) rfl), ⟨by decide, by decide, by decide⟩, TX1, 5, rfl⟩
theorem mv_X1_give : MV yX1_give cX1_give 2 none 1 1 := ⟨(um_3 _ (List.mem_of_getElem? (i := 55) rfl) rfl), (um_3 _ (List.mem_of_getElem? (i := 56) rfl) rfl), (um_1 _ (List.mem_of_getElem? (i := 4) rfl) rfl), (um_3 _ (List.mem_of_getElem? (i := 57) rfl) rfl), ⟨by decide, by decide, by decide⟩, TX1, 5, rfl⟩
theorem mv_X1_note : MV yX1_note cX1_note 2 none 1 1 := ⟨(um_3 _ (List.mem_of_getElem? (i := 3) rfl) rfl), (um_3 _ (List.mem_of_getElem? (i := 4) rfl) rfl), (um_1 _ (List.mem_of_getElem? (i := 4) rfl) rfl), (um_3 _ (List.mem_of_getElem? (i := 5) rfl) rfl), ⟨by decide, by decide, by decide⟩, TX1, 5, rfl⟩
theorem mv_X2_become : MV yX2_become cX2_become 3 none 1 2 := ⟨(um_3 _ (List.mem_of_getElem? (i := 214) rfl) rfl), (um_3 _ (List.mem_of_getElem? (i := 215) rfl) rfl), (um_1 _ (List.mem_of_getElem? (i := 3) rfl) rfl), (um_3 _ (List.mem_of_getElem? (i := 216) rfl) rfl), ⟨by decide, by decide, by decide⟩, TX2, 3, rfl⟩
theorem mv_X2_forget : MV yX2_forget cX2_forget 1 none 0 2 := ⟨(um_1 _ (List.mem_of_getElem? (i := 231) rfl) rfl), (um_1 _ (List.mem_of_getElem? (i := 232) rfl) rfl), (um_1 _ (List.mem_of_getElem? (i := 3) rfl) rfl), (um_1 _ (List.mem_of_getElem? (i := 233) rfl) rfl), ⟨by decide, by decide, by decide⟩, TX2, 3, rfl⟩
theorem mv_X2_giveLatest : MV yX2_giveLatest cX2_giveLatest 2 none 1 2 := ⟨(um_3 _ (List.mem_of_getElem? (i := 51) rfl) rfl), (um_3 _ (List.mem_of_getElem? (i := 52) rfl) rfl), (um_1 _ (List.mem_of_getElem? (i := 3) rfl) rfl), (um_3 _ (List.mem_of_getElem? (i := 53) rfl) rfl), ⟨by decide, by decide, by decide⟩, TX2, 3, rfl⟩
theorem mv_X2_keep : MV yX2_keep cX2_keep 2 none 1 2 := ⟨(um_2 _ (List.mem_of_getElem? (i := 239) rfl) rfl), (um_3 _ (List.mem_of_getElem? (i := 0) rfl) rfl), (um_1 _ (List.mem_of_getElem? (i := 3) rfl) rfl), (um_3 _ (List.mem_of_getElem? (i := 1) rfl) rfl), ⟨by decide, by decide, by decide⟩, TX2, 3, rfl⟩
theorem mv_X3_become : MV yX3_become cX3_become 2 none 1 3 := ⟨(um_2 _ (List.mem_of_getElem? (i := 69) rfl) rfl), (um_2 _ (List.mem_of_getElem? (i := 70) rfl) rfl), (um_1 _ (List.mem_of_getElem? (i := 2) rfl) rfl), (um_2 _ (List.mem_of_getElem? (i := 71) rfl) rfl), ⟨by decide, by decide, by decide⟩, TX3, 12, rfl⟩
theorem mv_X3_besideSet : MV yX3_besideSet cX3_besideSet 4 ((some .int)) 1 3 := ⟨(um_2 _ (List.mem_of_getElem? (i := 42) rfl) rfl), (um_2 _ (List.mem_of_getElem? (i := 43) rfl) rfl), (um_1 _ (List.mem_of_getElem? (i := 2) rfl) rfl), (um_2 _ (List.mem_of_getElem? (i := 44) rfl) rfl), ⟨by decide, by decide, by decide⟩, TX3, 12, rfl⟩
theorem mv_X3_clear : MV yX3_clear cX3_clear 2 none 0 3 := ⟨(um_2 _ (List.mem_of_getElem? (i := 76) rfl) rfl), (um_2 _ (List.mem_of_getElem? (i := 77) rfl) rfl), (um_1 _ (List.mem_of_getElem? (i := 2) rfl) rfl), (um_2 _ (List.mem_of_getElem? (i := 78) rfl) rfl), ⟨by decide, by decide, by decide⟩, TX3, 12, rfl⟩
theorem mv_X3_countSwaps : MV yX3_countSwaps cX3_countSwaps 4 ((some .int)) 0 3 := ⟨(um_3 _ (List.mem_of_getElem? (i := 137) rfl) rfl), (um_3 _ (List.mem_of_getElem? (i := 138) rfl) rfl), (um_1 _ (List.mem_of_getElem? (i := 2) rfl) rfl), (um_3 _ (List.mem_of_getElem? (i := 139) rfl) rfl), ⟨by decide, by decide, by decide⟩, TX3, 12, rfl⟩
theorem mv_X3_drawTalk : MV yX3_drawTalk cX3_drawTalk 1 none 0 3 := ⟨(um_3 _ (List.mem_of_getElem? (i := 9) rfl) rfl), (um_3 _ (List.mem_of_getElem? (i := 10) rfl) rfl), (um_1 _ (List.mem_of_getElem? (i := 2) rfl) rfl), (um_3 _ (List.mem_of_getElem? (i := 11) rfl) rfl), ⟨by decide, by decide, by decide⟩, TX3, 12, rfl⟩
theorem mv_X3_duesAtMost : MV yX3_duesAtMost cX3_duesAtMost 6 ((some .int)) 1 3 := ⟨(um_3 _ (List.mem_of_getElem? (i := 186) rfl) rfl), (um_3 _ (List.mem_of_getElem? (i := 187) rfl) rfl), (um_1 _ (List.mem_of_getElem? (i := 2) rfl) rfl), (um_3 _ (List.mem_of_getElem? (i := 188) rfl) rfl), ⟨by decide, by decide, by decide⟩, TX3, 12, rfl⟩
theorem mv_X3_enter : MV yX3_enter cX3_enter 5 none 4 3 := ⟨(um_1 _ (List.mem_of_getElem? (i := 235) rfl) rfl), (um_1 _ (List.mem_of_getElem? (i := 236) rfl) rfl), (um_1 _ (List.mem_of_getElem? (i := 2) rfl) rfl), (um_1 _ (List.mem_of_getElem? (i := 237) rfl) rfl), ⟨by decide, by decide, by decide⟩, TX3, 12, rfl⟩
theorem mv_X3_farFrom : MV yX3_farFrom cX3_farFrom 3 ((some .int)) 2 3 := ⟨(um_2 _ (List.mem_of_getElem? (i := 46) rfl) rfl), (um_2 _ (List.mem_of_getElem? (i := 47) rfl) rfl), (um_1 _ (List.mem_of_getElem? (i := 2) rfl) rfl), (um_2 _ (List.mem_of_getElem? (i := 48) rfl) rfl), ⟨by decide, by decide, by decide⟩, TX3, 12, rfl⟩
theorem mv_X3_farTogether : MV yX3_farTogether cX3_farTogether 3 ((some .int)) 0 3 := ⟨(um_2 _ (List.mem_of_getElem? (i := 226) rfl) rfl), (um_2 _ (List.mem_of_getElem? (i := 227) rfl) rfl), (um_1 _ (List.mem_of_getElem? (i := 2) rfl) rfl), (um_2 _ (List.mem_of_getElem? (i := 228) rfl) rfl), ⟨by decide, by decide, by decide⟩, TX3, 12, rfl⟩
theorem mv_X3_firstAlike : MV yX3_firstAlike cX3_firstAlike 3 ((some .int)) 0 3 := ⟨(um_3 _ (List.mem_of_getElem? (i := 92) rfl) rfl), (um_3 _ (List.mem_of_getElem? (i := 93) rfl) rfl), (um_1 _ (List.mem_of_getElem? (i := 2) rfl) rfl), (um_3 _ (List.mem_of_getElem? (i := 94) rfl) rfl), ⟨by decide, by decide, by decide⟩, TX3, 12, rfl⟩
theorem mv_X3_firstSwap : MV yX3_firstSwap cX3_firstSwap 3 ((some .int)) 0 3 := ⟨(um_3 _ (List.mem_of_getElem? (i := 145) rfl) rfl), (um_3 _ (List.mem_of_getElem? (i := 146) rfl) rfl), (um_1 _ (List.mem_of_getElem? (i := 2) rfl) rfl), (um_3 _ (List.mem_of_getElem? (i := 147) rfl) rfl), ⟨by decide, by decide, by decide⟩, TX3, 12, rfl⟩
theorem mv_X3_gainOf : MV yX3_gainOf cX3_gainOf 6 ((some .int)) 1 3 := ⟨(um_2 _ (List.mem_of_getElem? (i := 19) rfl) rfl), (um_2 _ (List.mem_of_getElem? (i := 20) rfl) rfl), (um_1 _ (List.mem_of_getElem? (i := 2) rfl) rfl), (um_2 _ (List.mem_of_getElem? (i := 21) rfl) rfl), ⟨by decide, by decide, by decide⟩, TX3, 12, rfl⟩
theorem mv_X3_has : MV yX3_has cX3_has 2 ((some .boolean)) 1 3 := ⟨(um_2 _ (List.mem_of_getElem? (i := 11) rfl) rfl), (um_2 _ (List.mem_of_getElem? (i := 12) rfl) rfl), (um_1 _ (List.mem_of_getElem? (i := 2) rfl) rfl), (um_2 _ (List.mem_of_getElem? (i := 13) rfl) rfl), ⟨by decide, by decide, by decide⟩, TX3, 12, rfl⟩
theorem mv_X3_hasTaken : MV yX3_hasTaken cX3_hasTaken 2 ((some .boolean)) 1 3 := ⟨(um_2 _ (List.mem_of_getElem? (i := 15) rfl) rfl), (um_2 _ (List.mem_of_getElem? (i := 16) rfl) rfl), (um_1 _ (List.mem_of_getElem? (i := 2) rfl) rfl), (um_2 _ (List.mem_of_getElem? (i := 17) rfl) rfl), ⟨by decide, by decide, by decide⟩, TX3, 12, rfl⟩
theorem mv_X3_heldBays : MV yX3_heldBays cX3_heldBays 3 ((some .int)) 0 3 := ⟨(um_3 _ (List.mem_of_getElem? (i := 161) rfl) rfl), (um_3 _ (List.mem_of_getElem? (i := 162) rfl) rfl), (um_1 _ (List.mem_of_getElem? (i := 2) rfl) rfl), (um_3 _ (List.mem_of_getElem? (i := 163) rfl) rfl), ⟨by decide, by decide, by decide⟩, TX3, 12, rfl⟩
theorem mv_X3_lowestFreeBay : MV yX3_lowestFreeBay cX3_lowestFreeBay 2 ((some .int)) 0 3 := ⟨(um_1 _ (List.mem_of_getElem? (i := 227) rfl) rfl), (um_1 _ (List.mem_of_getElem? (i := 228) rfl) rfl), (um_1 _ (List.mem_of_getElem? (i := 2) rfl) rfl), (um_1 _ (List.mem_of_getElem? (i := 229) rfl) rfl), ⟨by decide, by decide, by decide⟩, TX3, 12, rfl⟩
theorem mv_X3_notTakenIn : MV yX3_notTakenIn cX3_notTakenIn 3 ((some .int)) 1 3 := ⟨(um_2 _ (List.mem_of_getElem? (i := 23) rfl) rfl), (um_2 _ (List.mem_of_getElem? (i := 24) rfl) rfl), (um_1 _ (List.mem_of_getElem? (i := 2) rfl) rfl), (um_2 _ (List.mem_of_getElem? (i := 25) rfl) rfl), ⟨by decide, by decide, by decide⟩, TX3, 12, rfl⟩
theorem mv_X3_passDay : MV yX3_passDay cX3_passDay 2 none 0 3 := ⟨(um_3 _ (List.mem_of_getElem? (i := 20) rfl) rfl), (um_3 _ (List.mem_of_getElem? (i := 21) rfl) rfl), (um_1 _ (List.mem_of_getElem? (i := 2) rfl) rfl), (um_3 _ (List.mem_of_getElem? (i := 22) rfl) rfl), ⟨by decide, by decide, by decide⟩, TX3, 12, rfl⟩
theorem mv_X3_passDays : MV yX3_passDays cX3_passDays 3 none 1 3 := ⟨(um_3 _ (List.mem_of_getElem? (i := 75) rfl) rfl), (um_3 _ (List.mem_of_getElem? (i := 76) rfl) rfl), (um_1 _ (List.mem_of_getElem? (i := 2) rfl) rfl), (um_3 _ (List.mem_of_getElem? (i := 77) rfl) rfl), ⟨by decide, by decide, by decide⟩, TX3, 12, rfl⟩
theorem mv_X3_seat : MV yX3_seat cX3_seat 3 none 2 3 := ⟨(um_1 _ (List.mem_of_getElem? (i := 239) rfl) rfl), (um_2 _ (List.mem_of_getElem? (i := 0) rfl) rfl), (um_1 _ (List.mem_of_getElem? (i := 2) rfl) rfl), (um_2 _ (List.mem_of_getElem? (i := 1) rfl) rfl), ⟨by decide, by decide, by decide⟩, TX3, 12, rfl⟩
theorem mv_X3_seatAll : MV yX3_seatAll cX3_seatAll 3 none 1 3 := ⟨(um_3 _ (List.mem_of_getElem? (i := 59) rfl) rfl), (um_3 _ (List.mem_of_getElem? (i := 60) rfl) rfl), (um_1 _ (List.mem_of_getElem? (i := 2) rfl) rfl), (um_3 _ (List.mem_of_getElem? (i := 61) rfl) rfl), ⟨by decide, by decide, by decide⟩, TX3, 12, rfl⟩
theorem mv_X3_swapBays : MV yX3_swapBays cX3_swapBays 4 none 2 3 := ⟨(um_3 _ (List.mem_of_getElem? (i := 29) rfl) rfl), (um_3 _ (List.mem_of_getElem? (i := 30) rfl) rfl), (um_1 _ (List.mem_of_getElem? (i := 2) rfl) rfl), (um_3 _ (List.mem_of_getElem? (i := 31) rfl) rfl), ⟨by decide, by decide, by decide⟩, TX3, 12, rfl⟩
theorem mv_X3_takenIn : MV yX3_takenIn cX3_takenIn 3 ((some .int)) 1 3 := ⟨(um_2 _ (List.mem_of_getElem? (i := 38) rfl) rfl), (um_2 _ (List.mem_of_getElem? (i := 39) rfl) rfl), (um_1 _ (List.mem_of_getElem? (i := 2) rfl) rfl), (um_2 _ (List.mem_of_getElem? (i := 40) rfl) rfl), ⟨by decide, by decide, by decide⟩, TX3, 12, rfl⟩
theorem mv_X3_takenSet : MV yX3_takenSet cX3_takenSet 3 ((some .int)) 0 3 := ⟨(um_2 _ (List.mem_of_getElem? (i := 218) rfl) rfl), (um_2 _ (List.mem_of_getElem? (i := 219) rfl) rfl), (um_1 _ (List.mem_of_getElem? (i := 2) rfl) rfl), (um_2 _ (List.mem_of_getElem? (i := 220) rfl) rfl), ⟨by decide, by decide, by decide⟩, TX3, 12, rfl⟩
theorem mv_X3_talkTo : MV yX3_talkTo cX3_talkTo 2 none 1 3 := ⟨(um_3 _ (List.mem_of_getElem? (i := 16) rfl) rfl), (um_3 _ (List.mem_of_getElem? (i := 17) rfl) rfl), (um_1 _ (List.mem_of_getElem? (i := 2) rfl) rfl), (um_3 _ (List.mem_of_getElem? (i := 18) rfl) rfl), ⟨by decide, by decide, by decide⟩, TX3, 12, rfl⟩
theorem mv_X3_usedAtLeast : MV yX3_usedAtLeast cX3_usedAtLeast 3 ((some .int)) 2 3 := ⟨(um_3 _ (List.mem_of_getElem? (i := 170) rfl) rfl), (um_3 _ (List.mem_of_getElem? (i := 171) rfl) rfl), (um_1 _ (List.mem_of_getElem? (i := 2) rfl) rfl), (um_3 _ (List.mem_of_getElem? (i := 172) rfl) rfl), ⟨by decide, by decide, by decide⟩, TX3, 12, rfl⟩
theorem mv_X3_usedTogether : MV yX3_usedTogether cX3_usedTogether 3 ((some .int)) 0 3 := ⟨(um_2 _ (List.mem_of_getElem? (i := 222) rfl) rfl), (um_2 _ (List.mem_of_getElem? (i := 223) rfl) rfl), (um_1 _ (List.mem_of_getElem? (i := 2) rfl) rfl), (um_2 _ (List.mem_of_getElem? (i := 224) rfl) rfl), ⟨by decide, by decide, by decide⟩, TX3, 12, rfl⟩
theorem mv_X3_whoIn : MV yX3_whoIn cX3_whoIn 2 ((some .int)) 1 3 := ⟨(um_2 _ (List.mem_of_getElem? (i := 27) rfl) rfl), (um_2 _ (List.mem_of_getElem? (i := 28) rfl) rfl), (um_1 _ (List.mem_of_getElem? (i := 2) rfl) rfl), (um_2 _ (List.mem_of_getElem? (i := 29) rfl) rfl), ⟨by decide, by decide, by decide⟩, TX3, 12, rfl⟩
theorem mv_X3_wouldSwap : MV yX3_wouldSwap cX3_wouldSwap 3 ((some .boolean)) 2 3 := ⟨(um_3 _ (List.mem_of_getElem? (i := 141) rfl) rfl), (um_3 _ (List.mem_of_getElem? (i := 142) rfl) rfl), (um_1 _ (List.mem_of_getElem? (i := 2) rfl) rfl), (um_3 _ (List.mem_of_getElem? (i := 143) rfl) rfl), ⟨by decide, by decide, by decide⟩, TX3, 12, rfl⟩
theorem mv_X4_cut : MV yX4_cut cX4_cut 3 ((some .long)) 1 4 := ⟨(um_4 _ (List.mem_of_getElem? (i := 25) rfl) rfl), (um_0 _ (List.mem_map.mpr ⟨_, List.mem_of_getElem? (i := 25) rfl, rfl⟩) rfl), (um_1 _ (List.mem_of_getElem? (i := 7) rfl) rfl), (um_4 _ (List.mem_of_getElem? (i := 26) rfl) rfl), ⟨by decide, by decide, by decide⟩, TX4, 3, rfl⟩
theorem mv_X4_isMissing : MV yX4_isMissing cX4_isMissing 1 ((some .boolean)) 0 4 := ⟨(um_4 _ (List.mem_of_getElem? (i := 0) rfl) rfl), (um_4 _ (List.mem_of_getElem? (i := 1) rfl) rfl), (um_1 _ (List.mem_of_getElem? (i := 7) rfl) rfl), (um_4 _ (List.mem_of_getElem? (i := 2) rfl) rfl), ⟨by decide, by decide, by decide⟩, TX4, 3, rfl⟩
theorem mv_X4_lay : MV yX4_lay cX4_lay 4 none 2 4 := ⟨(um_4 _ (List.mem_of_getElem? (i := 32) rfl) rfl), (um_4 _ (List.mem_of_getElem? (i := 33) rfl) rfl), (um_1 _ (List.mem_of_getElem? (i := 7) rfl) rfl), (um_4 _ (List.mem_of_getElem? (i := 34) rfl) rfl), ⟨by decide, by decide, by decide⟩, TX4, 3, rfl⟩
theorem mv_X4_put : MV yX4_put cX4_put 4 none 2 4 := ⟨(um_4 _ (List.mem_of_getElem? (i := 20) rfl) rfl), (um_4 _ (List.mem_of_getElem? (i := 21) rfl) rfl), (um_1 _ (List.mem_of_getElem? (i := 7) rfl) rfl), (um_4 _ (List.mem_of_getElem? (i := 22) rfl) rfl), ⟨by decide, by decide, by decide⟩, TX4, 3, rfl⟩
theorem mv_X4_refusal : MV yX4_refusal cX4_refusal 4 ((some .int)) 3 4 := ⟨(um_3 _ (List.mem_of_getElem? (i := 236) rfl) rfl), (um_3 _ (List.mem_of_getElem? (i := 237) rfl) rfl), (um_1 _ (List.mem_of_getElem? (i := 7) rfl) rfl), (um_3 _ (List.mem_of_getElem? (i := 238) rfl) rfl), ⟨by decide, by decide, by decide⟩, TX4, 3, rfl⟩
theorem mv_X4_takeAway : MV yX4_takeAway cX4_takeAway 2 ((some .int)) 0 4 := ⟨(um_4 _ (List.mem_of_getElem? (i := 41) rfl) rfl), (um_4 _ (List.mem_of_getElem? (i := 42) rfl) rfl), (um_1 _ (List.mem_of_getElem? (i := 7) rfl) rfl), (um_4 _ (List.mem_of_getElem? (i := 43) rfl) rfl), ⟨by decide, by decide, by decide⟩, TX4, 3, rfl⟩
theorem mv_X5_clear : MV yX5_clear cX5_clear 1 none 0 5 := ⟨(um_2 _ (List.mem_of_getElem? (i := 209) rfl) rfl), (um_2 _ (List.mem_of_getElem? (i := 210) rfl) rfl), (um_1 _ (List.mem_of_getElem? (i := 6) rfl) rfl), (um_2 _ (List.mem_of_getElem? (i := 211) rfl) rfl), ⟨by decide, by decide, by decide⟩, TX5, 3, rfl⟩
theorem mv_X5_digitHere : MV yX5_digitHere cX5_digitHere 3 ((some .int)) 1 5 := ⟨(um_2 _ (List.mem_of_getElem? (i := 97) rfl) rfl), (um_0 _ (List.mem_map.mpr ⟨_, List.mem_of_getElem? (i := 3) rfl, rfl⟩) rfl), (um_1 _ (List.mem_of_getElem? (i := 6) rfl) rfl), (um_2 _ (List.mem_of_getElem? (i := 98) rfl) rfl), ⟨by decide, by decide, by decide⟩, TX5, 3, rfl⟩
theorem mv_X5_readDigit : MV yX5_readDigit cX5_readDigit 3 ((some .int)) 1 5 := ⟨(um_2 _ (List.mem_of_getElem? (i := 89) rfl) rfl), (um_0 _ (List.mem_map.mpr ⟨_, List.mem_of_getElem? (i := 1) rfl, rfl⟩) rfl), (um_1 _ (List.mem_of_getElem? (i := 6) rfl) rfl), (um_2 _ (List.mem_of_getElem? (i := 90) rfl) rfl), ⟨by decide, by decide, by decide⟩, TX5, 3, rfl⟩
theorem mv_X5_readFreeBay : MV yX5_readFreeBay cX5_readFreeBay 3 ((some .int)) 1 5 := ⟨(um_2 _ (List.mem_of_getElem? (i := 204) rfl) rfl), (um_0 _ (List.mem_map.mpr ⟨_, List.mem_of_getElem? (i := 9) rfl, rfl⟩) rfl), (um_1 _ (List.mem_of_getElem? (i := 6) rfl) rfl), (um_2 _ (List.mem_of_getElem? (i := 205) rfl) rfl), ⟨by decide, by decide, by decide⟩, TX5, 3, rfl⟩
theorem mv_X5_readHolders : MV yX5_readHolders cX5_readHolders 3 ((some .boolean)) 1 5 := ⟨(um_2 _ (List.mem_of_getElem? (i := 105) rfl) rfl), (um_0 _ (List.mem_map.mpr ⟨_, List.mem_of_getElem? (i := 5) rfl, rfl⟩) rfl), (um_1 _ (List.mem_of_getElem? (i := 6) rfl) rfl), (um_2 _ (List.mem_of_getElem? (i := 106) rfl) rfl), ⟨by decide, by decide, by decide⟩, TX5, 3, rfl⟩
theorem mv_X5_readInto : MV yX5_readInto cX5_readInto 2 ((some .boolean)) 1 5 := ⟨(um_2 _ (List.mem_of_getElem? (i := 80) rfl) rfl), (um_2 _ (List.mem_of_getElem? (i := 81) rfl) rfl), (um_1 _ (List.mem_of_getElem? (i := 6) rfl) rfl), (um_2 _ (List.mem_of_getElem? (i := 82) rfl) rfl), ⟨by decide, by decide, by decide⟩, TX5, 3, rfl⟩
theorem mv_X5_readKind : MV yX5_readKind cX5_readKind 2 ((some .int)) 0 5 := ⟨(um_2 _ (List.mem_of_getElem? (i := 113) rfl) rfl), (um_0 _ (List.mem_map.mpr ⟨_, List.mem_of_getElem? (i := 7) rfl, rfl⟩) rfl), (um_1 _ (List.mem_of_getElem? (i := 6) rfl) rfl), (um_2 _ (List.mem_of_getElem? (i := 114) rfl) rfl), ⟨by decide, by decide, by decide⟩, TX5, 3, rfl⟩
theorem mv_X5_readLamps : MV yX5_readLamps cX5_readLamps 4 ((some .boolean)) 1 5 := ⟨(um_2 _ (List.mem_of_getElem? (i := 85) rfl) rfl), (um_0 _ (List.mem_map.mpr ⟨_, List.mem_of_getElem? (i := 0) rfl, rfl⟩) rfl), (um_1 _ (List.mem_of_getElem? (i := 6) rfl) rfl), (um_2 _ (List.mem_of_getElem? (i := 86) rfl) rfl), ⟨by decide, by decide, by decide⟩, TX5, 3, rfl⟩
theorem mv_X5_readNumber : MV yX5_readNumber cX5_readNumber 2 ((some .int)) 0 5 := ⟨(um_2 _ (List.mem_of_getElem? (i := 200) rfl) rfl), (um_0 _ (List.mem_map.mpr ⟨_, List.mem_of_getElem? (i := 8) rfl, rfl⟩) rfl), (um_1 _ (List.mem_of_getElem? (i := 6) rfl) rfl), (um_2 _ (List.mem_of_getElem? (i := 201) rfl) rfl), ⟨by decide, by decide, by decide⟩, TX5, 3, rfl⟩
theorem mv_X5_readOneHolder : MV yX5_readOneHolder cX5_readOneHolder 6 ((some .boolean)) 1 5 := ⟨(um_2 _ (List.mem_of_getElem? (i := 109) rfl) rfl), (um_0 _ (List.mem_map.mpr ⟨_, List.mem_of_getElem? (i := 6) rfl, rfl⟩) rfl), (um_1 _ (List.mem_of_getElem? (i := 6) rfl) rfl), (um_2 _ (List.mem_of_getElem? (i := 110) rfl) rfl), ⟨by decide, by decide, by decide⟩, TX5, 3, rfl⟩
theorem mv_X5_skipBlanks : MV yX5_skipBlanks cX5_skipBlanks 1 none 0 5 := ⟨(um_2 _ (List.mem_of_getElem? (i := 93) rfl) rfl), (um_0 _ (List.mem_map.mpr ⟨_, List.mem_of_getElem? (i := 2) rfl, rfl⟩) rfl), (um_1 _ (List.mem_of_getElem? (i := 6) rfl) rfl), (um_2 _ (List.mem_of_getElem? (i := 94) rfl) rfl), ⟨by decide, by decide, by decide⟩, TX5, 3, rfl⟩
theorem mv_X5_takesSign : MV yX5_takesSign cX5_takesSign 2 ((some .boolean)) 1 5 := ⟨(um_2 _ (List.mem_of_getElem? (i := 101) rfl) rfl), (um_0 _ (List.mem_map.mpr ⟨_, List.mem_of_getElem? (i := 4) rfl, rfl⟩) rfl), (um_1 _ (List.mem_of_getElem? (i := 6) rfl) rfl), (um_2 _ (List.mem_of_getElem? (i := 102) rfl) rfl), ⟨by decide, by decide, by decide⟩, TX5, 3, rfl⟩
theorem mv_X5_write : MV yX5_write cX5_write 2 ((some .boolean)) 1 5 := ⟨(um_2 _ (List.mem_of_getElem? (i := 61) rfl) rfl), (um_2 _ (List.mem_of_getElem? (i := 62) rfl) rfl), (um_1 _ (List.mem_of_getElem? (i := 6) rfl) rfl), (um_2 _ (List.mem_of_getElem? (i := 63) rfl) rfl), ⟨by decide, by decide, by decide⟩, TX5, 3, rfl⟩
theorem mv_X6_ahead : MV yX6_ahead cX6_ahead 3 ((some .int)) 2 6 := ⟨(um_3 _ (List.mem_of_getElem? (i := 67) rfl) rfl), (um_3 _ (List.mem_of_getElem? (i := 68) rfl) rfl), (um_1 _ (List.mem_of_getElem? (i := 1) rfl) rfl), (um_3 _ (List.mem_of_getElem? (i := 69) rfl) rfl), ⟨by decide, by decide, by decide⟩, TX6, 9, rfl⟩
theorem mv_X6_at : MV yX6_at cX6_at 3 ((some .int)) 2 6 := ⟨(um_2 _ (List.mem_of_getElem? (i := 53) rfl) rfl), (um_2 _ (List.mem_of_getElem? (i := 54) rfl) rfl), (um_1 _ (List.mem_of_getElem? (i := 1) rfl) rfl), (um_2 _ (List.mem_of_getElem? (i := 55) rfl) rfl), ⟨by decide, by decide, by decide⟩, TX6, 9, rfl⟩
theorem mv_X6_change : MV yX6_change cX6_change 3 ((some .int)) 2 6 := ⟨(um_3 _ (List.mem_of_getElem? (i := 25) rfl) rfl), (um_3 _ (List.mem_of_getElem? (i := 26) rfl) rfl), (um_1 _ (List.mem_of_getElem? (i := 1) rfl) rfl), (um_3 _ (List.mem_of_getElem? (i := 27) rfl) rfl), ⟨by decide, by decide, by decide⟩, TX6, 9, rfl⟩
theorem ms_X6_commonDivisor : MS yX6_commonDivisor cX6_commonDivisor 4 ((some .int)) 2 := ⟨(um_3 _ (List.mem_of_getElem? (i := 206) rfl) rfl), (um_1 _ (List.mem_of_getElem? (i := 1) rfl) rfl), (um_3 _ (List.mem_of_getElem? (i := 207) rfl) rfl), ⟨by decide, by decide, by decide⟩⟩
theorem mv_X6_content : MV yX6_content cX6_content 2 ((some .int)) 1 6 := ⟨(um_3 _ (List.mem_of_getElem? (i := 96) rfl) rfl), (um_3 _ (List.mem_of_getElem? (i := 97) rfl) rfl), (um_1 _ (List.mem_of_getElem? (i := 1) rfl) rfl), (um_3 _ (List.mem_of_getElem? (i := 98) rfl) rfl), ⟨by decide, by decide, by decide⟩, TX6, 9, rfl⟩
theorem mv_X6_copy : MV yX6_copy cX6_copy 9 ((some .int)) 5 6 := ⟨(um_4 _ (List.mem_of_getElem? (i := 49) rfl) rfl), (um_4 _ (List.mem_of_getElem? (i := 50) rfl) rfl), (um_1 _ (List.mem_of_getElem? (i := 1) rfl) rfl), (um_4 _ (List.mem_of_getElem? (i := 51) rfl) rfl), ⟨by decide, by decide, by decide⟩, TX6, 9, rfl⟩
theorem mv_X6_cough : MV yX6_cough cX6_cough 4 ((some .int)) 1 6 := ⟨(um_3 _ (List.mem_of_getElem? (i := 88) rfl) rfl), (um_3 _ (List.mem_of_getElem? (i := 89) rfl) rfl), (um_1 _ (List.mem_of_getElem? (i := 1) rfl) rfl), (um_3 _ (List.mem_of_getElem? (i := 90) rfl) rfl), ⟨by decide, by decide, by decide⟩, TX6, 9, rfl⟩
theorem mv_X6_coughs : MV yX6_coughs cX6_coughs 9 ((some .int)) 5 6 := ⟨(um_3 _ (List.mem_of_getElem? (i := 198) rfl) rfl), (um_3 _ (List.mem_of_getElem? (i := 199) rfl) rfl), (um_1 _ (List.mem_of_getElem? (i := 1) rfl) rfl), (um_3 _ (List.mem_of_getElem? (i := 200) rfl) rfl), ⟨by decide, by decide, by decide⟩, TX6, 9, rfl⟩
theorem mv_X6_count : MV yX6_count cX6_count 2 ((some .int)) 1 6 := ⟨(um_2 _ (List.mem_of_getElem? (i := 214) rfl) rfl), (um_2 _ (List.mem_of_getElem? (i := 215) rfl) rfl), (um_1 _ (List.mem_of_getElem? (i := 1) rfl) rfl), (um_2 _ (List.mem_of_getElem? (i := 216) rfl) rfl), ⟨by decide, by decide, by decide⟩, TX6, 9, rfl⟩
theorem mv_X6_crypt : MV yX6_crypt cX6_crypt 3 ((some .int)) 0 6 := ⟨(um_2 _ (List.mem_of_getElem? (i := 65) rfl) rfl), (um_2 _ (List.mem_of_getElem? (i := 66) rfl) rfl), (um_1 _ (List.mem_of_getElem? (i := 1) rfl) rfl), (um_2 _ (List.mem_of_getElem? (i := 67) rfl) rfl), ⟨by decide, by decide, by decide⟩, TX6, 9, rfl⟩
theorem mv_X6_dark : MV yX6_dark cX6_dark 4 ((some .int)) 2 6 := ⟨(um_3 _ (List.mem_of_getElem? (i := 190) rfl) rfl), (um_3 _ (List.mem_of_getElem? (i := 191) rfl) rfl), (um_1 _ (List.mem_of_getElem? (i := 1) rfl) rfl), (um_3 _ (List.mem_of_getElem? (i := 192) rfl) rfl), ⟨by decide, by decide, by decide⟩, TX6, 9, rfl⟩
theorem mv_X6_days : MV yX6_days cX6_days 2 ((some .int)) 1 6 := ⟨(um_2 _ (List.mem_of_getElem? (i := 231) rfl) rfl), (um_2 _ (List.mem_of_getElem? (i := 232) rfl) rfl), (um_1 _ (List.mem_of_getElem? (i := 1) rfl) rfl), (um_2 _ (List.mem_of_getElem? (i := 233) rfl) rfl), ⟨by decide, by decide, by decide⟩, TX6, 9, rfl⟩
theorem mv_X6_dealLeastUsed : MV yX6_dealLeastUsed cX6_dealLeastUsed 6 none 2 6 := ⟨(um_3 _ (List.mem_of_getElem? (i := 158) rfl) rfl), (um_0 _ (List.mem_map.mpr ⟨_, List.mem_of_getElem? (i := 17) rfl, rfl⟩) rfl), (um_1 _ (List.mem_of_getElem? (i := 1) rfl) rfl), (um_3 _ (List.mem_of_getElem? (i := 159) rfl) rfl), ⟨by decide, by decide, by decide⟩, TX6, 9, rfl⟩
theorem mv_X6_dealMostDues : MV yX6_dealMostDues cX6_dealMostDues 5 none 1 6 := ⟨(um_3 _ (List.mem_of_getElem? (i := 179) rfl) rfl), (um_0 _ (List.mem_map.mpr ⟨_, List.mem_of_getElem? (i := 19) rfl, rfl⟩) rfl), (um_1 _ (List.mem_of_getElem? (i := 1) rfl) rfl), (um_3 _ (List.mem_of_getElem? (i := 180) rfl) rfl), ⟨by decide, by decide, by decide⟩, TX6, 9, rfl⟩
theorem mv_X6_dealNearest : MV yX6_dealNearest cX6_dealNearest 4 none 0 6 := ⟨(um_3 _ (List.mem_of_getElem? (i := 101) rfl) rfl), (um_0 _ (List.mem_map.mpr ⟨_, List.mem_of_getElem? (i := 12) rfl, rfl⟩) rfl), (um_1 _ (List.mem_of_getElem? (i := 1) rfl) rfl), (um_3 _ (List.mem_of_getElem? (i := 102) rfl) rfl), ⟨by decide, by decide, by decide⟩, TX6, 9, rfl⟩
theorem mv_X6_drift : MV yX6_drift cX6_drift 2 ((some .int)) 1 6 := ⟨(um_3 _ (List.mem_of_getElem? (i := 43) rfl) rfl), (um_3 _ (List.mem_of_getElem? (i := 44) rfl) rfl), (um_1 _ (List.mem_of_getElem? (i := 1) rfl) rfl), (um_3 _ (List.mem_of_getElem? (i := 45) rfl) rfl), ⟨by decide, by decide, by decide⟩, TX6, 9, rfl⟩
theorem mv_X6_drop : MV yX6_drop cX6_drop 2 ((some .int)) 1 6 := ⟨(um_4 _ (List.mem_of_getElem? (i := 36) rfl) rfl), (um_4 _ (List.mem_of_getElem? (i := 37) rfl) rfl), (um_1 _ (List.mem_of_getElem? (i := 1) rfl) rfl), (um_4 _ (List.mem_of_getElem? (i := 38) rfl) rfl), ⟨by decide, by decide, by decide⟩, TX6, 9, rfl⟩
theorem mv_X6_duesIfDealt : MV yX6_duesIfDealt cX6_duesIfDealt 5 ((some .int)) 2 6 := ⟨(um_3 _ (List.mem_of_getElem? (i := 183) rfl) rfl), (um_0 _ (List.mem_map.mpr ⟨_, List.mem_of_getElem? (i := 20) rfl, rfl⟩) rfl), (um_1 _ (List.mem_of_getElem? (i := 1) rfl) rfl), (um_3 _ (List.mem_of_getElem? (i := 184) rfl) rfl), ⟨by decide, by decide, by decide⟩, TX6, 9, rfl⟩
theorem mv_X6_earn : MV yX6_earn cX6_earn 3 ((some .int)) 2 6 := ⟨(um_3 _ (List.mem_of_getElem? (i := 174) rfl) rfl), (um_3 _ (List.mem_of_getElem? (i := 175) rfl) rfl), (um_1 _ (List.mem_of_getElem? (i := 1) rfl) rfl), (um_3 _ (List.mem_of_getElem? (i := 176) rfl) rfl), ⟨by decide, by decide, by decide⟩, TX6, 9, rfl⟩
theorem mv_X6_film : MV yX6_film cX6_film 8 ((some .int)) 5 6 := ⟨(um_4 _ (List.mem_of_getElem? (i := 16) rfl) rfl), (um_4 _ (List.mem_of_getElem? (i := 17) rfl) rfl), (um_1 _ (List.mem_of_getElem? (i := 1) rfl) rfl), (um_4 _ (List.mem_of_getElem? (i := 18) rfl) rfl), ⟨by decide, by decide, by decide⟩, TX6, 9, rfl⟩
theorem mv_X6_foresee : MV yX6_foresee cX6_foresee 2 none 1 6 := ⟨(um_3 _ (List.mem_of_getElem? (i := 72) rfl) rfl), (um_0 _ (List.mem_map.mpr ⟨_, List.mem_of_getElem? (i := 11) rfl, rfl⟩) rfl), (um_1 _ (List.mem_of_getElem? (i := 1) rfl) rfl), (um_3 _ (List.mem_of_getElem? (i := 73) rfl) rfl), ⟨by decide, by decide, by decide⟩, TX6, 9, rfl⟩
theorem mv_X6_goesBy : MV yX6_goesBy cX6_goesBy 6 ((some .boolean)) 4 6 := ⟨(um_4 _ (List.mem_of_getElem? (i := 9) rfl) rfl), (um_0 _ (List.mem_map.mpr ⟨_, List.mem_of_getElem? (i := 23) rfl, rfl⟩) rfl), (um_1 _ (List.mem_of_getElem? (i := 1) rfl) rfl), (um_4 _ (List.mem_of_getElem? (i := 10) rfl) rfl), ⟨by decide, by decide, by decide⟩, TX6, 9, rfl⟩
theorem mv_X6_holder : MV yX6_holder cX6_holder 5 ((some .int)) 3 6 := ⟨(um_1 _ (List.mem_of_getElem? (i := 217) rfl) rfl), (um_1 _ (List.mem_of_getElem? (i := 218) rfl) rfl), (um_1 _ (List.mem_of_getElem? (i := 1) rfl) rfl), (um_1 _ (List.mem_of_getElem? (i := 219) rfl) rfl), ⟨by decide, by decide, by decide⟩, TX6, 9, rfl⟩
theorem mv_X6_image : MV yX6_image cX6_image 1 ((some .int)) 0 6 := ⟨(um_3 _ (List.mem_of_getElem? (i := 210) rfl) rfl), (um_3 _ (List.mem_of_getElem? (i := 211) rfl) rfl), (um_1 _ (List.mem_of_getElem? (i := 1) rfl) rfl), (um_3 _ (List.mem_of_getElem? (i := 212) rfl) rfl), ⟨by decide, by decide, by decide⟩, TX6, 9, rfl⟩
theorem ms_X6_isBay : MS yX6_isBay cX6_isBay 1 ((some .boolean)) 1 := ⟨(um_1 _ (List.mem_of_getElem? (i := 224) rfl) rfl), (um_1 _ (List.mem_of_getElem? (i := 1) rfl) rfl), (um_1 _ (List.mem_of_getElem? (i := 225) rfl) rfl), ⟨by decide, by decide, by decide⟩⟩
theorem ms_X6_isLane : MS yX6_isLane cX6_isLane 1 ((some .boolean)) 1 := ⟨(um_3 _ (List.mem_of_getElem? (i := 233) rfl) rfl), (um_1 _ (List.mem_of_getElem? (i := 1) rfl) rfl), (um_3 _ (List.mem_of_getElem? (i := 234) rfl) rfl), ⟨by decide, by decide, by decide⟩⟩
theorem ms_X6_isSheet : MS yX6_isSheet cX6_isSheet 1 ((some .boolean)) 1 := ⟨(um_3 _ (List.mem_of_getElem? (i := 230) rfl) rfl), (um_1 _ (List.mem_of_getElem? (i := 1) rfl) rfl), (um_3 _ (List.mem_of_getElem? (i := 231) rfl) rfl), ⟨by decide, by decide, by decide⟩⟩
theorem mv_X6_item : MV yX6_item cX6_item 7 ((some .int)) 4 6 := ⟨(um_4 _ (List.mem_of_getElem? (i := 45) rfl) rfl), (um_4 _ (List.mem_of_getElem? (i := 46) rfl) rfl), (um_1 _ (List.mem_of_getElem? (i := 1) rfl) rfl), (um_4 _ (List.mem_of_getElem? (i := 47) rfl) rfl), ⟨by decide, by decide, by decide⟩, TX6, 9, rfl⟩
theorem mv_X6_kindsBy : MV yX6_kindsBy cX6_kindsBy 7 ((some .int)) 4 6 := ⟨(um_4 _ (List.mem_of_getElem? (i := 5) rfl) rfl), (um_0 _ (List.mem_map.mpr ⟨_, List.mem_of_getElem? (i := 22) rfl, rfl⟩) rfl), (um_1 _ (List.mem_of_getElem? (i := 1) rfl) rfl), (um_4 _ (List.mem_of_getElem? (i := 6) rfl) rfl), ⟨by decide, by decide, by decide⟩, TX6, 9, rfl⟩
theorem mv_X6_latest : MV yX6_latest cX6_latest 4 ((some .int)) 3 6 := ⟨(um_3 _ (List.mem_of_getElem? (i := 153) rfl) rfl), (um_3 _ (List.mem_of_getElem? (i := 154) rfl) rfl), (um_1 _ (List.mem_of_getElem? (i := 1) rfl) rfl), (um_3 _ (List.mem_of_getElem? (i := 155) rfl) rfl), ⟨by decide, by decide, by decide⟩, TX6, 9, rfl⟩
theorem mv_X6_looks : MV yX6_looks cX6_looks 8 ((some .int)) 6 6 := ⟨(um_3 _ (List.mem_of_getElem? (i := 226) rfl) rfl), (um_3 _ (List.mem_of_getElem? (i := 227) rfl) rfl), (um_1 _ (List.mem_of_getElem? (i := 1) rfl) rfl), (um_3 _ (List.mem_of_getElem? (i := 228) rfl) rfl), ⟨by decide, by decide, by decide⟩, TX6, 9, rfl⟩
theorem mv_X6_move : MV yX6_move cX6_move 4 ((some .int)) 2 6 := ⟨(um_3 _ (List.mem_of_getElem? (i := 33) rfl) rfl), (um_3 _ (List.mem_of_getElem? (i := 34) rfl) rfl), (um_1 _ (List.mem_of_getElem? (i := 1) rfl) rfl), (um_3 _ (List.mem_of_getElem? (i := 35) rfl) rfl), ⟨by decide, by decide, by decide⟩, TX6, 9, rfl⟩
theorem mv_X6_numbersBy : MV yX6_numbersBy cX6_numbersBy 8 ((some .int)) 5 6 := ⟨(um_4 _ (List.mem_of_getElem? (i := 13) rfl) rfl), (um_0 _ (List.mem_map.mpr ⟨_, List.mem_of_getElem? (i := 24) rfl, rfl⟩) rfl), (um_1 _ (List.mem_of_getElem? (i := 1) rfl) rfl), (um_4 _ (List.mem_of_getElem? (i := 14) rfl) rfl), ⟨by decide, by decide, by decide⟩, TX6, 9, rfl⟩
theorem mv_X6_of : MV yX6_of cX6_of 3 ((some .int)) 2 6 := ⟨(um_2 _ (List.mem_of_getElem? (i := 7) rfl) rfl), (um_2 _ (List.mem_of_getElem? (i := 8) rfl) rfl), (um_1 _ (List.mem_of_getElem? (i := 1) rfl) rfl), (um_2 _ (List.mem_of_getElem? (i := 9) rfl) rfl), ⟨by decide, by decide, by decide⟩, TX6, 9, rfl⟩
theorem mv_X6_pass : MV yX6_pass cX6_pass 4 ((some .int)) 2 6 := ⟨(um_2 _ (List.mem_of_getElem? (i := 236) rfl) rfl), (um_0 _ (List.mem_map.mpr ⟨_, List.mem_of_getElem? (i := 10) rfl, rfl⟩) rfl), (um_1 _ (List.mem_of_getElem? (i := 1) rfl) rfl), (um_2 _ (List.mem_of_getElem? (i := 237) rfl) rfl), ⟨by decide, by decide, by decide⟩, TX6, 9, rfl⟩
theorem mv_X6_restore : MV yX6_restore cX6_restore 1 ((some .int)) 0 6 := ⟨(um_3 _ (List.mem_of_getElem? (i := 222) rfl) rfl), (um_3 _ (List.mem_of_getElem? (i := 223) rfl) rfl), (um_1 _ (List.mem_of_getElem? (i := 1) rfl) rfl), (um_3 _ (List.mem_of_getElem? (i := 224) rfl) rfl), ⟨by decide, by decide, by decide⟩, TX6, 9, rfl⟩
theorem mv_X6_rule : MV yX6_rule cX6_rule 6 ((some .int)) 3 6 := ⟨(um_2 _ (List.mem_of_getElem? (i := 3) rfl) rfl), (um_2 _ (List.mem_of_getElem? (i := 4) rfl) rfl), (um_1 _ (List.mem_of_getElem? (i := 1) rfl) rfl), (um_2 _ (List.mem_of_getElem? (i := 5) rfl) rfl), ⟨by decide, by decide, by decide⟩, TX6, 9, rfl⟩
theorem mv_X6_seed : MV yX6_seed cX6_seed 3 ((some .int)) 1 6 := ⟨(um_3 _ (List.mem_of_getElem? (i := 63) rfl) rfl), (um_3 _ (List.mem_of_getElem? (i := 64) rfl) rfl), (um_1 _ (List.mem_of_getElem? (i := 1) rfl) rfl), (um_3 _ (List.mem_of_getElem? (i := 65) rfl) rfl), ⟨by decide, by decide, by decide⟩, TX6, 9, rfl⟩
theorem mv_X6_sheet : MV yX6_sheet cX6_sheet 4 ((some .int)) 3 6 := ⟨(um_4 _ (List.mem_of_getElem? (i := 28) rfl) rfl), (um_4 _ (List.mem_of_getElem? (i := 29) rfl) rfl), (um_1 _ (List.mem_of_getElem? (i := 1) rfl) rfl), (um_4 _ (List.mem_of_getElem? (i := 30) rfl) rfl), ⟨by decide, by decide, by decide⟩, TX6, 9, rfl⟩
theorem mv_X6_spare : MV yX6_spare cX6_spare 5 ((some .int)) 2 6 := ⟨(um_3 _ (List.mem_of_getElem? (i := 194) rfl) rfl), (um_3 _ (List.mem_of_getElem? (i := 195) rfl) rfl), (um_1 _ (List.mem_of_getElem? (i := 1) rfl) rfl), (um_3 _ (List.mem_of_getElem? (i := 196) rfl) rfl), ⟨by decide, by decide, by decide⟩, TX6, 9, rfl⟩
theorem mv_X6_swaps : MV yX6_swaps cX6_swaps 2 ((some .int)) 1 6 := ⟨(um_3 _ (List.mem_of_getElem? (i := 133) rfl) rfl), (um_3 _ (List.mem_of_getElem? (i := 134) rfl) rfl), (um_1 _ (List.mem_of_getElem? (i := 1) rfl) rfl), (um_3 _ (List.mem_of_getElem? (i := 135) rfl) rfl), ⟨by decide, by decide, by decide⟩, TX6, 9, rfl⟩
theorem mv_X6_swapsTillCalm : MV yX6_swapsTillCalm cX6_swapsTillCalm 3 ((some .int)) 0 6 := ⟨(um_3 _ (List.mem_of_getElem? (i := 150) rfl) rfl), (um_0 _ (List.mem_map.mpr ⟨_, List.mem_of_getElem? (i := 16) rfl, rfl⟩) rfl), (um_1 _ (List.mem_of_getElem? (i := 1) rfl) rfl), (um_3 _ (List.mem_of_getElem? (i := 151) rfl) rfl), ⟨by decide, by decide, by decide⟩, TX6, 9, rfl⟩
theorem mv_X6_takes : MV yX6_takes cX6_takes 3 ((some .int)) 1 6 := ⟨(um_3 _ (List.mem_of_getElem? (i := 84) rfl) rfl), (um_3 _ (List.mem_of_getElem? (i := 85) rfl) rfl), (um_1 _ (List.mem_of_getElem? (i := 1) rfl) rfl), (um_3 _ (List.mem_of_getElem? (i := 86) rfl) rfl), ⟨by decide, by decide, by decide⟩, TX6, 9, rfl⟩
theorem mv_X6_talk : MV yX6_talk cX6_talk 2 ((some .int)) 1 6 := ⟨(um_3 _ (List.mem_of_getElem? (i := 38) rfl) rfl), (um_3 _ (List.mem_of_getElem? (i := 39) rfl) rfl), (um_1 _ (List.mem_of_getElem? (i := 1) rfl) rfl), (um_3 _ (List.mem_of_getElem? (i := 40) rfl) rfl), ⟨by decide, by decide, by decide⟩, TX6, 9, rfl⟩
theorem mv_X6_then : MV yX6_then cX6_then 3 ((some .int)) 2 6 := ⟨(um_3 _ (List.mem_of_getElem? (i := 80) rfl) rfl), (um_3 _ (List.mem_of_getElem? (i := 81) rfl) rfl), (um_1 _ (List.mem_of_getElem? (i := 1) rfl) rfl), (um_3 _ (List.mem_of_getElem? (i := 82) rfl) rfl), ⟨by decide, by decide, by decide⟩, TX6, 9, rfl⟩
theorem mv_X6_type : MV yX6_type cX6_type 2 ((some .int)) 1 6 := ⟨(um_2 _ (List.mem_of_getElem? (i := 57) rfl) rfl), (um_2 _ (List.mem_of_getElem? (i := 58) rfl) rfl), (um_1 _ (List.mem_of_getElem? (i := 1) rfl) rfl), (um_2 _ (List.mem_of_getElem? (i := 59) rfl) rfl), ⟨by decide, by decide, by decide⟩, TX6, 9, rfl⟩
theorem mv_X6_undo : MV yX6_undo cX6_undo 1 ((some .int)) 0 6 := ⟨(um_3 _ (List.mem_of_getElem? (i := 47) rfl) rfl), (um_3 _ (List.mem_of_getElem? (i := 48) rfl) rfl), (um_1 _ (List.mem_of_getElem? (i := 1) rfl) rfl), (um_3 _ (List.mem_of_getElem? (i := 49) rfl) rfl), ⟨by decide, by decide, by decide⟩, TX6, 9, rfl⟩
theorem mv_X6_usedIfDealt : MV yX6_usedIfDealt cX6_usedIfDealt 6 ((some .int)) 3 6 := ⟨(um_3 _ (List.mem_of_getElem? (i := 166) rfl) rfl), (um_0 _ (List.mem_map.mpr ⟨_, List.mem_of_getElem? (i := 18) rfl, rfl⟩) rfl), (um_1 _ (List.mem_of_getElem? (i := 1) rfl) rfl), (um_3 _ (List.mem_of_getElem? (i := 167) rfl) rfl), ⟨by decide, by decide, by decide⟩, TX6, 9, rfl⟩
theorem mv_X6_weightIfUsed : MV yX6_weightIfUsed cX6_weightIfUsed 8 ((some .int)) 5 6 := ⟨(um_3 _ (List.mem_of_getElem? (i := 203) rfl) rfl), (um_0 _ (List.mem_map.mpr ⟨_, List.mem_of_getElem? (i := 21) rfl, rfl⟩) rfl), (um_1 _ (List.mem_of_getElem? (i := 1) rfl) rfl), (um_3 _ (List.mem_of_getElem? (i := 204) rfl) rfl), ⟨by decide, by decide, by decide⟩, TX6, 9, rfl⟩
theorem ms_X6_within : MS yX6_within cX6_within 3 ((some .boolean)) 3 := ⟨(um_1 _ (List.mem_of_getElem? (i := 221) rfl) rfl), (um_1 _ (List.mem_of_getElem? (i := 1) rfl) rfl), (um_1 _ (List.mem_of_getElem? (i := 222) rfl) rfl), ⟨by decide, by decide, by decide⟩⟩
theorem mv_X7_ahead : MV yX7_ahead cX7_ahead 4 ((some .int)) 2 7 := ⟨(um_5 _ (List.mem_of_getElem? (i := 59) rfl) rfl), (um_5 _ (List.mem_of_getElem? (i := 60) rfl) rfl), (um_1 _ (List.mem_of_getElem? (i := 8) rfl) rfl), (um_5 _ (List.mem_of_getElem? (i := 61) rfl) rfl), ⟨by decide, by decide, by decide⟩, TX7, 20, rfl⟩
theorem mv_X7_alikes : MV yX7_alikes cX7_alikes 5 ((some .int)) 0 7 := ⟨(um_5 _ (List.mem_of_getElem? (i := 88) rfl) rfl), (um_0 _ (List.mem_map.mpr ⟨_, List.mem_of_getElem? (i := 53) rfl, rfl⟩) rfl), (um_1 _ (List.mem_of_getElem? (i := 8) rfl) rfl), (um_5 _ (List.mem_of_getElem? (i := 89) rfl) rfl), ⟨by decide, by decide, by decide⟩, TX7, 20, rfl⟩
theorem ms_X7_apart : MS yX7_apart cX7_apart 2 ((some .int)) 2 := ⟨(um_4 _ (List.mem_of_getElem? (i := 179) rfl) rfl), (um_1 _ (List.mem_of_getElem? (i := 8) rfl) rfl), (um_4 _ (List.mem_of_getElem? (i := 180) rfl) rfl), ⟨by decide, by decide, by decide⟩⟩
theorem mv_X7_asides : MV yX7_asides cX7_asides 2 none 0 7 := ⟨(um_5 _ (List.mem_of_getElem? (i := 64) rfl) rfl), (um_0 _ (List.mem_map.mpr ⟨_, List.mem_of_getElem? (i := 50) rfl, rfl⟩) rfl), (um_1 _ (List.mem_of_getElem? (i := 8) rfl) rfl), (um_5 _ (List.mem_of_getElem? (i := 65) rfl) rfl), ⟨by decide, by decide, by decide⟩, TX7, 20, rfl⟩
theorem mv_X7_at : MV yX7_at cX7_at 3 ((some .int)) 2 7 := ⟨(um_4 _ (List.mem_of_getElem? (i := 193) rfl) rfl), (um_4 _ (List.mem_of_getElem? (i := 194) rfl) rfl), (um_1 _ (List.mem_of_getElem? (i := 8) rfl) rfl), (um_4 _ (List.mem_of_getElem? (i := 195) rfl) rfl), ⟨by decide, by decide, by decide⟩, TX7, 20, rfl⟩
theorem mv_X7_backs : MV yX7_backs cX7_backs 2 none 0 7 := ⟨(um_5 _ (List.mem_of_getElem? (i := 72) rfl) rfl), (um_0 _ (List.mem_map.mpr ⟨_, List.mem_of_getElem? (i := 52) rfl, rfl⟩) rfl), (um_1 _ (List.mem_of_getElem? (i := 8) rfl) rfl), (um_5 _ (List.mem_of_getElem? (i := 73) rfl) rfl), ⟨by decide, by decide, by decide⟩, TX7, 20, rfl⟩
theorem mv_X7_bayOf : MV yX7_bayOf cX7_bayOf 2 ((some .int)) 1 7 := ⟨(um_4 _ (List.mem_of_getElem? (i := 139) rfl) rfl), (um_0 _ (List.mem_map.mpr ⟨_, List.mem_of_getElem? (i := 27) rfl, rfl⟩) rfl), (um_1 _ (List.mem_of_getElem? (i := 8) rfl) rfl), (um_4 _ (List.mem_of_getElem? (i := 140) rfl) rfl), ⟨by decide, by decide, by decide⟩, TX7, 20, rfl⟩
theorem mv_X7_besides : MV yX7_besides cX7_besides 4 ((some .int)) 1 7 := ⟨(um_4 _ (List.mem_of_getElem? (i := 176) rfl) rfl), (um_0 _ (List.mem_map.mpr ⟨_, List.mem_of_getElem? (i := 34) rfl, rfl⟩) rfl), (um_1 _ (List.mem_of_getElem? (i := 8) rfl) rfl), (um_4 _ (List.mem_of_getElem? (i := 177) rfl) rfl), ⟨by decide, by decide, by decide⟩, TX7, 20, rfl⟩
theorem mv_X7_change : MV yX7_change cX7_change 3 ((some .int)) 2 7 := ⟨(um_5 _ (List.mem_of_getElem? (i := 19) rfl) rfl), (um_5 _ (List.mem_of_getElem? (i := 20) rfl) rfl), (um_1 _ (List.mem_of_getElem? (i := 8) rfl) rfl), (um_5 _ (List.mem_of_getElem? (i := 21) rfl) rfl), ⟨by decide, by decide, by decide⟩, TX7, 20, rfl⟩
theorem mv_X7_content : MV yX7_content cX7_content 8 ((some .int)) 1 7 := ⟨(um_5 _ (List.mem_of_getElem? (i := 91) rfl) rfl), (um_5 _ (List.mem_of_getElem? (i := 92) rfl) rfl), (um_1 _ (List.mem_of_getElem? (i := 8) rfl) rfl), (um_5 _ (List.mem_of_getElem? (i := 93) rfl) rfl), ⟨by decide, by decide, by decide⟩, TX7, 20, rfl⟩
theorem mv_X7_copy : MV yX7_copy cX7_copy 8 ((some .int)) 5 7 := ⟨(um_5 _ (List.mem_of_getElem? (i := 195) rfl) rfl), (um_5 _ (List.mem_of_getElem? (i := 196) rfl) rfl), (um_1 _ (List.mem_of_getElem? (i := 8) rfl) rfl), (um_5 _ (List.mem_of_getElem? (i := 197) rfl) rfl), ⟨by decide, by decide, by decide⟩, TX7, 20, rfl⟩
theorem mv_X7_cough : MV yX7_cough cX7_cough 4 ((some .int)) 1 7 := ⟨(um_5 _ (List.mem_of_getElem? (i := 83) rfl) rfl), (um_5 _ (List.mem_of_getElem? (i := 84) rfl) rfl), (um_1 _ (List.mem_of_getElem? (i := 8) rfl) rfl), (um_5 _ (List.mem_of_getElem? (i := 85) rfl) rfl), ⟨by decide, by decide, by decide⟩, TX7, 20, rfl⟩
theorem mv_X7_coughs : MV yX7_coughs cX7_coughs 12 ((some .int)) 5 7 := ⟨(um_5 _ (List.mem_of_getElem? (i := 144) rfl) rfl), (um_5 _ (List.mem_of_getElem? (i := 145) rfl) rfl), (um_1 _ (List.mem_of_getElem? (i := 8) rfl) rfl), (um_5 _ (List.mem_of_getElem? (i := 146) rfl) rfl), ⟨by decide, by decide, by decide⟩, TX7, 20, rfl⟩
theorem mv_X7_count : MV yX7_count cX7_count 2 ((some .int)) 1 7 := ⟨(um_4 _ (List.mem_of_getElem? (i := 198) rfl) rfl), (um_4 _ (List.mem_of_getElem? (i := 199) rfl) rfl), (um_1 _ (List.mem_of_getElem? (i := 8) rfl) rfl), (um_4 _ (List.mem_of_getElem? (i := 200) rfl) rfl), ⟨by decide, by decide, by decide⟩, TX7, 20, rfl⟩
theorem mv_X7_crypt : MV yX7_crypt cX7_crypt 3 ((some .int)) 0 7 := ⟨(um_4 _ (List.mem_of_getElem? (i := 216) rfl) rfl), (um_4 _ (List.mem_of_getElem? (i := 217) rfl) rfl), (um_1 _ (List.mem_of_getElem? (i := 8) rfl) rfl), (um_4 _ (List.mem_of_getElem? (i := 218) rfl) rfl), ⟨by decide, by decide, by decide⟩, TX7, 20, rfl⟩
theorem mv_X7_dark : MV yX7_dark cX7_dark 5 ((some .int)) 2 7 := ⟨(um_5 _ (List.mem_of_getElem? (i := 136) rfl) rfl), (um_5 _ (List.mem_of_getElem? (i := 137) rfl) rfl), (um_1 _ (List.mem_of_getElem? (i := 8) rfl) rfl), (um_5 _ (List.mem_of_getElem? (i := 138) rfl) rfl), ⟨by decide, by decide, by decide⟩, TX7, 20, rfl⟩
theorem mv_X7_days : MV yX7_days cX7_days 3 ((some .int)) 1 7 := ⟨(um_5 _ (List.mem_of_getElem? (i := 2) rfl) rfl), (um_5 _ (List.mem_of_getElem? (i := 3) rfl) rfl), (um_1 _ (List.mem_of_getElem? (i := 8) rfl) rfl), (um_5 _ (List.mem_of_getElem? (i := 4) rfl) rfl), ⟨by decide, by decide, by decide⟩, TX7, 20, rfl⟩
theorem mv_X7_deals : MV yX7_deals cX7_deals 11 ((some .int)) 2 7 := ⟨(um_5 _ (List.mem_of_getElem? (i := 124) rfl) rfl), (um_0 _ (List.mem_map.mpr ⟨_, List.mem_of_getElem? (i := 59) rfl, rfl⟩) rfl), (um_1 _ (List.mem_of_getElem? (i := 8) rfl) rfl), (um_5 _ (List.mem_of_getElem? (i := 125) rfl) rfl), ⟨by decide, by decide, by decide⟩, TX7, 20, rfl⟩
theorem mv_X7_digit : MV yX7_digit cX7_digit 3 ((some .int)) 1 7 := ⟨(um_4 _ (List.mem_of_getElem? (i := 221) rfl) rfl), (um_0 _ (List.mem_map.mpr ⟨_, List.mem_of_getElem? (i := 39) rfl, rfl⟩) rfl), (um_1 _ (List.mem_of_getElem? (i := 8) rfl) rfl), (um_4 _ (List.mem_of_getElem? (i := 222) rfl) rfl), ⟨by decide, by decide, by decide⟩, TX7, 20, rfl⟩
theorem mv_X7_drift : MV yX7_drift cX7_drift 3 ((some .int)) 1 7 := ⟨(um_5 _ (List.mem_of_getElem? (i := 43) rfl) rfl), (um_5 _ (List.mem_of_getElem? (i := 44) rfl) rfl), (um_1 _ (List.mem_of_getElem? (i := 8) rfl) rfl), (um_5 _ (List.mem_of_getElem? (i := 45) rfl) rfl), ⟨by decide, by decide, by decide⟩, TX7, 20, rfl⟩
theorem mv_X7_drop : MV yX7_drop cX7_drop 2 ((some .int)) 1 7 := ⟨(um_5 _ (List.mem_of_getElem? (i := 187) rfl) rfl), (um_5 _ (List.mem_of_getElem? (i := 188) rfl) rfl), (um_1 _ (List.mem_of_getElem? (i := 8) rfl) rfl), (um_5 _ (List.mem_of_getElem? (i := 189) rfl) rfl), ⟨by decide, by decide, by decide⟩, TX7, 20, rfl⟩
theorem mv_X7_earn : MV yX7_earn cX7_earn 4 ((some .int)) 2 7 := ⟨(um_5 _ (List.mem_of_getElem? (i := 132) rfl) rfl), (um_5 _ (List.mem_of_getElem? (i := 133) rfl) rfl), (um_1 _ (List.mem_of_getElem? (i := 8) rfl) rfl), (um_5 _ (List.mem_of_getElem? (i := 134) rfl) rfl), ⟨by decide, by decide, by decide⟩, TX7, 20, rfl⟩
theorem mv_X7_exchanges : MV yX7_exchanges cX7_exchanges 4 none 2 7 := ⟨(um_5 _ (List.mem_of_getElem? (i := 24) rfl) rfl), (um_0 _ (List.mem_map.mpr ⟨_, List.mem_of_getElem? (i := 47) rfl, rfl⟩) rfl), (um_1 _ (List.mem_of_getElem? (i := 8) rfl) rfl), (um_5 _ (List.mem_of_getElem? (i := 25) rfl) rfl), ⟨by decide, by decide, by decide⟩, TX7, 20, rfl⟩
theorem mv_X7_far : MV yX7_far cX7_far 2 ((some .int)) 1 7 := ⟨(um_4 _ (List.mem_of_getElem? (i := 190) rfl) rfl), (um_0 _ (List.mem_map.mpr ⟨_, List.mem_of_getElem? (i := 36) rfl, rfl⟩) rfl), (um_1 _ (List.mem_of_getElem? (i := 8) rfl) rfl), (um_4 _ (List.mem_of_getElem? (i := 191) rfl) rfl), ⟨by decide, by decide, by decide⟩, TX7, 20, rfl⟩
theorem mv_X7_farAll : MV yX7_farAll cX7_farAll 3 ((some .int)) 0 7 := ⟨(um_4 _ (List.mem_of_getElem? (i := 207) rfl) rfl), (um_0 _ (List.mem_map.mpr ⟨_, List.mem_of_getElem? (i := 38) rfl, rfl⟩) rfl), (um_1 _ (List.mem_of_getElem? (i := 8) rfl) rfl), (um_4 _ (List.mem_of_getElem? (i := 208) rfl) rfl), ⟨by decide, by decide, by decide⟩, TX7, 20, rfl⟩
theorem mv_X7_film : MV yX7_film cX7_film 8 ((some .int)) 5 7 := ⟨(um_5 _ (List.mem_of_getElem? (i := 178) rfl) rfl), (um_5 _ (List.mem_of_getElem? (i := 179) rfl) rfl), (um_1 _ (List.mem_of_getElem? (i := 8) rfl) rfl), (um_5 _ (List.mem_of_getElem? (i := 180) rfl) rfl), ⟨by decide, by decide, by decide⟩, TX7, 20, rfl⟩
theorem mv_X7_firstSwap : MV yX7_firstSwap cX7_firstSwap 4 ((some .int)) 0 7 := ⟨(um_5 _ (List.mem_of_getElem? (i := 116) rfl) rfl), (um_0 _ (List.mem_map.mpr ⟨_, List.mem_of_getElem? (i := 58) rfl, rfl⟩) rfl), (um_1 _ (List.mem_of_getElem? (i := 8) rfl) rfl), (um_5 _ (List.mem_of_getElem? (i := 117) rfl) rfl), ⟨by decide, by decide, by decide⟩, TX7, 20, rfl⟩
theorem mv_X7_goesBy : MV yX7_goesBy cX7_goesBy 2 none 0 7 := ⟨(um_5 _ (List.mem_of_getElem? (i := 12) rfl) rfl), (um_0 _ (List.mem_map.mpr ⟨_, List.mem_of_getElem? (i := 45) rfl, rfl⟩) rfl), (um_1 _ (List.mem_of_getElem? (i := 8) rfl) rfl), (um_5 _ (List.mem_of_getElem? (i := 13) rfl) rfl), ⟨by decide, by decide, by decide⟩, TX7, 20, rfl⟩
theorem mv_X7_goesOn : MV yX7_goesOn cX7_goesOn 3 none 1 7 := ⟨(um_5 _ (List.mem_of_getElem? (i := 68) rfl) rfl), (um_0 _ (List.mem_map.mpr ⟨_, List.mem_of_getElem? (i := 51) rfl, rfl⟩) rfl), (um_1 _ (List.mem_of_getElem? (i := 8) rfl) rfl), (um_5 _ (List.mem_of_getElem? (i := 69) rfl) rfl), ⟨by decide, by decide, by decide⟩, TX7, 20, rfl⟩
theorem mv_X7_here : MV yX7_here cX7_here 1 ((some .int)) 0 7 := ⟨(um_4 _ (List.mem_of_getElem? (i := 225) rfl) rfl), (um_0 _ (List.mem_map.mpr ⟨_, List.mem_of_getElem? (i := 40) rfl, rfl⟩) rfl), (um_1 _ (List.mem_of_getElem? (i := 8) rfl) rfl), (um_4 _ (List.mem_of_getElem? (i := 226) rfl) rfl), ⟨by decide, by decide, by decide⟩, TX7, 20, rfl⟩
theorem mv_X7_holder : MV yX7_holder cX7_holder 5 ((some .int)) 3 7 := ⟨(um_4 _ (List.mem_of_getElem? (i := 121) rfl) rfl), (um_4 _ (List.mem_of_getElem? (i := 122) rfl) rfl), (um_1 _ (List.mem_of_getElem? (i := 8) rfl) rfl), (um_4 _ (List.mem_of_getElem? (i := 123) rfl) rfl), ⟨by decide, by decide, by decide⟩, TX7, 20, rfl⟩
theorem mv_X7_holderComes : MV yX7_holderComes cX7_holderComes 6 none 4 7 := ⟨(um_4 _ (List.mem_of_getElem? (i := 147) rfl) rfl), (um_0 _ (List.mem_map.mpr ⟨_, List.mem_of_getElem? (i := 29) rfl, rfl⟩) rfl), (um_1 _ (List.mem_of_getElem? (i := 8) rfl) rfl), (um_4 _ (List.mem_of_getElem? (i := 148) rfl) rfl), ⟨by decide, by decide, by decide⟩, TX7, 20, rfl⟩
theorem mv_X7_image : MV yX7_image cX7_image 2 ((some .int)) 0 7 := ⟨(um_5 _ (List.mem_of_getElem? (i := 150) rfl) rfl), (um_5 _ (List.mem_of_getElem? (i := 151) rfl) rfl), (um_1 _ (List.mem_of_getElem? (i := 8) rfl) rfl), (um_5 _ (List.mem_of_getElem? (i := 152) rfl) rfl), ⟨by decide, by decide, by decide⟩, TX7, 20, rfl⟩
theorem ms_X7_in : MS yX7_in cX7_in 6 ((some .boolean)) 3 := ⟨(um_4 _ (List.mem_of_getElem? (i := 126) rfl) rfl), (um_1 _ (List.mem_of_getElem? (i := 8) rfl) rfl), (um_4 _ (List.mem_of_getElem? (i := 127) rfl) rfl), ⟨by decide, by decide, by decide⟩⟩
theorem ms_X7_isBay : MS yX7_isBay cX7_isBay 1 ((some .boolean)) 1 := ⟨(um_4 _ (List.mem_of_getElem? (i := 130) rfl) rfl), (um_1 _ (List.mem_of_getElem? (i := 8) rfl) rfl), (um_4 _ (List.mem_of_getElem? (i := 131) rfl) rfl), ⟨by decide, by decide, by decide⟩⟩
theorem mv_X7_isDealt : MV yX7_isDealt cX7_isDealt 6 ((some .boolean)) 1 7 := ⟨(um_5 _ (List.mem_of_getElem? (i := 100) rfl) rfl), (um_0 _ (List.mem_map.mpr ⟨_, List.mem_of_getElem? (i := 55) rfl, rfl⟩) rfl), (um_1 _ (List.mem_of_getElem? (i := 8) rfl) rfl), (um_5 _ (List.mem_of_getElem? (i := 101) rfl) rfl), ⟨by decide, by decide, by decide⟩, TX7, 20, rfl⟩
theorem mv_X7_isHolder : MV yX7_isHolder cX7_isHolder 2 ((some .boolean)) 1 7 := ⟨(um_4 _ (List.mem_of_getElem? (i := 160) rfl) rfl), (um_0 _ (List.mem_map.mpr ⟨_, List.mem_of_getElem? (i := 30) rfl, rfl⟩) rfl), (um_1 _ (List.mem_of_getElem? (i := 8) rfl) rfl), (um_4 _ (List.mem_of_getElem? (i := 161) rfl) rfl), ⟨by decide, by decide, by decide⟩, TX7, 20, rfl⟩
theorem ms_X7_isLane : MS yX7_isLane cX7_isLane 1 ((some .boolean)) 1 := ⟨(um_5 _ (List.mem_of_getElem? (i := 166) rfl) rfl), (um_1 _ (List.mem_of_getElem? (i := 8) rfl) rfl), (um_5 _ (List.mem_of_getElem? (i := 167) rfl) rfl), ⟨by decide, by decide, by decide⟩⟩
theorem ms_X7_isSheet : MS yX7_isSheet cX7_isSheet 1 ((some .boolean)) 1 := ⟨(um_5 _ (List.mem_of_getElem? (i := 162) rfl) rfl), (um_1 _ (List.mem_of_getElem? (i := 8) rfl) rfl), (um_5 _ (List.mem_of_getElem? (i := 163) rfl) rfl), ⟨by decide, by decide, by decide⟩⟩
theorem mv_X7_isSo : MV yX7_isSo cX7_isSo 6 ((some .boolean)) 3 7 := ⟨(um_5 _ (List.mem_of_getElem? (i := 175) rfl) rfl), (um_0 _ (List.mem_map.mpr ⟨_, List.mem_of_getElem? (i := 62) rfl, rfl⟩) rfl), (um_1 _ (List.mem_of_getElem? (i := 8) rfl) rfl), (um_5 _ (List.mem_of_getElem? (i := 176) rfl) rfl), ⟨by decide, by decide, by decide⟩, TX7, 20, rfl⟩
theorem mv_X7_isUp : MV yX7_isUp cX7_isUp 2 ((some .boolean)) 1 7 := ⟨(um_4 _ (List.mem_of_getElem? (i := 164) rfl) rfl), (um_0 _ (List.mem_map.mpr ⟨_, List.mem_of_getElem? (i := 31) rfl, rfl⟩) rfl), (um_1 _ (List.mem_of_getElem? (i := 8) rfl) rfl), (um_4 _ (List.mem_of_getElem? (i := 165) rfl) rfl), ⟨by decide, by decide, by decide⟩, TX7, 20, rfl⟩
theorem mv_X7_item : MV yX7_item cX7_item 7 ((some .int)) 4 7 := ⟨(um_5 _ (List.mem_of_getElem? (i := 191) rfl) rfl), (um_5 _ (List.mem_of_getElem? (i := 192) rfl) rfl), (um_1 _ (List.mem_of_getElem? (i := 8) rfl) rfl), (um_5 _ (List.mem_of_getElem? (i := 193) rfl) rfl), ⟨by decide, by decide, by decide⟩, TX7, 20, rfl⟩
theorem mv_X7_latest : MV yX7_latest cX7_latest 5 ((some .int)) 3 7 := ⟨(um_5 _ (List.mem_of_getElem? (i := 119) rfl) rfl), (um_5 _ (List.mem_of_getElem? (i := 120) rfl) rfl), (um_1 _ (List.mem_of_getElem? (i := 8) rfl) rfl), (um_5 _ (List.mem_of_getElem? (i := 121) rfl) rfl), ⟨by decide, by decide, by decide⟩, TX7, 20, rfl⟩
theorem mv_X7_looks : MV yX7_looks cX7_looks 14 ((some .int)) 6 7 := ⟨(um_5 _ (List.mem_of_getElem? (i := 158) rfl) rfl), (um_5 _ (List.mem_of_getElem? (i := 159) rfl) rfl), (um_1 _ (List.mem_of_getElem? (i := 8) rfl) rfl), (um_5 _ (List.mem_of_getElem? (i := 160) rfl) rfl), ⟨by decide, by decide, by decide⟩, TX7, 20, rfl⟩
theorem ms_X7_many : MS yX7_many cX7_many 3 ((some .int)) 1 := ⟨(um_4 _ (List.mem_of_getElem? (i := 186) rfl) rfl), (um_1 _ (List.mem_of_getElem? (i := 8) rfl) rfl), (um_4 _ (List.mem_of_getElem? (i := 187) rfl) rfl), ⟨by decide, by decide, by decide⟩⟩
theorem mv_X7_more : MV yX7_more cX7_more 6 ((some .int)) 1 7 := ⟨(um_4 _ (List.mem_of_getElem? (i := 172) rfl) rfl), (um_0 _ (List.mem_map.mpr ⟨_, List.mem_of_getElem? (i := 33) rfl, rfl⟩) rfl), (um_1 _ (List.mem_of_getElem? (i := 8) rfl) rfl), (um_4 _ (List.mem_of_getElem? (i := 173) rfl) rfl), ⟨by decide, by decide, by decide⟩, TX7, 20, rfl⟩
theorem mv_X7_move : MV yX7_move cX7_move 4 ((some .int)) 2 7 := ⟨(um_5 _ (List.mem_of_getElem? (i := 31) rfl) rfl), (um_5 _ (List.mem_of_getElem? (i := 32) rfl) rfl), (um_1 _ (List.mem_of_getElem? (i := 8) rfl) rfl), (um_5 _ (List.mem_of_getElem? (i := 33) rfl) rfl), ⟨by decide, by decide, by decide⟩, TX7, 20, rfl⟩
theorem mv_X7_must : MV yX7_must cX7_must 2 none 1 7 := ⟨(um_4 _ (List.mem_of_getElem? (i := 229) rfl) rfl), (um_0 _ (List.mem_map.mpr ⟨_, List.mem_of_getElem? (i := 41) rfl, rfl⟩) rfl), (um_1 _ (List.mem_of_getElem? (i := 8) rfl) rfl), (um_4 _ (List.mem_of_getElem? (i := 230) rfl) rfl), ⟨by decide, by decide, by decide⟩, TX7, 20, rfl⟩
theorem mv_X7_notes : MV yX7_notes cX7_notes 3 none 0 7 := ⟨(um_5 _ (List.mem_of_getElem? (i := 8) rfl) rfl), (um_0 _ (List.mem_map.mpr ⟨_, List.mem_of_getElem? (i := 44) rfl, rfl⟩) rfl), (um_1 _ (List.mem_of_getElem? (i := 8) rfl) rfl), (um_5 _ (List.mem_of_getElem? (i := 9) rfl) rfl), ⟨by decide, by decide, by decide⟩, TX7, 20, rfl⟩
theorem mv_X7_number : MV yX7_number cX7_number 4 ((some .int)) 0 7 := ⟨(um_4 _ (List.mem_of_getElem? (i := 237) rfl) rfl), (um_0 _ (List.mem_map.mpr ⟨_, List.mem_of_getElem? (i := 43) rfl, rfl⟩) rfl), (um_1 _ (List.mem_of_getElem? (i := 8) rfl) rfl), (um_4 _ (List.mem_of_getElem? (i := 238) rfl) rfl), ⟨by decide, by decide, by decide⟩, TX7, 20, rfl⟩
theorem mv_X7_numbers : MV yX7_numbers cX7_numbers 3 ((some .int)) 0 7 := ⟨(um_5 _ (List.mem_of_getElem? (i := 96) rfl) rfl), (um_0 _ (List.mem_map.mpr ⟨_, List.mem_of_getElem? (i := 54) rfl, rfl⟩) rfl), (um_1 _ (List.mem_of_getElem? (i := 8) rfl) rfl), (um_5 _ (List.mem_of_getElem? (i := 97) rfl) rfl), ⟨by decide, by decide, by decide⟩, TX7, 20, rfl⟩
theorem mv_X7_of : MV yX7_of cX7_of 3 ((some .int)) 2 7 := ⟨(um_4 _ (List.mem_of_getElem? (i := 155) rfl) rfl), (um_4 _ (List.mem_of_getElem? (i := 156) rfl) rfl), (um_1 _ (List.mem_of_getElem? (i := 8) rfl) rfl), (um_4 _ (List.mem_of_getElem? (i := 157) rfl) rfl), ⟨by decide, by decide, by decide⟩, TX7, 20, rfl⟩
theorem mv_X7_readHolders : MV yX7_readHolders cX7_readHolders 8 ((some .int)) 0 7 := ⟨(um_4 _ (List.mem_of_getElem? (i := 233) rfl) rfl), (um_0 _ (List.mem_map.mpr ⟨_, List.mem_of_getElem? (i := 42) rfl, rfl⟩) rfl), (um_1 _ (List.mem_of_getElem? (i := 8) rfl) rfl), (um_4 _ (List.mem_of_getElem? (i := 234) rfl) rfl), ⟨by decide, by decide, by decide⟩, TX7, 20, rfl⟩
theorem mv_X7_restore : MV yX7_restore cX7_restore 2 ((some .int)) 0 7 := ⟨(um_5 _ (List.mem_of_getElem? (i := 154) rfl) rfl), (um_5 _ (List.mem_of_getElem? (i := 155) rfl) rfl), (um_1 _ (List.mem_of_getElem? (i := 8) rfl) rfl), (um_5 _ (List.mem_of_getElem? (i := 156) rfl) rfl), ⟨by decide, by decide, by decide⟩, TX7, 20, rfl⟩
theorem mv_X7_rule : MV yX7_rule cX7_rule 6 ((some .int)) 3 7 := ⟨(um_4 _ (List.mem_of_getElem? (i := 150) rfl) rfl), (um_4 _ (List.mem_of_getElem? (i := 151) rfl) rfl), (um_1 _ (List.mem_of_getElem? (i := 8) rfl) rfl), (um_4 _ (List.mem_of_getElem? (i := 152) rfl) rfl), ⟨by decide, by decide, by decide⟩, TX7, 20, rfl⟩
theorem mv_X7_sat : MV yX7_sat cX7_sat 3 ((some .int)) 0 7 := ⟨(um_5 _ (List.mem_of_getElem? (i := 128) rfl) rfl), (um_0 _ (List.mem_map.mpr ⟨_, List.mem_of_getElem? (i := 60) rfl, rfl⟩) rfl), (um_1 _ (List.mem_of_getElem? (i := 8) rfl) rfl), (um_5 _ (List.mem_of_getElem? (i := 129) rfl) rfl), ⟨by decide, by decide, by decide⟩, TX7, 20, rfl⟩
theorem mv_X7_seed : MV yX7_seed cX7_seed 3 ((some .int)) 1 7 := ⟨(um_5 _ (List.mem_of_getElem? (i := 55) rfl) rfl), (um_5 _ (List.mem_of_getElem? (i := 56) rfl) rfl), (um_1 _ (List.mem_of_getElem? (i := 8) rfl) rfl), (um_5 _ (List.mem_of_getElem? (i := 57) rfl) rfl), ⟨by decide, by decide, by decide⟩, TX7, 20, rfl⟩
theorem mv_X7_sheet : MV yX7_sheet cX7_sheet 5 ((some .int)) 3 7 := ⟨(um_5 _ (List.mem_of_getElem? (i := 183) rfl) rfl), (um_5 _ (List.mem_of_getElem? (i := 184) rfl) rfl), (um_1 _ (List.mem_of_getElem? (i := 8) rfl) rfl), (um_5 _ (List.mem_of_getElem? (i := 185) rfl) rfl), ⟨by decide, by decide, by decide⟩, TX7, 20, rfl⟩
theorem mv_X7_sits : MV yX7_sits cX7_sits 3 none 2 7 := ⟨(um_5 _ (List.mem_of_getElem? (i := 28) rfl) rfl), (um_0 _ (List.mem_map.mpr ⟨_, List.mem_of_getElem? (i := 48) rfl, rfl⟩) rfl), (um_1 _ (List.mem_of_getElem? (i := 8) rfl) rfl), (um_5 _ (List.mem_of_getElem? (i := 29) rfl) rfl), ⟨by decide, by decide, by decide⟩, TX7, 20, rfl⟩
theorem mv_X7_spare : MV yX7_spare cX7_spare 6 ((some .int)) 2 7 := ⟨(um_5 _ (List.mem_of_getElem? (i := 140) rfl) rfl), (um_5 _ (List.mem_of_getElem? (i := 141) rfl) rfl), (um_1 _ (List.mem_of_getElem? (i := 8) rfl) rfl), (um_5 _ (List.mem_of_getElem? (i := 142) rfl) rfl), ⟨by decide, by decide, by decide⟩, TX7, 20, rfl⟩
theorem mv_X7_swaps : MV yX7_swaps cX7_swaps 4 ((some .int)) 1 7 := ⟨(um_5 _ (List.mem_of_getElem? (i := 103) rfl) rfl), (um_5 _ (List.mem_of_getElem? (i := 104) rfl) rfl), (um_1 _ (List.mem_of_getElem? (i := 8) rfl) rfl), (um_5 _ (List.mem_of_getElem? (i := 105) rfl) rfl), ⟨by decide, by decide, by decide⟩, TX7, 20, rfl⟩
theorem mv_X7_swapsNow : MV yX7_swapsNow cX7_swapsNow 4 ((some .int)) 0 7 := ⟨(um_5 _ (List.mem_of_getElem? (i := 108) rfl) rfl), (um_0 _ (List.mem_map.mpr ⟨_, List.mem_of_getElem? (i := 56) rfl, rfl⟩) rfl), (um_1 _ (List.mem_of_getElem? (i := 8) rfl) rfl), (um_5 _ (List.mem_of_getElem? (i := 109) rfl) rfl), ⟨by decide, by decide, by decide⟩, TX7, 20, rfl⟩
theorem mv_X7_takes : MV yX7_takes cX7_takes 3 ((some .int)) 1 7 := ⟨(um_5 _ (List.mem_of_getElem? (i := 79) rfl) rfl), (um_5 _ (List.mem_of_getElem? (i := 80) rfl) rfl), (um_1 _ (List.mem_of_getElem? (i := 8) rfl) rfl), (um_5 _ (List.mem_of_getElem? (i := 81) rfl) rfl), ⟨by decide, by decide, by decide⟩, TX7, 20, rfl⟩
theorem mv_X7_talk : MV yX7_talk cX7_talk 2 ((some .int)) 1 7 := ⟨(um_5 _ (List.mem_of_getElem? (i := 35) rfl) rfl), (um_5 _ (List.mem_of_getElem? (i := 36) rfl) rfl), (um_1 _ (List.mem_of_getElem? (i := 8) rfl) rfl), (um_5 _ (List.mem_of_getElem? (i := 37) rfl) rfl), ⟨by decide, by decide, by decide⟩, TX7, 20, rfl⟩
theorem mv_X7_talks : MV yX7_talks cX7_talks 2 none 1 7 := ⟨(um_5 _ (List.mem_of_getElem? (i := 40) rfl) rfl), (um_0 _ (List.mem_map.mpr ⟨_, List.mem_of_getElem? (i := 49) rfl, rfl⟩) rfl), (um_1 _ (List.mem_of_getElem? (i := 8) rfl) rfl), (um_5 _ (List.mem_of_getElem? (i := 41) rfl) rfl), ⟨by decide, by decide, by decide⟩, TX7, 20, rfl⟩
theorem mv_X7_then : MV yX7_then cX7_then 4 ((some .int)) 2 7 := ⟨(um_5 _ (List.mem_of_getElem? (i := 75) rfl) rfl), (um_5 _ (List.mem_of_getElem? (i := 76) rfl) rfl), (um_1 _ (List.mem_of_getElem? (i := 8) rfl) rfl), (um_5 _ (List.mem_of_getElem? (i := 77) rfl) rfl), ⟨by decide, by decide, by decide⟩, TX7, 20, rfl⟩
theorem mv_X7_told : MV yX7_told cX7_told 3 ((some .int)) 2 7 := ⟨(um_4 _ (List.mem_of_getElem? (i := 143) rfl) rfl), (um_0 _ (List.mem_map.mpr ⟨_, List.mem_of_getElem? (i := 28) rfl, rfl⟩) rfl), (um_1 _ (List.mem_of_getElem? (i := 8) rfl) rfl), (um_4 _ (List.mem_of_getElem? (i := 144) rfl) rfl), ⟨by decide, by decide, by decide⟩, TX7, 20, rfl⟩
theorem mv_X7_type : MV yX7_type cX7_type 2 ((some .int)) 1 7 := ⟨(um_4 _ (List.mem_of_getElem? (i := 210) rfl) rfl), (um_4 _ (List.mem_of_getElem? (i := 211) rfl) rfl), (um_1 _ (List.mem_of_getElem? (i := 8) rfl) rfl), (um_4 _ (List.mem_of_getElem? (i := 212) rfl) rfl), ⟨by decide, by decide, by decide⟩, TX7, 20, rfl⟩
theorem mv_X7_undo : MV yX7_undo cX7_undo 3 ((some .int)) 0 7 := ⟨(um_5 _ (List.mem_of_getElem? (i := 51) rfl) rfl), (um_5 _ (List.mem_of_getElem? (i := 52) rfl) rfl), (um_1 _ (List.mem_of_getElem? (i := 8) rfl) rfl), (um_5 _ (List.mem_of_getElem? (i := 53) rfl) rfl), ⟨by decide, by decide, by decide⟩, TX7, 20, rfl⟩
theorem mv_X7_ups : MV yX7_ups cX7_ups 3 ((some .int)) 0 7 := ⟨(um_4 _ (List.mem_of_getElem? (i := 183) rfl) rfl), (um_0 _ (List.mem_map.mpr ⟨_, List.mem_of_getElem? (i := 35) rfl, rfl⟩) rfl), (um_1 _ (List.mem_of_getElem? (i := 8) rfl) rfl), (um_4 _ (List.mem_of_getElem? (i := 184) rfl) rfl), ⟨by decide, by decide, by decide⟩, TX7, 20, rfl⟩
theorem mv_X7_used : MV yX7_used cX7_used 2 ((some .int)) 1 7 := ⟨(um_4 _ (List.mem_of_getElem? (i := 168) rfl) rfl), (um_0 _ (List.mem_map.mpr ⟨_, List.mem_of_getElem? (i := 32) rfl, rfl⟩) rfl), (um_1 _ (List.mem_of_getElem? (i := 8) rfl) rfl), (um_4 _ (List.mem_of_getElem? (i := 169) rfl) rfl), ⟨by decide, by decide, by decide⟩, TX7, 20, rfl⟩
theorem mv_X7_usedAll : MV yX7_usedAll cX7_usedAll 3 ((some .int)) 0 7 := ⟨(um_4 _ (List.mem_of_getElem? (i := 203) rfl) rfl), (um_0 _ (List.mem_map.mpr ⟨_, List.mem_of_getElem? (i := 37) rfl, rfl⟩) rfl), (um_1 _ (List.mem_of_getElem? (i := 8) rfl) rfl), (um_4 _ (List.mem_of_getElem? (i := 204) rfl) rfl), ⟨by decide, by decide, by decide⟩, TX7, 20, rfl⟩
theorem mv_X7_usedBy : MV yX7_usedBy cX7_usedBy 3 none 2 7 := ⟨(um_5 _ (List.mem_of_getElem? (i := 16) rfl) rfl), (um_0 _ (List.mem_map.mpr ⟨_, List.mem_of_getElem? (i := 46) rfl, rfl⟩) rfl), (um_1 _ (List.mem_of_getElem? (i := 8) rfl) rfl), (um_5 _ (List.mem_of_getElem? (i := 17) rfl) rfl), ⟨by decide, by decide, by decide⟩, TX7, 20, rfl⟩
theorem mv_X7_whoHas : MV yX7_whoHas cX7_whoHas 4 ((some .int)) 1 7 := ⟨(um_4 _ (List.mem_of_getElem? (i := 135) rfl) rfl), (um_0 _ (List.mem_map.mpr ⟨_, List.mem_of_getElem? (i := 26) rfl, rfl⟩) rfl), (um_1 _ (List.mem_of_getElem? (i := 8) rfl) rfl), (um_4 _ (List.mem_of_getElem? (i := 136) rfl) rfl), ⟨by decide, by decide, by decide⟩, TX7, 20, rfl⟩
theorem mv_X7_why : MV yX7_why cX7_why 5 ((some .int)) 4 7 := ⟨(um_5 _ (List.mem_of_getElem? (i := 171) rfl) rfl), (um_0 _ (List.mem_map.mpr ⟨_, List.mem_of_getElem? (i := 61) rfl, rfl⟩) rfl), (um_1 _ (List.mem_of_getElem? (i := 8) rfl) rfl), (um_5 _ (List.mem_of_getElem? (i := 172) rfl) rfl), ⟨by decide, by decide, by decide⟩, TX7, 20, rfl⟩
theorem mv_X7_wouldSwap : MV yX7_wouldSwap cX7_wouldSwap 3 ((some .boolean)) 2 7 := ⟨(um_5 _ (List.mem_of_getElem? (i := 112) rfl) rfl), (um_0 _ (List.mem_map.mpr ⟨_, List.mem_of_getElem? (i := 57) rfl, rfl⟩) rfl), (um_1 _ (List.mem_of_getElem? (i := 8) rfl) rfl), (um_5 _ (List.mem_of_getElem? (i := 113) rfl) rfl), ⟨by decide, by decide, by decide⟩, TX7, 20, rfl⟩
theorem mst_max : Cond.static Lib.Math.max.name ∈ ut_bl := (um_2 _ (List.mem_of_getElem? (i := 32) rfl) rfl)
theorem mcd_max : Cond.code Lib.Math.max.name Lib.Math.max.code 2 (some .int) ∈ ut_bl := (um_2 _ (List.mem_of_getElem? (i := 33) rfl) rfl)
theorem mst_min : Cond.static Lib.Math.min.name ∈ ut_bl := (um_2 _ (List.mem_of_getElem? (i := 35) rfl) rfl)
theorem mcd_min : Cond.code Lib.Math.min.name Lib.Math.min.code 2 (some .int) ∈ ut_bl := (um_2 _ (List.mem_of_getElem? (i := 36) rfl) rfl)
theorem mst_abs : Cond.static Lib.Math.abs.name ∈ ut_bl := (um_2 _ (List.mem_of_getElem? (i := 50) rfl) rfl)
theorem mcd_abs : Cond.code Lib.Math.abs.name Lib.Math.abs.code 1 (some .int) ∈ ut_bl := (um_2 _ (List.mem_of_getElem? (i := 51) rfl) rfl)
theorem mini : Cond.initialized "java/lang/Math" ∈ ut_bl := (um_1 _ (List.mem_of_getElem? (i := 9) rfl) rfl)
theorem acn : Cond.native arraycopyName ∈ ut_bl := (um_2 _ (List.mem_of_getElem? (i := 74) rfl) rfl)
theorem acs : Cond.static arraycopyName ∈ ut_bl := (um_2 _ (List.mem_of_getElem? (i := 73) rfl) rfl)
theorem aci : Cond.initialized "java/lang/System" ∈ ut_bl := (um_1 _ (List.mem_of_getElem? (i := 10) rfl) rfl)
