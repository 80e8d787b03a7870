/-! the tables' words that keep: ut_bl; each of the five lists lies in it, but for words that don't keep -/
def ut_bl : List Cond := lw_tbl.filter goodWord
theorem ut_lw : ∀ w ∈ ut_bl, w ∈ lw_tbl := fun _ h => (List.mem_filter.mp h).1
theorem um_0 : ∀ w ∈ k2_sels lw_privs, goodWord w = true → w ∈ ut_bl := fun _ h g => List.mem_filter.mpr ⟨List.mem_append_left _ h, g⟩
theorem um_1 : ∀ w ∈ tables_1_1, goodWord w = true → w ∈ ut_bl := fun _ h g => List.mem_filter.mpr ⟨List.mem_append_right _ (List.mem_append_left _ h), g⟩
theorem um_2 : ∀ w ∈ tables_1_2, goodWord w = true → w ∈ ut_bl := fun _ h g => List.mem_filter.mpr ⟨List.mem_append_right _ (List.mem_append_right _ (List.mem_append_left _ h)), g⟩
theorem um_3 : ∀ w ∈ tables_1_3, goodWord w = true → w ∈ ut_bl := fun _ h g => List.mem_filter.mpr ⟨List.mem_append_right _ (List.mem_append_right _ (List.mem_append_right _ (List.mem_append_left _ h))), g⟩
theorem um_4 : ∀ w ∈ tables_1_4, goodWord w = true → w ∈ ut_bl := fun _ h g => List.mem_filter.mpr ⟨List.mem_append_right _ (List.mem_append_right _ (List.mem_append_right _ (List.mem_append_right _ (List.mem_append_left _ h)))), g⟩
theorem um_5 : ∀ w ∈ tables_1_5, goodWord w = true → w ∈ ut_bl := fun _ h g => List.mem_filter.mpr ⟨List.mem_append_right _ (List.mem_append_right _ (List.mem_append_right _ (List.mem_append_right _ (List.mem_append_right _ h)))), g⟩
theorem ug_in {ts : List Cond} (h : ∀ w ∈ ut_bl, w ∈ ts) {y : MethodName} {cc : ByteArray} {n : Nat} {ret : Option FieldType} (hc : Cond.code y cc n ret ∈ ut_bl) : GoodIn ts (.code y cc n ret :: ut_bl) := by
  have hg : ∀ w ∈ ut_bl, goodWord w = true := fun w hw => (List.mem_filter.mp hw).2
  intro w hw
  rcases List.mem_cons.mp hw with rfl | hw
  · exact ⟨h _ hc, good_of_word (hg _ hc)⟩
  · exact ⟨h _ hw, good_of_word (hg _ hw)⟩
