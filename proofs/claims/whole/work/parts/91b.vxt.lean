/-! EXCEPTIONS: the words of the class's throws -/
def vz_L : List Cond := vx_at0 RX6 104 "java/util/NoSuchElementException" ["java/lang/RuntimeException", "java/lang/Exception"]
theorem vz_in : ∀ w ∈ vz_L, w ∈ lw_tbl := by decide +kernel
theorem vz_good : vz_L.all (fun w => goodWord w || av_nest w) = true := by decide +kernel
theorem vz_tbl : ∀ w ∈ vz_L, w ∈ av_tbl ∨ w ∈ av_nst := fun w h => by
  have h1 := List.all_eq_true.mp vz_good w h
  simp only [Bool.or_eq_true] at h1
  rcases h1 with h1 | h1
  · exact Or.inl (List.mem_filter.mpr ⟨vz_in w h, h1⟩)
  · exact Or.inr (List.mem_filter.mpr ⟨vz_in w h, h1⟩)
theorem vz_ot : (Cond.classLink RX6 102 "java/util/NoSuchElementException" :: Cond.initialized "java/util/NoSuchElementException" :: vz_L).all vx_ot = true := by decide +kernel
theorem vz_k : Cond.classLink RX6 102 "java/util/NoSuchElementException" ∈ lw_tbl ∧ goodWord (Cond.classLink RX6 102 "java/util/NoSuchElementException") = true ∧ Cond.initialized "java/util/NoSuchElementException" ∈ lw_tbl ∧ goodWord (Cond.initialized "java/util/NoSuchElementException") = true := by decide +kernel
