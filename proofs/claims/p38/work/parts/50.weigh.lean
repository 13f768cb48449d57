/-! ===== weigh, forget ===== -/
theorem zLi_set (f : Nat → Int) (n k : Nat) (v : Int) : (zLi f n).set k v = zLi (fun j => if j = k then v else f j) n := by
  apply List.ext_getElem
  · rw [List.length_set, zLi_len, zLi_len]
  · intro i h1 h2
    rw [zLi_get _ h2, List.getElem_set]
    by_cases h : k = i
    · rw [if_pos h, if_pos h.symm]
    · rw [if_neg h, if_neg (fun z => h z.symm), zLi_get]
