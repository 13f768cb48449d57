/-! ===== the class: a note more ===== -/
theorem Notes_add (xs : List Int) {P : Nat} (h : zNo P) {g : Nat → Int → Int} {f : Int → Int} {k : Nat} (hk : k < 10) (hr : RelN g P f k) {p2 n2 : Nat} {l2 : List Int} (h2 : zRw p2 n2) (hl2 : zRow g p2 l2) (hlen : l2.length ≤ 8) (hn2 : l2.length ≤ n2) (hd : p2 + 1 < P ∨ P + 26 < p2) (t : Int) : ∃ g1, zx zblk xs 97 0 [some (.inr (.inr (some P))), some (.inl (t)), some (.inr (.inr (some p2)))] [] (HH g) = some (none, HH g1) ∧ zRow g1 (P + 1) (zLi (fun j => f (10 * (j : Int))) k ++ [t]) ∧ zRow g1 (P + 3 + 4 + 2 * k) l2 ∧ zFr (fun q _ => q = P + 1 ∨ q = P + 2 ∨ q = P + 3 + 4 + 2 * k ∨ q = P + 3 + 4 + 2 * k + 1) g g1 := by
  have hrow : zRw (P + 3 + 4 + 2 * k) 8 := h.2.2.2.2.2.2.2 k hk
  have ht := hr.1
  rw [show ((k : Int)).toNat = k from rfl] at ht
  obtain ⟨g2, p1, p2', p3⟩ := Row_copyOf xs hrow h2 hl2 hlen hn2 (by omega)
  have ht2 : zRow g2 (P + 1) (zLi (fun j => f (10 * (j : Int))) k) := zRow_fr ht (p3.at (fun j => by simp only [scR]; omega)) (p3.at (fun j => by simp only [scR]; omega))
  obtain ⟨g3, s1, s2, s3⟩ := Row_add xs h.2.2.1 ht2 (by rw [zLi_len]; exact hk) t
  refine ⟨g3, ?_, s2, zRow_fr p2' (s3.at (fun j => by simp only [scR]; omega)) (s3.at (fun j => by simp only [scR]; omega)), (p3.mono (fun q j z => by simp only [scR] at z; omega)).tr (s3.mono (fun q j z => by simp only [scR] at z; omega))⟩
  rw [e_Notes_add_0, No_r h, No_t h, Rw_ck h.2.2.1, Row_size xs h.2.2.1 ht, zci_ok, zLi_len, Rws_ck h.2.2.2, Rows_row xs g h.2.2.2 k hk, zcr_ok, Rw_ck hrow, p1, zcv_ok, No_t h, Rw_ck h.2.2.1, s1, zcv_ok]
