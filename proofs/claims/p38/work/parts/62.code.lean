/-! ===== a code is read: what the texts say ===== -/
theorem gdT_of {f : Nat → Int} {n : Nat} (h : (ftF f n 0 (0, 0)).1 = n) : gdT f n := by
  intro k hk
  obtain ⟨s, hs⟩ := ftF_gd (f := f) (n := n) (k := 0) (by rw [Nat.zero_add]; exact h) k hk
  rw [Nat.zero_add] at hs
  exact ⟨s, hs⟩
theorem rd_ends {f : Nat → Int} {m : Nat} (h : gdT f (m + 1)) : (rdF f (m + 1)).2.length ≠ 0 ↔ 97 ≤ f m ∧ f m ≤ 104 := by
  obtain ⟨s, hs⟩ := h m (by omega)
  unfold ftStep at hs
  by_cases a : (97 ≤ f m ∧ f m ≤ 104) ∧ (rdN f m).2 < 5
  · rw [rdF, if_neg (by omega)]
    simp
    exact a.1
  · rw [if_neg a] at hs
    by_cases b : f m = 44 ∧ 0 < (rdN f m).2 ∧ (rdN f m).1 < 7
    · rw [rdF, if_pos b.1]
      simp
      omega
    · rw [if_neg b] at hs
      exact absurd hs (by simp)
theorem rdA_ok {f : Nat → Int} {n : Nat} (h : gdT f n) (hC : (rdF f n).2.length ≠ 0) {s : Nat} (hs : s < (rdA f n).length) : 1 ≤ ((rdA f n).getD s []).length ∧ ((rdA f n).getD s []).length ≤ 5 ∧ isR7 ((rdA f n).getD s []) := by
  obtain ⟨h1, h2, h3, h4⟩ := gdT_rg h n (Nat.le_refl _)
  have hm : (rdA f n).getD s [] ∈ rdA f n := by
    rw [show (rdA f n).getD s [] = (rdA f n)[s] by simp [List.getD, hs]]
    exact List.getElem_mem hs
  unfold rdA at hm
  rcases List.mem_append.mp hm with hm | hm
  · exact h3 _ hm
  · have := List.mem_singleton.mp hm
    unfold rdA
    rw [this]
    exact ⟨by omega, h2, h4⟩
theorem pln_G {G G1 : Nat → Int → Int} (e1 : G1 pM_signalRows = G pM_signalRows) (e2 : G1 pM 8 = G pM 8) : pln G1 = pln G := by
  have k : kindS G1 = kindS G := by
    funext s
    unfold kindS
    rw [e1, e2]
  have st : stp G1 = stp G := by
    funext l s
    unfold stp
    rw [k, e1]
  funext st' f n
  induction n with
  | zero => rfl
  | succ n ih => simp only [pln, ih, st]
theorem rowL_of {G : Nat → Int → Int} {c s : Int} {l : List Int} (h1 : G pM_rows (48 * c + 6 * s) = l.length) (h2 : ∀ (j : Nat) (hj : j < l.length), G pM_rows (48 * c + 6 * s + 1 + j) = l[j]) : lenS G c s = l.length ∧ (∀ j, j < l.length → rowS G c s j = l.getD j 0) ∧ rowL G c s = l := by
  have hl : lenS G c s = l.length := by unfold lenS; rw [h1]; omega
  have hr : ∀ j, j < l.length → rowS G c s j = l.getD j 0 := fun j hj => by
    unfold rowS
    rw [h2 j hj]
    simp [List.getD, hj]
  refine ⟨hl, hr, ?_⟩
  unfold rowL
  rw [hl]
  apply List.ext_getElem
  · rw [zLi_len]
  · intro i q1 q2
    rw [zLi_get, hr i q2]
    simp [List.getD, q2]
