/-! ===== a code is read: what the texts say ===== -/
theorem ftF_le {f : Nat → Int} : ∀ {n k : Nat} {s : Int × Int}, (ftF f n k s).1 ≤ k + n
  | 0, _, _ => Nat.le_refl _
  | n + 1, k, s => by
    cases h : ftStep s (f k) with
    | none => rw [ftF_none h]; show k ≤ _; omega
    | some s' =>
      rw [ftF_some h]
      have := ftF_le (f := f) (n := n) (k := k + 1) (s := s')
      omega
theorem gdT_of {f : Nat → Int} {n : Nat} (h : (ftF f n 0 (0, 0)).1 = n) : gdT f n := by
  intro k hk
  obtain ⟨s, hs⟩ := ftF_gd (f := f) (n := n) (k := 0) (by rw [Nat.zero_add]; exact h) k hk
  rw [Nat.zero_add] at hs
  exact ⟨s, hs⟩
theorem rd_ends {f : Nat → Int} {m : Nat} (h : gdT f (m + 1)) : (rdF f (m + 1)).2.length ≠ 0 ↔ 97 ≤ f m ∧ f m ≤ 104 := by
  obtain ⟨s, hs⟩ := h m (by omega)
  unfold ftStep at hs
  by_cases a : (97 ≤ f m ∧ f m ≤ 104) ∧ (rdN f m).2 < 5
  · rw [rdF, if_neg (by omega)]
    simp
    exact a.1
  · rw [if_neg a] at hs
    by_cases b : f m = 44 ∧ 0 < (rdN f m).2 ∧ (rdN f m).1 < 7
    · rw [rdF, if_pos b.1]
      simp
      omega
    · rw [if_neg b] at hs
      exact absurd hs (by simp)
theorem rdI_all {g : Nat → Int → Int} {D : List (List Int)} {C : List Int} (h : rdI g D C) (hC : C ≠ []) {s : Nat} (hs : s < D.length + 1) : rwAt (g pM_readRows) s ((D ++ [C]).getD s []) := by
  by_cases e : s < D.length
  · have : (D ++ [C]).getD s [] = D[s] := by simp [List.getD, List.getElem?_append_left e, e]
    rw [this]
    exact (h.1 s e).2
  · have e2 : s = D.length := by omega
    subst e2
    have : (D ++ [C]).getD D.length [] = C := by simp [List.getD]
    rw [this]
    exact h.2 hC
theorem rdA_ok {f : Nat → Int} {n : Nat} (h : gdT f n) (hC : (rdF f n).2.length ≠ 0) {s : Nat} (hs : s < (rdA f n).length) : 1 ≤ ((rdA f n).getD s []).length ∧ ((rdA f n).getD s []).length ≤ 5 ∧ isR7 ((rdA f n).getD s []) := by
  obtain ⟨h1, h2, h3, h4⟩ := gdT_rg h n (Nat.le_refl _)
  have hm : (rdA f n).getD s [] ∈ rdA f n := by
    rw [show (rdA f n).getD s [] = (rdA f n)[s] by simp [List.getD, hs]]
    exact List.getElem_mem hs
  unfold rdA at hm
  rcases List.mem_append.mp hm with hm | hm
  · exact h3 _ hm
  · have := List.mem_singleton.mp hm
    unfold rdA
    rw [this]
    exact ⟨by omega, h2, h4⟩
theorem pln_G {G G1 : Nat → Int → Int} (e1 : G1 pM_signalRows = G pM_signalRows) (e2 : G1 pM 8 = G pM 8) : pln G1 = pln G := by
  have k : kindS G1 = kindS G := by
    funext s
    unfold kindS
    rw [e1, e2]
  have st : stp G1 = stp G := by
    funext l s
    unfold stp
    rw [k, e1]
  funext st' f n
  induction n with
  | zero => rfl
  | succ n ih => simp only [pln, ih, st]
theorem rowL_of {G : Nat → Int → Int} {c s : Int} {l : List Int} (h1 : G pM_rows (48 * c + 6 * s) = l.length) (h2 : ∀ (j : Nat) (hj : j < l.length), G pM_rows (48 * c + 6 * s + 1 + j) = l[j]) : lenS G c s = l.length ∧ (∀ j, j < l.length → rowS G c s j = l.getD j 0) ∧ rowL G c s = l := by
  have hl : lenS G c s = l.length := by unfold lenS; rw [h1]; omega
  have hr : ∀ j, j < l.length → rowS G c s j = l.getD j 0 := fun j hj => by
    unfold rowS
    rw [h2 j hj]
    simp [List.getD, hj]
  refine ⟨hl, hr, ?_⟩
  unfold rowL
  rw [hl]
  apply List.ext_getElem
  · rw [zLi_len]
  · intro i q1 q2
    rw [zLi_get, hr i q2]
    simp [List.getD, q2]
/-- the reference copies what it read -/
theorem M_code_copy (xs : List Int) {g : Nat → Int → Int} {n : Nat} (hn : n < 4) (h5 : g pM 5 = n) : ∃ g1, zx zblk xs 8 49 [some (.inr (.inr (some pM))), some (.inl (0))] [] (HH g) = zx zblk xs 8 81 [some (.inr (.inr (some pM)))] [] (HH g1) ∧ (∀ j : Int, 0 ≤ j → j < 48 → g1 pM_rows (48 * n + j) = g pM_readRows j) ∧ zFr (fun q j => q = pM_rows ∧ 48 * (n : Int) ≤ j ∧ j < 48 * n + 48) g g1 := by
  have loop : ∀ (r k : Nat) (gk : Nat → Int → Int), k + r = 48 → (∀ j : Int, 0 ≤ j → j < k → gk pM_rows (48 * n + j) = g pM_readRows j) → zFr (fun q j => q = pM_rows ∧ 48 * (n : Int) ≤ j ∧ j < 48 * n + 48) g gk → ∃ g1, zx zblk xs 8 49 [some (.inr (.inr (some pM))), some (.inl ((k : Int)))] [] (HH gk) = zx zblk xs 8 81 [some (.inr (.inr (some pM)))] [] (HH g1) ∧ (∀ j : Int, 0 ≤ j → j < 48 → g1 pM_rows (48 * n + j) = g pM_readRows j) ∧ zFr (fun q j => q = pM_rows ∧ 48 * (n : Int) ≤ j ∧ j < 48 * n + 48) g g1 := by
    intro r
    induction r with
    | zero =>
      intro k gk hk hj hf
      have : k = 48 := by omega
      subst this
      refine ⟨gk, ?_, fun j h0 h1 => hj j h0 (by omega), hf⟩
      rw [e_M_code_49, if_pos (by decide)]
    | succ r ih =>
      intro k gk hk hj hf
      have k5 : gk pM 5 = n := by rw [hf pM 5 (fun z => absurd z.1 (by decide))]; exact h5
      have kr : gk pM_readRows = g pM_readRows := hf.at (fun j z => absurd z.1 (by decide))
      obtain ⟨g1, q1, q2, q3⟩ := ih (k + 1) (up gk pM_rows (48 * n + k) (g pM_readRows k)) (by omega) (fun j h0 h1 => by
        by_cases e : j = k
        · subst e; exact up_same _ _ _ _
        · rw [up_ne _ _ (fun z => by omega)]; exact hj j h0 (by omega)) (hf.up ⟨rfl, by omega, by omega⟩)
      refine ⟨g1, ?_, q2, q3⟩
      rw [e_M_code_49, if_neg (by rw [show zw 48 = 48 from rfl, zw_id (by omega) (by omega)]; omega), pM_r_rows, pM_g_codes, k5, pM_r_readRows, pM_a_readRows xs _ (by omega) (by omega), kr, pM_s_rows _ _ (by omega) (by omega), ← Int.natCast_succ]
      exact q1
  obtain ⟨g1, q1, q2, q3⟩ := loop 48 0 g (by omega) (fun j h0 h1 => by omega) zFr.rf
  rw [z0N] at q1
  exact ⟨g1, q1, q2, q3⟩
