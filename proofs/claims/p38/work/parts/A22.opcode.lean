/-! ===== the first code is taken ===== -/
theorem ftF_all {f : Nat → Int} : ∀ (r k n : Nat), k + r = n → gdT f n → (ftF f r k (rdN f k)).1 = n
  | 0, k, n, h, _ => by show k = n; omega
  | r + 1, k, n, h, hg => by
    obtain ⟨s, hs⟩ := hg k (by omega)
    rw [ftF_some hs, rdN_s hs]
    exact ftF_all r (k + 1) n (by omega) hg
theorem ftS_all {g : Nat → Int → Int} {m : Nat} (h1 : g pM 1 = (m : Int)) (hg : gdT (fun k : Nat => g pM_page k) m) : (ftS g).1 = m := by
  unfold ftS
  rw [h1, Int.toNat_natCast]
  exact ftF_all m 0 m (by omega) hg
/-- a code's rows as the state has them -/
def rwF (R : List (List Int)) (j : Int) : Int := if j % 6 = 0 then ((R.getD (j / 6).toNat []).length : Int) else (R.getD (j / 6).toNat []).getD (j % 6 - 1).toNat 0
theorem rwF_0 (R : List (List Int)) (s : Nat) : rwF R (48 * 0 + 6 * (s : Int)) = ((R.getD s []).length : Int) := by
  unfold rwF
  rw [if_pos (by omega), show (48 * 0 + 6 * (s : Int)) / 6 = (s : Int) by omega, Int.toNat_natCast]
theorem rwF_k (R : List (List Int)) (s k : Nat) (hk : k < 5) : rwF R (48 * 0 + 6 * (s : Int) + 1 + k) = (R.getD s []).getD k 0 := by
  unfold rwF
  rw [if_neg (by omega), show (48 * 0 + 6 * (s : Int) + 1 + k) / 6 = (s : Int) by omega, Int.toNat_natCast, show (48 * 0 + 6 * (s : Int) + 1 + k) % 6 - 1 = (k : Int) by omega, Int.toNat_natCast]
def cdG (g : Nat → Int → Int) (R : List (List Int)) : Nat → Int → Int := fun q j => if q = pM then (if j = 1 then 0 else if j = 5 then 1 else g q j) else if q = pM_speeches then (if j = 0 then (R.length : Int) else g q j) else if q = pM_rows then (if 0 ≤ j ∧ j < 48 then rwF R j else g q j) else g q j
theorem op_code1 (xs : List Int) {g : Nat → Int → Int} (hI : Inv g) (h5 : g pM 5 = 0) {m : Nat} (h1 : g pM 1 = (m : Int)) {D : List (List Int)} {C : List Int} (hr : rdF (fun k : Nat => g pM_page k) m = (D, C)) (hg : gdT (fun k : Nat => g pM_page k) m) (hC : 1 ≤ C.length) : ∃ g2, zx zblk xs 46 0 [some (.inr (.inr (some pX)))] [] (HH g) = some (some (.inl 0), HH g2) ∧ Inv g2 ∧ g2 pM 5 = 1 ∧ g2 pM 1 = 0 ∧ (∀ q, 1000 ≤ q → q ≠ pM → q ≠ pM_speeches → q ≠ pM_rows → g2 q = g q) ∧ (∀ j : Int, j ≠ 1 → j ≠ 5 → g2 pM j = g pM j) ∧ nS g2 0 = D.length + 1 ∧ (∀ s, s < D.length + 1 → lenS g2 0 s = ((D ++ [C]).getD s []).length ∧ ∀ k, k < lenS g2 0 s → rowS g2 0 s k = ((D ++ [C]).getD s []).getD k 0) ∧ (∀ q, q = 0 ∨ (265 ≤ q ∧ q < 1000) → g2 q = g q) := by
  obtain ⟨hB, hR⟩ := id hI
  obtain ⟨r1, r2, r3, r4, r5, r6⟩ := id hR
  obtain ⟨hQ, hP, hCd, hS, hW, hNn, hK⟩ := id hB
  obtain ⟨q1, q5, q8, q10, q18⟩ := id hQ
  have hpl := pL_len hQ
  have hm1 : 1 ≤ m := by
    by_cases z : m = 0
    · subst z
      have h0 : rdF (fun k : Nat => g pM_page k) 0 = ([], []) := rfl
      rw [h0] at hr
      have := congrArg Prod.snd hr
      simp only at this
      rw [← this] at hC
      exact absurd hC (by simp)
    · omega
  obtain ⟨m', rfl⟩ : ∃ m', m = m' + 1 := ⟨m - 1, by omega⟩
  have hne : (rdF (fun k : Nat => g pM_page k) (m' + 1)).2.length ≠ 0 := by rw [hr]; show C.length ≠ 0; omega
  have hA : rdA (fun k : Nat => g pM_page k) (m' + 1) = D ++ [C] := by unfold rdA; rw [hr]
  have hAl : (D ++ [C]).length = D.length + 1 := by rw [List.length_append]; rfl
  obtain ⟨i1, i2, i3, i4⟩ := gdT_rg hg (m' + 1) (Nat.le_refl _)
  rw [hr] at i1 i2 i3 i4
  have i1' : D.length ≤ 7 := i1
  have ok : ∀ s, s < D.length + 1 → 1 ≤ ((D ++ [C]).getD s []).length ∧ ((D ++ [C]).getD s []).length ≤ 5 ∧ isR7 ((D ++ [C]).getD s []) := fun s hs => by
    have := rdA_ok hg hne (s := s) (by rw [hA, hAl]; exact hs)
    rw [hA] at this
    exact this
  obtain ⟨ga, x1, x2, x3, x4, x5, x6, x7⟩ := X_code_go xs hI (n := 0) (m := m' + 1) (by rw [h5]; rfl) (by omega) (by rw [h1]; omega) hg hne
  rw [hA, hAl] at x4 x5
  have x6' : ∀ q, q = 0 ∨ 265 ≤ q → ga q = g q := fun q hq => x6 q (by omega) (by omega) (by simp only [PC]; omega) (by simp only [pX]; omega)
  -- the answer
  have hlast : 97 ≤ zat (pL g) (g pM 1 - 1) ∧ zat (pL g) (g pM 1 - 1) ≤ 104 := by
    have := (rd_ends hg).mp hne
    unfold pL
    rw [zat_Li (by omega), h1, show (((m' + 1 : Nat) : Int) - 1).toNat = m' by omega]
    exact this
  have X0 : zx zblk xs 46 0 [some (.inr (.inr (some pX)))] [] (HH g) = some (some (.inl 0), HH ga) := by
    rw [e_X_code_0, pX_r_page, pX_r_page, Rw_ck Rw14, Row_size xs Rw14 r3, zci_ok, hpl.1, Rw_ck Rw14, Row_at xs Rw14 r3 hpl.2 _ (zw_id (by omega) (by omega)), zci_ok, X_signalOf xs _ _ (zw_id (by omega) (by omega)), zci_ok, if_pos hlast, if_neg (by rw [zw_id (by omega) (by omega), show zw (-1) = -1 from rfl]; omega), e_X_code_28, show zw 1 = 1 from rfl, if_neg (by decide), pX_ck, X_firstFault xs hB hR, zci_ok, ftS_all h1 hg, pX_r_page, Rw_ck Rw14, Row_size xs Rw14 r3, zci_ok, hpl.1, h1, if_pos (Int.le_refl _), x1]
    rfl
  -- the state
  have aL : ∀ q, q < 1000 → cdG ga (D ++ [C]) q = ga q := fun q hq => by
    funext j
    unfold cdG
    rw [if_neg (by simp only [pM]; omega), if_neg (by simp only [pM_speeches]; omega), if_neg (by simp only [pM_rows]; omega)]
  have hH : HH (cdG ga (D ++ [C])) = HH ga := HH_gh aL
  have aB : ∀ q, 1000 ≤ q → q ≠ pM → q ≠ pM_speeches → q ≠ pM_rows → cdG ga (D ++ [C]) q = g q := fun q h0 h1 h2 h3 => by
    rw [← x6' q (by omega)]
    funext j
    unfold cdG
    rw [if_neg h1, if_neg h2, if_neg h3]
  have a1 : cdG ga (D ++ [C]) pM 1 = 0 := by unfold cdG; rw [if_pos rfl, if_pos rfl]
  have a5 : cdG ga (D ++ [C]) pM 5 = 1 := by unfold cdG; rw [if_pos rfl, if_neg (by decide), if_pos rfl]
  have aM : ∀ j : Int, j ≠ 1 → j ≠ 5 → cdG ga (D ++ [C]) pM j = g pM j := fun j h1 h2 => by
    unfold cdG
    rw [if_pos rfl, if_neg h1, if_neg h2, x6' pM (Or.inr (by decide))]
  have aS : cdG ga (D ++ [C]) pM_speeches 0 = ((D.length + 1 : Nat) : Int) := by
    unfold cdG
    rw [if_neg (by decide), if_pos rfl, if_pos rfl, hAl]
  have aR0 : ∀ s : Nat, s < D.length + 1 → cdG ga (D ++ [C]) pM_rows (48 * 0 + 6 * (s : Int)) = (((D ++ [C]).getD s []).length : Int) := fun s hs => by
    unfold cdG
    rw [if_neg (by decide), if_neg (by decide), if_pos rfl, if_pos (by omega), rwF_0]
  have aRk : ∀ s k : Nat, s < D.length + 1 → k < 5 → cdG ga (D ++ [C]) pM_rows (48 * 0 + 6 * (s : Int) + 1 + k) = ((D ++ [C]).getD s []).getD k 0 := fun s k hs hk => by
    unfold cdG
    rw [if_neg (by decide), if_neg (by decide), if_pos rfl, if_pos (by omega), rwF_k _ _ _ hk]
  generalize hG : cdG ga (D ++ [C]) = G at *
  clear hG
  have hnS : nS G 0 = D.length + 1 := by unfold nS; rw [aS]; omega
  have hrow : ∀ s : Nat, s < D.length + 1 → lenS G 0 s = ((D ++ [C]).getD s []).length ∧ (∀ j, j < ((D ++ [C]).getD s []).length → rowS G 0 s j = ((D ++ [C]).getD s []).getD j 0) ∧ rowL G 0 s = (D ++ [C]).getD s [] := fun s hs => rowL_of (aR0 s hs) (fun j hj => by
    have := (ok s hs).2.1
    rw [aRk s j hs (by omega), List.getD, List.getElem?_eq_getElem hj, Option.getD_some])
  have s := aB pM_signalRows (by decide) (by decide) (by decide) (by decide)
  have pg := aB pM_page (by decide) (by decide) (by decide) (by decide)
  have we := aB pM_weights (by decide) (by decide) (by decide) (by decide)
  have nr := aB pM_noteRows (by decide) (by decide) (by decide) (by decide)
  have kw := aB pM_keptWeights (by decide) (by decide) (by decide) (by decide)
  have kr := aB pM_keptRows (by decide) (by decide) (by decide) (by decide)
  have f8 := aM 8 (by decide) (by decide)
  have f10 := aM 10 (by decide) (by decide)
  have f18 := aM 18 (by decide) (by decide)
  have f22 := aM 22 (by decide) (by decide)
  have f23 := aM 23 (by decide) (by decide)
  have aX : ∀ q, 0 < q → q < 265 → q ≠ 14 → q ≠ 15 → (q < 101 ∨ 141 < q) → q ≠ pX → G q = g q := fun q h0 h1 h2 h3 h4 h5 => by rw [aL q (by omega), x6 q h2 h3 (by simp only [PC]; omega) h5]
  refine ⟨G, by rw [hH]; exact X0, ⟨⟨?_, ?_, ?_, ?_, ?_, ?_, ?_⟩, ?_, ?_, ?_, ?_, ?_, ?_⟩, a5, a1, aB, aM, hnS, fun s hs => ⟨(hrow s hs).1, fun k hk => (hrow s hs).2.1 k (by rw [(hrow s hs).1] at hk; exact hk)⟩, fun q hq => by rw [aL q (by omega), x6' q (by omega)]⟩
  · unfold bdQ
    rw [a1, a5, f8, f10, f18]
    exact ⟨by omega, by omega, q8, q10, q18⟩
  · intro k h1 h2
    rw [a1] at h2
    omega
  · intro c c0 c1
    rw [a5] at c1
    have : c = 0 := by omega
    subst this
    rw [aS]
    refine ⟨by omega, by omega, fun s' s0 s1 => ?_⟩
    obtain ⟨s', rfl⟩ : ∃ t : Nat, s' = t := ⟨s'.toNat, by omega⟩
    obtain ⟨o1, o2, o3⟩ := ok s' (by omega)
    rw [aR0 s' (by omega)]
    refine ⟨by omega, by omega, fun k k0 k1 => ?_⟩
    obtain ⟨j, rfl⟩ : ∃ j : Nat, k = 1 + j := ⟨(k - 1).toNat, by omega⟩
    rw [← Int.add_assoc, aRk s' j (by omega) (by omega), List.getD, List.getElem?_eq_getElem (show j < ((D ++ [C]).getD s' []).length by omega), Option.getD_some]
    exact isR7_get o3 (by omega)
  · unfold bdS
    rw [f8, s]
    exact hS
  · unfold bdW
    rw [f10, we]
    exact hW
  · rw [f10, f18, nr]
    exact hNn
  · unfold bdK
    rw [f10, f22, f23, kw, kr]
    exact hK
  · exact RelS_cg (RelS_fr r1 (fun q h1 h2 => aX q (by omega) (by omega) (by omega) (by omega) (by omega) (by simp only [pX]; omega))) s f8
  · unfold wL
    rw [we, f10]
    exact zRow_fr r2 (aX _ (by omega) (by omega) (by omega) (by omega) (by omega) (by decide)) (aX _ (by omega) (by omega) (by omega) (by omega) (by omega) (by decide))
  · unfold pL
    rw [a1]
    exact zRow_fr x3 (aL _ (by omega)) (aL _ (by omega))
  · refine ⟨by rw [aL pX (by decide), x2, a5]; rfl, fun c' hc' => ⟨fun h => ?_, fun h s' hs' => ?_⟩⟩
    · rw [a5] at h
      have : c' = 0 := by omega
      subst this
      have z0 : ((0 : Nat) : Int) = 0 := rfl
      rw [z0, hnS]
      refine ⟨zCd_fr (zCd_cg x4 (fun i hi => ?_)) (fun q h1 h2 => aL q (by simp only [PC] at h2; omega)), fun s' hs' => ?_⟩
      · obtain ⟨h1, h2, -⟩ := hrow i hi
        unfold plS
        rw [h1, pln_G s f8]
        exact pln_cg g 0 h2
      · rw [(hrow s' hs').2.2]
        exact zRow_fr (x5 s' hs') (aL _ (by simp only [PC]; omega)) (aL _ (by simp only [PC]; omega))
    · rw [a5] at h
      exact zRow_fr ((r4.2 c' hc').2 (by rw [h5]; omega) s' hs') (aX _ (by simp only [PC]; omega) (by simp only [PC]; omega) (by simp only [PC]; omega) (by simp only [PC]; omega) (by simp only [PC]; omega) (by simp only [PC, pX]; omega)) (aX _ (by simp only [PC]; omega) (by simp only [PC]; omega) (by simp only [PC]; omega) (by simp only [PC]; omega) (by simp only [PC]; omega) (by simp only [PC, pX]; omega))
  · rw [nr, f18]
    exact RelN_fr hQ.2.2.2.2.2 r5 (fun q h1 h2 => aX q (by omega) (by omega) (by omega) (by omega) (by omega) (by simp only [pX]; omega))
  · exact RelK_cg (RelK_fr hB r6 (by rw [aL pX (by decide), x7 8 (by decide)]) (fun q h1 h2 => aX q (by omega) (by omega) (by omega) (by omega) (by omega) (by simp only [pX]; omega))) f22 f23 kw kr
