/-! ===== the page ===== -/
/-- the state with that page -/
def pgS (G : Nat → Int → Int) (l : List Int) : Nat → Int → Int := fun q j => if q = pM_page then l.getD j.toNat 0 else if q = pM ∧ j = 1 then (l.length : Int) else G q j
theorem pgS_pgS (G : Nat → Int → Int) (l l' : List Int) : pgS (pgS G l) l' = pgS G l' := by
  funext q j
  unfold pgS
  by_cases a : q = pM_page
  · simp only [if_pos a]
  · by_cases b : q = pM ∧ j = 1
    · simp only [if_neg a, if_pos b]
    · simp only [if_neg a, if_neg b]
theorem pgS_q (G : Nat → Int → Int) (l : List Int) {q : Nat} (h1 : q ≠ pM_page) (h2 : q ≠ pM) : pgS G l q = G q := by
  funext j
  unfold pgS
  rw [if_neg h1, if_neg (fun z => h2 z.1)]
theorem pgS_M (G : Nat → Int → Int) (l : List Int) {j : Int} (h : j ≠ 1) : pgS G l pM j = G pM j := by
  unfold pgS
  rw [if_neg (by decide), if_neg (fun z => h z.2)]
theorem pgS_1 (G : Nat → Int → Int) (l : List Int) : pgS G l pM 1 = l.length := by
  unfold pgS
  rw [if_neg (by decide), if_pos ⟨rfl, rfl⟩]
theorem pgS_p (G : Nat → Int → Int) (l : List Int) {k : Nat} (hk : k < l.length) : pgS G l pM_page (k : Int) = l[k] := by
  unfold pgS
  rw [if_pos rfl, Int.toNat_natCast, List.getD, List.getElem?_eq_getElem hk, Option.getD_some]
theorem pgS_pL (G : Nat → Int → Int) (l : List Int) : pL (pgS G l) = l := by
  unfold pL
  rw [pgS_1, Int.toNat_natCast]
  apply List.ext_getElem
  · rw [zLi_len]
  · intro i h1 h2
    rw [zLi_get]
    exact pgS_p G l h2
def isPg (l : List Int) : Prop := l.length ≤ 48 ∧ ∀ v ∈ l, 1 ≤ v ∧ v ≤ 126
theorem Bd_pg {G : Nat → Int → Int} (h : Bd G) {l : List Int} (hl : isPg l) : Bd (pgS G l) := by
  obtain ⟨hQ, hP, hC, hS, hW, hN, hK⟩ := h
  unfold Bd bdQ bdC bdS bdW bdK
  rw [pgS_1, pgS_M G l (j := 5) (by decide), pgS_M G l (j := 8) (by decide), pgS_M G l (j := 10) (by decide), pgS_M G l (j := 18) (by decide), pgS_M G l (j := 22) (by decide), pgS_M G l (j := 23) (by decide), pgS_q G l (q := pM_speeches) (by decide) (by decide), pgS_q G l (q := pM_rows) (by decide) (by decide), pgS_q G l (q := pM_signalRows) (by decide) (by decide), pgS_q G l (q := pM_weights) (by decide) (by decide), pgS_q G l (q := pM_noteRows) (by decide) (by decide), pgS_q G l (q := pM_keptRows) (by decide) (by decide), pgS_q G l (q := pM_keptWeights) (by decide) (by decide)]
  refine ⟨⟨⟨by omega, by have := hl.1; omega⟩, hQ.2⟩, fun k h0 h1 => ?_, hC, hS, hW, hN, hK⟩
  rw [pgS_1] at h1
  obtain ⟨k, rfl⟩ : ∃ m : Nat, k = m := ⟨k.toNat, by omega⟩
  rw [pgS_p G l (by omega)]
  exact hl.2 _ (List.getElem_mem _)
theorem Rel_pg {G g g1 : Nat → Int → Int} (hB : Bd G) (h : Rel G g) {l : List Int} (hrow : zRow g1 14 l) (e : ∀ q, q ≠ 14 → q ≠ 15 → q < 72 ∨ 101 ≤ q → q < 265 → g1 q = g q) : Rel (pgS G l) g1 := by
  obtain ⟨r1, r2, r3, r4, r5, r6⟩ := h
  obtain ⟨hQ, hP, hC, hS, hW, hN, hK⟩ := id hB
  have f5 := pgS_M G l (j := 5) (by decide)
  have f8 := pgS_M G l (j := 8) (by decide)
  have s := pgS_q G l (q := pM_signalRows) (by decide) (by decide)
  refine ⟨RelS_cg (RelS_fr r1 (fun q h1 h2 => e q (by omega) (by omega) (by omega) (by omega))) s f8, ?_, ?_, ?_, ?_, ?_⟩
  · unfold wL
    rw [pgS_q G l (q := pM_weights) (by decide) (by decide), pgS_M G l (j := 10) (by decide)]
    exact zRow_fr r2 (e _ (by decide) (by decide) (by omega) (by omega)) (e _ (by decide) (by decide) (by omega) (by omega))
  · rw [pgS_pL]
    exact hrow
  · exact RelC_cg (RelC_fr r4 (by rw [e pX (by decide) (by decide) (Or.inl (by decide)) (by decide)]) (fun q h1 h2 => e q (by omega) (by omega) (by omega) (by omega))) s f8 (pgS_q G l (by decide) (by decide)) (pgS_q G l (by decide) (by decide)) f5
  · rw [pgS_q G l (q := pM_noteRows) (by decide) (by decide), pgS_M G l (j := 18) (by decide)]
    exact RelN_fr hQ.2.2.2.2.2 r5 (fun q h1 h2 => e q (by omega) (by omega) (by omega) (by omega))
  · exact RelK_cg (RelK_fr hB r6 (by rw [e pX (by decide) (by decide) (Or.inl (by decide)) (by decide)]) (fun q h1 h2 => e q (by omega) (by omega) (by omega) (by omega))) (pgS_M G l (by decide)) (pgS_M G l (by decide)) (pgS_q G l (by decide) (by decide)) (pgS_q G l (by decide) (by decide))
theorem pg_plS (G : Nat → Int → Int) (l : List Int) : plS (pgS G l) = plS G := plS_cg (pgS_q G l (by decide) (by decide)) (pgS_M G l (by decide)) (pgS_q G l (by decide) (by decide))
theorem pg_pln (G : Nat → Int → Int) (l : List Int) : pln (pgS G l) = pln G := pln_G (pgS_q G l (by decide) (by decide)) (pgS_M G l (by decide))
theorem pg_nS (G : Nat → Int → Int) (l : List Int) : nS (pgS G l) = nS G := by
  funext c
  unfold nS
  rw [pgS_q G l (by decide) (by decide)]
theorem pg_lenS (G : Nat → Int → Int) (l : List Int) : lenS (pgS G l) = lenS G := by
  funext c s
  unfold lenS
  rw [pgS_q G l (by decide) (by decide)]
theorem pg_rowS (G : Nat → Int → Int) (l : List Int) : rowS (pgS G l) = rowS G := by
  funext c s k
  unfold rowS
  rw [pgS_q G l (by decide) (by decide)]
theorem LS_pg {G g g1 : Nat → Int → Int} (h : LwS G g) {l : List Int} (hl : isPg l) (hrow : zRow g1 14 l) (e : ∀ q, q ≠ 14 → q ≠ 15 → (q < 72 ∨ 101 ≤ q) → q ≤ 266 → g1 q = g q) : LwS (pgS G l) g1 := by
  obtain ⟨h1, h2, h3, h4, h5, h6, h7⟩ := h
  have c0 : g1 0 0 = g 0 0 := by rw [e 0 (by omega) (by omega) (by omega) (by omega)]
  have e6 := e 266 (by omega) (by omega) (by omega) (by omega)
  refine ⟨Bd_pg h1 hl, Rel_pg h1 h2 hrow (fun q a b c d => e q a b c (by omega)), ?_, ?_, zAr_cg h5 c0, ?_⟩
  · have := LG_fr h3 (e 0 (by omega) (by omega) (by omega) (by omega)) (e 265 (by omega) (by omega) (by omega) (by omega))
    unfold LG at *
    rw [pgS_M G l (j := 8) (by decide), pgS_q G l (q := pM_signalRows) (by decide) (by decide)]
    exact this
  · rw [pgS_M G l (by decide)]
    exact h4
  · rw [e6, pg_nS, pg_lenS, pg_rowS]
    exact ⟨h6, h7⟩
theorem one_by : ∀ v : Nat, v < 127 → 1 ≤ v → okB v 8 = 1 ∧ cntB v 8 = 1 ∧ byI v 0 = v := by decide +kernel
/-- one letter is written -/
theorem X_letter1 (xs : List Int) {g : Nat → Int → Int} {l : List Int} (hrow : zRow g 14 l) (hl : l.length < 48) {v : Int} (hv : 1 ≤ v ∧ v ≤ 126) : ∃ g1, zx zblk xs 44 0 [some (.inr (.inr (some pX))), some (.inr (.inl (v))), none] [] (HH g) = some (some (.inl ((l.length : Int) + 1)), HH g1) ∧ zRow g1 14 (l ++ [v]) ∧ zFr (scR 14) g g1 := by
  obtain ⟨w, rfl⟩ : ∃ w : Nat, v = w := ⟨v.toNat, by omega⟩
  obtain ⟨o1, o2, o3⟩ := one_by w (by omega) (by omega)
  obtain ⟨g1, p1, p2, p3⟩ := Row_add xs Rw14 hrow (by omega) (w : Int)
  refine ⟨g1, ?_, p2, p3⟩
  have hln : lnB w = 1 := by unfold lnB; rw [if_neg (by omega), o2]
  have hbe : zandl (zushrl (w : Int) (8 * 0)) 255 = w := o3
  have hlen : ((l ++ [(w : Int)]).length : Int) = (l.length : Int) + 1 := by rw [List.length_append]; simp
  rw [e_X_letters_0, X_lettersIn xs w, zci_ok, hln, if_pos (by decide), e_X_letters_13, pX_r_page, Rw_ck Rw14, Row_size xs Rw14 hrow, zci_ok, if_pos (by rw [zw_id (by omega) (by omega), show zw 48 = 48 from rfl]; omega), e_X_letters_30, e_X_letters_33, if_neg (by decide), pX_r_page, e_X_byteOf_0, zci_ok, hbe, Rw_ck Rw14, p1, zcv_ok, e_X_letters_33, if_pos (by decide), e_X_letters_58, pX_r_page, Rw_ck Rw14, Row_size xs Rw14 p2, zci_ok, hlen]
theorem L_write (xs : List Int) {pt nt : Nat} (l : List Int) (hpt : 264 < pt) (hl : l.length ≤ nt) (hp : isPg l) {g : Nat → Int → Int} (ht : zAr g pt nt) (hval : ∀ (k : Nat) (hk : k < l.length), g pt k = l[k]) (hrow : zRow g 14 []) : ∃ g1, zx zblk xs 82 0 [some (.inr (.inr (some pX))), some (.inr (.inr (some pt))), some (.inl ((l.length : Int)))] [] (HH g) = some (some (.inl 1), HH g1) ∧ zRow g1 14 l ∧ zFr (scR 14) g g1 := by
  have hl48 := hp.1
  have loop : ∀ (r k : Nat) (gk : Nat → Int → Int), k + r = l.length → zRow gk 14 (l.take k) → zFr (scR 14) g gk → ∃ g1, zx zblk xs 82 2 [some (.inr (.inr (some pX))), some (.inr (.inr (some pt))), some (.inl ((l.length : Int))), some (.inl ((k : Int)))] [] (HH gk) = some (some (.inl 1), HH g1) ∧ zRow g1 14 l ∧ zFr (scR 14) g g1 := by
    intro r
    induction r with
    | zero =>
      intro k gk hk hr hf
      have : k = l.length := by omega
      subst this
      rw [List.take_length] at hr
      exact ⟨gk, by rw [e_L_write_2, if_pos (Int.le_refl _), e_L_write_29, if_pos (Or.inr rfl)], hr, hf⟩
    | succ r ih =>
      intro k gk hk hr hf
      have hv := hp.2 l[k] (List.getElem_mem _)
      have hlk : (l.take k).length = k := by rw [List.length_take]; omega
      have kpt : gk pt = g pt := hf.at (fun j => by simp only [scR]; omega)
      obtain ⟨g2, x1, x2, x3⟩ := X_letter1 xs hr (by omega) hv
      rw [hlk] at x1
      obtain ⟨g1, s1, s2, s3⟩ := ih (k + 1) g2 (by omega) (by rw [List.take_succ_eq_append_getElem (by omega)]; exact x2) (hf.tr x3)
      refine ⟨g1, ?_, s2, s3⟩
      rw [e_L_write_2, if_neg (by rw [zw_id (by omega) (by omega), zw_id (by omega) (by omega)]; omega), HF_ai (zAr_cg ht (hf 0 0 (by simp only [scR]; omega))) (by omega) (by omega), kpt, hval k (by omega), zw_id (a := l[k]) (by omega) (by omega), pX_ck, x1, zci_ok, if_pos rfl, e_L_write_23, ← s1, Int.natCast_succ]
  obtain ⟨g1, s1, s2, s3⟩ := loop l.length 0 g (by omega) hrow zFr.rf
  rw [z0N] at s1
  refine ⟨g1, ?_, s2, s3⟩
  rw [e_L_write_0]
  exact s1
theorem X_blank1 (xs : List Int) {g : Nat → Int → Int} {l : List Int} (hrow : zRow g 14 l) : zx zblk xs 45 0 [some (.inr (.inr (some pX)))] [] (HH g) = some (some (.inl (l.length : Int)), HH (up g 14 1 0)) ∧ zRow (up g 14 1 0) 14 [] ∧ zFr (scR 14) g (up g 14 1 0) := by
  obtain ⟨w1, w2, w3⟩ := Row_wipe xs (g := g) Rw14
  refine ⟨?_, w2, w3⟩
  rw [e_X_blank_0, pX_r_page, Rw_ck Rw14, Row_size xs Rw14 hrow, zci_ok, pX_r_page, Rw_ck Rw14, w1, zcv_ok]
