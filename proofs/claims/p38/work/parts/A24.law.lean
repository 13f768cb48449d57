/-! ===== the law as a whole ===== -/
theorem gd_pg {f : Nat → Int} {n : Nat} (h : gdT f n) {k : Nat} (hk : k < n) : 1 ≤ f k ∧ f k ≤ 126 := by
  obtain ⟨s, hs⟩ := h k hk
  unfold ftStep at hs
  by_cases a : (97 ≤ f k ∧ f k ≤ 104) ∧ (rdN f k).2 < 5
  · omega
  · rw [if_neg a] at hs
    by_cases b : f k = 44 ∧ 0 < (rdN f k).2 ∧ (rdN f k).1 < 7
    · omega
    · rw [if_neg b] at hs
      exact absurd hs (by simp)
/-- signals, text, code -/
theorem L_setup (xs : List Int) (hx : xs.length ≤ 260) : ∃ g1, zx zblk xs 0 0 [some (.inr (.inr (some 0)))] [] [] = zx zblk xs 0 67 [some (.inr (.inr (some 0))), some (.inr (.inr (some pX))), some (.inr (.inr (some 265))), some (.inr (.inr (some 266)))] [] (HH g1) ∧ LwS g1 g1 ∧ g1 pM 10 = 0 ∧ g1 pM 1 = 0 ∧ g1 0 0 = (3 : Nat) := by
  -- the constructors, three arrays
  have hX := zxS xs (eqR_ok start_X)
  have c0 : g0 0 0 = (0 : Nat) := rfl
  have i0 : Inv (gnw (gnw (gnw g0 0) 1) 2) := Inv_gnw (Inv_gnw (Inv_gnw inv0 (by omega)) (by omega)) (by omega)
  have eM : gnw (gnw (gnw g0 0) 1) 2 pM = g0 pM := by rw [gnw_q (by decide) (by decide), gnw_q (by decide) (by decide), gnw_q (by decide) (by decide)]
  have z : ∀ j : Int, j ≠ 22 → g0 pM j = 0 := fun j hj => if_neg (fun w => hj w.2)
  have sg : SgT (gnw (gnw (gnw g0 0) 1) 2) 0 := ⟨i0, by rw [eM, z 8 (by decide)]; rfl, by rw [eM, z 5 (by decide)], by rw [eM, z 10 (by decide)], by rw [eM, z 1 (by decide)], gnw_0, fun j h0 h1 => by omega⟩
  obtain ⟨gb, b1, N, b2, b3, b4⟩ := L_signals xs hx sg
  have e36 : zx zblk xs 0 0 [some (.inr (.inr (some 0)))] [] [] = zx zblk xs 0 36 [some (.inr (.inr (some 0))), some (.inr (.inr (some pX))), some (.inr (.inr (some 265))), some (.inr (.inr (some 266))), some (.inr (.inr (some 267)))] [] (HH gb) := by
    rw [e_L_law_0, hX, zcv_ok, zna_at (m := 33) (N := 0) (n := 33) rfl c0 rfl (by omega), zna_at (m := 49) (N := 1) (n := 49) rfl gnw_0 rfl (by omega), zna_at (m := 48) (N := 2) (n := 48) rfl gnw_0 rfl (by omega)]
    have b1' : zx zblk xs 80 0 [some (.inr (.inr (some 1))), some (.inr (.inr (some 0))), some (.inl (0)), some (.inr (.inr (some (265 + 0))))] [] (HH (gnw (gnw (gnw g0 0) 1) 2)) = some (some (.inl 1), HH gb) := b1
    rw [b1', zci_ok, if_pos (by decide)]
  obtain ⟨s1, s2, s3, s4, s5, s6, s7⟩ := id b3
  -- the text
  obtain ⟨gc, n, M, D, C, c1, c2, c3, c4, c5, c6, c7⟩ := L_codeText xs hx s6
  obtain ⟨t1, t2, t3, t4, t5, t6⟩ := c2
  have fc : ∀ q, q ≠ 266 → q ≠ 267 → gc q = gb q := fun q h1 h2 => c7.at (fun j => by simp only [scTx]; omega)
  have hd := gdT_rg t2 n (Nat.le_refl _)
  rw [t1] at hd
  have hC5 : C.length ≤ 5 := hd.2.1
  have ic : Inv gc := Inv_fr s1 (fun q a b => fc q (by omega) (by omega))
  have cM : gc pM = gb pM := fc pM (by decide) (by decide)
  have hp0 : zRow gc 14 [] := by
    have := ic.2.2.2.1
    rwa [show pL gc = [] by unfold pL; rw [cM, s5]; rfl] at this
  -- it is written
  have hln : (zLi (fT gc) n).length = n := zLi_len _ _
  have hpg : isPg (zLi (fT gc) n) := ⟨by omega, fun v hv => by
    obtain ⟨k, hk, rfl⟩ := List.getElem_of_mem hv
    rw [zLi_get]
    exact gd_pg t2 (by omega)⟩
  obtain ⟨gd, d1, d2, d3⟩ := L_write xs (pt := 267) (nt := 48) (zLi (fT gc) n) (by omega) (by omega) hpg (t_ar t5) (fun k hk => by rw [zLi_get]; rfl) hp0
  rw [hln] at d1
  have fd : ∀ q, q ≠ 14 → q ≠ 15 → gd q = gc q := fun q h1 h2 => d3.at (fun j => by simp only [scR]; omega)
  have pl : ∀ q, q < 1000 → pgS gd (zLi (fT gc) n) q = gd q := fun q hq => pgS_q _ _ (by simp only [pM_page]; omega) (by simp only [pM]; omega)
  have pe : ∀ q, 1000 ≤ q → pgS gd (zLi (fT gc) n) q = pgS gc (zLi (fT gc) n) q := fun q hq => by
    funext j
    unfold pgS
    rw [fd q (by omega) (by omega)]
  have hHd : HH (pgS gd (zLi (fT gc) n)) = HH gd := HH_gh pl
  have id' : Inv (pgS gd (zLi (fT gc) n)) := ⟨Bd_cg (Bd_pg ic.1 hpg) pe, Rel_cgG (Rel_fr0 (Bd_pg ic.1 hpg) (Rel_pg ic.1 ic.2 d2 (fun q a b _ _ => fd q a b)) (fun q _ _ h => pl q (by omega))) pe⟩
  have dM : ∀ j : Int, j ≠ 1 → pgS gd (zLi (fT gc) n) pM j = gb pM j := fun j hj => by rw [pgS_M _ _ hj, fd pM (by decide) (by decide), cM]
  -- it is taken
  have hag : ∀ k, k < n → fT gc k = pgS gd (zLi (fT gc) n) pM_page (k : Int) := fun k hk => by rw [pgS_p _ _ (by omega), zLi_get]
  obtain ⟨ge, e1, e2, e3, e4, e5, e6, e7, e8, e9⟩ := op_code1 xs id' (by rw [dM 5 (by decide)]; exact s3) (m := n) (by rw [pgS_1, hln]) (D := D) (C := C) (by rw [← rdF_cg hag]; exact t1) (gdT_cg hag t2) c5
  rw [hHd] at e1
  have fe : ∀ q, q = 0 ∨ (265 ≤ q ∧ q < 1000) → ge q = gc q := fun q hq => by rw [e9 q hq, pl q (by omega), fd q (by omega) (by omega)]
  have h00 : ge 0 0 = (3 : Nat) := by rw [fe 0 (Or.inl rfl)]; exact t5
  have hsr : ge pM_signalRows = gb pM_signalRows := by rw [e5 _ (by decide) (by decide) (by decide) (by decide), pgS_q _ _ (by decide) (by decide), fd _ (by decide) (by decide), fc _ (by decide) (by decide)]
  have h8 : ge pM 8 = (N : Int) := by rw [e6 8 (by decide) (by decide), dM 8 (by decide)]; exact s2
  have h265 : ge 265 = gb 265 := by rw [fe 265 (by omega), fc 265 (by omega) (by omega)]
  have hlw : LwS ge ge := by
    refine ⟨e2.1, e2.2, ⟨zAr_law (k := 0) (N := 3) h00 rfl (by omega) (by omega), by rw [h265, h8]; exact b4, by rw [h265, h8, hsr]; exact s7⟩, e3, zAr_law (k := 1) (N := 3) h00 rfl (by omega) (by omega), by rw [fe 266 (by omega), e7, t4]; omega, fun i hi => ?_⟩
    rw [e7] at hi
    obtain ⟨u1, u2⟩ := c6 i (by rw [List.length_append, List.length_singleton]; exact hi)
    obtain ⟨v1, v2⟩ := e8 i hi
    rw [fe 266 (by omega), v1]
    refine ⟨u1, fun k hk => ?_⟩
    rw [v2 k (by rw [v1]; exact hk)]
    exact u2 k hk
  refine ⟨ge, ?_, hlw, by rw [e6 10 (by decide) (by decide), dM 10 (by decide)]; exact s4, e4, h00⟩
  rw [e36, e_L_law_36, c1, zci_ok, d1, zci_ok, if_neg (by decide), pX_ck, e1, zci_ok, if_pos (by decide)]
/-- the refusals at the end -/
theorem L_tail (xs : List Int) {G g : Nat → Int → Int} (h : LwS G g) : zx zblk xs 0 865 [] [.inl 1] (HH g) = some (some (.inl 1), HH g) := by rw [e_L_law_865, if_pos (Or.inr rfl)]
theorem L_end (xs : List Int) (hx : xs.length ≤ 260) {G g : Nat → Int → Int} {th : Nat} (h : LwS G g) (hG : pgS G [] = G) (hN : g 0 0 = (6 : Nat)) (hth : th ≤ 5) (h10 : G pM 10 = (th : Int)) (hw : ∀ t : Nat, t < th → g 268 (t : Int) = G pM_weights t) : ∃ g1, zx zblk xs 0 646 [some (.inr (.inr (some 0))), some (.inr (.inr (some pX))), some (.inr (.inr (some 265))), some (.inr (.inr (some 266))), none, none, some (.inl ((th : Int))), some (.inr (.inr (some 268)))] [] (HH g) = some (some (.inl 1), HH g1) := by
  have hn := h.n
  obtain ⟨ga, a1, a2, a3, a4⟩ := L_rows xs hx h hG hN
  obtain ⟨gb, b1, b2, b3, b4⟩ := L_twice xs a2 a3
  have b268 : gb 268 = ga 268 := b4.at (fun j => by simp only [scX, pX, pX_signals, pX_weights, pX_codes, pX_page, pX_notes, pX_keptWeights, pX_keptNotes, pX_said, pX_heard, pX_pool, pX_struck, pX_readings, pM, pM_page, pM_readRows, pM_speeches, pM_rows, pM_signalRows, pM_weights, pM_plain, pM_plains, pM_ahead, pM_heap, pM_noteRows, pM_ways, pM_before, pM_keptWeights, pM_keptRows]; omega)
  have hww : LwW G gb th := ⟨zAr_law (k := 3) (N := 14) b3 rfl (by omega) (by omega), hth, h10, fun t ht => by rw [b268, a4]; exact hw t ht⟩
  have c1 := L_lengths xs b2 hww
  obtain ⟨gc, d1, d2⟩ := L_stops xs hx b2 b3
  have no1 : ¬ ((0 : Int) ≤ 1 ∧ (1 : Int) < G pM 5) := fun z => by rw [h.2.2.2.1] at z; omega
  have v1 : spS G 0 (nS G 0 : Int) 0 = -101 := by unfold spS; rw [if_pos h.c1, if_neg (by omega)]
  have v2 : spS G 1 0 0 = -101 := by unfold spS; rw [if_neg no1]
  have v3 : spS G 0 0 6 = -102 := by unfold spS spO; rw [if_pos h.c1, if_pos (by omega), if_neg (by decide), if_neg (by decide), if_neg (by decide), if_neg (by decide)]
  have v4 : spS G 0 0 21 = -102 := by unfold spS spO; rw [if_pos h.c1, if_pos (by omega), if_neg (by decide), if_neg (by decide), if_neg (by decide), if_neg (by decide)]
  have v5 : clS G 0 3 = -102 := by unfold clS; rw [if_pos h.c1, if_neg (by decide)]
  have v6 : clS G 1 0 = -101 := by unfold clS; rw [if_neg no1]
  have v7 : srS G 0 2 = -102 := by unfold srS; rw [if_pos h.c1, if_neg (by decide)]
  have v8 : apS G 1 = -101 := by unfold apS; rw [if_neg no1]
  have v9 : twS G (-1) = -101 := by unfold twS; rw [if_neg (by omega)]
  have v10 : lfS G 0 256 = -102 := by unfold lfS; rw [if_pos h.c1, if_neg (by decide)]
  have v11 : stopS G 1 = -101 := by unfold stopS; rw [if_neg no1]
  have v12 : meS G 0 2 = -102 := by unfold meS; rw [if_pos h.c1, if_neg (by decide)]
  have v13 : dlS G 0 18 = -102 := by unfold dlS; rw [if_pos h.c1, if_neg (by decide)]
  have v14 : dlS G 0 2 = -102 := by unfold dlS; rw [if_pos h.c1, if_neg (by decide)]
  have v15 : odS G 1 = -101 := by unfold odS; rw [if_neg no1]
  have zn : zw (nS G 0 : Int) = nS G 0 := zw_id (by omega) (by omega)
  obtain ⟨gd, e1, e2⟩ := X_twice xs d2.1 d2.2.1 (c := -1) rfl
  have d3 := LS_scX d2 e2
  obtain ⟨ge, f1, f2⟩ := X_left xs d3.1 d3.2.1 (c := 0) (st := 256) rfl rfl
  have d4 := LS_scX d3 f2
  obtain ⟨gf, g1, g2⟩ := X_stop xs d4.1 d4.2.1 (c := 1) rfl
  have d5 := LS_scX d4 g2
  refine ⟨gf, ?_⟩
  rw [e_L_law_646, a1, zci_ok, if_neg (by decide), b1, zci_ok, if_neg (by decide), c1, zci_ok, if_neg (by decide), d1, zci_ok, if_neg (by decide), HF_ai d2.2.2.2.2.1 (by omega) (by omega), d2.2.2.2.2.2.1]
  rw [pX_ck, X_speech xs d2.1 d2.2.1 rfl zn rfl, zci_ok, v1, if_neg (fun z => z rfl)]
  rw [pX_ck, X_speech xs d2.1 d2.2.1 rfl rfl rfl, zci_ok, v2, if_neg (fun z => z rfl)]
  rw [pX_ck, X_speech xs d2.1 d2.2.1 rfl rfl rfl, zci_ok, v3, if_neg (fun z => z rfl)]
  rw [pX_ck, X_speech xs d2.1 d2.2.1 rfl rfl rfl, zci_ok, v4, if_neg (fun z => z rfl)]
  rw [pX_ck, X_clear xs d2.1 d2.2.1 rfl rfl, zci_ok, v5, if_neg (fun z => z rfl)]
  rw [pX_ck, X_clear xs d2.1 d2.2.1 rfl rfl, zci_ok, v6, if_neg (fun z => z rfl)]
  rw [pX_ck, X_starts xs d2.1 d2.2.1 rfl rfl, zci_ok, v7, if_neg (fun z => z rfl)]
  rw [pX_ck, X_apart xs d2.1 d2.2.1 rfl, zci_ok, v8, if_neg (fun z => z rfl)]
  rw [pX_ck, e1, zci_ok, v9, if_neg (fun z => z rfl)]
  rw [pX_ck, f1, zci_ok, v10, if_neg (fun z => z rfl)]
  rw [pX_ck, g1, zci_ok, v11, if_neg (fun z => z rfl)]
  rw [pX_ck, X_mean xs d5.1 d5.2.1 rfl rfl, zci_ok, v12, if_neg (fun z => z rfl)]
  rw [pX_ck, X_dealt xs d5.1 d5.2.1 rfl rfl, zci_ok, v13, if_neg (fun z => z rfl)]
  rw [pX_ck, X_dealt xs d5.1 d5.2.1 rfl rfl, zci_ok, v14, if_neg (fun z => z rfl)]
  rw [pX_ck, X_oddness xs d5.1 d5.2.1 rfl, zci_ok, v15, if_neg (fun z => z rfl)]
  exact L_tail xs d5
theorem L_law (xs : List Int) (hx : xs.length ≤ 260) : ∃ g1, zx zblk xs 0 0 [some (.inr (.inr (some 0)))] [] [] = some (some (.inl 1), HH g1) := by
  obtain ⟨g1, a1, a2, a3, a4, a5⟩ := L_setup xs hx
  have hv := atV_rg (clV xs 18) (n := 6) (by omega)
  obtain ⟨th, hth⟩ : ∃ th : Nat, atV (clV xs 18) 6 = th := ⟨(atV (clV xs 18) 6).toNat, by omega⟩
  have iw : Inv (gnw g1 3) := Inv_gnw ⟨a2.1, a2.2.1⟩ (by omega)
  have fw : ∀ q, q ≠ 0 → q ≠ 268 → gnw g1 3 q = g1 q := fun q h1 h2 => gnw_q h1 h2
  have wM := fw pM (by decide) (by decide)
  have lw : LwS (gnw g1 3) (gnw g1 3) := by
    have := LS_gnw a2 a5 (n := 8) rfl (by omega)
    obtain ⟨h1, h2, ⟨h3, h3', h3''⟩, h4, h5, h6, h7⟩ := this
    have en : nS (gnw g1 3) = nS g1 := by funext c; unfold nS; rw [fw pM_speeches (by decide) (by decide)]
    have el : lenS (gnw g1 3) = lenS g1 := by funext c s; unfold lenS; rw [fw pM_rows (by decide) (by decide)]
    have er : rowS (gnw g1 3) = rowS g1 := by funext c s k; unfold rowS; rw [fw pM_rows (by decide) (by decide)]
    refine ⟨iw.1, iw.2, ⟨h3, by rw [wM]; exact h3', by rw [wM, fw pM_signalRows (by decide) (by decide)]; exact h3''⟩, by rw [wM]; exact h4, h5, ?_⟩
    rw [en, el, er]
    exact ⟨h6, h7⟩
  obtain ⟨g2, b1, b2, b3, b4, b5, b6⟩ := L_things xs hx (th := th) (by omega) th 0 (gnw g1 3) (by omega) lw (by rw [wM, a3]; rfl) (by rw [wM]; exact a4) gnw_0 (fun t ht => by omega)
  rw [z0N] at b1
  -- two rows more, the page is empty
  have l1 := LS_gnw b2 b5 (n := 12) rfl (by omega)
  have l2 := LS_gnw l1 gnw_0 (n := 12) rfl (by omega)
  have f2 : ∀ q, q ≠ 0 → q ≠ 269 → q ≠ 270 → gnw (gnw g2 4) 5 q = g2 q := fun q h0 h1 h2 => by rw [gnw_q h0 (by omega), gnw_q h0 (by omega)]
  have hp0 : zRow (gnw (gnw g2 4) 5) 14 [] := by
    have := l2.2.1.2.2.1
    rwa [show pL g2 = [] by unfold pL; rw [b4]; rfl] at this
  have l3 : LwS (pgS g2 []) (gnw (gnw g2 4) 5) := LS_pg l2 (l := []) ⟨by simp, fun v hv => by simp at hv⟩ hp0 (fun q _ _ _ _ => rfl)
  have hn := l3.n
  have t0 : Trk (fun s : Nat => plS (pgS g2 []) 0 0 s) (nS (pgS g2 []) 0) 0 0 99 (-1) (-1) (-1) (-1) := ⟨ApT_0 _ _, Fst_0 _ _, Fst_0 _ _⟩
  obtain ⟨g3, ap, u1, u2, o1, o2, c1, c2, c3⟩ := T4 xs (G := pgS g2 []) th (nS (pgS g2 []) 0) 0 (gnw (gnw g2 4) 5) 99 (-1) (-1) (-1) (-1) (by omega) l3 (zAr_law (k := 4) (N := 6) gnw_0 rfl (by omega) (by omega)) (zAr_law (k := 5) (N := 6) gnw_0 rfl (by omega) (by omega)) t0
  rw [z0N] at c1
  have l4 : LwS (pgS g2 []) g3 := LS_fr l3 (fun q a b => c3.at (fun j => by omega))
  obtain ⟨g4, d1⟩ := L_end xs hx (th := th) l4 (pgS_pgS g2 [] []) (by rw [c3 0 0 (by omega)]; exact gnw_0) (by omega) (by rw [pgS_M _ _ (by decide)]; exact b3) (fun t ht => by
    rw [c3.at (fun j => by omega), f2 268 (by omega) (by omega) (by omega), pgS_q _ _ (by decide) (by decide)]
    exact b6 t ht)
  refine ⟨g4, ?_⟩
  have e67 : zx zblk xs 0 67 [some (.inr (.inr (some 0))), some (.inr (.inr (some pX))), some (.inr (.inr (some 265))), some (.inr (.inr (some 266)))] [] (HH g1) = zx zblk xs 0 89 [some (.inr (.inr (some 0))), some (.inr (.inr (some pX))), some (.inr (.inr (some 265))), some (.inr (.inr (some 266))), none, none, some (.inl ((th : Int))), some (.inr (.inr (some 268))), some (.inl (0))] [] (HH (gnw g1 3)) := by
    rw [e_L_law_67, show (18 : Int) = ((18 : Nat) : Int) from rfl, L_cell xs hx 18 (by omega), zci_ok, L_at xs _ 6 _ (by omega) (by omega), zci_ok, hth, zna_at (m := 8) (N := 3) (n := 8) rfl a5 rfl (by omega)]
  have e139 : zx zblk xs 0 139 [some (.inr (.inr (some 0))), some (.inr (.inr (some pX))), some (.inr (.inr (some 265))), some (.inr (.inr (some 266))), none, none, some (.inl ((th : Int))), some (.inr (.inr (some 268)))] [] (HH g2) = zx zblk xs 0 170 [some (.inr (.inr (some 0))), some (.inr (.inr (some pX))), some (.inr (.inr (some 265))), some (.inr (.inr (some 266))), none, none, some (.inl ((th : Int))), some (.inr (.inr (some 268))), some (.inr (.inr (some 269))), some (.inr (.inr (some 270))), some (.inl (99)), some (.inl (-1)), some (.inl (-1)), some (.inl (-1)), some (.inl (-1)), some (.inl (0))] [] (HH (gnw (gnw g2 4) 5)) := by
    rw [e_L_law_139, zna_at (m := 12) (N := 4) (n := 12) rfl b5 rfl (by omega), zna_at (m := 12) (N := 5) (n := 12) rfl gnw_0 rfl (by omega)]
  rw [a1, e67, b1, e139, c1, T5 xs l4 th c2, d1]
def zszS : List (Nat × List Nat) → Nat
  | [] => 0
  | c :: t => c.2.length + zszS t
theorem zsz_map (f : Nat → Int → Int) : ∀ (l : List (Nat × List Nat)) (n : Nat), zsz (l.mapIdx fun q c => zcell c (f (q + n))) = zszS l
  | [], n => rfl
  | c :: t, n => by
    rw [List.mapIdx_cons]
    have ih := zsz_map f t (n + 1)
    show (zcell c (f (0 + n))).2.length + zsz (t.mapIdx fun q c => zcell c (f (q + 1 + n))) = c.2.length + zszS t
    rw [show (fun (q : Nat) (c : Nat × List Nat) => zcell c (f (q + 1 + n))) = fun q c => zcell c (f (q + (n + 1))) by funext q c; rw [Nat.add_assoc, Nat.add_comm 1 n], ih]
    simp [zcell]
theorem zszS_app (a b : List (Nat × List Nat)) : zszS (a ++ b) = zszS a + zszS b := by
  induction a with
  | nil => simp [zszS]
  | cons c t ih => rw [List.cons_append, zszS, zszS, ih]; omega
theorem zszS_take (l : List Nat) (n : Nat) : zszS ((l.take n).map fun m => (100, List.replicate m 0)) ≤ zszS (l.map fun m => (100, List.replicate m 0)) := by
  induction l generalizing n with
  | nil => simp [zszS]
  | cons c t ih =>
    cases n with
    | zero => simp [zszS]
    | succ n =>
      rw [List.take_succ_cons, List.map_cons, List.map_cons, zszS, zszS]
      have := ih n
      omega
theorem HH_len (g : Nat → Int → Int) : (HH g).length ≤ 280 := by
  have hl := zsh_len
  have hw : zlw.length = 16 := rfl
  unfold HH zsF
  rw [List.length_mapIdx, List.length_append, List.length_map, List.length_take]
  omega
theorem HH_sz (g : Nat → Int → Int) : zsz (HH g) ≤ 5000 := by
  have h1 : zsz (HH g) = zszS (zsF g) := zsz_map g (zsF g) 1
  have h2 := zszS_take zlw (g 0 0).toNat
  have h3 : zszS zsh ≤ 4000 := by decide +kernel
  have h4 : zszS (zlw.map fun m => (100, List.replicate m 0)) ≤ 1000 := by decide +kernel
  rw [h1, zsF, zszS_app]
  omega
theorem zmain (xs : List Int) (hl : xs.length ≤ 260) : ∃ h', zx zblk xs 0 0 [some (.inr (.inr (some 0)))] [] [] = some (some (.inl 1), h') ∧ h'.length ≤ 653791 ∧ zsz h' ≤ 7140876 := by
  obtain ⟨g1, q⟩ := L_law xs hl
  have h1 := HH_len g1
  have h2 := HH_sz g1
  exact ⟨HH g1, q, by omega, by omega⟩
