/-! ===== signal ===== -/
theorem X_codeAt_q (xs : List Int) {g : Nat → Int → Int} {c n : Nat} (h3 : g pX 3 = n) (hn : n ≤ 4) (hc : c < n) : zx zblk xs 69 0 [some (.inr (.inr (some pX))), some (.inl ((c : Int)))] [] (HH g) = some (some (.inr (.inr (some (PC c)))), HH g) := by
  have h4 : zsh[pX_codes - 1]? = some (102, [104, 145, 186, 227]) := rfl
  have hr : ([104, 145, 186, 227] : List Nat)[(c : Int).toNat]? = some (PC c + 3) := by
    have : c = 0 ∨ c = 1 ∨ c = 2 ∨ c = 3 := by omega
    rcases this with rfl | rfl | rfl | rfl <;> rfl
  rw [e_X_codeAt_0, zw_id (by omega) (by omega), if_neg (by omega), pX_g_codesRead, h3, zw_id (by omega) (by omega), if_neg (by omega), pX_r_codes, HH_ln h4 (by decide) (by show 100 ≤ 102; omega), if_neg (by show ¬ zw 4 ≤ _; rw [show zw 4 = 4 from rfl]; omega), pX_r_codes, HH_aa (n := 0) h4 (by decide) (by omega) (by omega) (by omega) hr, e_X_codeAt_31]
/-- the signals of a memory and of the next one -/
def sgNx (g G : Nat → Int → Int) (N : Nat) (k n se od : Int) : Prop := g pM 8 = N ∧ G pM 8 = (N : Int) + 1 ∧ (∀ j : Int, j < 4 * N → G pM_signalRows j = g pM_signalRows j) ∧ G pM_signalRows (4 * N) = k ∧ G pM_signalRows (4 * N + 1) = n ∧ G pM_signalRows (4 * N + 2) = se ∧ G pM_signalRows (4 * N + 3) = od
theorem sgNx_L {g G : Nat → Int → Int} {N : Nat} {k n se od : Int} (h : sgNx g G N k n se od) : sigL G 0 = sigL g 0 ++ [k] ∧ sigL G 1 = sigL g 1 ++ [n] ∧ sigL G 2 = sigL g 2 ++ [se] ∧ sigL G 3 = sigL g 3 ++ [od] := by
  obtain ⟨h1, h2, h3, h4, h5, h6, h7⟩ := h
  unfold sigL
  rw [h1, h2, show ((N : Int) + 1).toNat = N + 1 by omega, show ((N : Int)).toNat = N by omega, zLi_snoc, zLi_snoc, zLi_snoc, zLi_snoc, h5, h6, h7, Int.add_zero, h4]
  refine ⟨?_, ?_, ?_, ?_⟩
  · rw [zLi_cg (fun s hs => h3 _ (by omega))]
  · rw [zLi_cg (fun s hs => h3 _ (by omega))]
  · rw [zLi_cg (fun s hs => h3 _ (by omega))]
  · rw [zLi_cg (fun s hs => h3 _ (by omega))]
theorem Signals_tell (xs : List Int) {g G : Nat → Int → Int} {N : Nat} {k n se od : Int} (hN : N < 8) (h : sgNx g G N k n se od) (hR : RelS g g) : ∃ g1, zx zblk xs 34 0 [some (.inr (.inr (some pX_signals))), some (.inl (k)), some (.inl (n)), some (.inl (se)), some (.inl (od))] [] (HH g) = some (none, HH g1) ∧ RelS G g1 ∧ zFr (fun q _ => 3 ≤ q ∧ q ≤ 10) g g1 := by
  obtain ⟨l0, l1, l2, l3⟩ := sgNx_L h
  have hl : ∀ j, (sigL g j).length < 8 := fun j => by unfold sigL; rw [zLi_len, h.1]; omega
  obtain ⟨r0, r1, r2, r3⟩ := hR
  obtain ⟨ga, a1, a2, a3⟩ := Row_add xs Rw3 r0 (hl 0) k
  have fa : ∀ q, q ≠ 3 → q ≠ 4 → ga q = g q := fun q h1 h2 => a3.at (fun j => by simp only [scR]; omega)
  obtain ⟨gb, b1, b2, b3⟩ := Row_add xs Rw5 (zRow_fr r1 (fa _ (by omega) (by omega)) (fa _ (by omega) (by omega))) (hl 1) n
  have fb : ∀ q, q ≠ 5 → q ≠ 6 → gb q = ga q := fun q h1 h2 => b3.at (fun j => by simp only [scR]; omega)
  obtain ⟨gc, c1, c2, c3⟩ := Row_add xs Rw7 (zRow_fr (zRow_fr r2 (fa _ (by omega) (by omega)) (fa _ (by omega) (by omega))) (fb _ (by omega) (by omega)) (fb _ (by omega) (by omega))) (hl 2) se
  have fc : ∀ q, q ≠ 7 → q ≠ 8 → gc q = gb q := fun q h1 h2 => c3.at (fun j => by simp only [scR]; omega)
  obtain ⟨gd, d1, d2, d3⟩ := Row_add xs Rw9 (zRow_fr (zRow_fr (zRow_fr r3 (fa _ (by omega) (by omega)) (fa _ (by omega) (by omega))) (fb _ (by omega) (by omega)) (fb _ (by omega) (by omega))) (fc _ (by omega) (by omega)) (fc _ (by omega) (by omega))) (hl 3) od
  have fd : ∀ q, q ≠ 9 → q ≠ 10 → gd q = gc q := fun q h1 h2 => d3.at (fun j => by simp only [scR]; omega)
  refine ⟨gd, ?_, ⟨?_, ?_, ?_, ?_⟩, fun q j hq => ?_⟩
  · rw [e_Signals_tell_0, Sg_0, Rw_ck Rw3, a1, zcv_ok, Sg_1, Rw_ck Rw5, b1, zcv_ok, Sg_2, Rw_ck Rw7, c1, zcv_ok, Sg_3, Rw_ck Rw9, d1, zcv_ok]
  · rw [l0]
    exact zRow_fr (zRow_fr (zRow_fr a2 (fb _ (by omega) (by omega)) (fb _ (by omega) (by omega))) (fc _ (by omega) (by omega)) (fc _ (by omega) (by omega))) (fd _ (by omega) (by omega)) (fd _ (by omega) (by omega))
  · rw [l1]
    exact zRow_fr (zRow_fr b2 (fc _ (by omega) (by omega)) (fc _ (by omega) (by omega))) (fd _ (by omega) (by omega)) (fd _ (by omega) (by omega))
  · rw [l2]
    exact zRow_fr c2 (fd _ (by omega) (by omega)) (fd _ (by omega) (by omega))
  · rw [l3]
    exact d2
  · rw [fd q (by omega) (by omega), fc q (by omega) (by omega), fb q (by omega) (by omega), fa q (by omega) (by omega)]
theorem X_signal_go (xs : List Int) {g G : Nat → Int → Int} (hI : Inv g) {N C : Nat} {k n se od : Int} (hN : N < 8) (h : sgNx g G N k n se od) (hC : g pM 5 = C) (hQ : bdQ G) (hS : bdS G) (hro : G pM_rows = g pM_rows) : ∃ g1, zx zblk xs 47 68 [some (.inr (.inr (some pX))), some (.inl (k)), some (.inl (n)), some (.inl (se)), some (.inl (od))] [] (HH g) = zx zblk xs 47 120 [some (.inr (.inr (some pX)))] [] (HH g1) ∧ RelS G g1 ∧ (∀ c, c < C → zCd g1 (PC c) (nS g c) (fun s => plS G 0 c s)) ∧ zFr (fun q _ => (3 ≤ q ∧ q ≤ 10) ∨ ∃ c, c < C ∧ PC c + 25 ≤ q ∧ q ≤ PC c + 40) g g1 := by
  obtain ⟨hB, hR⟩ := id hI
  obtain ⟨-, q5, -⟩ := id hB.1
  obtain ⟨gt, t1, t2, t3⟩ := Signals_tell xs hN h hR.1
  have h3t : gt pX 3 = C := by rw [t3 pX 3 (by simp only [pX]; omega), hR.2.2.2.1.1, hC]
  have loop : ∀ (r i : Nat) (gk : Nat → Int → Int), i + r = C → (∀ c, c < i → zCd gk (PC c) (nS g c) (fun s => plS G 0 c s)) → zFr (fun q _ => ∃ c, c < C ∧ PC c + 25 ≤ q ∧ q ≤ PC c + 40) gt gk → ∃ g1, zx zblk xs 47 83 [some (.inr (.inr (some pX))), none, none, none, none, some (.inl ((i : Int)))] [] (HH gk) = zx zblk xs 47 120 [some (.inr (.inr (some pX)))] [] (HH g1) ∧ (∀ c, c < C → zCd g1 (PC c) (nS g c) (fun s => plS G 0 c s)) ∧ zFr (fun q _ => ∃ c, c < C ∧ PC c + 25 ≤ q ∧ q ≤ PC c + 40) gt g1 := by
    intro r
    induction r with
    | zero =>
      intro i gk hi hc hf
      have : i = C := by omega
      subst this
      have k3 : gk pX 3 = i := by rw [hf pX 3 (by rintro ⟨c, z⟩; simp only [PC, pX] at z; omega)]; exact h3t
      refine ⟨gk, ?_, hc, hf⟩
      rw [e_X_signal_83, pX_g_codesRead, k3, if_pos (Int.le_refl _)]
    | succ r ih =>
      intro i gk hi hc hf
      have k3 : gk pX 3 = C := by rw [hf pX 3 (by rintro ⟨c, z⟩; simp only [PC, pX] at z; omega)]; exact h3t
      have hP := zCo_PC (c := i) (by omega)
      obtain ⟨n1, n2, n3⟩ := nS_rg hB (c := (i : Int)) (by omega)
      obtain ⟨j1, j2⟩ := (hR.2.2.2.1.2 i (by omega)).1 (by omega)
      have hgk : ∀ q, PC i ≤ q → q ≤ PC i + 20 → gk q = g q := fun q h1 h2 => by
        rw [hf.at (fun j => by rintro ⟨c, z⟩; simp only [PC] at z h1 h2; omega), t3.at (fun j => by simp only [PC] at h1; omega)]
      obtain ⟨gm, m1, m2, m3⟩ := Code_makePlain xs (G := G) (g := gk) hQ hS (RelS_fr t2 (fun q h1 h2 => hf.at (fun j => by rintro ⟨c, z⟩; simp only [PC] at z; omega))) hP (by simp only [PC]; omega) (n := nS g i) n3 (by rw [hgk _ (by omega) (by omega)]; exact j1.2.1) (R := fun s => rowL g i s) (fun s hs => by
        obtain ⟨o1, o2, o3, o4⟩ := rowL_ok hB (c := (i : Int)) (s := (s : Int)) (by omega) (by omega)
        exact ⟨zRow_fr (j2 s hs) (hgk _ (by omega) (by omega)) (hgk _ (by omega) (by omega)), o2, o4⟩)
      obtain ⟨g1, q1, q2, q3⟩ := ih (i + 1) gm (by omega) (fun c hc' => by
        by_cases e : c = i
        · subst e
          refine ⟨hP, ?_, n3, fun s hs => ?_⟩
          · rw [m3 (PC c) 2 (by omega), hgk _ (by omega) (by omega)]
            exact j1.2.1
          · obtain ⟨o1, o2, o3, o4⟩ := rowL_ok hB (c := (c : Int)) (s := (s : Int)) (by omega) (by omega)
            have hpl : pln G 0 (fun k => (rowL g c s).getD k 0) (rowL g c s).length = plS G 0 c s := by
              unfold plS
              have e1 : lenS G c s = lenS g c s := by unfold lenS; rw [hro]
              have e2 : rowS G c s = rowS g c s := by unfold rowS; rw [hro]
              rw [e1, e2, o1]
              exact pln_cg G 0 (fun k hk => zLi_getD _ hk)
            have m2' := m2 s hs
            rw [hpl] at m2'
            have hlen := pln_len G 0 (fun k => (rowL g c s).getD k 0) (rowL g c s).length
            rw [hpl] at hlen
            refine ⟨m2', by show (plS G 0 c s).length ≤ 10; omega, ?_⟩
            show isR7 (plS G 0 c s)
            rw [← hpl]
            refine isR7_pln hS 0 (fun k hk => ?_)
            have := isR7_get o4 hk
            show 0 ≤ (rowL g c s).getD k 0 ∧ (rowL g c s).getD k 0 ≤ 7
            rw [List.getD, List.getElem?_eq_getElem hk, Option.getD_some]
            exact this
        · exact zCd_fr (hc c (by omega)) (fun q h1 h2 => m3.at (fun j => by simp only [PC] at h1 h2 ⊢; omega))) (hf.tr (m3.mono (fun q j z => ⟨i, by omega, z.1, z.2⟩)))
      refine ⟨g1, ?_, q2, q3⟩
      rw [e_X_signal_83, pX_g_codesRead, k3, if_neg (by rw [zw_id (by omega) (by omega), zw_id (by omega) (by omega)]; omega), pX_ck, X_codeAt_q xs k3 (by omega) (by omega), zcr_ok, zif_some, pX_r_signals, Co_ck hP, m1, zcv_ok, e_X_signal_114, ← Int.natCast_succ]
      exact q1
  obtain ⟨g1, q1, q2, q3⟩ := loop C 0 gt (by omega) (fun c hc => by omega) zFr.rf
  rw [z0N] at q1
  refine ⟨g1, ?_, RelS_fr t2 (fun q h1 h2 => q3.at (fun j => by rintro ⟨c, z⟩; simp only [PC] at z; omega)), q2, fun q j hq => ?_⟩
  · rw [e_X_signal_68, pX_r_signals, Sg_ck, t1, zcv_ok]
    exact q1
  · rw [q3 q j (fun z => hq (Or.inr z)), t3 q j (fun z => hq (Or.inl z))]

