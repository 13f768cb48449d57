/-! ===== signal: refusals ===== -/
def tnS (g : Nat → Int → Int) (k n : Int) : Prop := if k = 2 then 0 ≤ n ∧ n < g pM 8 ∧ kindS g n < 2 else n = -1
theorem X_signal_pre (xs : List Int) {g : Nat → Int → Int} (hI : Inv g) {k n se od : Int} (hk : zw k = k) (hn : zw n = n) (hs : zw se = se) (ho : zw od = od) [Decidable (tnS g k n)] : zx zblk xs 139 0 [some (.inr (.inr (some pX))), some (.inl (k)), some (.inl (n)), some (.inl (se)), some (.inl (od))] [] (HH g) = if ¬ (0 ≤ k ∧ k ≤ 4) then some (some (.inl (-102)), HH g) else if ¬ tnS g k n then some (some (.inl (-101)), HH g) else if ¬ (1 ≤ se ∧ se ≤ 9 ∧ 0 ≤ od ∧ od ≤ 9) then some (some (.inl (-102)), HH g) else if g pM 8 = 8 then some (some (.inl (-104)), HH g) else zx zblk xs 139 68 [some (.inr (.inr (some pX))), some (.inl (k)), some (.inl (n)), some (.inl (se)), some (.inl (od))] [] (HH g) := by
  obtain ⟨hB, hR⟩ := id hI
  obtain ⟨-, -, q8, -⟩ := id hB.1
  have e9 : zx zblk xs 139 9 [] [] (HH g) = some (some (.inl (-102)), HH g) := e_X_signal_9 xs _
  have e50 : zx zblk xs 139 50 [] [] (HH g) = some (some (.inl (-102)), HH g) := e_X_signal_50 xs _
  rw [e_X_signal_0, hk, show zw 4 = 4 from rfl]
  by_cases a : 0 ≤ k ∧ k ≤ 4
  · rw [if_neg (by omega), if_pos a.2, if_neg (fun z => z a), e_X_signal_12, pX_r_signals, Sg_ck, Signals_isToneFor xs hB.1 hB.2.2.2.1 hR.1 k n hk hn, zci_ok, zb_zw]
    by_cases b : tnS g k n
    · have b' : if k = 2 then 0 ≤ n ∧ n < g pM 8 ∧ kindS g n < 2 else n = -1 := b
      rw [zb_t b', if_pos (by decide), if_neg (fun z => z b), e_X_signal_27, hs, ho, show zw 1 = 1 from rfl, show zw 9 = 9 from rfl, e50]
      by_cases c : 1 ≤ se ∧ se ≤ 9 ∧ 0 ≤ od ∧ od ≤ 9
      · rw [if_neg (by omega), if_neg (by omega), if_neg (by omega), if_pos (by omega), if_neg (fun z => z c), e_X_signal_53, pX_r_signals, Sg_ck, Signals_told xs hB.1 hR.1, zci_ok, show zw 8 = 8 from rfl, zw_id (by omega) (by omega)]
        by_cases d : g pM 8 = 8
        · rw [if_neg (by omega), if_pos d]
        · rw [if_pos (by omega), if_neg d]
      · rw [if_pos c]
        by_cases c1 : se < 1
        · rw [if_pos c1]
        · by_cases c2 : 9 < se
          · rw [if_neg c1, if_pos c2]
          · by_cases c3 : od < 0
            · rw [if_neg c1, if_neg c2, if_pos c3]
            · rw [if_neg c1, if_neg c2, if_neg c3, if_neg (by omega)]
    · have b' : ¬ (if k = 2 then 0 ≤ n ∧ n < g pM 8 ∧ kindS g n < 2 else n = -1) := b
      rw [zb_f b', if_neg (by decide), if_pos b]
  · rw [if_pos a]
    by_cases a1 : k < 0
    · rw [if_pos a1, e9]
    · rw [if_neg a1, if_neg (by omega), e9]
theorem M_signal_pre (xs : List Int) {g : Nat → Int → Int} (hB : Bd g) {k n se od : Int} (hk : zw k = k) (hn : zw n = n) (hs : zw se = se) (ho : zw od = od) [Decidable (tnS g k n)] : zx zblk xs 10 0 [some (.inr (.inr (some pM))), some (.inl (k)), some (.inl (n)), some (.inl (se)), some (.inl (od))] [] (HH g) = if ¬ (0 ≤ k ∧ k ≤ 4) then some (some (.inl (-102)), HH g) else if ¬ tnS g k n then some (some (.inl (-101)), HH g) else if ¬ (1 ≤ se ∧ se ≤ 9 ∧ 0 ≤ od ∧ od ≤ 9) then some (some (.inl (-102)), HH g) else if g pM 8 = 8 then some (some (.inl (-104)), HH g) else zx zblk xs 10 116 [some (.inr (.inr (some pM))), some (.inl (k)), some (.inl (n)), some (.inl (se)), some (.inl (od))] [] (HH g) := by
  obtain ⟨-, -, q8, -⟩ := id hB.1
  have e66 : ∀ v : Int, zx zblk xs 10 66 [some (.inr (.inr (some pM))), some (.inl (k)), some (.inl (n)), some (.inl (se)), some (.inl (od))] [.inl v] (HH g) = if zw v ≠ 0 then zx zblk xs 10 76 [some (.inr (.inr (some pM))), some (.inl (k)), some (.inl (n)), some (.inl (se)), some (.inl (od))] [] (HH g) else some (some (.inl (-101)), HH g) := fun v => e_M_signal_66 xs _ _ _ _ _ _ _
  have e15 : zx zblk xs 10 15 [some (.inr (.inr (some pM))), some (.inl (k)), some (.inl (n)), some (.inl (se)), some (.inl (od))] [] (HH g) = if tnS g k n then zx zblk xs 10 76 [some (.inr (.inr (some pM))), some (.inl (k)), some (.inl (n)), some (.inl (se)), some (.inl (od))] [] (HH g) else some (some (.inl (-101)), HH g) := by
    have e52 : zx zblk xs 10 52 [some (.inr (.inr (some pM))), some (.inl (k)), some (.inl (n)), some (.inl (se)), some (.inl (od))] [] (HH g) = some (some (.inl (-101)), HH g) := by rw [e_M_signal_52, e66, if_neg (by decide)]
    rw [e_M_signal_15, hk, show zw 2 = 2 from rfl]
    by_cases a : k = 2
    · rw [if_neg (fun z => z a), pM_g_signals, zw_id (a := g pM 8 - 1) (by omega) (by omega), M_in' xs _ hn rfl (zwl_id (by omega) (by omega)), zci_ok, zb_zw]
      by_cases b : 0 ≤ n ∧ n < g pM 8
      · have hb := hB.2.2.2.1 n b.1 b.2
        have hkd : kindS g n = g pM_signalRows (4 * n) := if_pos b
        rw [zb_t (by omega), if_neg (by decide), pM_r_signalRows, pM_a_signalRows xs _ (by omega) (by omega), zw_id (by omega) (by omega)]
        by_cases c : g pM_signalRows (4 * n) < 2
        · rw [if_neg (by omega), e66, if_pos (by decide), if_pos (by unfold tnS; rw [if_pos a]; omega)]
        · rw [if_pos (by omega), e52, if_neg (by unfold tnS; rw [if_pos a]; omega)]
      · rw [zb_f (by omega), if_pos rfl, e52, if_neg (by unfold tnS; rw [if_pos a]; omega)]
    · rw [if_pos a, e_M_signal_56, hn, show zw (-1) = -1 from rfl]
      by_cases b : n = -1
      · rw [if_neg (fun z => z b), e66, if_pos (by decide), if_pos (by unfold tnS; rw [if_neg a]; exact b)]
      · rw [if_pos b, e_M_signal_65, e66, if_neg (by decide), if_neg (by unfold tnS; rw [if_neg a]; exact b)]
  rw [e_M_signal_0, M_in' xs _ hk rfl rfl, zci_ok, zb_zw]
  by_cases a : 0 ≤ k ∧ k ≤ 4
  · rw [zb_t a, if_pos (by decide), if_neg (fun z => z a), e15]
    by_cases b : tnS g k n
    · have e101 : zx zblk xs 10 101 [] [] (HH g) = some (some (.inl (-102)), HH g) := e_M_signal_101 xs _
      rw [if_pos b, if_neg (fun z => z b), e_M_signal_76, M_in' xs _ hs rfl rfl, zci_ok, zb_zw]
      by_cases c : 1 ≤ se ∧ se ≤ 9
      · rw [zb_t c, if_neg (by decide), M_in' xs _ ho rfl rfl, zci_ok, zb_zw]
        by_cases d : 0 ≤ od ∧ od ≤ 9
        · rw [zb_t d, if_pos (by decide), if_neg (fun z => z ⟨c.1, c.2, d.1, d.2⟩), e_M_signal_104, pM_g_signals, show zw 8 = 8 from rfl, zw_id (by omega) (by omega)]
          by_cases e : g pM 8 = 8
          · rw [if_neg (fun z => z e), if_pos e]
          · rw [if_pos e, if_neg e]
        · rw [zb_f d, if_neg (by decide), e101, if_pos (by omega)]
      · rw [zb_f c, if_pos rfl, e101, if_pos (by omega)]
    · rw [if_neg b, if_pos b]
  · rw [zb_f a, if_neg (by decide), if_pos a]
theorem op_signal (xs : List Int) {g : Nat → Int → Int} (hI : Inv g) {k n se od : Int} (hk : zw k = k) (hn : zw n = n) (hs : zw se = se) (ho : zw od = od) : ∃ v g1 g2, zx zblk xs 139 0 [some (.inr (.inr (some pX))), some (.inl (k)), some (.inl (n)), some (.inl (se)), some (.inl (od))] [] (HH g) = some (some (.inl v), HH g1) ∧ zx zblk xs 10 0 [some (.inr (.inr (some pM))), some (.inl (k)), some (.inl (n)), some (.inl (se)), some (.inl (od))] [] (HH g1) = some (some (.inl v), HH g2) ∧ Inv g2 := by
  obtain ⟨hB, hR⟩ := id hI
  obtain ⟨r1, r2, r3, r4, r5, r6⟩ := id hR
  obtain ⟨hQ, hP, hC, hS, hW, hN, hK⟩ := id hB
  obtain ⟨q1, q5, q8, q10, q18⟩ := id hQ
  have dT := zdc (tnS g k n)
  rw [X_signal_pre xs hI hk hn hs ho]
  by_cases a : 0 ≤ k ∧ k ≤ 4
  · by_cases b : tnS g k n
    · by_cases c : 1 ≤ se ∧ se ≤ 9 ∧ 0 ≤ od ∧ od ≤ 9
      · by_cases d : g pM 8 = 8
        · exact ⟨-104, g, g, by rw [if_neg (fun z => z a), if_neg (fun z => z b), if_neg (fun z => z c), if_pos d], by rw [M_signal_pre xs hB hk hn hs ho, if_neg (fun z => z a), if_neg (fun z => z b), if_neg (fun z => z c), if_pos d], hI⟩
        · obtain ⟨N, hNN⟩ : ∃ N : Nat, g pM 8 = N := ⟨(g pM 8).toNat, by omega⟩
          obtain ⟨C, hCC⟩ : ∃ C : Nat, g pM 5 = C := ⟨(g pM 5).toNat, by omega⟩
          have hN8 : N < 8 := by omega
          have hb : if k = 2 then 0 ≤ n ∧ n < g pM 8 ∧ kindS g n < 2 else n = -1 := b
          have htn : -1 ≤ n ∧ n ≤ 7 ∧ (k = 2 → 0 ≤ n) := by
            by_cases e : k = 2
            · rw [if_pos e] at hb; omega
            · rw [if_neg e] at hb; omega
          have up5 : ∀ g0 : Nat → Int → Int, g0 pM = g pM → g0 pM_signalRows = g pM_signalRows → sgNx g (up (up (up (up (up g0 pM_signalRows (4 * N) k) pM_signalRows (4 * N + 1) n) pM_signalRows (4 * N + 2) se) pM_signalRows (4 * N + 3) od) pM 8 (N + 1)) N k n se od := fun g0 h1 h2 => by
            refine ⟨hNN, up_same _ _ _ _, fun j hj => ?_, ?_, ?_, ?_, ?_⟩
            · rw [up_q (by decide), up_ne _ _ (by omega), up_ne _ _ (by omega), up_ne _ _ (by omega), up_ne _ _ (by omega), h2]
            · rw [up_q (by decide), up_ne _ _ (by omega), up_ne _ _ (by omega), up_ne _ _ (by omega), up_same]
            · rw [up_q (by decide), up_ne _ _ (by omega), up_ne _ _ (by omega), up_same]
            · rw [up_q (by decide), up_ne _ _ (by omega), up_same]
            · rw [up_q (by decide), up_same]
          have bd5 : ∀ G : Nat → Int → Int, sgNx g G N k n se od → bdS G := fun G h => by
            obtain ⟨h1, h2, h3, h4, h5, h6, h7⟩ := h
            intro s s0 s1
            rw [h2] at s1
            by_cases e : s = N
            · subst e
              rw [h4, h5, h6, h7]
              exact ⟨a.1, a.2, htn.1, htn.2.1, htn.2.2, c.1, c.2.1, c.2.2.1, c.2.2.2⟩
            · rw [h3 _ (by omega), h3 _ (by omega), h3 _ (by omega), h3 _ (by omega)]
              exact hS s s0 (by omega)
          have nx := up5 g rfl rfl
          have nx1 : ∀ j : Int, j ≠ 8 → up (up (up (up (up g pM_signalRows (4 * (N : Int)) k) pM_signalRows (4 * N + 1) n) pM_signalRows (4 * N + 2) se) pM_signalRows (4 * N + 3) od) pM 8 (N + 1) pM j = g pM j := fun j hj => by
            rw [up_ne _ _ (fun z => hj z.2), up_p _ _ _ (by decide), up_p _ _ _ (by decide), up_p _ _ _ (by decide), up_p _ _ _ (by decide)]
          have nx2 : up (up (up (up (up g pM_signalRows (4 * (N : Int)) k) pM_signalRows (4 * N + 1) n) pM_signalRows (4 * N + 2) se) pM_signalRows (4 * N + 3) od) pM 8 (N + 1) pM_rows = g pM_rows := by
            rw [up_p _ _ _ (by decide), up_p _ _ _ (by decide), up_p _ _ _ (by decide), up_p _ _ _ (by decide), up_p _ _ _ (by decide)]
          generalize hGx : up (up (up (up (up g pM_signalRows (4 * (N : Int)) k) pM_signalRows (4 * N + 1) n) pM_signalRows (4 * N + 2) se) pM_signalRows (4 * N + 3) od) pM 8 (N + 1) = Gx at nx nx1 nx2
          clear hGx
          have hQx : bdQ Gx := by
            unfold bdQ
            rw [nx.2.1, nx1 1 (by decide), nx1 5 (by decide), nx1 10 (by decide), nx1 18 (by decide)]
            exact ⟨q1, q5, by omega, q10, q18⟩
          obtain ⟨g1, x1, x2, x3, x4⟩ := X_signal_go xs hI hN8 nx hCC hQx (bd5 Gx nx) nx2
          have x5 : ∀ q, 265 ≤ q → g1 q = g q := fun q hq => x4.at (fun j => by rintro (z | ⟨c, z⟩) <;> simp only [PC] at * <;> omega)
          have x6 : ∀ q, q < 3 ∨ (10 < q ∧ q < 101) → g1 q = g q := fun q hq => x4.at (fun j => by rintro (z | ⟨c, z⟩) <;> simp only [PC] at * <;> omega)
          have x7 : ∀ c i, c < 4 → i ≤ 20 → g1 (PC c + i) = g (PC c + i) := fun c i h1 h2 => x4.at (fun j => by rintro (z | ⟨c', z⟩) <;> simp only [PC] at * <;> omega)
          have e1 : es g1 = es g := es_ag x5
          have k8 : g1 pM 8 = N := by rw [x5 pM (by decide)]; exact hNN
          have hkd : tnS g1 k n = tnS g k n := by
            unfold tnS kindS
            rw [x5 pM (by decide), x5 pM_signalRows (by decide)]
          have dT1 := zdc (tnS g1 k n)
          have nx' := up5 g1 (x5 pM (by decide)) (x5 pM_signalRows (by decide))
          refine ⟨N, g1, up (up (up (up (up g1 pM_signalRows (4 * N) k) pM_signalRows (4 * N + 1) n) pM_signalRows (4 * N + 2) se) pM_signalRows (4 * N + 3) od) pM 8 (N + 1), ?_, ?_, ?_⟩
          · rw [if_neg (fun z => z a), if_neg (fun z => z b), if_neg (fun z => z c), if_neg d, x1, e_X_signal_120, pX_r_signals, Sg_ck, Signals_told xs hQx x2, zci_ok, nx.2.1, show (N : Int) + 1 - 1 = N by omega]
          · rw [M_signal_pre xs (es_Bd e1 hB) hk hn hs ho, if_neg (fun z => z a), if_neg (fun z => z (hkd ▸ b)), if_neg (fun z => z c), if_neg (by omega), e_M_signal_116, pM_r_signalRows, pM_g_signals, k8, pM_s_signalRows _ _ (by omega) (by omega), pM_r_signalRows, pM_g_signals, up_p _ _ _ (by decide), k8, pM_s_signalRows _ _ (by omega) (by omega), pM_r_signalRows, pM_g_signals, up_p _ _ _ (by decide), up_p _ _ _ (by decide), k8, pM_s_signalRows _ _ (by omega) (by omega), pM_r_signalRows, pM_g_signals, up_p _ _ _ (by decide), up_p _ _ _ (by decide), up_p _ _ _ (by decide), k8, pM_s_signalRows _ _ (by omega) (by omega), pM_g_signals, up_p _ _ _ (by decide), up_p _ _ _ (by decide), up_p _ _ _ (by decide), up_p _ _ _ (by decide), k8, pM_p_signals, pM_g_signals, up_same, show (N : Int) + 1 - 1 = N by omega]
          · have a0 : ∀ q, q ≠ pM → q ≠ pM_signalRows → up (up (up (up (up g1 pM_signalRows (4 * (N : Int)) k) pM_signalRows (4 * N + 1) n) pM_signalRows (4 * N + 2) se) pM_signalRows (4 * N + 3) od) pM 8 (N + 1) q = g1 q := fun q h1 h2 => by
              rw [up_p _ _ _ h1, up_p _ _ _ h2, up_p _ _ _ h2, up_p _ _ _ h2, up_p _ _ _ h2]
            have a1 : ∀ j : Int, j ≠ 8 → up (up (up (up (up g1 pM_signalRows (4 * (N : Int)) k) pM_signalRows (4 * N + 1) n) pM_signalRows (4 * N + 2) se) pM_signalRows (4 * N + 3) od) pM 8 (N + 1) pM j = g pM j := fun j hj => by
              rw [up_ne _ _ (fun z => hj z.2), up_p _ _ _ (by decide), up_p _ _ _ (by decide), up_p _ _ _ (by decide), up_p _ _ _ (by decide), x5 pM (by decide)]
            have a8 : up (up (up (up (up g1 pM_signalRows (4 * (N : Int)) k) pM_signalRows (4 * N + 1) n) pM_signalRows (4 * N + 2) se) pM_signalRows (4 * N + 3) od) pM 8 (N + 1) pM 8 = Gx pM 8 := by rw [nx.2.1, nx'.2.1]
            generalize hG : up (up (up (up (up g1 pM_signalRows (4 * (N : Int)) k) pM_signalRows (4 * N + 1) n) pM_signalRows (4 * N + 2) se) pM_signalRows (4 * N + 3) od) pM 8 (N + 1) = G at a0 a1 a8 nx'
            clear hG
            have aC : ∀ q, q < 265 → G q = g1 q := fun q h0 => a0 q (by simp only [pM]; omega) (by simp only [pM_signalRows]; omega)
            have aB : ∀ q, 265 ≤ q → q ≠ pM → q ≠ pM_signalRows → G q = g q := fun q h0 h1 h2 => by rw [a0 q h1 h2, x5 q h0]
            have pg := aB pM_page (by decide) (by decide) (by decide)
            have sp := aB pM_speeches (by decide) (by decide) (by decide)
            have ro := aB pM_rows (by decide) (by decide) (by decide)
            have we := aB pM_weights (by decide) (by decide) (by decide)
            have nr := aB pM_noteRows (by decide) (by decide) (by decide)
            have kw := aB pM_keptWeights (by decide) (by decide) (by decide)
            have kr := aB pM_keptRows (by decide) (by decide) (by decide)
            have f1 := a1 1 (by decide)
            have f5 := a1 5 (by decide)
            have f10 := a1 10 (by decide)
            have f18 := a1 18 (by decide)
            have f22 := a1 22 (by decide)
            have f23 := a1 23 (by decide)
            -- what hangs on the signals alone is the same over Gx and over G
            have hks : kindS G = kindS Gx := by
              funext s
              unfold kindS
              rw [a8]
              by_cases z : 0 ≤ s ∧ s < Gx pM 8
              · rw [if_pos z, if_pos z]
                have z2 := z.2
                rw [nx.2.1] at z2
                by_cases e : s = N
                · subst e; rw [nx'.2.2.2.1, nx.2.2.2.1]
                · rw [nx'.2.2.1 _ (by omega), nx.2.2.1 _ (by omega)]
              · rw [if_neg z, if_neg z]
            have hst : stp G = stp Gx := by
              funext l s
              unfold stp
              rw [hks]
              by_cases z1 : kindS Gx s < 2
              · rw [if_pos z1, if_pos z1]
              · rw [if_neg z1, if_neg z1]
                by_cases z2 : kindS Gx s = 2
                · rw [if_pos z2, if_pos z2]
                  have z3 := (kindS_2 z2).1
                  have z4 := (kindS_2 z2).2
                  rw [nx.2.1] at z4
                  by_cases e : s = N
                  · subst e; rw [nx'.2.2.2.2.1, nx.2.2.2.2.1]
                  · rw [nx'.2.2.1 _ (by omega), nx.2.2.1 _ (by omega)]
                · rw [if_neg z2, if_neg z2]
            have hpl : pln G = pln Gx := by
              funext st' f m
              induction m with
              | zero => rfl
              | succ m ih => simp only [pln, ih, hst]
            have hrs : rowS G = rowS Gx := by funext c s j; unfold rowS; rw [ro, nx2]
            have hls : lenS G = lenS Gx := by funext c s; unfold lenS; rw [ro, nx2]
            have hpS : plS G = plS Gx := by funext st' c s; unfold plS; rw [hpl, hrs, hls]
            have hsg : ∀ j : Int, 0 ≤ j → j ≤ 3 → sigL G j = sigL Gx j := fun j h0 h1 => by
              obtain ⟨p0, p1, p2, p3⟩ := sgNx_L nx
              obtain ⟨p0', p1', p2', p3'⟩ := sgNx_L nx'
              have : j = 0 ∨ j = 1 ∨ j = 2 ∨ j = 3 := by omega
              rcases this with rfl | rfl | rfl | rfl
              · rw [p0, p0']
              · rw [p1, p1']
              · rw [p2, p2']
              · rw [p3, p3']
            refine ⟨⟨?_, ?_, ?_, ?_, ?_, ?_, ?_⟩, ?_, ?_, ?_, ?_, ?_, ?_⟩
            · unfold bdQ
              rw [a8, nx.2.1, f1, f5, f10, f18]
              exact ⟨q1, q5, by omega, q10, q18⟩
            · unfold bdP
              rw [f1, pg]
              exact hP
            · unfold bdC
              rw [f5, sp, ro]
              exact hC
            · exact bd5 G nx'
            · unfold bdW
              rw [f10, we]
              exact hW
            · rw [f10, f18, nr]
              exact hN
            · unfold bdK
              rw [f10, f22, f23, kw, kr]
              exact hK
            · have := RelS_fr (g1 := G) x2 (fun q h1 h2 => aC q (by omega))
              unfold RelS at this ⊢
              rw [hsg 0 (by decide) (by decide), hsg 1 (by decide) (by decide), hsg 2 (by decide) (by decide), hsg 3 (by decide) (by decide)]
              exact this
            · unfold wL
              rw [we, f10]
              exact zRow_fr r2 (by rw [aC _ (by omega), x6 _ (by omega)]) (by rw [aC _ (by omega), x6 _ (by omega)])
            · unfold pL
              rw [pg, f1]
              exact zRow_fr r3 (by rw [aC _ (by omega), x6 _ (by omega)]) (by rw [aC _ (by omega), x6 _ (by omega)])
            · refine ⟨by rw [aC pX (by decide), x6 pX (by decide), f5]; exact r4.1, fun c' hc' => ⟨fun h5 => ?_, fun h5 s hs' => ?_⟩⟩
              · rw [f5] at h5
                have hnS : nS G c' = nS g c' := by unfold nS; rw [sp]
                have hrw : rowL G c' = rowL g c' := by
                  funext s
                  unfold rowL rowS lenS
                  rw [ro]
                rw [hnS, hpS, hrw]
                obtain ⟨n1, n2, n3⟩ := nS_rg hB (c := (c' : Int)) (by omega)
                refine ⟨zCd_fr (x3 c' (by omega)) (fun q h1 h2 => aC q (by simp only [PC] at h2; omega)), fun s hs' => ?_⟩
                have h8 := ((r4.2 c' hc').1 h5).2 s hs'
                refine zRow_fr h8 ?_ ?_
                · rw [aC _ (by simp only [PC]; omega), show PC c' + 1 + 4 + 2 * s = PC c' + (5 + 2 * s) by omega, x7 c' _ hc' (by omega)]
                · rw [aC _ (by simp only [PC]; omega), show PC c' + 1 + 4 + 2 * s + 1 = PC c' + (6 + 2 * s) by omega, x7 c' _ hc' (by omega)]
              · rw [f5] at h5
                refine zRow_fr ((r4.2 c' hc').2 h5 s hs') ?_ ?_
                · rw [aC _ (by simp only [PC]; omega), show PC c' + 1 + 4 + 2 * s = PC c' + (5 + 2 * s) by omega, x7 c' _ hc' (by omega)]
                · rw [aC _ (by simp only [PC]; omega), show PC c' + 1 + 4 + 2 * s + 1 = PC c' + (6 + 2 * s) by omega, x7 c' _ hc' (by omega)]
            · rw [nr, f18]
              exact RelN_fr hQ.2.2.2.2.2 r5 (fun q h1 h2 => by rw [aC _ (by omega), x6 _ (by omega)])
            · exact RelK_cg (RelK_fr hB r6 (by rw [aC pX (by decide), x6 pX (by decide)]) (fun q h1 h2 => by rw [aC _ (by omega), x6 _ (by omega)])) f22 f23 kw kr
      · exact ⟨-102, g, g, by rw [if_neg (fun z => z a), if_neg (fun z => z b), if_pos c], by rw [M_signal_pre xs hB hk hn hs ho, if_neg (fun z => z a), if_neg (fun z => z b), if_pos c], hI⟩
    · exact ⟨-101, g, g, by rw [if_neg (fun z => z a), if_pos b], by rw [M_signal_pre xs hB hk hn hs ho, if_neg (fun z => z a), if_pos b], hI⟩
  · exact ⟨-102, g, g, by rw [if_pos a], by rw [M_signal_pre xs hB hk hn hs ho, if_pos a], hI⟩
