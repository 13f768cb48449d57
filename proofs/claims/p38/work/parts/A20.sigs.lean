/-! ===== the law tells its signals ===== -/
/-- so many signals are told; the law's table has them -/
def SgT (g : Nat → Int → Int) (k : Nat) : Prop := Inv g ∧ g pM 8 = (k : Int) ∧ g pM 5 = 0 ∧ g pM 10 = 0 ∧ g pM 1 = 0 ∧ g 0 0 = (3 : Nat) ∧ ∀ j : Int, 0 ≤ j → j < 4 * k → g 265 j = g pM_signalRows j
theorem SgT_ar {g : Nat → Int → Int} {k : Nat} (h : SgT g k) : zAr g 265 33 := zAr_law (k := 0) (N := 3) h.2.2.2.2.2.1 rfl (by omega) (by omega)
theorem SgT_fr {g g1 : Nat → Int → Int} {k : Nat} (h : SgT g k) (hk : k ≤ 8) (hf : zFr (fun q j => q = 265 ∧ 4 * (k : Int) ≤ j) g g1) : SgT g1 k := by
  obtain ⟨h1, h2, h3, h4, h5, h6, h7⟩ := h
  have e : ∀ q, q ≠ 265 → g1 q = g q := fun q hq => hf.at (fun j z => hq z.1)
  refine ⟨Inv_fr h1 (fun q a b => e q (by omega)), by rw [e pM (by decide)]; exact h2, by rw [e pM (by decide)]; exact h3, by rw [e pM (by decide)]; exact h4, by rw [e pM (by decide)]; exact h5, by rw [e 0 (by omega)]; exact h6, fun j h0 h1' => ?_⟩
  rw [hf 265 j (by omega), e pM_signalRows (by decide)]
  exact h7 j h0 h1'
theorem S1 (xs : List Int) (hx : xs.length ≤ 260) {g : Nat → Int → Int} {k N : Nat} (h : SgT g k) (hkN : k < N) (hN : N ≤ 8) (h32 : g 265 32 = (N : Int)) : ∃ g1, zx zblk xs 80 17 [some (.inr (.inr (some pX))), some (.inr (.inr (some 0))), some (.inl (0)), some (.inr (.inr (some 265))), some (.inl ((k : Int)))] [] (HH g) = zx zblk xs 80 17 [some (.inr (.inr (some pX))), some (.inr (.inr (some 0))), some (.inl (0)), some (.inr (.inr (some 265))), some (.inl (((k + 1 : Nat) : Int)))] [] (HH g1) ∧ SgT g1 (k + 1) ∧ g1 265 32 = (N : Int) := by
  have har := SgT_ar h
  obtain ⟨X, hX⟩ : ∃ X, clV xs (1 + k) = X := ⟨_, rfl⟩
  have so := atV_rg X (n := 9) (by omega)
  have a0 : ∀ g', zAr g' 265 33 → ∀ i v : Int, zAr (up g' 265 i v) 265 33 := fun g' hg i v => zAr_up hg (by omega)
  -- the kind
  have kind : ∃ kd : Int, 0 ≤ kd ∧ kd ≤ 4 ∧ zx zblk xs 80 17 [some (.inr (.inr (some pX))), some (.inr (.inr (some 0))), some (.inl (0)), some (.inr (.inr (some 265))), some (.inl ((k : Int)))] [] (HH g) = zx zblk xs 80 110 [some (.inr (.inr (some pX))), some (.inr (.inr (some 0))), some (.inl (0)), some (.inr (.inr (some 265))), some (.inl ((k : Int))), some (.inl (X)), none, some (.inl (4 * (k : Int))), some (.inl (0))] [] (HH (up (up g 265 (4 * (k : Int)) kd) 265 (4 * (k : Int) + 1) (-1))) := by
    have e0 : zx zblk xs 80 17 [some (.inr (.inr (some pX))), some (.inr (.inr (some 0))), some (.inl (0)), some (.inr (.inr (some 265))), some (.inl ((k : Int)))] [] (HH g) = if 5 ≤ atV X 9 then zx zblk xs 80 66 [some (.inr (.inr (some pX))), some (.inr (.inr (some 0))), some (.inl (0)), some (.inr (.inr (some 265))), some (.inl ((k : Int))), some (.inl (X)), some (.inl (atV X 9)), some (.inl (4 * (k : Int)))] [.inl (4 * (k : Int)), .inr (.inr (some 265))] (HH g) else zx zblk xs 80 99 [some (.inr (.inr (some pX))), some (.inr (.inr (some 0))), some (.inl (0)), some (.inr (.inr (some 265))), some (.inl ((k : Int))), some (.inl (X)), none, some (.inl (4 * (k : Int)))] [.inl 0, .inl (4 * (k : Int)), .inr (.inr (some 265))] (HH g) := by
      rw [e_L_signals_17, HF_ai har (by omega) (by omega), h32, if_neg (by rw [zw_id (by omega) (by omega), zw_id (by omega) (by omega)]; omega), show (0 + 1 + (k : Int)) = ((1 + k : Nat) : Int) by omega, L_cell xs hx (1 + k) (by omega), zci_ok, hX, L_at xs X 9 _ (by omega) (by omega), zci_ok, show zw 5 = 5 from rfl, zw_id (a := atV X 9) (by omega) (by omega)]
    have e99 : ∀ kd : Int, zx zblk xs 80 99 [some (.inr (.inr (some pX))), some (.inr (.inr (some 0))), some (.inl (0)), some (.inr (.inr (some 265))), some (.inl ((k : Int))), some (.inl (X)), none, some (.inl (4 * (k : Int)))] [.inl kd, .inl (4 * (k : Int)), .inr (.inr (some 265))] (HH g) = zx zblk xs 80 110 [some (.inr (.inr (some pX))), some (.inr (.inr (some 0))), some (.inl (0)), some (.inr (.inr (some 265))), some (.inl ((k : Int))), some (.inl (X)), none, some (.inl (4 * (k : Int))), some (.inl (0))] [] (HH (up (up g 265 (4 * (k : Int)) kd) 265 (4 * (k : Int) + 1) (-1))) := fun kd => by
      rw [e_L_signals_99, HF_st har (by omega) (by omega), HF_st (a0 _ har _ _) (by omega) (by omega)]
    rw [e0]
    by_cases c5 : 5 ≤ atV X 9
    · rw [if_pos c5, e_L_signals_66, zw_id (a := atV X 9) (by omega) (by omega), show zw 5 = 5 from rfl]
      by_cases d5 : atV X 9 = 5
      · exact ⟨1, by omega, by omega, by rw [if_neg (fun z => z d5), e99]⟩
      · rw [if_pos d5, e_L_signals_76, zw_id (a := atV X 9) (by omega) (by omega), show zw 6 = 6 from rfl]
        by_cases d6 : atV X 9 = 6
        · exact ⟨2, by omega, by omega, by rw [if_neg (fun z => z d6), e99]⟩
        · rw [if_pos d6, e_L_signals_87, zw_id (a := atV X 9) (by omega) (by omega), show zw 7 = 7 from rfl]
          by_cases d7 : atV X 9 = 7
          · exact ⟨3, by omega, by omega, by rw [if_neg (fun z => z d7), e99]⟩
          · exact ⟨4, by omega, by omega, by rw [if_pos d7, e_L_signals_98, e99]⟩
    · exact ⟨0, by omega, by omega, by rw [if_neg c5, e99]⟩
  obtain ⟨kd, kd0, kd4, ekd⟩ := kind
  -- the tone
  have tone : ∀ (r j : Nat) (gj : Nat → Int → Int) (tn : Int), j + r = k → zFr (fun q i => q = 265 ∧ 4 * (k : Int) ≤ i ∧ i < 4 * k + 4) g gj → gj 265 (4 * (k : Int)) = kd → gj 265 (4 * (k : Int) + 1) = tn → ((tn = -1) ∨ (kd = 2 ∧ 0 ≤ tn ∧ tn < k ∧ g 265 (4 * tn) < 2)) → ∃ (g1 : Nat → Int → Int) (tn1 : Int), zx zblk xs 80 110 [some (.inr (.inr (some pX))), some (.inr (.inr (some 0))), some (.inl (0)), some (.inr (.inr (some 265))), some (.inl ((k : Int))), some (.inl (X)), none, some (.inl (4 * (k : Int))), some (.inl ((j : Int)))] [] (HH gj) = zx zblk xs 80 172 [some (.inr (.inr (some pX))), some (.inr (.inr (some 0))), some (.inl (0)), some (.inr (.inr (some 265))), some (.inl ((k : Int))), some (.inl (X)), none, some (.inl (4 * (k : Int)))] [] (HH g1) ∧ zFr (fun q i => q = 265 ∧ 4 * (k : Int) ≤ i ∧ i < 4 * k + 4) g g1 ∧ g1 265 (4 * (k : Int)) = kd ∧ g1 265 (4 * (k : Int) + 1) = tn1 ∧ ((tn1 = -1) ∨ (kd = 2 ∧ 0 ≤ tn1 ∧ tn1 < k ∧ g 265 (4 * tn1) < 2)) := by
    intro r
    induction r with
    | zero =>
      intro j gj tn hj hf h1 h2 h3
      exact ⟨gj, tn, by rw [e_L_signals_110, if_pos (by rw [zw_id (by omega) (by omega), zw_id (by omega) (by omega)]; omega)], hf, h1, h2, h3⟩
    | succ r ih =>
      intro j gj tn hj hf h1 h2 h3
      have hz : zAr gj 265 33 := zAr_cg har (hf 0 0 (by omega))
      have hrow := h.1.1.2.2.2.1 (j : Int) (by omega) (by rw [h.2.1]; omega)
      have hjv : gj 265 (4 * (j : Int)) = g 265 (4 * (j : Int)) := hf _ _ (by omega)
      have hjr : g 265 (4 * (j : Int)) = g pM_signalRows (4 * (j : Int)) := h.2.2.2.2.2.2 _ (by omega) (by omega)
      have nx : ∀ (gy : Nat → Int → Int) (t2 : Int), zFr (fun q i => q = 265 ∧ 4 * (k : Int) ≤ i ∧ i < 4 * k + 4) g gy → gy 265 (4 * (k : Int)) = kd → gy 265 (4 * (k : Int) + 1) = t2 → ((t2 = -1) ∨ (kd = 2 ∧ 0 ≤ t2 ∧ t2 < k ∧ g 265 (4 * t2) < 2)) → ∃ (g1 : Nat → Int → Int) (tn1 : Int), zx zblk xs 80 166 [some (.inr (.inr (some pX))), some (.inr (.inr (some 0))), some (.inl (0)), some (.inr (.inr (some 265))), some (.inl ((k : Int))), some (.inl (X)), none, some (.inl (4 * (k : Int))), some (.inl ((j : Int)))] [] (HH gy) = zx zblk xs 80 172 [some (.inr (.inr (some pX))), some (.inr (.inr (some 0))), some (.inl (0)), some (.inr (.inr (some 265))), some (.inl ((k : Int))), some (.inl (X)), none, some (.inl (4 * (k : Int)))] [] (HH g1) ∧ zFr (fun q i => q = 265 ∧ 4 * (k : Int) ≤ i ∧ i < 4 * k + 4) g g1 ∧ g1 265 (4 * (k : Int)) = kd ∧ g1 265 (4 * (k : Int) + 1) = tn1 ∧ ((tn1 = -1) ∨ (kd = 2 ∧ 0 ≤ tn1 ∧ tn1 < k ∧ g 265 (4 * tn1) < 2)) := fun gy t2 a b c d => by
        obtain ⟨g1, tn1, s1, s2, s3, s4, s5⟩ := ih (j + 1) gy t2 (by omega) a b c d
        exact ⟨g1, tn1, by rw [e_L_signals_166, ← s1, Int.natCast_succ], s2, s3, s4, s5⟩
      rw [e_L_signals_110, if_neg (by rw [zw_id (by omega) (by omega), zw_id (by omega) (by omega)]; omega), HF_ai hz (by omega) (by omega), h1, zw_id (a := kd) (by omega) (by omega), show zw 2 = 2 from rfl]
      by_cases c2 : kd = 2
      · rw [if_neg (fun z => z c2), HF_ai hz (by omega) (by omega), hjv, zw_id (a := g 265 (4 * (j : Int))) (by omega) (by omega)]
        by_cases c3 : 2 ≤ g 265 (4 * (j : Int))
        · rw [if_pos c3]
          exact nx gj tn hf h1 h2 h3
        · have put : ∃ (g1 : Nat → Int → Int) (tn1 : Int), zx zblk xs 80 158 [some (.inr (.inr (some pX))), some (.inr (.inr (some 0))), some (.inl (0)), some (.inr (.inr (some 265))), some (.inl ((k : Int))), some (.inl (X)), none, some (.inl (4 * (k : Int))), some (.inl ((j : Int)))] [] (HH gj) = zx zblk xs 80 172 [some (.inr (.inr (some pX))), some (.inr (.inr (some 0))), some (.inl (0)), some (.inr (.inr (some 265))), some (.inl ((k : Int))), some (.inl (X)), none, some (.inl (4 * (k : Int)))] [] (HH g1) ∧ zFr (fun q i => q = 265 ∧ 4 * (k : Int) ≤ i ∧ i < 4 * k + 4) g g1 ∧ g1 265 (4 * (k : Int)) = kd ∧ g1 265 (4 * (k : Int) + 1) = tn1 ∧ ((tn1 = -1) ∨ (kd = 2 ∧ 0 ≤ tn1 ∧ tn1 < k ∧ g 265 (4 * tn1) < 2)) := by
            rw [e_L_signals_158, HF_st hz (by omega) (by omega)]
            exact nx _ j (hf.up (q := 265) ⟨rfl, by omega, by omega⟩) (by rw [up_ne _ _ (by omega)]; exact h1) (up_same _ _ _ _) (Or.inr ⟨c2, by omega, by omega, by omega⟩)
          rw [if_neg c3, HF_ai hz (by omega) (by omega), h2, zw_id (a := tn) (by omega) (by omega)]
          by_cases c4 : tn < 0
          · rw [if_pos c4]
            exact put
          · rw [if_neg c4, L_at xs _ 2 _ (by omega) (by omega), zci_ok]
            by_cases c5 : zw (atV (zshr X (4 + (j : Int))) 2) ≠ 0
            · rw [if_pos c5]
              exact nx gj tn hf h1 h2 h3
            · rw [if_neg c5]
              exact put
      · rw [if_pos c2]
        exact ⟨gj, tn, rfl, hf, h1, h2, h3⟩
  have fk : zFr (fun q i => q = 265 ∧ 4 * (k : Int) ≤ i ∧ i < 4 * k + 4) g (up (up g 265 (4 * (k : Int)) kd) 265 (4 * (k : Int) + 1) (-1)) := (zFr.rf.up (q := 265) ⟨rfl, by omega, by omega⟩).up (q := 265) ⟨rfl, by omega, by omega⟩
  obtain ⟨g1, tn, t1, t2, t3, t4, t5⟩ := tone k 0 _ (-1) (by omega) fk (by rw [up_ne _ _ (by omega), up_same]) (up_same _ _ _ _) (Or.inl rfl)
  rw [z0N] at t1
  have h1z : zAr g1 265 33 := zAr_cg har (t2 0 0 (by omega))
  -- no tone, no tone's kind
  have fin : ∃ (g2 : Nat → Int → Int) (kd2 : Int), zx zblk xs 80 172 [some (.inr (.inr (some pX))), some (.inr (.inr (some 0))), some (.inl (0)), some (.inr (.inr (some 265))), some (.inl ((k : Int))), some (.inl (X)), none, some (.inl (4 * (k : Int)))] [] (HH g1) = zx zblk xs 80 194 [some (.inr (.inr (some pX))), some (.inr (.inr (some 0))), some (.inl (0)), some (.inr (.inr (some 265))), some (.inl ((k : Int))), some (.inl (X)), none, some (.inl (4 * (k : Int)))] [] (HH g2) ∧ zFr (fun q i => q = 265 ∧ 4 * (k : Int) ≤ i ∧ i < 4 * k + 4) g g2 ∧ g2 265 (4 * (k : Int)) = kd2 ∧ g2 265 (4 * (k : Int) + 1) = tn ∧ 0 ≤ kd2 ∧ kd2 ≤ 4 ∧ ((kd2 ≠ 2 ∧ tn = -1) ∨ (kd2 = 2 ∧ 0 ≤ tn ∧ tn < k ∧ g 265 (4 * tn) < 2)) := by
    rw [e_L_signals_172, HF_ai h1z (by omega) (by omega), t3, zw_id (a := kd) (by omega) (by omega), show zw 2 = 2 from rfl]
    by_cases c2 : kd = 2
    · rw [if_neg (fun z => z c2), HF_ai h1z (by omega) (by omega), t4, zw_id (a := tn) (by omega) (by omega)]
      by_cases c3 : 0 ≤ tn
      · exact ⟨g1, kd, by rw [if_pos c3], t2, t3, t4, kd0, kd4, Or.inr ⟨c2, by omega, by omega, by omega⟩⟩
      · exact ⟨_, 0, by rw [if_neg c3, HF_st h1z (by omega) (by omega)], t2.up (q := 265) ⟨rfl, by omega, by omega⟩, up_same _ _ _ _, by rw [up_ne _ _ (by omega)]; exact t4, by omega, by omega, Or.inl ⟨by omega, by omega⟩⟩
    · exact ⟨g1, kd, by rw [if_pos c2], t2, t3, t4, kd0, kd4, Or.inl ⟨c2, by omega⟩⟩
  obtain ⟨g2, kd2, u1, u2, u3, u4, u5, u6, u7⟩ := fin
  have se := atV_rg (zshr X 12) (n := 9) (by omega)
  have od := atV_rg (zshr X 16) (n := 10) (by omega)
  generalize hse : 1 + atV (zshr X 12) 9 = sec at *
  generalize hod : atV (zshr X 16) 10 = odd at *
  have h2z : zAr g2 265 33 := zAr_cg har (u2 0 0 (by omega))
  have u8 := (u2.up (q := 265) (j := 4 * (k : Int) + 2) (v := sec) ⟨rfl, by omega, by omega⟩).up (q := 265) (j := 4 * (k : Int) + 3) (v := odd) ⟨rfl, by omega, by omega⟩
  have h3z := a0 _ h2z (4 * (k : Int) + 2) sec
  have h4z := a0 _ h3z (4 * (k : Int) + 3) odd
  have v0 : up (up g2 265 (4 * (k : Int) + 2) sec) 265 (4 * (k : Int) + 3) odd 265 (4 * (k : Int)) = kd2 := by rw [up_ne _ _ (by omega), up_ne _ _ (by omega)]; exact u3
  have v1 : up (up g2 265 (4 * (k : Int) + 2) sec) 265 (4 * (k : Int) + 3) odd 265 (4 * (k : Int) + 1) = tn := by rw [up_ne _ _ (by omega), up_ne _ _ (by omega)]; exact u4
  have v2 : up (up g2 265 (4 * (k : Int) + 2) sec) 265 (4 * (k : Int) + 3) odd 265 (4 * (k : Int) + 2) = sec := by rw [up_ne _ _ (by omega), up_same]
  have v3 : up (up g2 265 (4 * (k : Int) + 2) sec) 265 (4 * (k : Int) + 3) odd 265 (4 * (k : Int) + 3) = odd := up_same _ _ _ _
  generalize hg3 : up (up g2 265 (4 * (k : Int) + 2) sec) 265 (4 * (k : Int) + 3) odd = g3 at *
  have hS3 : SgT g3 k := SgT_fr h (by omega) (u8.mono (fun q j z => ⟨z.1, z.2.1⟩))
  have htn : tnS g3 kd2 tn := by
    unfold tnS
    rcases u7 with ⟨z1, z2⟩ | ⟨z1, z2, z3, z4⟩
    · rw [if_neg z1]; exact z2
    · rw [if_pos z1, hS3.2.1]
      refine ⟨z2, z3, ?_⟩
      unfold kindS
      rw [if_pos ⟨z2, by rw [hS3.2.1]; exact z3⟩, ← hS3.2.2.2.2.2.2 _ (by omega) (by omega), u8 265 (4 * tn) (by omega)]
      exact z4
  obtain ⟨g4, w1, w2, w3, w4, w5, w6⟩ := op_sig xs hS3.1 hS3.2.1 (by omega) hS3.2.2.1 ⟨u5, u6⟩ htn (se := sec) (od := odd) (by omega) (by omega)
  refine ⟨g4, ?_, ⟨w2, w3.2.1, by rw [w5 5 (by decide)]; exact hS3.2.2.1, by rw [w5 10 (by decide)]; exact hS3.2.2.2.1, by rw [w5 1 (by decide)]; exact hS3.2.2.2.2.1, by rw [w6 0 (Or.inl rfl)]; exact hS3.2.2.2.2.2.1, fun j h0 h1 => ?_⟩, by rw [w6 265 (by omega), u8 265 32 (by omega)]; exact h32⟩
  · rw [ekd, t1, u1, e_L_signals_194, L_at xs _ 9 _ (by omega) (by omega), zci_ok, hse, HF_st h2z (by omega) (by omega), L_at xs _ 10 _ (by omega) (by omega), zci_ok, hod, HF_st h3z (by omega) (by omega), hg3, HF_ai h4z (by omega) (by omega), v0, HF_ai h4z (by omega) (by omega), v1, HF_ai h4z (by omega) (by omega), v2, HF_ai h4z (by omega) (by omega), v3, pX_ck, w1, zci_ok, if_pos rfl, e_L_signals_261, Int.natCast_succ]
  · rw [w6 265 (by omega)]
    by_cases c : j < 4 * k
    · rw [w3.2.2.1 j c]
      exact hS3.2.2.2.2.2.2 j h0 c
    · have : j = 4 * (k : Int) ∨ j = 4 * (k : Int) + 1 ∨ j = 4 * (k : Int) + 2 ∨ j = 4 * (k : Int) + 3 := by omega
      rcases this with rfl | rfl | rfl | rfl
      · rw [w3.2.2.2.1, v0]
      · rw [w3.2.2.2.2.1, v1]
      · rw [w3.2.2.2.2.2.1, v2]
      · rw [w3.2.2.2.2.2.2, v3]
theorem L_signals (xs : List Int) (hx : xs.length ≤ 260) {g : Nat → Int → Int} (h : SgT g 0) : ∃ g1, zx zblk xs 80 0 [some (.inr (.inr (some pX))), some (.inr (.inr (some 0))), some (.inl (0)), some (.inr (.inr (some 265)))] [] (HH g) = some (some (.inl 1), HH g1) ∧ ∃ N : Nat, N ≤ 8 ∧ SgT g1 N ∧ g1 265 32 = (N : Int) := by
  have ar := atV_rg (clV xs 0) (n := 9) (by omega)
  obtain ⟨N, hN⟩ : ∃ N : Nat, atV (clV xs 0) 9 = N := ⟨(atV (clV xs 0) 9).toNat, by omega⟩
  have loop : ∀ (r k : Nat) (gk : Nat → Int → Int), k + r = N → SgT gk k → gk 265 32 = (N : Int) → ∃ g1, zx zblk xs 80 17 [some (.inr (.inr (some pX))), some (.inr (.inr (some 0))), some (.inl (0)), some (.inr (.inr (some 265))), some (.inl ((k : Int)))] [] (HH gk) = some (some (.inl 1), HH g1) ∧ SgT g1 N ∧ g1 265 32 = (N : Int) := by
    intro r
    induction r with
    | zero =>
      intro k gk hk h1 h2
      have : k = N := by omega
      subst this
      exact ⟨gk, by rw [e_L_signals_17, HF_ai (SgT_ar h1) (by omega) (by omega), h2, if_pos (Int.le_refl _), e_L_signals_267, if_pos (Or.inr rfl)], h1, h2⟩
    | succ r ih =>
      intro k gk hk h1 h2
      obtain ⟨g1, s1, s2, s3⟩ := S1 xs hx h1 (N := N) (by omega) (by omega) h2
      obtain ⟨g2, u1, u2, u3⟩ := ih (k + 1) g1 (by omega) s2 s3
      exact ⟨g2, by rw [s1, u1], u2, u3⟩
  obtain ⟨g1, s1, s2, s3⟩ := loop N 0 (up g 265 32 N) (by omega) (SgT_fr h (by omega) (zFr.rf.up (q := 265) ⟨rfl, by omega⟩)) (up_same _ _ _ _)
  rw [z0N] at s1
  refine ⟨g1, ?_, N, by omega, s2, s3⟩
  have hc := L_cell xs hx 0 (by omega) (HH g)
  rw [z0N] at hc
  rw [e_L_signals_0, hc, zci_ok, L_at xs _ 9 _ (by omega) (by omega), zci_ok, hN, HF_st (SgT_ar h) (by omega) (by omega)]
  exact s1
