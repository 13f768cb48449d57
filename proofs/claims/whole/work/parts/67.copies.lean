/-! ===== image: copies ===== -/
/-- the weights -/
theorem M_image_w (xs : List Int) (g : Nat → Int → Int) : ∃ g1, zx zblk xs 75 2 [some (.inr (.inr (some pM))), some (.inl (0))] [] (HH g) = zx zblk xs 75 26 [some (.inr (.inr (some pM)))] [] (HH g1) ∧ (∀ j : Int, 0 ≤ j → j < 8 → g1 pM_keptWeights j = g pM_weights j) ∧ zFr (fun q j => q = pM_keptWeights) g g1 := by
  have loop : ∀ (r k : Nat) (gk : Nat → Int → Int), k + r = 8 → (∀ j : Int, 0 ≤ j → j < k → gk pM_keptWeights j = g pM_weights j) → zFr (fun q j => q = pM_keptWeights) g gk → ∃ g1, zx zblk xs 75 2 [some (.inr (.inr (some pM))), some (.inl ((k : Int)))] [] (HH gk) = zx zblk xs 75 26 [some (.inr (.inr (some pM)))] [] (HH g1) ∧ (∀ j : Int, 0 ≤ j → j < 8 → g1 pM_keptWeights j = g pM_weights j) ∧ zFr (fun q j => q = pM_keptWeights) g g1 := by
    intro r
    induction r with
    | zero =>
      intro k gk hk hj hf
      have : k = 8 := by omega
      subst this
      refine ⟨gk, ?_, fun j h0 h1 => hj j h0 (by omega), hf⟩
      rw [e_M_image_2, if_pos (by decide)]
    | succ r ih =>
      intro k gk hk hj hf
      have kr : gk pM_weights = g pM_weights := hf.at (fun j z => absurd z (by decide))
      obtain ⟨g1, q1, q2, q3⟩ := ih (k + 1) (up gk pM_keptWeights k (g pM_weights k)) (by omega) (fun j h0 h1 => by
        by_cases e : j = k
        · subst e; exact up_same _ _ _ _
        · rw [up_ne _ _ (fun z => by omega)]; exact hj j h0 (by omega)) (hf.up rfl)
      refine ⟨g1, ?_, q2, q3⟩
      rw [e_M_image_2, if_neg (by rw [show zw 8 = 8 from rfl, zw_id (by omega) (by omega)]; omega), pM_r_keptWeights, pM_r_weights, pM_a_weights xs _ (by omega) (by omega), kr, pM_s_keptWeights _ _ (by omega) (by omega), ← Int.natCast_succ]
      exact q1
  obtain ⟨g1, q1, q2, q3⟩ := loop 8 0 g (by omega) (fun j h0 h1 => by omega) zFr.rf
  rw [z0N] at q1
  exact ⟨g1, q1, q2, q3⟩
/-- the notes -/
theorem M_image_n (xs : List Int) (g : Nat → Int → Int) : ∃ g1, zx zblk xs 75 28 [some (.inr (.inr (some pM))), some (.inl (0))] [] (HH g) = zx zblk xs 75 52 [some (.inr (.inr (some pM)))] [] (HH g1) ∧ (∀ j : Int, 0 ≤ j → j < 100 → g1 pM_keptRows j = g pM_noteRows j) ∧ zFr (fun q j => q = pM_keptRows) g g1 := by
  have loop : ∀ (r k : Nat) (gk : Nat → Int → Int), k + r = 100 → (∀ j : Int, 0 ≤ j → j < k → gk pM_keptRows j = g pM_noteRows j) → zFr (fun q j => q = pM_keptRows) g gk → ∃ g1, zx zblk xs 75 28 [some (.inr (.inr (some pM))), some (.inl ((k : Int)))] [] (HH gk) = zx zblk xs 75 52 [some (.inr (.inr (some pM)))] [] (HH g1) ∧ (∀ j : Int, 0 ≤ j → j < 100 → g1 pM_keptRows j = g pM_noteRows j) ∧ zFr (fun q j => q = pM_keptRows) g g1 := by
    intro r
    induction r with
    | zero =>
      intro k gk hk hj hf
      have : k = 100 := by omega
      subst this
      refine ⟨gk, ?_, fun j h0 h1 => hj j h0 (by omega), hf⟩
      rw [e_M_image_28, if_pos (by decide)]
    | succ r ih =>
      intro k gk hk hj hf
      have kr : gk pM_noteRows = g pM_noteRows := hf.at (fun j z => absurd z (by decide))
      obtain ⟨g1, q1, q2, q3⟩ := ih (k + 1) (up gk pM_keptRows k (g pM_noteRows k)) (by omega) (fun j h0 h1 => by
        by_cases e : j = k
        · subst e; exact up_same _ _ _ _
        · rw [up_ne _ _ (fun z => by omega)]; exact hj j h0 (by omega)) (hf.up rfl)
      refine ⟨g1, ?_, q2, q3⟩
      rw [e_M_image_28, if_neg (by rw [show zw 100 = 100 from rfl, zw_id (by omega) (by omega)]; omega), pM_r_keptRows, pM_r_noteRows, pM_a_noteRows xs _ (by omega) (by omega), kr, pM_s_keptRows _ _ (by omega) (by omega), ← Int.natCast_succ]
      exact q1
  obtain ⟨g1, q1, q2, q3⟩ := loop 100 0 g (by omega) (fun j h0 h1 => by omega) zFr.rf
  rw [z0N] at q1
  exact ⟨g1, q1, q2, q3⟩
/-- the notes, back -/
theorem M_restore_n (xs : List Int) (g : Nat → Int → Int) : ∃ g1, zx zblk xs 76 41 [some (.inr (.inr (some pM))), some (.inl (0))] [] (HH g) = zx zblk xs 76 65 [some (.inr (.inr (some pM)))] [] (HH g1) ∧ (∀ j : Int, 0 ≤ j → j < 100 → g1 pM_noteRows j = g pM_keptRows j) ∧ zFr (fun q j => q = pM_noteRows) g g1 := by
  have loop : ∀ (r k : Nat) (gk : Nat → Int → Int), k + r = 100 → (∀ j : Int, 0 ≤ j → j < k → gk pM_noteRows j = g pM_keptRows j) → zFr (fun q j => q = pM_noteRows) g gk → ∃ g1, zx zblk xs 76 41 [some (.inr (.inr (some pM))), some (.inl ((k : Int)))] [] (HH gk) = zx zblk xs 76 65 [some (.inr (.inr (some pM)))] [] (HH g1) ∧ (∀ j : Int, 0 ≤ j → j < 100 → g1 pM_noteRows j = g pM_keptRows j) ∧ zFr (fun q j => q = pM_noteRows) g g1 := by
    intro r
    induction r with
    | zero =>
      intro k gk hk hj hf
      have : k = 100 := by omega
      subst this
      refine ⟨gk, ?_, fun j h0 h1 => hj j h0 (by omega), hf⟩
      rw [e_M_restore_41, if_pos (by decide)]
    | succ r ih =>
      intro k gk hk hj hf
      have kr : gk pM_keptRows = g pM_keptRows := hf.at (fun j z => absurd z (by decide))
      obtain ⟨g1, q1, q2, q3⟩ := ih (k + 1) (up gk pM_noteRows k (g pM_keptRows k)) (by omega) (fun j h0 h1 => by
        by_cases e : j = k
        · subst e; exact up_same _ _ _ _
        · rw [up_ne _ _ (fun z => by omega)]; exact hj j h0 (by omega)) (hf.up rfl)
      refine ⟨g1, ?_, q2, q3⟩
      rw [e_M_restore_41, if_neg (by rw [show zw 100 = 100 from rfl, zw_id (by omega) (by omega)]; omega), pM_r_noteRows, pM_r_keptRows, pM_a_keptRows xs _ (by omega) (by omega), kr, pM_s_noteRows _ _ (by omega) (by omega), ← Int.natCast_succ]
      exact q1
  obtain ⟨g1, q1, q2, q3⟩ := loop 100 0 g (by omega) (fun j h0 h1 => by omega) zFr.rf
  rw [z0N] at q1
  exact ⟨g1, q1, q2, q3⟩
theorem M_restore_w (xs : List Int) {g : Nat → Int → Int} {T : Nat} (hT : g pM 22 = T) (h8 : T ≤ 8) : ∃ g1, zx zblk xs 76 13 [some (.inr (.inr (some pM))), some (.inl (0))] [] (HH g) = zx zblk xs 76 39 [some (.inr (.inr (some pM)))] [] (HH g1) ∧ (∀ j : Int, 0 ≤ j → j < T → g1 pM_weights j = g pM_keptWeights j) ∧ zFr (fun q j => q = pM_weights ∧ j < T) g g1 := by
  have loop : ∀ (r k : Nat) (gk : Nat → Int → Int), k + r = T → (∀ j : Int, 0 ≤ j → j < k → gk pM_weights j = g pM_keptWeights j) → zFr (fun q j => q = pM_weights ∧ j < T) g gk → ∃ g1, zx zblk xs 76 13 [some (.inr (.inr (some pM))), some (.inl ((k : Int)))] [] (HH gk) = zx zblk xs 76 39 [some (.inr (.inr (some pM)))] [] (HH g1) ∧ (∀ j : Int, 0 ≤ j → j < T → g1 pM_weights j = g pM_keptWeights j) ∧ zFr (fun q j => q = pM_weights ∧ j < T) g g1 := by
    intro r
    induction r with
    | zero =>
      intro k gk hk hj hf
      have : k = T := by omega
      subst this
      have kt : gk pM 22 = k := by rw [hf pM 22 (fun z => absurd z.1 (by decide))]; exact hT
      refine ⟨gk, ?_, fun j h0 h1 => hj j h0 (by omega), hf⟩
      rw [e_M_restore_13, pM_g_keptThings, kt, if_pos (Int.le_refl _)]
    | succ r ih =>
      intro k gk hk hj hf
      have kt : gk pM 22 = T := by rw [hf pM 22 (fun z => absurd z.1 (by decide))]; exact hT
      have kr : gk pM_keptWeights = g pM_keptWeights := hf.at (fun j z => absurd z.1 (by decide))
      obtain ⟨g1, q1, q2, q3⟩ := ih (k + 1) (up gk pM_weights k (g pM_keptWeights k)) (by omega) (fun j h0 h1 => by
        by_cases e : j = k
        · subst e; exact up_same _ _ _ _
        · rw [up_ne _ _ (fun z => by omega)]; exact hj j h0 (by omega)) (hf.up ⟨rfl, by omega⟩)
      refine ⟨g1, ?_, q2, q3⟩
      rw [e_M_restore_13, pM_g_keptThings, kt, if_neg (by rw [zw_id (by omega) (by omega), zw_id (by omega) (by omega)]; omega), pM_r_weights, pM_r_keptWeights, pM_a_keptWeights xs _ (by omega) (by omega), kr, pM_s_weights _ _ (by omega) (by omega), ← Int.natCast_succ]
      exact q1
  obtain ⟨g1, q1, q2, q3⟩ := loop T 0 g (by omega) (fun j h0 h1 => by omega) zFr.rf
  rw [z0N] at q1
  exact ⟨g1, q1, q2, q3⟩
theorem bdN_cg {t n : Int} {f f' : Int → Int} (hn : n ≤ 10) (h : bdN t n f) (e : ∀ j : Int, 0 ≤ j → j < 100 → f' j = f j) : bdN t n f' := by
  intro m m0 m1
  obtain ⟨h1, h2, h3, h4, h5⟩ := h m m0 m1
  rw [e _ (by omega) (by omega), e _ (by omega) (by omega)]
  refine ⟨h1, h2, h3, h4, fun k k0 k1 => ?_⟩
  rw [e _ (by omega) (by omega)]
  exact h5 k k0 k1
theorem nRow_cg {t n : Int} {f f' : Int → Int} (hn : n ≤ 10) (h : bdN t n f) (e : ∀ j : Int, 0 ≤ j → j < 100 → f' j = f j) {k : Nat} (hk : (k : Int) < n) : nRow f' k = nRow f k := by
  obtain ⟨h1, h2, h3, h4, h5⟩ := h k (by omega) hk
  unfold nRow
  rw [e (10 * (k : Int) + 1) (by omega) (by omega)]
  exact zLi_cg (fun j hj => e _ (by omega) (by omega))
theorem RelN_cg {g : Nat → Int → Int} {P : Nat} {t n : Int} {f f' : Int → Int} (hn : n ≤ 10) (hb : bdN t n f) (h : RelN g P f n) (e : ∀ j : Int, 0 ≤ j → j < 100 → f' j = f j) : RelN g P f' n := by
  refine ⟨?_, fun k hk => ?_⟩
  · rw [zLi_cg (f := fun k : Nat => f' (10 * (k : Int))) (f' := fun k : Nat => f (10 * (k : Int))) (fun k hk => e _ (by omega) (by omega))]
    exact h.1
  · rw [nRow_cg hn hb e hk]
    exact h.2 k hk
theorem Notes_copyOf (xs : List Int) {P P2 : Nat} (h : zNo P) (h2 : zNo P2) (hd : P2 + 26 < P ∨ P + 26 < P2) {g : Nat → Int → Int} {f : Int → Int} {t : Int} {n : Nat} (hn : n ≤ 10) (hb : bdN t n f) (hr : RelN g P2 f n) : ∃ g1, zx zblk xs 99 0 [some (.inr (.inr (some P))), some (.inr (.inr (some P2)))] [] (HH g) = some (none, HH g1) ∧ RelN g1 P f n ∧ zFr (fun q _ => P + 1 ≤ q ∧ q ≤ P + 26) g g1 := by
  have loop : ∀ (r k : Nat) (gk : Nat → Int → Int), k + r = n → RelN gk P f k → zFr (fun q _ => P + 1 ≤ q ∧ q ≤ P + 26) g gk → ∃ g1, zx zblk xs 99 6 [some (.inr (.inr (some P))), some (.inr (.inr (some P2))), some (.inl ((k : Int)))] [] (HH gk) = some (none, HH g1) ∧ RelN g1 P f n ∧ zFr (fun q _ => P + 1 ≤ q ∧ q ≤ P + 26) g g1 := by
    intro r
    induction r with
    | zero =>
      intro k gk hk hrk hf
      have : k = n := by omega
      subst this
      have h2k : RelN gk P2 f k := RelN_fr (by omega) hr (fun q q1 q2 => hf.at (fun j => by omega))
      refine ⟨gk, ?_, hrk, hf⟩
      rw [e_Notes_copyOf_6, No_ck h2, Notes_size xs h2 (by omega) h2k, zci_ok, if_pos (Int.le_refl _), e_Notes_copyOf_34]
    | succ r ih =>
      intro k gk hk hrk hf
      have h2k : RelN gk P2 f n := RelN_fr (by omega) hr (fun q q1 q2 => hf.at (fun j => by omega))
      obtain ⟨b1, b2, b3, b4, b5⟩ := hb k (by omega) (by omega)
      have hlen : (nRow f k).length ≤ 8 := by unfold nRow; rw [zLi_len]; omega
      obtain ⟨ga, a1, a2, a3, a4⟩ := Notes_add xs h (by omega) hrk (h2.2.2.2.2.2.2.2 k (by omega)) (h2k.2 k (by omega)) hlen hlen (by omega) (f (10 * k))
      obtain ⟨g1, q1, q2, q3⟩ := ih (k + 1) ga (by omega) (by
        refine ⟨?_, fun j hj => ?_⟩
        · rw [show (((k + 1 : Nat) : Int)).toNat = k + 1 from rfl, zLi_snoc]
          exact a2
        · by_cases e : j = k
          · subst e; exact a3
          · exact zRow_fr (hrk.2 j (by omega)) (a4.at (fun j => by omega)) (a4.at (fun j => by omega))) (hf.tr (a4.mono (fun q j z => by omega)))
      refine ⟨g1, ?_, q2, q3⟩
      rw [e_Notes_copyOf_6, No_ck h2, Notes_size xs h2 (by omega) h2k, zci_ok, if_neg (by rw [zw_id (by omega) (by omega), zw_id (by omega) (by omega)]; omega), No_ck h2, Notes_thingOf xs h2 (by omega) h2k k (by omega), zci_ok, No_ck h2, Notes_rowOf xs h2 k (by omega), zcr_ok, No_ck h, a1, zcv_ok, ← Int.natCast_succ]
      exact q1
  obtain ⟨w1, w2, w3⟩ := Row_wipe xs (g := g) h.2.2.1
  obtain ⟨g1, q1, q2, q3⟩ := loop n 0 _ (by omega) ⟨w2, fun k hk => by omega⟩ (w3.mono (fun q j z => by simp only [scR] at z; omega))
  rw [z0N] at q1
  refine ⟨g1, ?_, q2, q3⟩
  rw [e_Notes_copyOf_0, No_ck h, e_Notes_wipe_0, No_t h, Rw_ck h.2.2.1, w1, zcv_ok, zcv_ok]
  exact q1
