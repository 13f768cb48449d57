/-! ===== seen: the reference ===== -/
def scW (q : Nat) (_ : Int) : Prop := q = pM_ways ∨ q = pM_before
theorem M_seen_first (xs : List Int) (g : Nat → Int → Int) (n p : Int) : ∃ g1, zx zblk xs 65 36 [some (.inr (.inr (some pM))), some (.inl (n)), some (.inl (p)), some (.inl (0))] [] (HH g) = zx zblk xs 65 64 [some (.inr (.inr (some pM))), some (.inl (n)), some (.inl (p))] [] (HH g1) ∧ (∀ s : Nat, s < 256 → g1 pM_ways s = if s = 0 then 1 else 0) ∧ zFr scW g g1 := by
  have loop : ∀ (r k : Nat) (gk : Nat → Int → Int), k + r = 256 → (∀ s : Nat, s < k → gk pM_ways s = if s = 0 then 1 else 0) → zFr scW g gk → ∃ g1, zx zblk xs 65 36 [some (.inr (.inr (some pM))), some (.inl (n)), some (.inl (p)), some (.inl ((k : Int)))] [] (HH gk) = zx zblk xs 65 64 [some (.inr (.inr (some pM))), some (.inl (n)), some (.inl (p))] [] (HH g1) ∧ (∀ s : Nat, s < 256 → g1 pM_ways s = if s = 0 then 1 else 0) ∧ zFr scW g g1 := by
    intro r
    induction r with
    | zero =>
      intro k gk hk hj hf
      have : k = 256 := by omega
      subst this
      refine ⟨gk, ?_, hj, hf⟩
      rw [e_M_seen_36, if_pos (by decide)]
    | succ r ih =>
      intro k gk hk hj hf
      have hst : zx zblk xs 65 36 [some (.inr (.inr (some pM))), some (.inl (n)), some (.inl (p)), some (.inl ((k : Int)))] [] (HH gk) = zx zblk xs 65 36 [some (.inr (.inr (some pM))), some (.inl (n)), some (.inl (p)), some (.inl (((k + 1 : Nat) : Int)))] [] (HH (up gk pM_ways k (if k = 0 then 1 else 0))) := by
        rw [e_M_seen_36, if_neg (by rw [show zw 256 = 256 from rfl, zw_id (by omega) (by omega)]; omega), pM_r_ways, zw_id (by omega) (by omega)]
        by_cases c : k = 0
        · subst c
          rw [if_neg (fun z => z rfl), e_M_seen_57, pM_s_ways _ _ (by omega) (by omega), if_pos rfl, Int.natCast_succ]
        · rw [if_pos (by omega), e_M_seen_56, e_M_seen_57, pM_s_ways _ _ (by omega) (by omega), if_neg c, Int.natCast_succ]
      obtain ⟨g1, q1, q2, q3⟩ := ih (k + 1) _ (by omega) (fun j hj' => by
        by_cases e : j = k
        · subst e; exact up_same _ _ _ _
        · rw [up_ne _ _ (fun z => by omega)]; exact hj j (by omega)) (hf.up (Or.inl rfl))
      exact ⟨g1, hst.trans q1, q2, q3⟩
  obtain ⟨g1, q1, q2, q3⟩ := loop 256 0 g (by omega) (fun j hj => by omega) zFr.rf
  rw [z0N] at q1
  exact ⟨g1, q1, q2, q3⟩
theorem M_seen_move (xs : List Int) (g : Nat → Int → Int) (n p v3 v5 : Int) : ∃ g1, zx zblk xs 65 90 [some (.inr (.inr (some pM))), some (.inl (n)), some (.inl (p)), some (.inr (.inl (v3))), none, some (.inl (v5)), some (.inl (0))] [] (HH g) = zx zblk xs 65 126 [some (.inr (.inr (some pM))), some (.inl (n)), some (.inl (p)), some (.inr (.inl (v3))), none, some (.inl (v5))] [] (HH g1) ∧ (∀ s : Nat, s < 256 → g1 pM_before s = g pM_ways s ∧ g1 pM_ways s = 0) ∧ zFr scW g g1 := by
  have loop : ∀ (r k : Nat) (gk : Nat → Int → Int), k + r = 256 → (∀ s : Nat, s < k → gk pM_before s = g pM_ways s ∧ gk pM_ways s = 0) → (∀ s : Nat, k ≤ s → gk pM_ways s = g pM_ways s) → zFr scW g gk → ∃ g1, zx zblk xs 65 90 [some (.inr (.inr (some pM))), some (.inl (n)), some (.inl (p)), some (.inr (.inl (v3))), none, some (.inl (v5)), some (.inl ((k : Int)))] [] (HH gk) = zx zblk xs 65 126 [some (.inr (.inr (some pM))), some (.inl (n)), some (.inl (p)), some (.inr (.inl (v3))), none, some (.inl (v5))] [] (HH g1) ∧ (∀ s : Nat, s < 256 → g1 pM_before s = g pM_ways s ∧ g1 pM_ways s = 0) ∧ zFr scW g g1 := by
    intro r
    induction r with
    | zero =>
      intro k gk hk hj ho hf
      have : k = 256 := by omega
      subst this
      refine ⟨gk, ?_, hj, hf⟩
      rw [e_M_seen_90, if_pos (by decide)]
    | succ r ih =>
      intro k gk hk hj ho hf
      obtain ⟨g1, q1, q2, q3⟩ := ih (k + 1) (up (up gk pM_before k (gk pM_ways k)) pM_ways k 0) (by omega) (fun j hj' => by
        by_cases e : j = k
        · subst e
          refine ⟨?_, up_same _ _ _ _⟩
          rw [up_q (by decide), up_same]
          exact ho j (Nat.le_refl _)
        · obtain ⟨h1, h2⟩ := hj j (by omega)
          refine ⟨?_, ?_⟩
          · rw [up_q (by decide), up_ne _ _ (fun z => by omega)]; exact h1
          · rw [up_ne _ _ (fun z => by omega), up_q (by decide)]; exact h2) (fun s hs => by
        rw [up_ne _ _ (fun z => by omega), up_q (by decide)]
        exact ho s (by omega)) ((hf.up (Or.inr rfl)).up (Or.inl rfl))
      refine ⟨g1, ?_, q2, q3⟩
      rw [e_M_seen_90, if_neg (by rw [show zw 256 = 256 from rfl, zw_id (by omega) (by omega)]; omega), pM_r_before, pM_r_ways, pM_a_ways xs _ (by omega) (by omega), pM_s_before _ _ (by omega) (by omega), pM_r_ways, pM_s_ways _ _ (by omega) (by omega), ← Int.natCast_succ]
      exact q1
  obtain ⟨g1, q1, q2, q3⟩ := loop 256 0 g (by omega) (fun j hj => by omega) (fun s hs => rfl) zFr.rf
  rw [z0N] at q1
  exact ⟨g1, q1, q2, q3⟩
theorem M_seen_set (xs : List Int) {w : Nat → Int} {T : Nat} (hT : T ≤ 8) (hw : ∀ t, t < T → 1 ≤ w t ∧ w t ≤ 99) (n p v3 v5 : Int) {b F : Nat → Int} {s : Nat} (hs : s < 256) (hb : 0 ≤ b s ∧ b s < 4611686018427387904) : ∀ (r t : Nat) (gk : Nat → Int → Int), t + r = T → gk pM 10 = T → (∀ j : Nat, j < T → gk pM_weights j = w j) → gk pM_before s = b s → (∀ s' : Nat, s' < 256 → gk pM_ways s' = F s' + zsum (fun t => if s' = s ||| 2 ^ t then b s * w t else 0) t) → ∃ g1, zx zblk xs 65 140 [some (.inr (.inr (some pM))), some (.inl (n)), some (.inl (p)), some (.inr (.inl (v3))), none, some (.inl (v5)), some (.inl ((s : Int))), some (.inl ((t : Int)))] [] (HH gk) = zx zblk xs 65 198 [some (.inr (.inr (some pM))), some (.inl (n)), some (.inl (p)), some (.inr (.inl (v3))), none, some (.inl (v5)), some (.inl ((s : Int)))] [] (HH g1) ∧ (∀ s' : Nat, s' < 256 → g1 pM_ways s' = F s' + zsum (fun t => if s' = s ||| 2 ^ t then b s * w t else 0) T) ∧ zFr (fun q _ => q = pM_ways) gk g1 := by
  intro r
  induction r with
  | zero =>
    intro t gk ht h10 hwt hbf hj
    have : t = T := by omega
    subst this
    refine ⟨gk, ?_, hj, zFr.rf⟩
    rw [e_M_seen_140, pM_g_things, h10, if_pos (Int.le_refl _)]
  | succ r ih =>
    intro t gk ht h10 hwt hbf hj
    have hw1 := hw t (by omega)
    obtain ⟨o1, o2⟩ := or_ok s hs t (by omega)
    rw [e_M_seen_140, pM_g_things, h10, if_neg (by rw [zw_id (by omega) (by omega), zw_id (by omega) (by omega)]; omega), pM_r_before, pM_a_before xs _ (by omega) (by omega), hbf]
    obtain ⟨a, ha⟩ : ∃ a : Nat, b s = a := ⟨(b s).toNat, by omega⟩
    have hcm : zw (if zwl (b s) < zwl 0 then -1 else if zwl (b s) = zwl 0 then 0 else 1) = if a = 0 then 0 else 1 := by
      rw [ha]
      exact zcmp0 (by omega)
    rw [hcm]
    by_cases c : a = 0
    · refine ⟨gk, by rw [if_pos c, if_pos (by decide)], fun s' hs' => ?_, zFr.rf⟩
      have hz : b s = 0 := by omega
      rw [hj s' hs', hz]
      simp only [Int.zero_mul, ite_self]
      rw [zsum_nought, zsum_nought]
    · obtain ⟨g1, q1, q2, q3⟩ := ih (t + 1) (up gk pM_ways ((s ||| 2 ^ t : Nat) : Int) (gk pM_ways ((s ||| 2 ^ t : Nat) : Int) + b s * w t)) (by omega) (by rw [up_q (by decide)]; exact h10) (fun j hj' => by rw [up_q (by decide)]; exact hwt j hj') (by rw [up_q (by decide)]; exact hbf) (fun s' hs' => by
        rw [zsum]
        by_cases e : s' = s ||| 2 ^ t
        · rw [if_pos e, ← e, up_same, hj s' hs', Int.add_assoc]
        · rw [if_neg e, up_ne _ _ (fun z => e (by omega)), hj s' hs', Int.add_zero])
      refine ⟨g1, ?_, q2, (zFr.rf.up rfl).tr q3⟩
      rw [if_neg c, if_neg (by decide), pM_r_ways, o1, pM_a_ways xs _ (by omega) (by omega), pM_r_before, pM_a_before xs _ (by omega) (by omega), hbf, pM_r_weights, pM_a_weights xs _ (by omega) (by omega), hwt t (by omega), zw_id (a := w t) (by omega) (by omega), pM_s_ways _ _ (by omega) (by omega), ← Int.natCast_succ]
      exact q1
theorem M_seen_push (xs : List Int) {w : Nat → Int} {T : Nat} (hT : T ≤ 8) (hw : ∀ t, t < T → 1 ≤ w t ∧ w t ≤ 99) (n p v3 v5 : Int) {b : Nat → Int} (hb : ∀ s : Nat, s < 256 → 0 ≤ b s ∧ b s < 4611686018427387904) {g : Nat → Int → Int} (h10 : g pM 10 = T) (hwt : ∀ j : Nat, j < T → g pM_weights j = w j) (hbf : ∀ s : Nat, s < 256 → g pM_before s = b s) (h0 : ∀ s : Nat, s < 256 → g pM_ways s = 0) : ∃ g1, zx zblk xs 65 126 [some (.inr (.inr (some pM))), some (.inl (n)), some (.inl (p)), some (.inr (.inl (v3))), none, some (.inl (v5))] [] (HH g) = zx zblk xs 65 204 [some (.inr (.inr (some pM))), some (.inl (n)), some (.inl (p)), some (.inr (.inl (v3))), none, some (.inl (v5))] [] (HH g1) ∧ (∀ s' : Nat, s' < 256 → g1 pM_ways s' = zsum (psS w T b s') 256) ∧ zFr (fun q _ => q = pM_ways) g g1 := by
  have loop : ∀ (r s : Nat) (gk : Nat → Int → Int), s + r = 256 → (∀ s' : Nat, s' < 256 → gk pM_ways s' = zsum (psS w T b s') s) → zFr (fun q _ => q = pM_ways) g gk → ∃ g1, zx zblk xs 65 129 [some (.inr (.inr (some pM))), some (.inl (n)), some (.inl (p)), some (.inr (.inl (v3))), none, some (.inl (v5)), some (.inl ((s : Int)))] [] (HH gk) = zx zblk xs 65 204 [some (.inr (.inr (some pM))), some (.inl (n)), some (.inl (p)), some (.inr (.inl (v3))), none, some (.inl (v5))] [] (HH g1) ∧ (∀ s' : Nat, s' < 256 → g1 pM_ways s' = zsum (psS w T b s') 256) ∧ zFr (fun q _ => q = pM_ways) g g1 := by
    intro r
    induction r with
    | zero =>
      intro s gk hs hj hf
      have : s = 256 := by omega
      subst this
      refine ⟨gk, ?_, hj, hf⟩
      rw [e_M_seen_129, if_pos (by decide)]
    | succ r ih =>
      intro s gk hs hj hf
      have k1 : gk pM 10 = T := by rw [hf pM 10 (by decide)]; exact h10
      have k2 : gk pM_weights = g pM_weights := hf.at (fun j => by decide)
      have k3 : gk pM_before = g pM_before := hf.at (fun j => by decide)
      obtain ⟨g2, p1, p2, p3⟩ := M_seen_set xs hT hw n p v3 v5 (b := b) (F := fun s' => zsum (psS w T b s') s) (s := s) (by omega) (hb s (by omega)) T 0 gk (by omega) k1 (fun j hj => by rw [k2]; exact hwt j hj) (by rw [k3]; exact hbf s (by omega)) (fun s' hs' => by rw [hj s' hs']; simp [zsum])
      obtain ⟨g1, q1, q2, q3⟩ := ih (s + 1) g2 (by omega) (fun s' hs' => by rw [p2 s' hs', zsum]; rfl) (hf.tr p3)
      refine ⟨g1, ?_, q2, q3⟩
      rw [z0N] at p1
      rw [e_M_seen_129, if_neg (by rw [show zw 256 = 256 from rfl, zw_id (by omega) (by omega)]; omega), p1, e_M_seen_198, ← Int.natCast_succ]
      exact q1
  obtain ⟨g1, q1, q2, q3⟩ := loop 256 0 g (by omega) (fun s' hs' => by rw [h0 s' hs']; rfl) zFr.rf
  rw [z0N] at q1
  exact ⟨g1, by rw [e_M_seen_126]; exact q1, q2, q3⟩
theorem M_seen (xs : List Int) {g : Nat → Int → Int} (hB : Bd g) {n p : Int} (hn : zw n = n) (hp : zw p = p) : ∃ g1, zx zblk xs 65 0 [some (.inr (.inr (some pM))), some (.inl (n)), some (.inl (p))] [] (HH g) = some (some (.inr (.inl (seS g n p))), HH g1) ∧ zFr scM g g1 := by
  obtain ⟨-, -, -, q10, -⟩ := id hB.1
  have e19 : zx zblk xs 65 19 [] [] (HH g) = some (some (.inr (.inl (-102))), HH g) := e_M_seen_19 xs _
  have hsc : ∀ q j, scW q j → scM q j := fun q j z => by simp only [scW, scM, pM, pM_page, pM_readRows, pM_speeches, pM_rows, pM_signalRows, pM_weights, pM_plain, pM_plains, pM_ahead, pM_heap, pM_noteRows, pM_ways, pM_before, pM_keptWeights, pM_keptRows, pX, pX_signals, pX_weights, pX_codes, pX_page, pX_notes, pX_keptWeights, pX_keptNotes, pX_said, pX_heard, pX_pool, pX_struck, pX_readings] at z ⊢; omega
  rw [e_M_seen_0, M_in' xs _ hn rfl rfl, zci_ok, zb_zw]
  unfold seS
  by_cases a : 1 ≤ n ∧ n ≤ 6
  · rw [zb_t a, if_neg (by decide), M_isPart' xs _ hp, zci_ok, zb_zw]
    by_cases b : p = 0 ∨ p = 1
    · obtain ⟨n, rfl⟩ : ∃ n' : Nat, n = n' := ⟨n.toNat, by omega⟩
      rw [zb_t b, if_pos (by decide), if_pos ⟨a, b⟩, e_M_seen_23, pM_g_things, zw_id (by omega) (by omega)]
      by_cases c : g pM 10 = 0
      · exact ⟨g, by rw [if_neg (fun z => z c), if_pos c], zFr.rf⟩
      · obtain ⟨T, hT⟩ : ∃ T : Nat, g pM 10 = T := ⟨(g pM 10).toNat, by omega⟩
        have hTn : (g pM 10).toNat = T := by omega
        have hw : ∀ t, t < T → 1 ≤ g pM_weights (t : Int) ∧ g pM_weights (t : Int) ≤ 99 := fun t ht => hB.2.2.2.2.1 t (by omega) (by omega)
        have hws := wsum_rg hB (n := g pM 10) (by omega) (by omega)
        obtain ⟨ga, a1, a2, a3⟩ := M_seen_first xs g n p
        have loop : ∀ (r k : Nat) (gk : Nat → Int → Int), k + r = n → (∀ s : Nat, s < 256 → gk pM_ways s = aW (fun t => g pM_weights t) T k s) → zFr scW g gk → ∃ g1, zx zblk xs 65 69 [some (.inr (.inr (some pM))), some (.inl ((n : Int))), some (.inl (p)), some (.inr (.inl (wsum g (g pM 10) ^ k))), none, some (.inl ((k : Int)))] [] (HH gk) = zx zblk xs 65 210 [some (.inr (.inr (some pM))), none, some (.inl (p)), some (.inr (.inl (wsum g (g pM 10) ^ n)))] [] (HH g1) ∧ (∀ s : Nat, s < 256 → g1 pM_ways s = aW (fun t => g pM_weights t) T n s) ∧ zFr scW g g1 := by
          intro r
          induction r with
          | zero =>
            intro k gk hk hj hf
            have : k = n := by omega
            subst this
            refine ⟨gk, ?_, hj, hf⟩
            rw [e_M_seen_69, if_pos (Int.le_refl _)]
          | succ r ih =>
            intro k gk hk hj hf
            have hes : es gk = es g := es_scM (hf.mono hsc)
            have hBk := es_Bd hes hB
            have k10 : gk pM 10 = g pM 10 := (es_all hes).2.2.2.2.2.2.2.2.2.2.2.1
            have kw : gk pM_weights = g pM_weights := (es_all hes).2.2.2.2.1
            have hwd := M_weighed xs hBk (g pM 10).toNat (by omega)
            rw [Int.toNat_of_nonneg q10.1, kw] at hwd
            have hwd' : zx zblk xs 44 0 [some (.inr (.inr (some pM))), some (.inl ((g pM 10)))] [] (HH gk) = some (some (.inl (wsum g (g pM 10))), HH gk) := hwd
            obtain ⟨gb, b1, b2, b3⟩ := M_seen_move xs gk n p (wsum g (g pM 10) ^ k * wsum g (g pM 10)) k
            have hfb : zFr scW g gb := hf.tr b3
            have hab : ∀ s, 0 ≤ aW (fun t => g pM_weights t) T k s ∧ aW (fun t => g pM_weights t) T k s < 4611686018427387904 := fun s => by
              have h1 := aS_rg hw k s
              have h2 : (198 * T) ^ k < 4611686018427387904 := Nat.lt_of_le_of_lt (Nat.le_trans (Nat.pow_le_pow_left (show 198 * T ≤ 1584 by omega) k) (Nat.pow_le_pow_right (by omega) (show k ≤ 5 by omega))) (by decide)
              unfold aW
              split
              · have := h1.2
                omega
              · omega
            obtain ⟨gc, c1, c2, c3⟩ := M_seen_push xs (w := fun t => g pM_weights t) (T := T) (by omega) hw n p (wsum g (g pM 10) ^ k * wsum g (g pM 10)) k (b := aW (fun t => g pM_weights t) T k) (fun s _ => hab s) (g := gb) (by rw [hfb pM 10 (by simp only [scW, pM, pM_page, pM_readRows, pM_speeches, pM_rows, pM_signalRows, pM_weights, pM_plain, pM_plains, pM_ahead, pM_heap, pM_noteRows, pM_ways, pM_before, pM_keptWeights, pM_keptRows, pX, pX_signals, pX_weights, pX_codes, pX_page, pX_notes, pX_keptWeights, pX_keptNotes, pX_said, pX_heard, pX_pool, pX_struck, pX_readings]; omega)]; exact hT) (fun j _ => by rw [hfb.at (q := pM_weights) (fun j => by simp only [scW, pM, pM_page, pM_readRows, pM_speeches, pM_rows, pM_signalRows, pM_weights, pM_plain, pM_plains, pM_ahead, pM_heap, pM_noteRows, pM_ways, pM_before, pM_keptWeights, pM_keptRows, pX, pX_signals, pX_weights, pX_codes, pX_page, pX_notes, pX_keptWeights, pX_keptNotes, pX_said, pX_heard, pX_pool, pX_struck, pX_readings]; omega)]) (fun s hs => by rw [(b2 s hs).1, hj s hs]) (fun s hs => (b2 s hs).2)
            obtain ⟨g1, d1, d2, d3⟩ := ih (k + 1) gc (by omega) (fun s hs => by rw [c2 s hs, aW_step _ _ _ _ hs]) (hfb.tr (c3.mono (fun q j z => Or.inl z)))
            refine ⟨g1, ?_, d2, d3⟩
            rw [Int.pow_succ] at d1
            rw [e_M_seen_69, if_neg (by rw [zw_id (by omega) (by omega), zw_id (by omega) (by omega)]; omega), pM_g_things, k10, pM_ck, hwd', zci_ok, zw_id (a := wsum g (g pM 10)) (by omega) (by omega), b1, c1, e_M_seen_204, ← Int.natCast_succ]
            exact d1
        obtain ⟨g1, d1, d2, d3⟩ := loop n 0 ga (by omega) (fun s hs => by rw [a2 s hs, aW_0]) a3
        rw [z0N, Int.pow_zero] at d1
        have k10 : g1 pM 10 = T := by rw [d3 pM 10 (by simp only [scW, pM, pM_page, pM_readRows, pM_speeches, pM_rows, pM_signalRows, pM_weights, pM_plain, pM_plains, pM_ahead, pM_heap, pM_noteRows, pM_ways, pM_before, pM_keptWeights, pM_keptRows, pX, pX_signals, pX_weights, pX_codes, pX_page, pX_notes, pX_keptWeights, pX_keptNotes, pX_said, pX_heard, pX_pool, pX_struck, pX_readings]; omega)]; exact hT
        obtain ⟨b1, b2, b3, b4, b5⟩ := se_bd hB c (n := n) (by omega)
        have ht := M_term xs (HH g1) (a := (seO g n).toNat) (b := (wsum g (g pM 10)).toNat ^ n) hp b2 b3 b4
        rw [Int.toNat_of_nonneg b1, b5] at ht
        have hp2 := pow_256 (T := T) (by omega)
        have hpp : 0 < 2 ^ T := Nat.pow_pos (by omega)
        refine ⟨g1, ?_, d3.mono hsc⟩
        rw [if_pos c, if_neg c, e_M_seen_34, a1, e_M_seen_64, d1, e_M_seen_210, pM_r_ways, pM_g_things, k10, shl_ok T (by omega), show ((2 ^ T : Nat) : Int) - 1 = ((2 ^ T - 1 : Nat) : Int) by omega, pM_a_ways xs _ (by omega) (by omega), d2 _ (by omega)]
        have e1 : aW (fun t => g pM_weights t) T n (2 ^ T - 1) = seO g n := by
          unfold aW seO
          rw [if_pos (by omega), hTn]
        rw [e1, ht, zcl_ok']
        rfl
    · exact ⟨g, by rw [zb_f b, if_neg (by decide), e19, if_neg (fun z => b z.2)], zFr.rf⟩
  · exact ⟨g, by rw [zb_f a, if_pos rfl, e19, if_neg (fun z => a z.1)], zFr.rf⟩
theorem op_seen (xs : List Int) {g : Nat → Int → Int} (hI : Inv g) {n p : Int} (hn : zw n = n) (hp : zw p = p) : zOp xs (fun h => zx zblk xs 160 0 [some (.inr (.inr (some pX))), some (.inl (n)), some (.inl (p))] [] h) (fun h => zx zblk xs 65 0 [some (.inr (.inr (some pM))), some (.inl (n)), some (.inl (p))] [] h) (fun v => .inr (.inl v)) g := op_q (val := fun v => .inr (.inl v)) (sp := fun G => seS G n p) (fun g hI => ⟨g, X_seen xs hI.1 hI.2 hn hp, zFr.rf⟩) (fun g hB => M_seen xs hB hn hp) (fun g1 g h => by rw [es_seS h]) hI
