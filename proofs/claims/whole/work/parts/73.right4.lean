/-! ===== right: the reference's call ===== -/
theorem M_right_go (xs : List Int) {g0 g : Nat → Int → Int} (hB : Bd g0) {c : Int} (hc : 0 ≤ c ∧ c < g0 pM 5) (hes : es g = es g0) (hR : rdy g (fun i => plS g0 0 c i) (nS g0 c)) {t : Nat} (ht : t < nS g0 c) (hn : (plS g0 0 c t).length ≤ 4) {r e : Nat} (hr : 2 ≤ r) (hr8 : r ≤ 8) (he : e ≤ 10) {p : Int} (hp : zw p = p) : ∃ g1, zx zblk xs 58 87 [some (.inr (.inr (some pM))), some (.inl (c)), some (.inl ((t : Int))), some (.inl ((r : Int))), some (.inl ((e : Int))), some (.inl (p))] [] (HH g) = some (some (.inr (.inl (rgO g0 c t r e p))), HH g1) ∧ zFr scM g g1 := by
  obtain ⟨n1, n2, n3⟩ := nS_rg hB hc
  obtain ⟨-, q5, -⟩ := id hB.1
  have a1 : g pM_plains (11 * t) = (plS g0 0 c t).length := (hR.1 t ht).1
  have hRn := pow_le4 (n := (plS g0 0 c t).length) hr8 hn (by omega)
  obtain ⟨b1, b2, b3⟩ := rg_bd (G := g0) (c := c) (t := t) (r := r) (e := e) hr hr8 he hn
  have hsp : g pM_speeches = g0 pM_speeches := (es_all hes).2.1
  have loop1 : ∀ (s k : Nat), k + s = (plS g0 0 c t).length → zx zblk xs 58 107 [some (.inr (.inr (some pM))), some (.inl (c)), some (.inl ((t : Int))), some (.inl ((r : Int))), some (.inl ((e : Int))), some (.inl (p)), some (.inl (((plS g0 0 c t).length : Int))), some (.inl (((r ^ k : Nat) : Int))), some (.inr (.inl ((((10 * (r - 1)) ^ k : Nat) : Int)))), none, some (.inl ((k : Int)))] [] (HH g) = zx zblk xs 58 139 [some (.inr (.inr (some pM))), some (.inl (c)), some (.inl ((t : Int))), some (.inl ((r : Int))), some (.inl ((e : Int))), some (.inl (p)), some (.inl (((plS g0 0 c t).length : Int))), some (.inl (((r ^ (plS g0 0 c t).length : Nat) : Int))), some (.inr (.inl ((((10 * (r - 1)) ^ (plS g0 0 c t).length : Nat) : Int))))] [] (HH g) := by
    intro s
    induction s with
    | zero =>
      intro k hk
      have : k = (plS g0 0 c t).length := by omega
      subst this
      rw [e_M_right_107, if_pos (Int.le_refl _)]
    | succ s ih =>
      intro k hk
      have ih' := ih (k + 1) (by omega)
      rw [Nat.pow_succ, Nat.pow_succ, Int.natCast_mul, Int.natCast_mul ((10 * (r - 1)) ^ k)] at ih'
      rw [e_M_right_107, if_neg (by rw [zw_id (by omega) (by omega), zw_id (by omega) (by omega)]; omega), zw_id (by omega) (by omega), show (10 * ((r : Int) - 1)) = ((10 * (r - 1) : Nat) : Int) by omega, ← Int.natCast_succ]
      exact ih'
  have loop2 : ∀ (s k : Nat) (gk : Nat → Int → Int), k + s = r ^ (plS g0 0 c t).length → gk pM 13 = (plS g0 0 c t).length → zFr (fun q j => q = pM_plain ∨ (q = pM ∧ j = 13)) g gk → ∃ g1, zx zblk xs 58 151 [some (.inr (.inr (some pM))), some (.inl (c)), some (.inl ((t : Int))), some (.inl ((r : Int))), some (.inl ((e : Int))), some (.inl (p)), some (.inl (((plS g0 0 c t).length : Int))), some (.inl (((r ^ (plS g0 0 c t).length : Nat) : Int))), some (.inr (.inl ((((10 * (r - 1)) ^ (plS g0 0 c t).length : Nat) : Int)))), none, some (.inr (.inl ((rgA (fun i => plS g0 0 c i) (nS g0 c) t (plS g0 0 c t) r e (plS g0 0 c t).length k : Int)))), none, some (.inl ((k : Int)))] [] (HH gk) = zx zblk xs 58 271 [none, none, none, none, none, some (.inl (p)), none, none, some (.inr (.inl ((((10 * (r - 1)) ^ (plS g0 0 c t).length : Nat) : Int)))), none, some (.inr (.inl ((rgA (fun i => plS g0 0 c i) (nS g0 c) t (plS g0 0 c t) r e (plS g0 0 c t).length (r ^ (plS g0 0 c t).length) : Int))))] [] (HH g1) ∧ zFr (fun q j => q = pM_plain ∨ (q = pM ∧ j = 13)) g g1 := by
    intro s
    induction s with
    | zero =>
      intro k gk hk h13 hf
      have : k = r ^ (plS g0 0 c t).length := by omega
      subst this
      refine ⟨gk, ?_, hf⟩
      rw [e_M_right_151, if_pos (Int.le_refl _)]
    | succ s ih =>
      intro k gk hk h13 hf
      have hRk : rdy gk (fun i => plS g0 0 c i) (nS g0 c) := rdy_fr hR (hf.at (fun j => by simp only [pM, pM_page, pM_readRows, pM_speeches, pM_rows, pM_signalRows, pM_weights, pM_plain, pM_plains, pM_ahead, pM_heap, pM_noteRows, pM_ways, pM_before, pM_keptWeights, pM_keptRows, pX, pX_signals, pX_weights, pX_codes, pX_page, pX_notes, pX_keptWeights, pX_keptNotes, pX_said, pX_heard, pX_pool, pX_struck, pX_readings]; omega))
      obtain ⟨g2, w1, w2, w3⟩ := M_right_heard xs hRk ht hn hr hr8 he h13 (h := k) (by omega) c p ((r ^ (plS g0 0 c t).length : Nat) : Int) (((10 * (r - 1)) ^ (plS g0 0 c t).length : Nat) : Int) (rgA (fun i => plS g0 0 c i) (nS g0 c) t (plS g0 0 c t) r e (plS g0 0 c t).length k : Int)
      have hf2 : zFr (fun q j => q = pM_plain ∨ (q = pM ∧ j = 13)) g g2 := hf.tr (w3.mono (fun q j z => Or.inl z))
      obtain ⟨g1, q1, q2⟩ := ih (k + 1) g2 (by omega) (by rw [w3 pM 13 (by decide)]; exact h13) hf2
      have hR2 : rdy g2 (fun i => plS g0 0 c i) (nS g0 c) := rdy_fr hR (hf2.at (fun j => by simp only [pM, pM_page, pM_readRows, pM_speeches, pM_rows, pM_signalRows, pM_weights, pM_plain, pM_plains, pM_ahead, pM_heap, pM_noteRows, pM_ways, pM_before, pM_keptWeights, pM_keptRows, pX, pX_signals, pX_weights, pX_codes, pX_page, pX_notes, pX_keptWeights, pX_keptNotes, pX_said, pX_heard, pX_pool, pX_struck, pX_readings]; omega))
      have hsp2 : g2 pM_speeches = g0 pM_speeches := by rw [hf2.at (q := pM_speeches) (fun j => by simp only [pM, pM_page, pM_readRows, pM_speeches, pM_rows, pM_signalRows, pM_weights, pM_plain, pM_plains, pM_ahead, pM_heap, pM_noteRows, pM_ways, pM_before, pM_keptWeights, pM_keptRows, pX, pX_signals, pX_weights, pX_codes, pX_page, pX_notes, pX_keptWeights, pX_keptNotes, pX_said, pX_heard, pX_pool, pX_struck, pX_readings]; omega)]; exact hsp
      have hnm := M_namedNow xs g2 (fun i => plS g0 0 c i) c (dgL r k (plS g0 0 c t).length) hc.1 (by omega) (by rw [hsp2]; omega) (by rw [hsp2]; exact hR2) w2 (dgL_R7 (by omega) hr8 k _) (by unfold dgL; rw [zLi_len]; omega)
      rw [hsp2] at hnm
      have hdr := nbest_rg (v := fun i => dif (plS g0 0 c i) (dgL r k (plS g0 0 c t).length)) (n := nS g0 c) (fun j _ => (dif_rg _ _ (by unfold dgL; rw [zLi_len]; omega)).1)
      refine ⟨g1, ?_, q2⟩
      have hnm' : zx zblk xs 30 0 [some (.inr (.inr (some pM))), some (.inl (c))] [] (HH g2) = some (some (.inl (nbest (fun i => dif (plS g0 0 c i) (dgL r k (plS g0 0 c t).length)) (nS g0 c)).1), HH g2) := hnm
      rw [e_M_right_151, if_neg (by rw [zw_id (by omega) (by omega), zw_id (by omega) (by omega)]; omega), w1, e_M_right_245, pM_ck, hnm', zci_ok, zw_id (by omega) (by omega), zw_id (by omega) (by omega)]
      rw [rgA, Int.natCast_add] at q1
      by_cases d : (nbest (fun i => dif (plS g0 0 c i) (dgL r k (plS g0 0 c t).length)) (nS g0 c)).1 = t
      · rw [if_pos d] at q1
        rw [if_neg (fun z => z d), e_M_right_262, ← Int.natCast_succ]
        exact q1
      · rw [if_neg d] at q1
        rw [if_pos d, e_M_right_261, e_M_right_262, ← Int.natCast_succ]
        exact q1
  obtain ⟨g1, q1, q2⟩ := loop2 (r ^ (plS g0 0 c t).length) 0 (up g pM 13 ((plS g0 0 c t).length : Int)) (by omega) (up_same _ _ _ _) (zFr.rf.up (Or.inr ⟨rfl, rfl⟩))
  rw [z0N] at q1
  have l1 := loop1 (plS g0 0 c t).length 0 (by omega)
  rw [z0N, Nat.pow_zero, Nat.pow_zero] at l1
  refine ⟨g1, ?_, q2.mono (fun q j z => by simp only [scM, pM, pM_page, pM_readRows, pM_speeches, pM_rows, pM_signalRows, pM_weights, pM_plain, pM_plains, pM_ahead, pM_heap, pM_noteRows, pM_ways, pM_before, pM_keptWeights, pM_keptRows, pX, pX_signals, pX_weights, pX_codes, pX_page, pX_notes, pX_keptWeights, pX_keptNotes, pX_said, pX_heard, pX_pool, pX_struck, pX_readings] at z ⊢; omega)⟩
  rw [e_M_right_87, pM_r_plains, pM_a_plains xs _ (by omega) (by omega), a1]
  refine Eq.trans l1 ?_
  rw [e_M_right_139, pM_p_plainMany]
  refine Eq.trans q1 ?_
  rw [e_M_right_271, M_term xs _ hp b1 b2 b3, zcl_ok']
  rfl
theorem M_right (xs : List Int) {g : Nat → Int → Int} (hB : Bd g) {c t r e p : Int} (hc : zw c = c) (ht : zw t = t) (hr : zw r = r) (he : zw e = e) (hp : zw p = p) : ∃ g1, zx zblk xs 58 0 [some (.inr (.inr (some pM))), some (.inl (c)), some (.inl (t)), some (.inl (r)), some (.inl (e)), some (.inl (p))] [] (HH g) = some (some (.inr (.inl (rgS g c t r e p))), HH g1) ∧ zFr scM g g1 := by
  have e25 : zx zblk xs 58 25 [] [] (HH g) = some (some (.inr (.inl (-101))), HH g) := e_M_right_25 xs _
  have e64 : zx zblk xs 58 64 [] [] (HH g) = some (some (.inr (.inl (-102))), HH g) := e_M_right_64 xs _
  rw [e_M_right_0, pM_ck, M_isCode' xs hB hc, zci_ok, zb_zw]
  unfold rgS
  by_cases a : 0 ≤ c ∧ c < g pM 5
  · have hsd := saidS_rg hB a
    obtain ⟨n1, n2, n3⟩ := nS_rg hB a
    rw [zb_t a, if_neg (by decide), pM_ck, M_saidBy xs hB a, zci_ok, zw_id (a := saidS g c - 1) (by omega) (by omega), M_in' xs _ ht rfl (zwl_id (by omega) (by omega)), zci_ok, zb_zw]
    by_cases b : 0 ≤ t ∧ t < saidS g c
    · obtain ⟨t, rfl⟩ : ∃ t' : Nat, t = t' := ⟨t.toNat, by omega⟩
      have htn : t < nS g c := by omega
      rw [zb_t (by omega), if_pos (by decide), if_pos ⟨a, b⟩, e_M_right_29, M_in' xs _ hr rfl rfl, zci_ok, zb_zw, e64]
      by_cases d : (2 ≤ r ∧ r ≤ 8) ∧ (0 ≤ e ∧ e ≤ 10) ∧ (p = 0 ∨ p = 1)
      · obtain ⟨r, rfl⟩ : ∃ r' : Nat, r = r' := ⟨r.toNat, by omega⟩
        obtain ⟨e, rfl⟩ : ∃ e' : Nat, e = e' := ⟨e.toNat, by omega⟩
        obtain ⟨ga, x1, x2, x3⟩ := M_layAll xs g c 0 hB a
        have hr1 := rdy_of hB a x2
        have hd := zdc ((plS g 0 c t).length ≤ 4 ∧ ∀ v ∈ plS g 0 c t, v < (r : Int))
        have hia := M_isAmong xs hr1 htn (r := r) (by omega)
        rw [zb_t d.1, if_neg (by decide), M_in' xs _ he rfl rfl, zci_ok, zb_zw, zb_t d.2.1, if_neg (by decide), M_isPart' xs _ hp, zci_ok, zb_zw, zb_t d.2.2, if_pos (by decide), if_pos d, e_M_right_68, pM_ck, x1, zcv_ok, pM_ck, hia, zci_ok, zb_zw]
        by_cases f : (plS g 0 c t).length ≤ 4 ∧ ∀ v ∈ plS g 0 c t, v < (r : Int)
        · obtain ⟨g1, y1, y2⟩ := M_right_go xs hB a (scA_es x3) hr1 htn f.1 (r := r) (e := e) (by omega) (by omega) (by omega) hp
          refine ⟨g1, ?_, (x3.mono (fun _ _ => scA_M)).tr y2⟩
          rw [zb_t f, if_pos (by decide), y1, zite_t f]
        · exact ⟨ga, by rw [zb_f f, if_neg (by decide), zite_f f], x3.mono (fun _ _ => scA_M)⟩
      · refine ⟨g, ?_, zFr.rf⟩
        rw [if_neg d]
        by_cases d1 : 2 ≤ r ∧ r ≤ 8
        · rw [zb_t d1, if_neg (by decide), M_in' xs _ he rfl rfl, zci_ok, zb_zw]
          by_cases d2 : 0 ≤ e ∧ e ≤ 10
          · rw [zb_t d2, if_neg (by decide), M_isPart' xs _ hp, zci_ok, zb_zw, zb_f (fun z => d ⟨d1, d2, z⟩), if_neg (by decide), e64]
          · rw [zb_f d2, if_pos rfl, e64]
        · rw [zb_f d1, if_pos rfl]
    · refine ⟨g, ?_, zFr.rf⟩
      rw [zb_f (by omega), if_neg (by decide), e25, if_neg (show ¬ ((0 ≤ c ∧ c < g pM 5) ∧ 0 ≤ t ∧ t < saidS g c) from fun z => b z.2)]
  · exact ⟨g, by rw [zb_f a, if_pos rfl, e25, if_neg (show ¬ ((0 ≤ c ∧ c < g pM 5) ∧ 0 ≤ t ∧ t < saidS g c) from fun z => a z.1)], zFr.rf⟩
theorem op_right (xs : List Int) {g : Nat → Int → Int} (hI : Inv g) {c t r e p : Int} (hc : zw c = c) (ht : zw t = t) (hr : zw r = r) (he : zw e = e) (hp : zw p = p) : zOp xs (fun h => zx zblk xs 155 0 [some (.inr (.inr (some pX))), some (.inl (c)), some (.inl (t)), some (.inl (r)), some (.inl (e)), some (.inl (p))] [] h) (fun h => zx zblk xs 58 0 [some (.inr (.inr (some pM))), some (.inl (c)), some (.inl (t)), some (.inl (r)), some (.inl (e)), some (.inl (p))] [] h) (fun v => .inr (.inl v)) g := op_q (val := fun v => .inr (.inl v)) (sp := fun G => rgS G c t r e p) (fun g hI => X_right xs hI.1 hI.2 hc ht hr he hp) (fun g hB => M_right xs hB hc ht hr he hp) (fun g1 g h => by rw [es_rgS h]) hI
