/-! ===== right: the class's sum, the call ===== -/
theorem zcmp_lt {a b : Int} (h : a < b) (ha : 0 ≤ a) (ha2 : a < 2147483648) (hb : b < 4611686018427387904) : zw (if zwl (zw a) < zwl b then -1 else if zwl (zw a) = zwl b then 0 else 1) = -1 := by
  rw [zw_id (a := a) (by omega) (by omega), zwl_id (a := a) (by omega) (by omega), zwl_id (a := b) (by omega) (by omega), if_pos h]
  rfl
theorem zcmp_eq {a b : Int} (h : a = b) (ha : 0 ≤ a) (ha2 : a < 2147483648) : zw (if zwl (zw a) < zwl b then -1 else if zwl (zw a) = zwl b then 0 else 1) = 0 := by
  subst h
  rw [zw_id (a := a) (by omega) (by omega), if_neg (by omega), if_pos rfl]
  rfl
theorem pow_le4 {r n : Nat} (hr : r ≤ 8) (hn : n ≤ 4) (hr1 : 1 ≤ r) : r ^ n ≤ 4096 := Nat.le_trans (Nat.pow_le_pow_left hr n) (Nat.le_trans (Nat.pow_le_pow_right (by omega) hn) (by decide))
theorem X_waysNamed (xs : List Int) {g : Nat → Int → Int} {P N : Nat} {L : Nat → List Int} (h : zCd g P N L) (hP : 101 ≤ P) {t : Nat} (ht : t < N) {r e : Nat} (hr : 2 ≤ r) (hr8 : r ≤ 8) (he : e ≤ 10) (hn : (L t).length ≤ 4) : ∃ g1, zx zblk xs 192 0 [some (.inr (.inr (some pX))), some (.inr (.inr (some P))), some (.inl ((t : Int))), some (.inl ((r : Int))), some (.inl ((e : Int)))] [] (HH g) = some (some (.inr (.inl (rgA L N t (L t) r e (L t).length (r ^ (L t).length) : Int))), HH g1) ∧ zFr scX g g1 := by
  obtain ⟨h1, h2, h3, h4⟩ := id h
  obtain ⟨o1, o2, o3⟩ := h4 t ht
  have hrw := h.rw ht
  have hR := pow_le4 (n := (L t).length) hr8 hn (by omega)
  have hown : ∀ {gk : Nat → Int → Int}, zFr (scR 74) g gk → zRow gk (P + 21 + 4 + 2 * t) (L t) := fun hf => zRow_fr o1 (hf.at (fun j => by simp only [scR]; omega)) (hf.at (fun j => by simp only [scR]; omega))
  have loop1 : ∀ (s k : Nat) (gk : Nat → Int → Int), k + s = (L t).length → zRow gk 74 (dgL r 0 k) → zFr (scR 74) g gk → ∃ g1, zx zblk xs 192 17 [some (.inr (.inr (some pX))), some (.inr (.inr (some P))), some (.inl ((t : Int))), some (.inl ((r : Int))), some (.inl ((e : Int))), some (.inr (.inr (some (P + 21 + 4 + 2 * t)))), some (.inl ((k : Int)))] [] (HH gk) = zx zblk xs 192 41 [some (.inr (.inr (some pX))), some (.inr (.inr (some P))), some (.inl ((t : Int))), some (.inl ((r : Int))), some (.inl ((e : Int))), some (.inr (.inr (some (P + 21 + 4 + 2 * t))))] [] (HH g1) ∧ zRow g1 74 (dgL r 0 (L t).length) ∧ zFr (scR 74) g g1 := by
    intro s
    induction s with
    | zero =>
      intro k gk hk hl hf
      have : k = (L t).length := by omega
      subst this
      refine ⟨gk, ?_, hl, hf⟩
      rw [e_X_waysNamed_17, Rw_ck hrw, Row_size xs hrw (hown hf), zci_ok, if_pos (Int.le_refl _)]
    | succ s ih =>
      intro k gk hk hl hf
      obtain ⟨g2, p1, p2, p3⟩ := Row_add xs Rw74 hl (by unfold dgL; rw [zLi_len]; omega) 0
      obtain ⟨g1, q1, q2, q3⟩ := ih (k + 1) g2 (by omega) (by
        unfold dgL at p2 ⊢
        rw [zLi_snoc, show ((dg r 0 k : Nat) : Int) = 0 by unfold dg; rw [Nat.zero_div, Nat.zero_mod]; rfl]
        exact p2) (hf.tr p3)
      refine ⟨g1, ?_, q2, q3⟩
      rw [e_X_waysNamed_17, Rw_ck hrw, Row_size xs hrw (hown hf), zci_ok, if_neg (by rw [zw_id (by omega) (by omega), zw_id (by omega) (by omega)]; omega), pX_r_heard, Rw_ck Rw74, p1, zcv_ok, ← Int.natCast_succ]
      exact q1
  have loop2 : ∀ (s k : Nat) (gk : Nat → Int → Int), k + s = r ^ (L t).length → zRow gk 74 (dgL r k (L t).length) → zFr (scR 74) g gk → ∃ g1, zx zblk xs 192 59 [some (.inr (.inr (some pX))), some (.inr (.inr (some P))), some (.inl ((t : Int))), some (.inl ((r : Int))), some (.inl ((e : Int))), some (.inr (.inr (some (P + 21 + 4 + 2 * t)))), some (.inr (.inl ((rgA L N t (L t) r e (L t).length k : Int)))), none, some (.inr (.inl (((r ^ (L t).length : Nat) : Int)))), none, some (.inl ((k : Int)))] [] (HH gk) = some (some (.inr (.inl (rgA L N t (L t) r e (L t).length (r ^ (L t).length) : Int))), HH g1) ∧ zFr (scR 74) g g1 := by
    intro s
    induction s with
    | zero =>
      intro k gk hk hl hf
      have : k = r ^ (L t).length := by omega
      subst this
      refine ⟨gk, ?_, hf⟩
      rw [e_X_waysNamed_59, zcmp_eq rfl (by omega) (by omega), if_pos (by decide), e_X_waysNamed_119]
    | succ s ih =>
      intro k gk hk hl hf
      obtain ⟨g2, p1, p2, p3⟩ := Row_turn xs Rw74 hr hr8 (by omega) hl
      obtain ⟨g1, q1, q2⟩ := ih (k + 1) g2 (by omega) p2 (hf.tr p3)
      have hcd : zCd gk P N L := zCd_fr h (fun q h1 h2 => hf.at (fun j => by simp only [scR]; omega))
      have hv := vwN_le (L t) hr8 he (fun j => (dg r k j : Int)) (L t).length
      have e105 : ∀ w : Int, zx zblk xs 192 105 [some (.inr (.inr (some pX))), some (.inr (.inr (some P))), some (.inl ((t : Int))), some (.inl ((r : Int))), some (.inl ((e : Int))), some (.inr (.inr (some (P + 21 + 4 + 2 * t)))), some (.inr (.inl (w))), none, some (.inr (.inl (((r ^ (L t).length : Nat) : Int)))), none, some (.inl ((k : Int)))] [] (HH gk) = zx zblk xs 192 59 [some (.inr (.inr (some pX))), some (.inr (.inr (some P))), some (.inl ((t : Int))), some (.inl ((r : Int))), some (.inl ((e : Int))), some (.inr (.inr (some (P + 21 + 4 + 2 * t)))), some (.inr (.inl (w))), none, some (.inr (.inl (((r ^ (L t).length : Nat) : Int)))), none, some (.inl (((k + 1 : Nat) : Int)))] [] (HH g2) := fun w => by
        rw [e_X_waysNamed_105, pX_r_heard, Rw_ck Rw74, p1, zcv_ok, ← Int.natCast_succ]
      refine ⟨g1, ?_, q2⟩
      rw [e_X_waysNamed_59, zcmp_lt (by omega) (by omega) (by omega) (by omega), if_neg (by decide), pX_ck, X_waysHeard xs hrw hr hr8 he (hown hf) (by omega) o3 hl (by omega), zcl_ok']
      have hvb : vwN (L t) r e (fun j => (dg r k j : Int)) (L t).length < 4611686018427387904 := Nat.lt_of_le_of_lt (Nat.le_trans hv (Nat.pow_le_pow_right (by omega) hn)) (by decide)
      rw [zcmp0 hvb]
      by_cases c : vwN (L t) r e (fun j => (dg r k j : Int)) (L t).length = 0
      · rw [if_pos c, if_pos (by decide), e105]
        rw [rgA, c] at q1
        simp only [ite_self, Nat.add_zero] at q1
        exact q1
      · have hnr := Code_nearestTo xs hcd Rw74 hl (by unfold dgL; rw [zLi_len]; omega) (dgL_R7 (by omega) hr8 k _) (by unfold dgL; rw [zLi_len]; omega)
        have hdr := nbest_rg (v := fun i => dif (L i) (dgL r k (L t).length)) (n := N) (fun j _ => (dif_rg _ _ (by unfold dgL; rw [zLi_len]; omega)).1)
        rw [if_neg c, if_neg (by decide), pX_r_heard, Co_ck h1, hnr, zci_ok, zw_id (by omega) (by omega), zw_id (by omega) (by omega)]
        by_cases d : (nbest (fun i => dif (L i) (dgL r k (L t).length)) N).1 = t
        · rw [if_neg (fun z => z d), e105]
          rw [rgA, if_pos d, Int.natCast_add] at q1
          exact q1
        · rw [if_pos d, e105]
          rw [rgA, if_neg d, Nat.add_zero] at q1
          exact q1
  obtain ⟨w1, w2, w3⟩ := Row_wipe xs (g := g) Rw74
  obtain ⟨ga, a1, a2, a3⟩ := loop1 (L t).length 0 _ (by omega) w2 w3
  obtain ⟨g1, q1, q2⟩ := loop2 (r ^ (L t).length) 0 ga (by omega) a2 a3
  rw [z0N] at a1 q1
  refine ⟨g1, ?_, zFr_scR (by omega) (by omega) q2⟩
  rw [e_X_waysNamed_0, Co_ck h1, Code_plain xs h1 t (by omega), zcr_ok, pX_r_heard, Rw_ck Rw74, w1, zcv_ok, a1, e_X_waysNamed_41, Rw_ck hrw, Row_size xs hrw (hown a3), zci_ok, zw_id (by omega) (by omega), X_power xs _ _ _ (by omega), zcl_ok', ← Int.natCast_pow]
  exact q1
def rgO (G : Nat → Int → Int) (c t r e : Int) (p : Int) : Int := fracS (rgA (fun i => plS G 0 c i) (nS G c) t (plS G 0 c t) r.toNat e.toNat (plS G 0 c t).length (r.toNat ^ (plS G 0 c t).length)) ((10 * (r.toNat - 1)) ^ (plS G 0 c t).length) p
noncomputable def rgS (G : Nat → Int → Int) (c t r e p : Int) : Int := if (0 ≤ c ∧ c < G pM 5) ∧ 0 ≤ t ∧ t < saidS G c then (if (2 ≤ r ∧ r ≤ 8) ∧ (0 ≤ e ∧ e ≤ 10) ∧ (p = 0 ∨ p = 1) then zite ((plS G 0 c t).length ≤ 4 ∧ ∀ v ∈ plS G 0 c t, v < r) (rgO G c t r e p) (-103) else -102) else -101
theorem es_rgS {g1 g : Nat → Int → Int} (h : es g1 = es g) : rgS g1 = rgS g := by
  obtain ⟨e1, e2, e3, e4, e5, e6, e7, e8, e9, e10, e11, e12, e13, e14, e15⟩ := es_all h
  funext c t r e p
  unfold rgS rgO
  rw [e10, es_plS h, es_nS h, es_saidS h]
theorem rg_bd {G : Nat → Int → Int} {c t : Int} {r e : Nat} (hr : 2 ≤ r) (hr8 : r ≤ 8) (he : e ≤ 10) (hn : (plS G 0 c t).length ≤ 4) : rgA (fun i => plS G 0 c i) (nS G c) t (plS G 0 c t) r e (plS G 0 c t).length (r ^ (plS G 0 c t).length) < 4611686018427387904 ∧ (10 * (r - 1)) ^ (plS G 0 c t).length < 4611686018427387904 ∧ 0 < (10 * (r - 1)) ^ (plS G 0 c t).length := by
  have h1 := rgA_le (fun i => plS G 0 c i) (nS G c) t (plS G 0 c t) hr8 he hn (r ^ (plS G 0 c t).length)
  have h2 := pow_le4 (n := (plS G 0 c t).length) hr8 hn (by omega)
  refine ⟨Nat.lt_of_le_of_lt (Nat.le_trans h1 (Nat.mul_le_mul_right _ h2)) (by decide), ?_, Nat.pow_pos (by omega)⟩
  exact Nat.lt_of_le_of_lt (Nat.le_trans (Nat.pow_le_pow_left (show 10 * (r - 1) ≤ 70 by omega) _) (Nat.pow_le_pow_right (by omega) hn)) (by decide)
theorem X_right (xs : List Int) {G g : Nat → Int → Int} (hB : Bd G) (h : Rel G g) {c t r e p : Int} (hc : zw c = c) (ht : zw t = t) (hr : zw r = r) (he : zw e = e) (hp : zw p = p) : ∃ g1, zx zblk xs 155 0 [some (.inr (.inr (some pX))), some (.inl (c)), some (.inl (t)), some (.inl (r)), some (.inl (e)), some (.inl (p))] [] (HH g) = some (some (.inr (.inl (rgS G c t r e p))), HH g1) ∧ zFr scX g g1 := by
  have e26 : zx zblk xs 155 26 [] [] (HH g) = some (some (.inr (.inl (-101))), HH g) := e_X_right_26 xs _
  have e61 : zx zblk xs 155 61 [] [] (HH g) = some (some (.inr (.inl (-102))), HH g) := e_X_right_61 xs _
  have e91 : zx zblk xs 155 91 [] [] (HH g) = some (some (.inr (.inl (-103))), HH g) := e_X_right_91 xs _
  rw [e_X_right_0, pX_ck]
  unfold rgS
  by_cases a : 0 ≤ c ∧ c < G pM 5
  · obtain ⟨k, rfl⟩ : ∃ k : Nat, c = k := ⟨c.toNat, by omega⟩
    obtain ⟨-, q5, -⟩ := id hB.1
    have hk4 : k < 4 := by omega
    have hcd := h.cd hk4 a.2
    have hsd := saidS_rg hB a
    rw [X_codeAt_in xs hB h k a.2, zcr_ok, zif_some, ht]
    by_cases b : 0 ≤ t ∧ t < saidS G k
    · obtain ⟨t, rfl⟩ : ∃ t' : Nat, t = t' := ⟨t.toNat, by omega⟩
      have htn : t < nS G k := by omega
      rw [if_neg (by omega), pX_ck, X_thingsSaid xs hB h k a.2, zci_ok, zw_id (a := saidS G k) (by omega) (by omega), if_pos b.2, if_pos ⟨a, b⟩, e_X_right_30, hr, he, show zw 2 = 2 from rfl, show zw 8 = 8 from rfl, show zw 10 = 10 from rfl, e61]
      by_cases d : (2 ≤ r ∧ r ≤ 8) ∧ (0 ≤ e ∧ e ≤ 10) ∧ (p = 0 ∨ p = 1)
      · obtain ⟨r, rfl⟩ : ∃ r' : Nat, r = r' := ⟨r.toNat, by omega⟩
        obtain ⟨e, rfl⟩ : ∃ e' : Nat, e = e' := ⟨e.toNat, by omega⟩
        obtain ⟨o1, o2, o3⟩ := hcd.2.2.2 t htn
        have o1' : zRow g (PC k + 21 + 4 + 2 * t) (plS G 0 k t) := o1
        have o2' : (plS G 0 k t).length ≤ 10 := o2
        have hrw := hcd.rw htn
        rw [if_neg (by omega), if_neg (by omega), if_neg (by omega), if_neg (by omega), X_isPart xs p _ hp, zci_ok, zb_zw, zb_t d.2.2, if_pos (by decide), if_pos d, e_X_right_65, Co_ck hcd.1, Code_plain xs hcd.1 t (by omega), zcr_ok, Rw_ck hrw, Row_size xs hrw o1', zci_ok, show zw 4 = 4 from rfl, zw_id (by omega) (by omega), e91]
        by_cases f : (plS G 0 k t).length ≤ 4
        · have hd := zdc (∀ v ∈ plS G 0 k t, v < (r : Int))
          rw [if_neg (by omega), Rw_ck hrw, Row_isBelow xs hrw o1' o2' o3 r (by omega), zci_ok, zb_zw]
          by_cases f2 : ∀ v ∈ plS G 0 k t, v < (r : Int)
          · obtain ⟨g1, w1, w2⟩ := X_waysNamed xs hcd (by simp only [PC]; omega) htn (r := r) (e := e) (by omega) (by omega) (by omega) f
            obtain ⟨b1, b2, b3⟩ := rg_bd (G := G) (c := k) (t := t) (r := r) (e := e) (by omega) (by omega) (by omega) f
            have o1'' : zRow g1 (PC k + 21 + 4 + 2 * t) (plS G 0 k t) := zRow_fr o1' (w2.at (fun j => by simp only [scX, PC, pM, pM_page, pM_readRows, pM_speeches, pM_rows, pM_signalRows, pM_weights, pM_plain, pM_plains, pM_ahead, pM_heap, pM_noteRows, pM_ways, pM_before, pM_keptWeights, pM_keptRows, pX, pX_signals, pX_weights, pX_codes, pX_page, pX_notes, pX_keptWeights, pX_keptNotes, pX_said, pX_heard, pX_pool, pX_struck, pX_readings]; omega)) (w2.at (fun j => by simp only [scX, PC, pM, pM_page, pM_readRows, pM_speeches, pM_rows, pM_signalRows, pM_weights, pM_plain, pM_plains, pM_ahead, pM_heap, pM_noteRows, pM_ways, pM_before, pM_keptWeights, pM_keptRows, pX, pX_signals, pX_weights, pX_codes, pX_page, pX_notes, pX_keptWeights, pX_keptNotes, pX_said, pX_heard, pX_pool, pX_struck, pX_readings]; omega))
            refine ⟨g1, ?_, w2⟩
            rw [zb_t f2, if_pos (by decide), zite_t ⟨f, f2⟩, e_X_right_95, pX_ck, w1, zcl_ok', Rw_ck hrw, Row_size xs hrw o1'', zci_ok, show (10 * ((r : Int) - 1)) = ((10 * (r - 1) : Nat) : Int) by omega, zw_id (by omega) (by omega), X_power xs _ _ _ (by omega), zcl_ok', ← Int.natCast_pow, X_lowest xs _ hp b1 b2 b3, zcl_ok']
            rfl
          · exact ⟨g, by rw [zb_f f2, if_neg (by decide), zite_f (fun z => f2 z.2), e91], zFr.rf⟩
        · exact ⟨g, by rw [if_pos (by omega), zite_f (fun z => f z.1)], zFr.rf⟩
      · refine ⟨g, ?_, zFr.rf⟩
        rw [if_neg d]
        by_cases d1 : r < 2
        · rw [if_pos d1]
        · by_cases d2 : 8 < r
          · rw [if_neg d1, if_pos d2]
          · by_cases d3 : e < 0
            · rw [if_neg d1, if_neg d2, if_pos d3]
            · by_cases d4 : 10 < e
              · rw [if_neg d1, if_neg d2, if_neg d3, if_pos d4]
              · rw [if_neg d1, if_neg d2, if_neg d3, if_neg d4, X_isPart xs p _ hp, zci_ok, zb_zw, zb_f (fun z => d ⟨by omega, by omega, z⟩), if_neg (by decide), e61]
    · refine ⟨g, ?_, zFr.rf⟩
      rw [if_neg (show ¬ ((0 ≤ (k : Int) ∧ (k : Int) < G pM 5) ∧ 0 ≤ t ∧ t < saidS G k) from fun z => b z.2)]
      by_cases b1 : t < 0
      · rw [if_pos b1, e26]
      · rw [if_neg b1, pX_ck, X_thingsSaid xs hB h k a.2, zci_ok, zw_id (a := saidS G k) (by omega) (by omega), if_neg (by omega), e26]
  · exact ⟨g, by rw [X_codeAt_out xs hB h c hc a, zcr_ok, zif, e26, if_neg (fun z => a z.1)], zFr.rf⟩
