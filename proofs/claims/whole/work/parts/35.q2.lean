/-! ===== queries: means, named, clear, starts ===== -/
theorem rdy_of {g g1 : Nat → Int → Int} (hB : Bd g) {c : Int} (hc : 0 ≤ c ∧ c < g pM 5) {st : Int} (h : isAll g1 (fun i => plS g st c i) (g pM_speeches c).toNat) : rdy g1 (fun i => plS g st c i) (nS g c) := by
  have hn := nS_rg hB hc
  refine ⟨h, hn.2.2, fun i hi => ⟨plS_len hB.2.2.1 hc (s := (i : Int)) (by omega) st, isR7_plS hB hc (s := (i : Int)) (by omega) st⟩⟩
theorem rdy_fr {g g1 : Nat → Int → Int} {L : Nat → List Int} {n : Nat} (h : rdy g L n) (e : g1 pM_plains = g pM_plains) : rdy g1 L n := ⟨isAll_fr h.1 e, h.2⟩
theorem zsum_nn {f : Nat → Int} (h0 : ∀ k, 0 ≤ f k) : ∀ {n : Nat}, 0 ≤ zsum f n
  | 0 => by simp [zsum]
  | n + 1 => by
    have := zsum_nn h0 (n := n)
    have := h0 n
    rw [zsum]
    omega
theorem zsum_zero {f : Nat → Int} (h0 : ∀ k, 0 ≤ f k) : ∀ {n : Nat}, zsum f n = 0 ↔ ∀ k, k < n → f k = 0
  | 0 => by simp [zsum]
  | n + 1 => by
    have ih := zsum_zero h0 (n := n)
    have hp := zsum_nn h0 (n := n)
    have hn := h0 n
    rw [zsum]
    constructor
    · intro h k hk
      by_cases hkn : k = n
      · subst hkn; omega
      · exact ih.mp (by omega) k (by omega)
    · intro h
      have := ih.mpr (fun k hk => h k (by omega))
      have := h n (by omega)
      omega
theorem dif_zero {A B : List Int} : dif A B = 0 ↔ A = B := by
  unfold dif
  by_cases hl : A.length = B.length
  · rw [if_pos hl, zsum_zero (fun k => by split <;> omega)]
    constructor
    · intro h
      apply List.ext_getElem hl
      intro k h1 h2
      have := h k h2
      have d1 : A.getD k 0 = A[k] := by simp [List.getD, h1]
      have d2 : B.getD k 0 = B[k] := by simp [List.getD, h2]
      rw [d1, d2] at this
      split at this
      · assumption
      · omega
    · rintro rfl k _
      rw [if_pos rfl]
  · rw [if_neg hl]
    constructor
    · intro h; omega
    · rintro rfl; exact absurd rfl hl
theorem nbest_ch (v : Nat → Int) (h0 : ∀ k, 0 ≤ v k) : ∀ n : Nat, ((∀ k, k < n → v k ≠ 0) ∧ (nbest v n).2 ≠ 0 ∧ ((nbest v n).1 = -1 ∨ ∃ j : Nat, j < n ∧ (nbest v n).1 = j)) ∨ ∃ j : Nat, j < n ∧ v j = 0 ∧ (∀ k, k < j → v k ≠ 0) ∧ nbest v n = ((j : Int), 0)
  | 0 => Or.inl ⟨fun k hk => by omega, by simp [nbest], Or.inl rfl⟩
  | n + 1 => by
    have hn := h0 n
    rcases nbest_ch v h0 n with ⟨a, b, c⟩ | ⟨j, a, b, c, d⟩
    · by_cases hv : v n = 0
      · right
        refine ⟨n, by omega, hv, fun k hk => a k (by omega), ?_⟩
        rw [nbest]
        have hp : 0 < (nbest v n).2 := by
          have := (nbest_rg (v := v) (n := n) (fun k _ => h0 k)).2.2.1
          omega
        rw [if_pos (by omega), hv]
      · left
        refine ⟨fun k hk => ?_, ?_, ?_⟩
        · by_cases hkn : k = n
          · subst hkn; exact hv
          · exact a k (by omega)
        · rw [nbest]; split
          · exact hv
          · exact b
        · rw [nbest]; split
          · exact Or.inr ⟨n, by omega, rfl⟩
          · rcases c with c | ⟨j, c1, c2⟩
            · exact Or.inl c
            · exact Or.inr ⟨j, by omega, c2⟩
    · right
      refine ⟨j, by omega, b, c, ?_⟩
      rw [nbest, d, if_neg (by simp; omega)]
theorem zfo_at {f : Nat → Int} : ∀ {n i j : Nat}, (∀ k, i ≤ k → k < j → f k = -1) → f j ≠ -1 → i ≤ j → j < i + n → zfo f n i = f j
  | 0, _, _, _, _, h1, h2 => by omega
  | n + 1, i, j, h, hj, h1, h2 => by
    rw [zfo]
    by_cases hij : i = j
    · subst hij; rw [if_pos hj]
    · have n1 : ¬ f i ≠ -1 := fun z => z (h i (by omega) (by omega))
      rw [if_neg n1]
      exact zfo_at (fun k h3 h4 => h k (by omega) h4) hj (by omega) (by omega)
/-- the first speech that is the row -/
def mnO (L : Nat → List Int) (B : List Int) (n : Nat) : Int := zfo (fun i => if L i = B then i else -1) n 0
noncomputable def mnS (G : Nat → Int → Int) (c : Int) : Int := if 0 ≤ c ∧ c < G pM 5 then zite (pgOK G) (mnO (fun s => plS G 0 c s) (pgL G) (nS G c)) (-103) else -101
noncomputable def nmS (G : Nat → Int → Int) (c : Int) : Int := if 0 ≤ c ∧ c < G pM 5 then zite (pgOK G) (nbest (fun i => dif (plS G 0 c i) (pgL G)) (nS G c)).1 (-103) else -101
theorem es_nS {g1 g : Nat → Int → Int} (h : es g1 = es g) : nS g1 = nS g := by
  obtain ⟨e1, e2, e3, e4, e5, e6, e7, e8, e9, e10, e11, e12, e13, e14, e15⟩ := es_all h
  funext c
  unfold nS
  rw [e2]
theorem es_mnS {g1 g : Nat → Int → Int} (h : es g1 = es g) : mnS g1 = mnS g := by
  obtain ⟨e1, e2, e3, e4, e5, e6, e7, e8, e9, e10, e11, e12, e13, e14, e15⟩ := es_all h
  funext c
  unfold mnS
  rw [e10, es_pgOK h, es_plS h, es_pgL h, es_nS h]
theorem es_nmS {g1 g : Nat → Int → Int} (h : es g1 = es g) : nmS g1 = nmS g := by
  obtain ⟨e1, e2, e3, e4, e5, e6, e7, e8, e9, e10, e11, e12, e13, e14, e15⟩ := es_all h
  funext c
  unfold nmS
  rw [e10, es_pgOK h, es_plS h, es_pgL h, es_nS h]
theorem mnO_best (L : Nat → List Int) (B : List Int) (n : Nat) (hB : B.length ≤ 100) : mnO L B n = if (nbest (fun i => dif (L i) B) n).1 = -1 then -1 else if dif (L (nbest (fun i => dif (L i) B) n).1.toNat) B = 0 then (nbest (fun i => dif (L i) B) n).1 else -1 := by
  unfold mnO
  rcases nbest_ch (fun i => dif (L i) B) (fun k => (dif_rg (L k) B hB).1) n with ⟨a, b, c⟩ | ⟨j, a, b, c, d⟩
  · rw [zfo_no (fun k _ hk => if_neg (fun z => a k (by omega) (dif_zero.mpr z)))]
    rcases c with c | ⟨j, c1, c2⟩
    · rw [if_pos c]
    · rw [c2, if_neg (by omega), if_neg]
      exact a j c1
  · rw [zfo_at (j := j) (fun k _ hk => if_neg (fun z => c k hk (dif_zero.mpr z))) (by rw [if_pos (dif_zero.mp b)]; omega) (by omega) (by omega), if_pos (dif_zero.mp b), d]
    show _ = if (j : Int) = -1 then -1 else if dif (L (j : Int).toNat) B = 0 then (j : Int) else -1
    rw [if_neg (by omega), if_pos (by exact b)]
theorem M_means (xs : List Int) {g : Nat → Int → Int} (hB : Bd g) {c : Int} (hc : zw c = c) : ∃ g1, zx zblk xs 31 0 [some (.inr (.inr (some pM))), some (.inl (c))] [] (HH g) = some (some (.inl (mnS g c)), HH g1) ∧ zFr scM g g1 := by
  obtain ⟨hQ, -, hC, -⟩ := id hB
  obtain ⟨-, ⟨hc0, hc1⟩, -⟩ := id hQ
  rw [e_M_means_0, pM_ck, M_isCode' xs hB hc, zci_ok, zb_zw]
  unfold mnS
  by_cases a : 0 ≤ c ∧ c < g pM 5
  · have hn := nS_rg hB a
    obtain ⟨g1, q1, q2, q3⟩ := M_layAll xs g c 0 hB a
    have hr1 := rdy_of hB a q2
    have he1 := scA_es q3
    have hB1 := es_Bd he1 hB
    obtain ⟨g2, r1, r2⟩ := M_layPage xs g1 hB1
    rw [es_pgOK he1, es_pgL he1] at r2
    have hr2 := rdy_fr hr1 (r1.at (fun j => by simp [scP, scA, scM, scX, pM, pM_page, pM_readRows, pM_speeches, pM_rows, pM_signalRows, pM_weights, pM_plain, pM_plains, pM_ahead, pM_heap, pM_noteRows, pM_ways, pM_before, pM_keptWeights, pM_keptRows, pX, pX_signals, pX_weights, pX_codes, pX_page, pX_notes, pX_keptWeights, pX_keptNotes, pX_said, pX_heard, pX_pool, pX_struck, pX_readings]))
    have he2 := scP_es r1
    have e2 : g2 pM_speeches = g pM_speeches := (es_all (he2.trans he1)).2.1
    refine ⟨g2, ?_, (q3.mono (fun _ _ => scA_M)).tr (r1.mono (fun _ _ => scP_M))⟩
    rw [zb_t a, if_pos (by decide), if_pos a, e_M_means_11, pM_ck, q1, zcv_ok, pM_ck]
    rcases r2 with ⟨o, r2, r3⟩ | ⟨o, r2⟩
    · have hl96 := pgL_len hQ
      have h7 := pgL_R7 hB.2.2.2.1 o
      have hnn := M_namedNow xs g2 (fun i => plS g 0 c i) c (pgL g) a.1 (by omega) (by rw [e2]; omega) (by rw [e2]; exact hr2) r3 h7 hl96
      rw [e2] at hnn
      have hrg := nbest_rg (v := fun i => dif (plS g 0 c i) (pgL g)) (n := nS g c) (fun k _ => (dif_rg _ _ (by omega)).1)
      rw [r2, zci_ok, if_pos (by decide), zite_t o, e_M_means_27, pM_ck, hnn, zci_ok, mnO_best _ _ _ (by omega)]
      change (if zw (nbest (fun i => dif (plS g 0 c i) (pgL g)) (nS g c)).1 = _ then _ else _) = _
      have e50 : zx zblk xs 31 50 [] [] (HH g2) = some (some (.inl (-1)), HH g2) := by rw [e_M_means_50, e_M_means_51]
      rw [zw_id (by omega) (by omega), show zw (-1) = -1 from rfl]
      by_cases m1 : (nbest (fun i => dif (plS g 0 c i) (pgL g)) (nS g c)).1 = -1
      · rw [if_pos m1, if_pos m1, e50]
      · obtain ⟨k, hk⟩ : ∃ k : Nat, (nbest (fun i => dif (plS g 0 c i) (pgL g)) (nS g c)).1 = k := ⟨(nbest (fun i => dif (plS g 0 c i) (pgL g)) (nS g c)).1.toNat, by omega⟩
        have hd := M_differs xs g2 (fun i => plS g 0 c i) (nS g c) k (pgL g) hr2 (by omega) r3 h7 hl96
        have hdr := dif_rg (plS g 0 c k) (pgL g) (by omega)
        have m2 := hk ▸ m1
        change (if (nbest (fun i => dif (plS g 0 c i) (pgL g)) (nS g c)).1 = -1 then zx zblk xs 31 50 [] [] (HH g2) else zck (HH g2) (some pM) 7 (zci (zx zblk xs 29 0 [some (.inr (.inr (some pM))), some (.inl (nbest (fun i => dif (plS g 0 c i) (pgL g)) (nS g c)).1)] [] (HH g2)) fun r4 h3 => if zw r4 ≠ 0 then zx zblk xs 31 50 [] [] h3 else zx zblk xs 31 51 [] [.inl (nbest (fun i => dif (plS g 0 c i) (pgL g)) (nS g c)).1] h3)) = _
        rw [hk, if_neg m2, if_neg m2, pM_ck, hd, zci_ok, zw_id (by omega) (by omega)]
        by_cases m3 : dif (plS g 0 c k) (pgL g) = 0
        · rw [if_neg (by omega), e_M_means_51, if_pos (by exact m3)]
        · rw [if_pos m3, e50, if_neg (by exact m3)]
    · rw [r2, zci_ok, if_neg (by decide), zite_f o]
  · exact ⟨g, by rw [zb_f a, if_neg (by decide), if_neg a], zFr.rf⟩
theorem X_means (xs : List Int) {G g : Nat → Int → Int} (hB : Bd G) (h : Rel G g) {c : Int} (hc : zw c = c) : ∃ g1, zx zblk xs 145 0 [some (.inr (.inr (some pX))), some (.inl (c))] [] (HH g) = some (some (.inl (mnS G c)), HH g1) ∧ zFr scX g g1 := by
  obtain ⟨hQ, -, hC, -⟩ := id hB
  obtain ⟨-, ⟨hc0, hc1⟩, -⟩ := id hQ
  rw [e_X_means_0, pX_ck]
  unfold mnS
  by_cases a : 0 ≤ c ∧ c < G pM 5
  · obtain ⟨k, rfl⟩ : ∃ k : Nat, c = k := ⟨c.toNat, by omega⟩
    have hk4 : k < 4 := by omega
    obtain ⟨g1, q1, q2⟩ := X_hearPage xs hB h
    have hcd := (Rel_scX hB h q1).cd hk4 a.2
    refine ⟨g1, ?_, q1⟩
    rw [X_codeAt_in xs hB h k a.2, zcr_ok, zif_some, if_pos a, e_X_means_13, pX_ck]
    rcases q2 with ⟨o, q2, q3⟩ | ⟨o, q2⟩
    · rw [q2, zci_ok, if_neg (by decide), pX_r_heard, Co_ck (zCo_PC hk4), Code_meaningOf xs hcd Rw74 q3 (pgL_len hQ) (pgL_R7 hB.2.2.2.1 o), zci_ok, e_X_means_33, zite_t o]
      rfl
    · rw [q2, zci_ok, if_pos (show zw 0 = 0 from rfl), e_X_means_31, e_X_means_33, zite_f o]
  · exact ⟨g, by rw [X_codeAt_out xs hB h c hc a, zcr_ok, zif, if_neg a], zFr.rf⟩
theorem M_named (xs : List Int) {g : Nat → Int → Int} (hB : Bd g) {c : Int} (hc : zw c = c) : ∃ g1, zx zblk xs 56 0 [some (.inr (.inr (some pM))), some (.inl (c))] [] (HH g) = some (some (.inl (nmS g c)), HH g1) ∧ zFr scM g g1 := by
  obtain ⟨hQ, -, hC, -⟩ := id hB
  obtain ⟨-, ⟨hc0, hc1⟩, -⟩ := id hQ
  rw [e_M_named_0, pM_ck, M_isCode' xs hB hc, zci_ok, zb_zw]
  unfold nmS
  by_cases a : 0 ≤ c ∧ c < g pM 5
  · have hn := nS_rg hB a
    obtain ⟨g1, q1, q2, q3⟩ := M_layAll xs g c 0 hB a
    have hr1 := rdy_of hB a q2
    have he1 := scA_es q3
    have hB1 := es_Bd he1 hB
    obtain ⟨g2, r1, r2⟩ := M_layPage xs g1 hB1
    rw [es_pgOK he1, es_pgL he1] at r2
    have hr2 := rdy_fr hr1 (r1.at (fun j => by simp [scP, scA, scM, scX, pM, pM_page, pM_readRows, pM_speeches, pM_rows, pM_signalRows, pM_weights, pM_plain, pM_plains, pM_ahead, pM_heap, pM_noteRows, pM_ways, pM_before, pM_keptWeights, pM_keptRows, pX, pX_signals, pX_weights, pX_codes, pX_page, pX_notes, pX_keptWeights, pX_keptNotes, pX_said, pX_heard, pX_pool, pX_struck, pX_readings]))
    have he2 := scP_es r1
    have e2 : g2 pM_speeches = g pM_speeches := (es_all (he2.trans he1)).2.1
    refine ⟨g2, ?_, (q3.mono (fun _ _ => scA_M)).tr (r1.mono (fun _ _ => scP_M))⟩
    rw [zb_t a, if_pos (by decide), if_pos a, e_M_named_11, pM_ck, q1, zcv_ok, pM_ck]
    rcases r2 with ⟨o, r2, r3⟩ | ⟨o, r2⟩
    · have hl96 := pgL_len hQ
      have h7 := pgL_R7 hB.2.2.2.1 o
      have hnn := M_namedNow xs g2 (fun i => plS g 0 c i) c (pgL g) a.1 (by omega) (by rw [e2]; omega) (by rw [e2]; exact hr2) r3 h7 hl96
      rw [e2] at hnn
      rw [r2, zci_ok, if_neg (by decide), zite_t o, pM_ck, hnn, zci_ok, e_M_named_34]
      rfl
    · rw [r2, zci_ok, if_pos (show zw 0 = 0 from rfl), e_M_named_32, e_M_named_34, zite_f o]
  · exact ⟨g, by rw [zb_f a, if_neg (by decide), if_neg a], zFr.rf⟩
theorem X_named (xs : List Int) {G g : Nat → Int → Int} (hB : Bd G) (h : Rel G g) {c : Int} (hc : zw c = c) : ∃ g1, zx zblk xs 154 0 [some (.inr (.inr (some pX))), some (.inl (c))] [] (HH g) = some (some (.inl (nmS G c)), HH g1) ∧ zFr scX g g1 := by
  obtain ⟨hQ, -, hC, -⟩ := id hB
  obtain ⟨-, ⟨hc0, hc1⟩, -⟩ := id hQ
  rw [e_X_named_0, pX_ck]
  unfold nmS
  by_cases a : 0 ≤ c ∧ c < G pM 5
  · obtain ⟨k, rfl⟩ : ∃ k : Nat, c = k := ⟨c.toNat, by omega⟩
    have hk4 : k < 4 := by omega
    obtain ⟨g1, q1, q2⟩ := X_hearPage xs hB h
    have hcd := (Rel_scX hB h q1).cd hk4 a.2
    refine ⟨g1, ?_, q1⟩
    rw [X_codeAt_in xs hB h k a.2, zcr_ok, zif_some, if_pos a, e_X_named_13, pX_ck]
    rcases q2 with ⟨o, q2, q3⟩ | ⟨o, q2⟩
    · rw [q2, zci_ok, if_neg (by decide), pX_r_heard, Co_ck (zCo_PC hk4), Code_nearestTo xs hcd Rw74 q3 (pgL_len hQ) (pgL_R7 hB.2.2.2.1 o) (pgL_len hQ), zci_ok, e_X_named_33, zite_t o]
    · rw [q2, zci_ok, if_pos (show zw 0 = 0 from rfl), e_X_named_31, e_X_named_33, zite_f o]
  · exact ⟨g, by rw [X_codeAt_out xs hB h c hc a, zcr_ok, zif, if_neg a], zFr.rf⟩
