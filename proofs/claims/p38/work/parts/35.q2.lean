/-! ===== queries: means, named, clear, starts ===== -/
theorem zsum_nn {f : Nat → Int} (h0 : ∀ k, 0 ≤ f k) : ∀ {n : Nat}, 0 ≤ zsum f n
  | 0 => by simp [zsum]
  | n + 1 => by
    have := zsum_nn h0 (n := n)
    have := h0 n
    rw [zsum]
    omega
theorem zsum_zero {f : Nat → Int} (h0 : ∀ k, 0 ≤ f k) : ∀ {n : Nat}, zsum f n = 0 ↔ ∀ k, k < n → f k = 0
  | 0 => by simp [zsum]
  | n + 1 => by
    have ih := zsum_zero h0 (n := n)
    have hp := zsum_nn h0 (n := n)
    have hn := h0 n
    rw [zsum]
    constructor
    · intro h k hk
      by_cases hkn : k = n
      · subst hkn; omega
      · exact ih.mp (by omega) k (by omega)
    · intro h
      have := ih.mpr (fun k hk => h k (by omega))
      have := h n (by omega)
      omega
theorem zfo_at {f : Nat → Int} : ∀ {n i j : Nat}, (∀ k, i ≤ k → k < j → f k = -1) → f j ≠ -1 → i ≤ j → j < i + n → zfo f n i = f j
  | 0, _, _, _, _, h1, h2 => by omega
  | n + 1, i, j, h, hj, h1, h2 => by
    rw [zfo]
    by_cases hij : i = j
    · subst hij; rw [if_pos hj]
    · have n1 : ¬ f i ≠ -1 := fun z => z (h i (by omega) (by omega))
      rw [if_neg n1]
      exact zfo_at (fun k h3 h4 => h k (by omega) h4) hj (by omega) (by omega)
/-- the first speech that is the row -/
def mnO (L : Nat → List Int) (B : List Int) (n : Nat) : Int := zfo (fun i => if L i = B then i else -1) n 0
noncomputable def mnS (G : Nat → Int → Int) (c : Int) : Int := if 0 ≤ c ∧ c < G pM 5 then zite (pgOK G) (mnO (fun s => plS G 0 c s) (pgL G) (nS G c)) (-103) else -101
noncomputable def nmS (G : Nat → Int → Int) (c : Int) : Int := if 0 ≤ c ∧ c < G pM 5 then zite (pgOK G) (nbest (fun i => dif (plS G 0 c i) (pgL G)) (nS G c)).1 (-103) else -101
theorem X_means (xs : List Int) {G g : Nat → Int → Int} (hB : Bd G) (h : Rel G g) {c : Int} (hc : zw c = c) : ∃ g1, zx zblk xs 50 0 [some (.inr (.inr (some pX))), some (.inl (c))] [] (HH g) = some (some (.inl (mnS G c)), HH g1) ∧ zFr scX g g1 := by
  obtain ⟨hQ, -, hC, -⟩ := id hB
  obtain ⟨-, ⟨hc0, hc1⟩, -⟩ := id hQ
  rw [e_X_means_0, pX_ck]
  unfold mnS
  by_cases a : 0 ≤ c ∧ c < G pM 5
  · obtain ⟨k, rfl⟩ : ∃ k : Nat, c = k := ⟨c.toNat, by omega⟩
    have hk4 : k < 4 := by omega
    obtain ⟨g1, q1, q2⟩ := X_hearPage xs hB h
    have hcd := (Rel_scX hB h q1).cd hk4 a.2
    refine ⟨g1, ?_, q1⟩
    rw [X_codeAt_in xs hB h k a.2, zcr_ok, zif_some, if_pos a, e_X_means_13, pX_ck]
    rcases q2 with ⟨o, q2, q3⟩ | ⟨o, q2⟩
    · rw [q2, zci_ok, if_neg (by decide), pX_r_heard, Co_ck (zCo_PC hk4), Code_meaningOf xs hcd Rw74 q3 (pgL_len hQ) (pgL_R7 hB.2.2.2.1 o), zci_ok, e_X_means_33, zite_t o]
      rfl
    · rw [q2, zci_ok, if_pos (show zw 0 = 0 from rfl), e_X_means_31, e_X_means_33, zite_f o]
  · exact ⟨g, by rw [X_codeAt_out xs hB h c hc a, zcr_ok, zif, if_neg a], zFr.rf⟩
theorem X_named (xs : List Int) {G g : Nat → Int → Int} (hB : Bd G) (h : Rel G g) {c : Int} (hc : zw c = c) : ∃ g1, zx zblk xs 58 0 [some (.inr (.inr (some pX))), some (.inl (c))] [] (HH g) = some (some (.inl (nmS G c)), HH g1) ∧ zFr scX g g1 := by
  obtain ⟨hQ, -, hC, -⟩ := id hB
  obtain ⟨-, ⟨hc0, hc1⟩, -⟩ := id hQ
  rw [e_X_named_0, pX_ck]
  unfold nmS
  by_cases a : 0 ≤ c ∧ c < G pM 5
  · obtain ⟨k, rfl⟩ : ∃ k : Nat, c = k := ⟨c.toNat, by omega⟩
    have hk4 : k < 4 := by omega
    obtain ⟨g1, q1, q2⟩ := X_hearPage xs hB h
    have hcd := (Rel_scX hB h q1).cd hk4 a.2
    refine ⟨g1, ?_, q1⟩
    rw [X_codeAt_in xs hB h k a.2, zcr_ok, zif_some, if_pos a, e_X_named_13, pX_ck]
    rcases q2 with ⟨o, q2, q3⟩ | ⟨o, q2⟩
    · rw [q2, zci_ok, if_neg (by decide), pX_r_heard, Co_ck (zCo_PC hk4), Code_nearestTo xs hcd Rw74 q3 (pgL_len hQ) (pgL_R7 hB.2.2.2.1 o) (pgL_len hQ), zci_ok, e_X_named_33, zite_t o]
    · rw [q2, zci_ok, if_pos (show zw 0 = 0 from rfl), e_X_named_31, e_X_named_33, zite_f o]
  · exact ⟨g, by rw [X_codeAt_out xs hB h c hc a, zcr_ok, zif, if_neg a], zFr.rf⟩

