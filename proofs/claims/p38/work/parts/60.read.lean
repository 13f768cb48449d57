/-! ===== the class reads a code ===== -/
def rdN (f : Nat → Int) (k : Nat) : Int × Int := ((rdF f k).1.length, (rdF f k).2.length)
theorem rdN_s {f : Nat → Int} {k : Nat} {s : Int × Int} (h : ftStep (rdN f k) (f k) = some s) : s = rdN f (k + 1) := by
  unfold ftStep at h
  unfold rdN at h ⊢
  by_cases a : (97 ≤ f k ∧ f k ≤ 104) ∧ ((rdF f k).2.length : Int) < 5
  · rw [if_pos a] at h
    have hs := (Option.some.inj h).symm
    rw [hs, rdF, if_neg (by omega)]
    simp
  · rw [if_neg a] at h
    by_cases b : f k = 44 ∧ 0 < ((rdF f k).2.length : Int) ∧ ((rdF f k).1.length : Int) < 7
    · rw [if_pos b] at h
      have hs := (Option.some.inj h).symm
      rw [hs, rdF, if_pos b.1]
      simp
    · rw [if_neg b] at h
      exact absurd h (by simp)
theorem ftF_gd {f : Nat → Int} : ∀ {n k : Nat}, (ftF f n k (rdN f k)).1 = k + n → ∀ j, j < n → ∃ s, ftStep (rdN f (k + j)) (f (k + j)) = some s
  | 0, _, _, j, hj => by omega
  | n + 1, k, h, j, hj => by
    cases hst : ftStep (rdN f k) (f k) with
    | none =>
      rw [ftF_none hst] at h
      simp at h
    | some s =>
      have hs := rdN_s hst
      subst hs
      rw [ftF_some hst] at h
      by_cases e : j = 0
      · subst e; exact ⟨_, hst⟩
      · obtain ⟨s, hs⟩ := ftF_gd (f := f) (n := n) (k := k + 1) (by rw [h]; omega) (j - 1) (by omega)
        rw [show k + 1 + (j - 1) = k + j by omega] at hs
        exact ⟨s, hs⟩
/-- a text that is good all through -/
def gdT (f : Nat → Int) (n : Nat) : Prop := ∀ k, k < n → ∃ s, ftStep (rdN f k) (f k) = some s
theorem gdT_rg {f : Nat → Int} {n : Nat} (h : gdT f n) : ∀ k, k ≤ n → (rdF f k).1.length ≤ 7 ∧ (rdF f k).2.length ≤ 5 ∧ (∀ l ∈ (rdF f k).1, 1 ≤ l.length ∧ l.length ≤ 5 ∧ isR7 l) ∧ isR7 (rdF f k).2 := by
  intro k
  induction k with
  | zero => intro _; simp [rdF, isR7]
  | succ k ih =>
    intro hk
    obtain ⟨i1, i2, i3, i4⟩ := ih (by omega)
    obtain ⟨s, hs⟩ := h k (by omega)
    unfold ftStep rdN at hs
    by_cases a : (97 ≤ f k ∧ f k ≤ 104) ∧ ((rdF f k).2.length : Int) < 5
    · rw [rdF, if_neg (by omega)]
      refine ⟨i1, by simp; omega, i3, ?_⟩
      intro v hv
      rcases List.mem_append.mp hv with hv | hv
      · exact i4 v hv
      · rw [List.mem_singleton.mp hv]; omega
    · rw [if_neg a] at hs
      by_cases b : f k = 44 ∧ 0 < ((rdF f k).2.length : Int) ∧ ((rdF f k).1.length : Int) < 7
      · rw [rdF, if_pos b.1]
        refine ⟨by simp; omega, by simp, ?_, by intro v hv; simp at hv⟩
        intro l hl
        rcases List.mem_append.mp hl with hl | hl
        · exact i3 l hl
        · rw [List.mem_singleton.mp hl]; exact ⟨by omega, i2, i4⟩
      · rw [if_neg b] at hs
        exact absurd hs (by simp)
def rdA (f : Nat → Int) (k : Nat) : List (List Int) := (rdF f k).1 ++ [(rdF f k).2]
theorem rdA_len (f : Nat → Int) (k : Nat) : (rdA f k).length = (rdF f k).1.length + 1 := by simp [rdA]
theorem rdA_last (f : Nat → Int) (k : Nat) : (rdA f k).getD (rdF f k).1.length [] = (rdF f k).2 := by simp [rdA, List.getD]
theorem Code_readFrom (xs : List Int) {g : Nat → Int → Int} {P : Nat} (hP : zCo P) (hP2 : 101 ≤ P) {p2 n2 : Nat} {f : Nat → Int} {n : Nat} (h2 : zRw p2 n2) (hp2 : p2 + 1 < 101) (hl2 : zRow g p2 (zLi f n)) (hn2 : n ≤ n2) (hf : ∀ k, k < n → zw (f k) = f k) (hg : gdT f n) (he : ∀ i, i < 8 → zRow g (P + 1 + 4 + 2 * i) []) : ∃ g1, zx zblk xs 5 0 [some (.inr (.inr (some P))), some (.inr (.inr (some p2)))] [] (HH g) = some (none, HH g1) ∧ g1 P 2 = ((rdA f n).length : Int) ∧ (∀ i, i < 8 → zRow g1 (P + 1 + 4 + 2 * i) ((rdA f n).getD i [])) ∧ zFr (fun q j => (q = P ∧ j = 2) ∨ (P + 5 ≤ q ∧ q ≤ P + 20)) g g1 := by
  have hn20 := h2.2.1
  have hll : (zLi f n).length = n := zLi_len _ _
  have loop : ∀ (r k : Nat) (gk : Nat → Int → Int), k + r = n → gk P 2 = ((rdA f k).length : Int) → (∀ i, i < 8 → zRow gk (P + 1 + 4 + 2 * i) ((rdA f k).getD i [])) → zFr (fun q j => (q = P ∧ j = 2) ∨ (P + 5 ≤ q ∧ q ≤ P + 20)) g gk → ∃ g1, zx zblk xs 5 7 [some (.inr (.inr (some P))), some (.inr (.inr (some p2))), some (.inl ((k : Int)))] [] (HH gk) = some (none, HH g1) ∧ g1 P 2 = ((rdA f n).length : Int) ∧ (∀ i, i < 8 → zRow g1 (P + 1 + 4 + 2 * i) ((rdA f n).getD i [])) ∧ zFr (fun q j => (q = P ∧ j = 2) ∨ (P + 5 ≤ q ∧ q ≤ P + 20)) g g1 := by
    intro r
    induction r with
    | zero =>
      intro k gk hk hs hr hfr
      have : k = n := by omega
      subst this
      have hl : zRow gk p2 (zLi f k) := zRow_fr hl2 (hfr.at (fun j => by omega)) (hfr.at (fun j => by omega))
      refine ⟨gk, ?_, hs, hr, hfr⟩
      rw [e_Code_readFrom_7, Rw_ck h2, Row_size xs h2 hl, zci_ok, hll, if_pos (Int.le_refl _), e_Code_readFrom_62]
    | succ r ih =>
      intro k gk hk hs hr hfr
      have hl : zRow gk p2 (zLi f n) := zRow_fr hl2 (hfr.at (fun j => by omega)) (hfr.at (fun j => by omega))
      have hat : zat (zLi f n) (k : Int) = f k := by rw [zat_Li (by omega)]; rfl
      obtain ⟨i1, i2, i3, i4⟩ := gdT_rg hg k (by omega)
      obtain ⟨s, hst⟩ := hg k (by omega)
      have hal := rdA_len f k
      unfold ftStep rdN at hst
      rw [e_Code_readFrom_7, Rw_ck h2, Row_size xs h2 hl, zci_ok, hll, if_neg (by rw [zw_id (by omega) (by omega), zw_id (by omega) (by omega)]; omega), Rw_ck h2, Row_at xs h2 hl (by omega) k (zw_id (by omega) (by omega)), zci_ok, hat, X_signalOf xs _ _ (hf k (by omega)), zci_ok, show zw (-1) = -1 from rfl]
      by_cases a : (97 ≤ f k ∧ f k ≤ 104) ∧ ((rdF f k).2.length : Int) < 5
      · have hrd : rdA f (k + 1) = (rdF f k).1 ++ [(rdF f k).2 ++ [f k - 97]] := by
          unfold rdA
          rw [rdF, if_neg (by omega)]
        have hrw : zRw (P + 1 + 4 + 2 * (rdF f k).1.length) 5 := hP.2.2.1.2.2.2.2 _ (by omega)
        have hlast := hr (rdF f k).1.length (by omega)
        rw [rdA_last] at hlast
        obtain ⟨g2, p1, p2', p3⟩ := Row_add xs hrw hlast (by omega) (f k - 97)
        obtain ⟨g1, q1, q2, q3, q4⟩ := ih (k + 1) g2 (by omega) (by
          rw [p3 P 2 (by simp only [scR]; omega), hs, hal, hrd]
          simp) (fun i hi => by
          rw [hrd]
          by_cases e : i = (rdF f k).1.length
          · subst e
            rw [show ((rdF f k).1 ++ [(rdF f k).2 ++ [f k - 97]]).getD (rdF f k).1.length [] = (rdF f k).2 ++ [f k - 97] by simp [List.getD]]
            exact p2'
          · have h1 := zRow_fr (hr i hi) (p3.at (fun j => by simp only [scR]; omega)) (p3.at (fun j => by simp only [scR]; omega))
            have h2 : ((rdF f k).1 ++ [(rdF f k).2 ++ [f k - 97]]).getD i [] = (rdA f k).getD i [] := by
              unfold rdA
              by_cases e2 : i < (rdF f k).1.length
              · simp [List.getD, List.getElem?_append_left e2]
              · simp [List.getD, List.getElem?_append_right (show (rdF f k).1.length ≤ i by omega), show ¬ i - (rdF f k).1.length = 0 by omega]
            rw [h2]
            exact h1) (hfr.tr (p3.mono (fun q j z => by simp only [scR] at z; omega)))
        refine ⟨g1, ?_, q2, q3, q4⟩
        rw [if_pos a.1, zw_id (by omega) (by omega), if_pos (by omega), e_Code_readFrom_42, Co_g hP, hs, hal, Co_ck hP, show (((rdF f k).1.length + 1 : Nat) : Int) - 1 = ((rdF f k).1.length : Int) by omega, Code_spoken xs hP _ (by omega), zcr_ok, Rw_ck hrw, p1, zcv_ok, e_Code_readFrom_56, ← Int.natCast_succ]
        exact q1
      · rw [if_neg a] at hst
        by_cases b : f k = 44 ∧ 0 < ((rdF f k).2.length : Int) ∧ ((rdF f k).1.length : Int) < 7
        · have hrd : rdA f (k + 1) = rdA f k ++ [[]] := by
            unfold rdA
            rw [rdF, if_pos b.1]
          obtain ⟨g1, q1, q2, q3, q4⟩ := ih (k + 1) (up gk P 2 ((rdA f k).length + 1)) (by omega) (by
            rw [up_same, hrd]
            simp) (fun i hi => by
            rw [hrd]
            have h1 := zRow_fr (hr i hi) (up_p gk 2 (((rdA f k).length : Int) + 1) (show P + 1 + 4 + 2 * i ≠ P by omega)) (up_p gk 2 (((rdA f k).length : Int) + 1) (show P + 1 + 4 + 2 * i + 1 ≠ P by omega))
            have h2 : (rdA f k ++ [[]]).getD i [] = (rdA f k).getD i [] := by
              by_cases e2 : i < (rdA f k).length
              · simp [List.getD, List.getElem?_append_left e2]
              · rw [List.getD, List.getD, List.getElem?_append_right (by omega), List.getElem?_eq_none (show (rdA f k).length ≤ i by omega)]
                by_cases e3 : i - (rdA f k).length = 0
                · rw [e3]; rfl
                · rw [List.getElem?_eq_none (by simp; omega)]
            rw [h2]
            exact h1) (hfr.up (Or.inl ⟨rfl, rfl⟩))
          refine ⟨g1, ?_, q2, q3, q4⟩
          rw [if_neg (show ¬ (97 ≤ f k ∧ f k ≤ 104) by omega), show zw (-1) = -1 from rfl, if_neg (by simp), Co_g hP, hs, Co_p hP, e_Code_readFrom_56, ← Int.natCast_succ]
          exact q1
        · rw [if_neg b] at hst
          exact absurd hst (by simp)
  obtain ⟨g1, q1, q2, q3, q4⟩ := loop n 0 (up g P 2 1) (by omega) (by rw [up_same]; rfl) (fun i hi => by
    have h2 : (rdA f 0).getD i [] = [] := by cases i <;> simp [rdA, rdF, List.getD]
    rw [h2]
    exact zRow_fr (he i hi) (up_p _ _ _ (by omega)) (up_p _ _ _ (by omega))) (zFr.rf.up (Or.inl ⟨rfl, rfl⟩))
  rw [z0N] at q1
  refine ⟨g1, ?_, q2, q3, q4⟩
  rw [e_Code_readFrom_0, Co_p hP]
  exact q1

