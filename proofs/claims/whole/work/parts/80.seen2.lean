/-! ===== seen: the class's call, the reference's tables ===== -/
noncomputable def seS (G : Nat → Int → Int) (n p : Int) : Int := if (1 ≤ n ∧ n ≤ 6) ∧ (p = 0 ∨ p = 1) then (if G pM 10 = 0 then -103 else fracS (seO G n.toNat).toNat ((wsum G (G pM 10)).toNat ^ n.toNat) p) else -102
theorem es_seS {g1 g : Nat → Int → Int} (h : es g1 = es g) : seS g1 = seS g := by
  obtain ⟨e1, e2, e3, e4, e5, e6, e7, e8, e9, e10, e11, e12, e13, e14, e15⟩ := es_all h
  funext n p
  unfold seS seO wsum
  rw [e12, e5]
theorem se_bd {G : Nat → Int → Int} (hB : Bd G) (h0 : G pM 10 ≠ 0) {n : Nat} (hn : n ≤ 6) : 0 ≤ seO G n ∧ (seO G n).toNat < 4611686018427387904 ∧ (wsum G (G pM 10)).toNat ^ n < 4611686018427387904 ∧ 0 < (wsum G (G pM 10)).toNat ^ n ∧ ((((wsum G (G pM 10)).toNat ^ n : Nat)) : Int) = wsum G (G pM 10) ^ n := by
  obtain ⟨-, -, -, q10, -⟩ := id hB.1
  have hws := wsum_rg hB (n := G pM 10) (by omega) (by omega)
  obtain ⟨T, hT⟩ : ∃ T : Nat, G pM 10 = T := ⟨(G pM 10).toNat, by omega⟩
  have hw : ∀ t, t < T → 1 ≤ G pM_weights (t : Int) ∧ G pM_weights (t : Int) ≤ 99 := fun t ht => hB.2.2.2.2.1 t (by omega) (by omega)
  have hTn : (G pM 10).toNat = T := by omega
  have hse : 0 ≤ seO G n ∧ (seO G n).toNat < 4611686018427387904 := by
    unfold seO
    rw [hTn]
    by_cases c : T ≤ 6
    · have h1 := aS_rg hw n (2 ^ T - 1)
      have h2 : (198 * T) ^ n < 4611686018427387904 := by
        refine Nat.lt_of_le_of_lt (Nat.le_trans (Nat.pow_le_pow_left (show 198 * T ≤ 1188 by omega) n) (Nat.pow_le_pow_right (by omega) hn)) (by decide)
      refine ⟨h1.1, ?_⟩
      have := h1.2
      omega
    · rw [aS_few _ T n _ (by rw [full_pc (T := T) (Nat.le_refl _) full_bit]; omega)]
      exact ⟨Int.le_refl _, by decide⟩
  refine ⟨hse.1, hse.2, ?_, Nat.pow_pos (by omega), ?_⟩
  · exact Nat.lt_of_le_of_lt (Nat.le_trans (Nat.pow_le_pow_left (show (wsum G (G pM 10)).toNat ≤ 792 by omega) n) (Nat.pow_le_pow_right (by omega) hn)) (by decide)
  · rw [Int.natCast_pow, Int.toNat_of_nonneg (by omega)]
theorem X_seen (xs : List Int) {G g : Nat → Int → Int} (hB : Bd G) (h : Rel G g) {n p : Int} (hn : zw n = n) (hp : zw p = p) : zx zblk xs 160 0 [some (.inr (.inr (some pX))), some (.inl (n)), some (.inl (p))] [] (HH g) = some (some (.inr (.inl (seS G n p))), HH g) := by
  obtain ⟨-, -, -, q10, -⟩ := id hB.1
  have hl := wL_len hB.1
  have e18 : zx zblk xs 160 18 [] [] (HH g) = some (some (.inr (.inl (-102))), HH g) := e_X_seen_18 xs _
  rw [e_X_seen_0, hn, show zw 1 = 1 from rfl, show zw 6 = 6 from rfl]
  unfold seS
  by_cases a : (1 ≤ n ∧ n ≤ 6) ∧ (p = 0 ∨ p = 1)
  · obtain ⟨n, rfl⟩ : ∃ n' : Nat, n = n' := ⟨n.toNat, by omega⟩
    rw [if_neg (by omega), if_neg (by omega), X_isPart xs p _ hp, zci_ok, zb_zw, zb_t a.2, if_pos (by decide), if_pos a, e_X_seen_22, pX_r_weights, Rw_ck Rw11, Row_size xs Rw11 h.2.1, zci_ok, hl.1, zw_id (by omega) (by omega)]
    by_cases b : G pM 10 = 0
    · rw [if_neg (fun z => z b), if_pos b]
    · have hws := wsum_rg hB (n := G pM 10) (by omega) (by omega)
      obtain ⟨b1, b2, b3, b4, b5⟩ := se_bd hB b (n := n) (by omega)
      have ht := X_lowest xs (HH g) (a := (seO G n).toNat) (b := (wsum G (G pM 10)).toNat ^ n) hp b2 b3 b4
      rw [Int.toNat_of_nonneg b1, b5] at ht
      rw [if_pos b, if_neg b, e_X_seen_36, pX_ck, X_waysAllSeen xs hB h (by omega), zcl_ok', pX_r_weights, pX_r_weights, Rw_ck Rw11, Row_size xs Rw11 h.2.1, zci_ok, hl.1, Rw_ck Rw11, X_weighed xs hB h (by omega) (by omega), zci_ok, zw_id (a := wsum G (G pM 10)) (by omega) (by omega), X_power xs _ _ _ (by omega), zcl_ok', ht, zcl_ok']
      rfl
  · rw [if_neg a]
    by_cases a1 : n < 1
    · rw [if_pos a1, e18]
    · by_cases a2 : 6 < n
      · rw [if_neg a1, if_pos a2, e18]
      · rw [if_neg a1, if_neg a2, X_isPart xs p _ hp, zci_ok, zb_zw, zb_f (fun z => a ⟨by omega, z⟩), if_neg (by decide), e18]
/-- the table behind so many: only sets of things count -/
def aW (w : Nat → Int) (T k s : Nat) : Int := if s < 2 ^ T then aS w T k s else 0
theorem aW_step (w : Nat → Int) (T k s' : Nat) {N : Nat} (hs : s' < N) : zsum (psS w T (aW w T k) s') N = aW w T (k + 1) s' := by
  rw [push_ok w T _ hs]
  unfold aW
  by_cases c : s' < 2 ^ T
  · rw [if_pos c, if_pos c, aS_step]
    refine zsum_cg (fun t ht => ?_)
    by_cases b : s'.testBit t = true
    · have := off_lt b
      rw [if_pos b, if_pos b, if_pos (by omega)]
    · rw [if_neg b, if_neg b]
  · rw [if_neg c, if_neg c, zsum_cg (f' := fun _ => 0) (fun t ht => by
      by_cases b : s'.testBit t = true
      · have h1 : s' ^^^ 2 ^ t ||| 2 ^ t = s' := ((or_iff b).mpr (Or.inr rfl)).symm
        have h2 : ¬ s' ^^^ 2 ^ t < 2 ^ T := fun z => c (by
          rw [← h1]
          exact Nat.or_lt_two_pow z (Nat.pow_lt_pow_right (by omega) ht))
        rw [if_pos b, if_neg h2]
        simp
      · rw [if_neg b]), zsum_nought]
theorem aW_0 (w : Nat → Int) {T s : Nat} : aW w T 0 s = if s = 0 then 1 else 0 := by
  unfold aW aS
  rw [dS_0]
  by_cases c : s < 2 ^ T
  · rw [if_pos c]
    by_cases e : s = 0
    · subst e
      have : ∀ m, pcS m 0 = 0 := fun m => by
        induction m with
        | zero => rfl
        | succ m ih => rw [pcS, ih]; simp
      rw [if_pos rfl, if_pos (this T)]
    · have : pcS T s ≠ 0 := by
        intro z
        apply e
        have hz : ∀ m, pcS m s = 0 → ∀ i, i < m → s.testBit i = false := fun m => by
          induction m with
          | zero => intro _ i hi; omega
          | succ m ih =>
            intro h i hi
            rw [pcS] at h
            have h2 : s.testBit m = false := by
              cases hb : s.testBit m with
              | false => rfl
              | true => rw [hb] at h; simp at h
            by_cases ei : i = m
            · subst ei; exact h2
            · exact ih (by omega) i (by omega)
        apply Nat.eq_of_testBit_eq
        intro i
        rw [Nat.zero_testBit]
        by_cases hi : i < T
        · exact hz T z i hi
        · exact Nat.testBit_lt_two_pow (Nat.lt_of_lt_of_le c (Nat.pow_le_pow_right (by omega) (by omega)))
      rw [if_neg e, if_neg this]
  · have : s ≠ 0 := fun z => c (by rw [z]; exact Nat.pow_pos (by omega))
    rw [if_neg c, if_neg this]
theorem or_ok : ∀ s : Nat, s < 256 → ∀ t : Nat, t < 8 → zor s (zshl 1 t) = ((s ||| 2 ^ t : Nat) : Int) ∧ s ||| 2 ^ t < 256 := by decide +kernel
