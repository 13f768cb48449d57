/-! ===== the reference reads a text ===== -/
theorem M_go_letter (xs : List Int) (g : Nat → Int → Int) {v c l : Int} (hv : 97 ≤ v ∧ v ≤ 104) (h2 : g pM 2 = c) (h3 : g pM 3 = l) (c0 : 0 ≤ c) (c7 : c ≤ 7) (l0 : 0 ≤ l) (l5 : l < 5) : zx zblk xs 5 0 [some (.inr (.inr (some pM))), some (.inl (v))] [] (HH g) = some (some (.inl 1), HH (up (up (up g pM 3 (l + 1)) pM_readRows (6 * c) (l + 1)) pM_readRows (6 * c + (l + 1)) (v - 97))) := by
  have hz : zw v = v := zw_id (by omega) (by omega)
  have e3 : up g pM 3 (l + 1) pM 3 = l + 1 := up_same _ _ _ _
  have e2 : up g pM 3 (l + 1) pM 2 = c := by rw [up_ne _ _ (by decide), h2]
  have e3' : up (up g pM 3 (l + 1)) pM_readRows (6 * c) (l + 1) pM 3 = l + 1 := by rw [up_q (by decide), e3]
  have e2' : up (up g pM 3 (l + 1)) pM_readRows (6 * c) (l + 1) pM 2 = c := by rw [up_q (by decide), e2]
  rw [e_M_go_0, hz, show zw 44 = 44 from rfl, if_pos (by omega), e_M_go_45, M_in' xs _ hz rfl rfl, zci_ok, zb_zw, zb_t hv, if_neg (by decide), pM_g_readLetters, h3, if_neg (by rw [zw_id (a := l) (by omega) (by omega), show zw 5 = 5 from rfl]; omega), e_M_go_72, if_neg (by decide), pM_g_readLetters, h3, pM_p_readLetters, pM_r_readRows, pM_g_readMany, e2, pM_g_readLetters, e3, pM_s_readRows _ _ (by omega) (by omega), pM_r_readRows, pM_g_readMany, e2', pM_g_readLetters, e3', pM_s_readRows _ _ (by omega) (by omega), e_M_go_124, if_pos (Or.inr rfl)]
theorem M_go_comma (xs : List Int) (g : Nat → Int → Int) {c l : Int} (h2 : g pM 2 = c) (h3 : g pM 3 = l) (c0 : 0 ≤ c) (c7 : c < 7) (l0 : 0 < l) (l5 : l ≤ 5) : zx zblk xs 5 0 [some (.inr (.inr (some pM))), some (.inl (44))] [] (HH g) = some (some (.inl 1), HH (up (up g pM 2 (c + 1)) pM 3 0)) := by
  rw [e_M_go_0, if_neg (by simp), pM_g_readLetters, h3, zw_id (a := l) (by omega) (by omega), if_neg (by omega), pM_g_readMany, h2, zw_id (a := c) (by omega) (by omega), show zw 7 = 7 from rfl, if_neg (by omega), e_M_go_27, pM_g_readMany, h2, pM_p_readMany, pM_p_readLetters, if_pos (Or.inr rfl)]
theorem M_go_bad (xs : List Int) (g : Nat → Int → Int) {v c l : Int} (hv : zw v = v) (h2 : g pM 2 = c) (h3 : g pM 3 = l) (c0 : 0 ≤ c) (c7 : c ≤ 7) (l0 : 0 ≤ l) (l5 : l ≤ 5) (hb : ftStep (c, l) v = none) : ∃ g1, zx zblk xs 5 0 [some (.inr (.inr (some pM))), some (.inl (v))] [] (HH g) = some (some (.inl 0), HH g1) ∧ zFr scM g g1 := by
  unfold ftStep at hb
  by_cases a : (97 ≤ v ∧ v ≤ 104) ∧ l < 5
  · rw [if_pos a] at hb
    exact absurd hb (by simp)
  · rw [if_neg a] at hb
    by_cases d : v = 44 ∧ 0 < l ∧ c < 7
    · rw [if_pos d] at hb
      exact absurd hb (by simp)
    · by_cases e : v = 44
      · refine ⟨up (up g pM 2 (c + 1)) pM 3 0, ?_, (zFr.rf.up scM_2).up scM_3⟩
        have e26 : zx zblk xs 5 26 [some (.inr (.inr (some pM)))] [] (HH g) = some (some (.inl 0), HH (up (up g pM 2 (c + 1)) pM 3 0)) := by
          rw [e_M_go_26, e_M_go_27, pM_g_readMany, h2, pM_p_readMany, pM_p_readLetters, if_pos (Or.inl rfl)]
        rw [e_M_go_0, hv, show zw 44 = 44 from rfl, if_neg (by omega), pM_g_readLetters, h3, e26, zw_id (a := l) (by omega) (by omega)]
        by_cases l1 : l ≤ 0
        · rw [if_pos l1]
        · rw [if_neg l1, pM_g_readMany, h2, zw_id (a := c) (by omega) (by omega), show zw 7 = 7 from rfl, if_pos (by omega)]
      · refine ⟨g, ?_, zFr.rf⟩
        have e71 : zx zblk xs 5 71 [some (.inr (.inr (some pM))), some (.inl (v))] [] (HH g) = some (some (.inl 0), HH g) := by
          rw [e_M_go_71, e_M_go_72, if_pos (show zw 0 = 0 from rfl), e_M_go_124, if_pos (Or.inl rfl)]
        rw [e_M_go_0, hv, show zw 44 = 44 from rfl, if_pos e, e_M_go_45, M_in' xs _ hv rfl rfl, zci_ok, zb_zw, e71]
        by_cases f : 97 ≤ v ∧ v ≤ 104
        · rw [zb_t f, if_neg (by decide), pM_g_readLetters, h3, zw_id (a := l) (by omega) (by omega), show zw 5 = 5 from rfl, if_pos (by omega)]
        · rw [zb_f f, if_pos rfl]
