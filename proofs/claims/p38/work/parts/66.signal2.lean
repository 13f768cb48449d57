/-! ===== signal: refusals ===== -/
def tnS (g : Nat → Int → Int) (k n : Int) : Prop := if k = 2 then 0 ≤ n ∧ n < g pM 8 ∧ kindS g n < 2 else n = -1
theorem X_signal_pre (xs : List Int) {g : Nat → Int → Int} (hI : Inv g) {k n se od : Int} (hk : zw k = k) (hn : zw n = n) (hs : zw se = se) (ho : zw od = od) [Decidable (tnS g k n)] : zx zblk xs 47 0 [some (.inr (.inr (some pX))), some (.inl (k)), some (.inl (n)), some (.inl (se)), some (.inl (od))] [] (HH g) = if ¬ (0 ≤ k ∧ k ≤ 4) then some (some (.inl (-102)), HH g) else if ¬ tnS g k n then some (some (.inl (-101)), HH g) else if ¬ (1 ≤ se ∧ se ≤ 9 ∧ 0 ≤ od ∧ od ≤ 9) then some (some (.inl (-102)), HH g) else if g pM 8 = 8 then some (some (.inl (-104)), HH g) else zx zblk xs 47 68 [some (.inr (.inr (some pX))), some (.inl (k)), some (.inl (n)), some (.inl (se)), some (.inl (od))] [] (HH g) := by
  obtain ⟨hB, hR⟩ := id hI
  obtain ⟨-, -, q8, -⟩ := id hB.1
  have e9 : zx zblk xs 47 9 [] [] (HH g) = some (some (.inl (-102)), HH g) := e_X_signal_9 xs _
  have e50 : zx zblk xs 47 50 [] [] (HH g) = some (some (.inl (-102)), HH g) := e_X_signal_50 xs _
  rw [e_X_signal_0, hk, show zw 4 = 4 from rfl]
  by_cases a : 0 ≤ k ∧ k ≤ 4
  · rw [if_neg (by omega), if_pos a.2, if_neg (fun z => z a), e_X_signal_12, pX_r_signals, Sg_ck, Signals_isToneFor xs hB.1 hB.2.2.2.1 hR.1 k n hk hn, zci_ok, zb_zw]
    by_cases b : tnS g k n
    · have b' : if k = 2 then 0 ≤ n ∧ n < g pM 8 ∧ kindS g n < 2 else n = -1 := b
      rw [zb_t b', if_pos (by decide), if_neg (fun z => z b), e_X_signal_27, hs, ho, show zw 1 = 1 from rfl, show zw 9 = 9 from rfl, e50]
      by_cases c : 1 ≤ se ∧ se ≤ 9 ∧ 0 ≤ od ∧ od ≤ 9
      · rw [if_neg (by omega), if_neg (by omega), if_neg (by omega), if_pos (by omega), if_neg (fun z => z c), e_X_signal_53, pX_r_signals, Sg_ck, Signals_told xs hB.1 hR.1, zci_ok, show zw 8 = 8 from rfl, zw_id (by omega) (by omega)]
        by_cases d : g pM 8 = 8
        · rw [if_neg (by omega), if_pos d]
        · rw [if_pos (by omega), if_neg d]
      · rw [if_pos c]
        by_cases c1 : se < 1
        · rw [if_pos c1]
        · by_cases c2 : 9 < se
          · rw [if_neg c1, if_pos c2]
          · by_cases c3 : od < 0
            · rw [if_neg c1, if_neg c2, if_pos c3]
            · rw [if_neg c1, if_neg c2, if_neg c3, if_neg (by omega)]
    · have b' : ¬ (if k = 2 then 0 ≤ n ∧ n < g pM 8 ∧ kindS g n < 2 else n = -1) := b
      rw [zb_f b', if_neg (by decide), if_pos b]
  · rw [if_pos a]
    by_cases a1 : k < 0
    · rw [if_pos a1, e9]
    · rw [if_neg a1, if_neg (by omega), e9]
