/-! ===== queries: as, about, speech ===== -/
noncomputable def zite (P : Prop) (a b : Int) : Int := @ite _ P (zdc P) a b
theorem zite_t {P : Prop} (h : P) (a b : Int) : zite P a b = a := @if_pos _ (zdc P) h _ _ _
theorem zite_f {P : Prop} (h : ¬ P) (a b : Int) : zite P a b = b := @if_neg _ (zdc P) h _ _ _
def spO (G : Nat → Int → Int) (c s i : Int) : Int := if 0 ≤ i ∧ i ≤ 5 then (if i ≤ G pM_rows (48 * c + 6 * s) then G pM_rows (48 * c + 6 * s + i) else -1) else if 11 ≤ i ∧ i ≤ 20 then zat (plS G 0 c s) (i - 11) else if i = 10 then (plS G 0 c s).length else if i = 30 then longS G c s else -102
def spS (G : Nat → Int → Int) (c s i : Int) : Int := if 0 ≤ c ∧ c < G pM 5 then (if 0 ≤ s ∧ s < G pM_speeches c then spO G c s i else -101) else -101
theorem X_speechIn (xs : List Int) {G g : Nat → Int → Int} (hB : Bd G) (h : Rel G g) {c s : Nat} {i : Int} (hc : (c : Int) < G pM 5) (hs : s < nS G c) (hi : zw i = i) : zx zblk xs 49 28 [some (.inr (.inr (some pX))), none, some (.inl ((s : Int))), some (.inl (i)), some (.inr (.inr (some (PC c))))] [] (HH g) = some (some (.inl (spO G c s i)), HH g) := by
  obtain ⟨hQ, -, hC, -⟩ := id hB
  obtain ⟨-, ⟨hc0, hc1⟩, -⟩ := id hQ
  have hc4 : c < 4 := by omega
  obtain ⟨n1, n2, n3⟩ := nS_rg hB (c := c) (by omega)
  obtain ⟨r1, r2, r3, r4⟩ := rowL_ok hB (c := c) (s := s) (by omega) (by omega)
  obtain ⟨l1, l2, l3, l4⟩ := lenS_rg hC (c := c) (s := s) (by omega) (by omega)
  have hl := plS_len hC (c := c) (s := s) (by omega) (by omega) 0
  have hcd := h.cd hc4 hc
  have hsp := h.sp hc4 hc hs
  have hpl := hcd.2.2.2 s hs
  have hro := Rw_sp hc4 (s := s) (by omega)
  have hrp := Rw_pl hc4 (s := s) (by omega)
  have hco := zCo_PC hc4
  rw [e_X_speech_28, hi]
  unfold spO
  by_cases a0 : i = 0
  · rw [if_neg (by omega), Co_ck hco, Code_spoken xs hco s (by omega), zcr_ok, Rw_ck hro, Row_size xs hro hsp, zci_ok, if_pos (by omega), if_pos (by omega), a0, Int.add_zero, l3, r1]
  · rw [if_pos a0, e_X_speech_42, hi, show zw 1 = 1 from rfl, show zw 5 = 5 from rfl]
    by_cases a : 0 ≤ i ∧ i ≤ 5
    · rw [if_neg (by omega), if_neg (by omega), Co_ck hco, Code_spoken xs hco s (by omega), zcr_ok, Rw_ck hro, Row_at xs hro hsp r2 _ (zw_id (by omega) (by omega)), zci_ok, if_pos a]
      unfold rowL
      by_cases b : i ≤ G pM_rows (48 * c + 6 * s)
      · rw [if_pos b, zat_Li (by omega)]
        unfold rowS
        rw [show 48 * (c : Int) + 6 * s + 1 + ((i - 1).toNat : Int) = 48 * c + 6 * s + i by omega]
      · rw [if_neg b, zat_Lo (by omega)]
    · have e65 : zx zblk xs 49 65 [some (.inr (.inr (some pX))), none, some (.inl ((s : Int))), some (.inl (i)), some (.inr (.inr (some (PC c))))] [] (HH g) = some (some (.inl (if 11 ≤ i ∧ i ≤ 20 then zat (plS G 0 c s) (i - 11) else if i = 10 then (plS G 0 c s).length else if i = 30 then longS G c s else -102)), HH g) := by
        rw [e_X_speech_65, hi, show zw 10 = 10 from rfl]
        by_cases b : i = 10
        · rw [if_neg (by omega), Co_ck hco, Code_plain xs hco s (by omega), zcr_ok, Rw_ck hrp, Row_size xs hrp hpl.1, zci_ok, if_neg (by omega), if_pos b]
        · rw [if_pos b, e_X_speech_81, hi, show zw 10 = 10 from rfl, show zw 20 = 20 from rfl]
          have e107 : ¬ (11 ≤ i ∧ i ≤ 20) → zx zblk xs 49 107 [some (.inr (.inr (some pX))), none, some (.inl ((s : Int))), some (.inl (i)), some (.inr (.inr (some (PC c))))] [] (HH g) = some (some (.inl (if i = 30 then longS G c s else -102)), HH g) := by
            intro _
            rw [e_X_speech_107, hi, show zw 30 = 30 from rfl]
            by_cases d : i = 30
            · rw [if_neg (by omega), pX_ck, X_longOf xs hB h c s hc hs, zci_ok, e_X_speech_125, if_pos d]
            · rw [if_pos d, e_X_speech_123, e_X_speech_125, if_neg d]
          by_cases d : 11 ≤ i ∧ i ≤ 20
          · rw [if_neg (by omega), if_neg (by omega), Co_ck hco, Code_plain xs hco s (by omega), zcr_ok, Rw_ck hrp, Row_at xs hrp hpl.1 (by omega) _ (zw_id (by omega) (by omega)), zci_ok, if_pos d]
          · rw [if_neg d, if_neg b, ← e107 d]
            by_cases e : i ≤ 10
            · rw [if_pos e]
            · rw [if_neg e, if_pos (by omega)]
      rw [if_neg a, ← e65]
      by_cases b : i < 1
      · rw [if_pos b]
      · rw [if_neg b, if_pos (by omega)]
theorem X_speech (xs : List Int) {G g : Nat → Int → Int} (hB : Bd G) (h : Rel G g) {c s i : Int} (hc : zw c = c) (hs : zw s = s) (hi : zw i = i) : zx zblk xs 49 0 [some (.inr (.inr (some pX))), some (.inl (c)), some (.inl (s)), some (.inl (i))] [] (HH g) = some (some (.inl (spS G c s i)), HH g) := by
  obtain ⟨hQ, -, hC, -⟩ := id hB
  obtain ⟨-, ⟨hc0, hc1⟩, -⟩ := id hQ
  have e25 : zx zblk xs 49 25 [] [] (HH g) = some (some (.inl (-101)), HH g) := e_X_speech_25 xs _
  rw [e_X_speech_0, pX_ck]
  unfold spS
  by_cases a : 0 ≤ c ∧ c < G pM 5
  · obtain ⟨k, rfl⟩ : ∃ k : Nat, c = k := ⟨c.toNat, by omega⟩
    have hk4 : k < 4 := by omega
    obtain ⟨n1, n2, n3⟩ := nS_rg hB (c := k) (by omega)
    have hcd := h.cd hk4 a.2
    rw [X_codeAt_in xs hB h k a.2, zcr_ok, zif_some, if_pos a, hs, Co_ck (zCo_PC hk4), Code_size xs (zCo_PC hk4), zci_ok, hcd.2.1, zw_id (a := (nS G k : Int)) (by omega) (by omega)]
    by_cases b : 0 ≤ s ∧ s < G pM_speeches k
    · obtain ⟨j, rfl⟩ : ∃ j : Nat, s = j := ⟨s.toNat, by omega⟩
      rw [if_neg (by omega), if_pos (by omega), if_pos b, X_speechIn xs hB h a.2 (by omega) hi]
    · rw [if_neg b]
      by_cases b0 : s < 0
      · rw [if_pos b0, e25]
      · rw [if_neg b0, if_neg (by omega), e25]
  · rw [X_codeAt_out xs hB h c hc a, zcr_ok, zif, e25, if_neg a]

