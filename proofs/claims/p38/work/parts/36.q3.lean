/-! ===== queries: clear, starts ===== -/
def alO (L : Nat → List Int) (n : Nat) : Int := zfo (fun i => zfo (fun j => if L i = L j then 8 * i + j else -1) (n - (i + 1)) (i + 1)) n 0
def stO (L : Nat → List Int) (n : Nat) : Int := zfo (fun i => zfo (fun j => if (L i).length < (L j).length ∧ L i = (L j).take (L i).length then 8 * i + j else -1) n 0) n 0
def alS (G : Nat → Int → Int) (c : Int) : Int := alO (fun s => plS G 0 c s) (nS G c)
def stS (G : Nat → Int → Int) (c : Int) : Int := stO (fun s => plS G 0 c s) (nS G c)
theorem alO_rg (L : Nat → List Int) {n : Nat} (hn : n ≤ 8) : -1 ≤ alO L n ∧ alO L n ≤ 63 := by
  unfold alO
  refine zfo_rg (by omega) (by omega) (fun i _ hi => zfo_rg (by omega) (by omega) (fun j hj1 hj => ?_))
  split <;> omega
theorem stO_rg (L : Nat → List Int) {n : Nat} (hn : n ≤ 8) : -1 ≤ stO L n ∧ stO L n ≤ 63 := by
  unfold stO
  refine zfo_rg (by omega) (by omega) (fun i _ hi => zfo_rg (by omega) (by omega) (fun j hj1 hj => ?_))
  split <;> omega
def clS (G : Nat → Int → Int) (c w : Int) : Int := if 0 ≤ c ∧ c < G pM 5 then (if 0 ≤ w ∧ w ≤ 2 then (if w = 0 then (if alS G c = -1 then 1 else 0) else if alS G c = -1 then -1 else if w = 1 then (alS G c).tdiv 8 else (alS G c).tmod 8) else -102) else -101
def srS (G : Nat → Int → Int) (c w : Int) : Int := if 0 ≤ c ∧ c < G pM 5 then (if 0 ≤ w ∧ w ≤ 1 then (if stS G c = -1 then -1 else if w = 0 then (stS G c).tdiv 8 else (stS G c).tmod 8) else -102) else -101
theorem X_ofPair (xs : List Int) (v w : Int) (h : zH) (hv : zw v = v) (hw : zw w = w) : zx zblk xs 72 0 [some (.inl (v)), some (.inl (w))] [] h = some (some (.inl (if v = -1 then -1 else if w = 0 then v.tdiv 8 else v.tmod 8)), h) := by
  rw [e_X_ofPair_0, hv, show zw (-1) = -1 from rfl]
  by_cases a : v = -1
  · rw [if_neg (by omega), if_pos a]
  · rw [if_pos a, if_neg a, e_X_ofPair_7, hw]
    by_cases b : w = 0
    · rw [if_neg (by omega), if_neg (by decide), e_X_ofPair_22, if_pos b, hv]
      rfl
    · rw [if_pos b, e_X_ofPair_18, if_neg (by decide), e_X_ofPair_22, if_neg b, hv]
      rfl
theorem X_clear (xs : List Int) {G g : Nat → Int → Int} (hB : Bd G) (h : Rel G g) {c w : Int} (hc : zw c = c) (hw : zw w = w) : zx zblk xs 51 0 [some (.inr (.inr (some pX))), some (.inl (c)), some (.inl (w))] [] (HH g) = some (some (.inl (clS G c w)), HH g) := by
  obtain ⟨hQ, -, hC, -⟩ := id hB
  obtain ⟨-, ⟨hc0, hc1⟩, -⟩ := id hQ
  rw [e_X_clear_0, pX_ck]
  unfold clS
  by_cases a : 0 ≤ c ∧ c < G pM 5
  · obtain ⟨k, rfl⟩ : ∃ k : Nat, c = k := ⟨c.toNat, by omega⟩
    have hk4 : k < 4 := by omega
    have hcd := h.cd hk4 a.2
    have hrg := alO_rg (fun s => plS G 0 k s) (nS_rg hB a).2.2
    have hal : zx zblk xs 8 0 [some (.inr (.inr (some (PC k))))] [] (HH g) = some (some (.inl (alS G k)), HH g) := Code_firstAlike xs hcd
    change -1 ≤ alS G k ∧ alS G k ≤ 63 at hrg
    have e22 : zx zblk xs 51 22 [] [] (HH g) = some (some (.inl (-102)), HH g) := e_X_clear_22 xs _
    rw [X_codeAt_in xs hB h k a.2, zcr_ok, zif_some, if_pos a, e_X_clear_13, hw, show zw 2 = 2 from rfl]
    by_cases b : 0 ≤ w ∧ w ≤ 2
    · rw [if_neg (by omega), if_pos b.2, if_pos b, e_X_clear_25, Co_ck (zCo_PC hk4), hal, zci_ok, hw, zw_id (a := alS G k) (by omega) (by omega), show zw (-1) = -1 from rfl]
      by_cases w0 : w = 0
      · rw [if_neg (by omega), if_pos w0]
        by_cases m : alS G k = -1
        · rw [if_neg (by omega), if_pos m, e_X_clear_46]
        · rw [if_pos m, if_neg m, e_X_clear_45, e_X_clear_46]
      · rw [if_pos w0, if_neg w0, e_X_clear_47, X_ofPair xs _ _ _ (zw_id (by omega) (by omega)) (zw_id (by omega) (by omega)), zci_ok]
        by_cases m : alS G k = -1
        · rw [if_pos m, if_pos m]
        · rw [if_neg m, if_neg m]
          by_cases w1 : w = 1
          · rw [if_pos (by omega), if_pos w1]
          · rw [if_neg (by omega), if_neg w1]
    · rw [if_neg b]
      by_cases b0 : w < 0
      · rw [if_pos b0, e22]
      · rw [if_neg b0, if_neg (by omega), e22]
  · rw [X_codeAt_out xs hB h c hc a, zcr_ok, zif, if_neg a]
theorem X_starts (xs : List Int) {G g : Nat → Int → Int} (hB : Bd G) (h : Rel G g) {c w : Int} (hc : zw c = c) (hw : zw w = w) : zx zblk xs 52 0 [some (.inr (.inr (some pX))), some (.inl (c)), some (.inl (w))] [] (HH g) = some (some (.inl (srS G c w)), HH g) := by
  obtain ⟨hQ, -, hC, -⟩ := id hB
  obtain ⟨-, ⟨hc0, hc1⟩, -⟩ := id hQ
  rw [e_X_starts_0, pX_ck]
  unfold srS
  by_cases a : 0 ≤ c ∧ c < G pM 5
  · obtain ⟨k, rfl⟩ : ∃ k : Nat, c = k := ⟨c.toNat, by omega⟩
    have hk4 : k < 4 := by omega
    have hcd := h.cd hk4 a.2
    have hrg := stO_rg (fun s => plS G 0 k s) (nS_rg hB a).2.2
    have hal : zx zblk xs 9 0 [some (.inr (.inr (some (PC k))))] [] (HH g) = some (some (.inl (stS G k)), HH g) := Code_firstStart xs hcd
    change -1 ≤ stS G k ∧ stS G k ≤ 63 at hrg
    have e22 : zx zblk xs 52 22 [] [] (HH g) = some (some (.inl (-102)), HH g) := e_X_starts_22 xs _
    rw [X_codeAt_in xs hB h k a.2, zcr_ok, zif_some, if_pos a, e_X_starts_13, hw, show zw 1 = 1 from rfl]
    by_cases b : 0 ≤ w ∧ w ≤ 1
    · rw [if_neg (by omega), if_pos b.2, if_pos b, e_X_starts_25, Co_ck (zCo_PC hk4), hal, zci_ok, X_ofPair xs _ _ _ (zw_id (by omega) (by omega)) hw, zci_ok]
    · rw [if_neg b]
      by_cases b0 : w < 0
      · rw [if_pos b0, e22]
      · rw [if_neg b0, if_neg (by omega), e22]
  · rw [X_codeAt_out xs hB h c hc a, zcr_ok, zif, if_neg a]

