/-! ===== queries: oddness, change, cheapest, count ===== -/
theorem saidS_rg {G : Nat → Int → Int} (hB : Bd G) {c : Int} (a : 0 ≤ c ∧ c < G pM 5) : 0 ≤ saidS G c ∧ saidS G c ≤ nS G c ∧ saidS G c ≤ G pM 10 ∧ saidS G c ≤ 8 := by
  have h1 := nS_rg hB a
  obtain ⟨-, -, -, ⟨h2, h3⟩, -⟩ := hB.1
  unfold saidS
  split <;> omega
/-- how odd a speech is -/
def osm (G : Nat → Int → Int) (c s : Int) : Int := zsum (fun k => oddS G (rowS G c s k)) (lenS G c s)
def odO (G : Nat → Int → Int) (c : Int) : Int := zsum (fun t => G pM_weights t * osm G c t) (saidS G c).toNat
def odS (G : Nat → Int → Int) (c : Int) : Int := if 0 ≤ c ∧ c < G pM 5 then odO G c else -101
theorem X_oddIn (xs : List Int) {G g : Nat → Int → Int} (hB : Bd G) (h : Rel G g) {c : Nat} (hc : (c : Int) < G pM 5) : zx zblk xs 55 13 [some (.inr (.inr (some pX))), none, some (.inr (.inr (some (PC c))))] [] (HH g) = some (some (.inl (odO G c)), HH g) := by
  obtain ⟨-, ⟨hc0, hc1⟩, -, ⟨h2, h3⟩, -⟩ := id hB.1
  have hc4 : c < 4 := by omega
  have a : 0 ≤ (c : Int) ∧ (c : Int) < G pM 5 := by omega
  have h1 := nS_rg hB a
  have hs := saidS_rg hB a
  have hw := wL_len hB.1
  have hh := zloop (fun t : Nat => zx zblk xs 55 25 [some (.inr (.inr (some pX))), none, some (.inr (.inr (some (PC c)))), some (.inl (saidS G c)), some (.inl (zsum (fun t => G pM_weights t * osm G c t) t)), some (.inl ((t : Int)))] [] (HH g)) (saidS G c).toNat (fun t ht => by
    obtain ⟨r1, r2, r3, r4⟩ := rowL_ok hB (c := c) (s := t) a (by omega)
    have hat : zat (wL G) (t : Int) = G pM_weights t := by unfold wL; rw [zat_Li (by omega)]; rfl
    have hos : zsum (fun k => oddS G ((rowL G c t).getD k 0)) (rowL G c t).length = osm G c t := by
      rw [r1]
      unfold osm
      refine zsum_cg (fun k hk => ?_)
      unfold rowL
      rw [zLi_getD _ hk]
    rw [e_X_oddness_25, if_neg (by rw [zw_id (by omega) (by omega), zw_id (by omega) (by omega)]; omega), pX_r_weights, Rw_ck Rw11, Row_at xs Rw11 h.2.1 hw.2 t (zw_id (by omega) (by omega)), zci_ok, hat, pX_r_signals, Co_ck (zCo_PC hc4), Code_spoken xs (zCo_PC hc4) t (by omega), zcr_ok, Sg_ck, Signals_oddOfAll xs hB.1 hB.2.2.2.1 h.1 (Rw_sp hc4 (by omega)) (h.sp hc4 hc (by omega)) r2 (isR7_int r4), zci_ok, hos, zsum, Int.natCast_succ])
  rw [e_X_oddness_13, pX_ck, X_thingsSaid xs hB h c hc, zci_ok]
  refine Eq.trans ?_ (hh.trans ?_)
  · rfl
  · rw [e_X_oddness_25, if_pos (by rw [zw_id (by omega) (by omega), zw_id (by omega) (by omega)]; omega), e_X_oddness_65]
    rfl
theorem X_oddness (xs : List Int) {G g : Nat → Int → Int} (hB : Bd G) (h : Rel G g) {c : Int} (hc : zw c = c) : zx zblk xs 55 0 [some (.inr (.inr (some pX))), some (.inl (c))] [] (HH g) = some (some (.inl (odS G c)), HH g) := by
  rw [e_X_oddness_0, pX_ck]
  unfold odS
  by_cases a : 0 ≤ c ∧ c < G pM 5
  · obtain ⟨k, rfl⟩ : ∃ k : Nat, c = k := ⟨c.toNat, by omega⟩
    rw [X_codeAt_in xs hB h k a.2, zcr_ok, zif_some, if_pos a, X_oddIn xs hB h a.2]
  · rw [X_codeAt_out xs hB h c hc a, zcr_ok, zif, if_neg a]
section NOTES
variable {P : Nat} {g : Nat → Int → Int}
end NOTES
def wsum (G : Nat → Int → Int) (n : Int) : Int := zsum (fun t => G pM_weights t) n.toNat
theorem X_weighed (xs : List Int) {G g : Nat → Int → Int} (hB : Bd G) (h : Rel G g) {m : Int} (h0 : 0 ≤ m) (hm : m ≤ G pM 10) : zx zblk xs 28 0 [some (.inr (.inr (some 11))), some (.inl (m))] [] (HH g) = some (some (.inl (wsum G m)), HH g) := by
  have hl := wL_len hB.1
  have hs := Row_sumOf xs Rw11 h.2.1 hl.2 m.toNat (by omega)
  rw [Int.toNat_of_nonneg h0] at hs
  rw [hs]
  unfold wsum
  rw [zsum_cg (f' := fun t => G pM_weights t)]
  intro k hk
  unfold wL
  rw [zLi_getD _ (by omega)]
