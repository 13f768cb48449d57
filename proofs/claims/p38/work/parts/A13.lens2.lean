/-! ===== lengths: who has which ===== -/
section LN2
variable (xs : List Int) {G g : Nat → Int → Int} {th m : Nat}
theorem dl_s (hm : isM G th m) (hm0 : 1 ≤ m) : ∃ s : Nat → Nat, ∀ t, t < m → s t < m ∧ rk (kL G 0) m (s t) = rk (kW G) m t ∧ dlT G 0 t = (s t : Int) := by
  obtain ⟨m1, m2, m3, m4⟩ := hm
  refine ⟨fun t => (dlT G 0 t).toNat, fun t ht => ?_⟩
  obtain ⟨i, h1, h2, h3⟩ := dlT_ex (G := G) (c := 0) (t := t) (by rw [m1]; exact ht)
  rw [m1] at h1 h2
  show (dlT G 0 t).toNat < m ∧ rk (kL G 0) m (dlT G 0 t).toNat = _ ∧ _ = (((dlT G 0 t).toNat : Nat) : Int)
  rw [h3, Int.toNat_natCast]
  exact ⟨h1, h2, rfl⟩
theorem N5 (h : LwS G g) (hw : LwW G g th) (hm : isM G th m) (hm0 : 1 ≤ m) {v : Int} (hv : LeT (fun t => G pM_weights t) (fun t => longS G 0 t) m (m ^ m) v) : zx zblk xs 92 332 [some (.inr (.inr (some pX))), some (.inr (.inr (some 265))), some (.inr (.inr (some 266))), some (.inr (.inr (some 268))), none, some (.inl ((m : Int))), none, none, some (.inl (zsum (fun t => G pM_weights t) m)), none, some (.inl (v))] [] (HH g) = zx zblk xs 92 363 [some (.inr (.inr (some pX))), some (.inr (.inr (some 265))), some (.inr (.inr (some 266))), some (.inr (.inr (some 268))), none, some (.inl ((m : Int))), none, none, none, none, none, some (.inl (0))] [] (HH g) := by
  obtain ⟨m1, m2, m3, m4⟩ := id hm
  obtain ⟨w1, w2, w3, w4⟩ := id hw
  obtain ⟨s, hs⟩ := dl_s hm hm0
  have e := LeT_end hm0 hv (fun t ht => by have := W_rg h hw hm ht; omega) (fun t ht => by have := K_rg h hm ht; omega) (s := s) (fun i hi => (hs i hi).1) (fun i j hi hj hij => by
    have h1 := (hs i hi).2.1
    have h2 := (hs j hj).2.1
    rw [hij, h2] at h1
    exact rk_inj (kW G) hi hj h1.symm) (fun i j hi hj hij => by
    have h1 := (hs i hi).2.1
    have h2 := (hs j hj).2.1
    have h3 : rk (kW G) m i < rk (kW G) m j := rk_lt (kW G) hi (Or.inl (by show -G pM_weights i < -G pM_weights j; omega))
    by_cases z : longS G 0 (s i) ≤ longS G 0 (s j)
    · exact z
    · have h4 : rk (kL G 0) m (s j) < rk (kL G 0) m (s i) := rk_lt (kL G 0) (hs j hj).1 (Or.inl (by show longS G 0 (s j) < longS G 0 (s i); omega))
      omega)
  have hdl : dlO G 0 = v := by
    rw [e]
    unfold dlO
    rw [m1]
    refine zsum_cg (fun t ht => ?_)
    rw [(hs t ht).2.2]
  have hdr := dlO_rg h.1 h.c1
  have hws := wsum_rg h.1 (n := (m : Int)) (by omega) (by omega)
  have hwl : wsum G (m : Int) = zsum (fun t => G pM_weights t) m := by
    unfold wsum
    rw [Int.toNat_natCast]
  have vv : ∀ p : Int, p = 0 ∨ p = 1 → dlS G 0 p = fracS (dlO G 0).toNat (wsum G (m : Int)).toNat p := fun p hp => by
    unfold dlS
    rw [if_pos h.c1, if_pos (Or.inl hp), m2, if_neg (by omega), if_neg (by omega)]
  have hsh := L_share xs (a := (dlO G 0).toNat) (b := (wsum G (m : Int)).toNat) (by omega) (by omega) (by omega) (HH g)
  rw [Int.toNat_of_nonneg hdr.1, Int.toNat_of_nonneg (show 0 ≤ wsum G (m : Int) by omega)] at hsh
  rw [e_L_lengths_332, pX_ck, X_dealt xs h.1 h.2.1 rfl rfl, zci_ok, pX_ck, X_dealt xs h.1 h.2.1 rfl rfl, zci_ok, vv 0 (Or.inl rfl), vv 1 (Or.inr rfl), fracS_zw (by omega) (by omega), fracS_zw (by omega) (by omega), ← hdl, ← hwl, zw_id (a := dlO G 0) (by omega) (by omega), zw_id (a := wsum G (m : Int)) (by omega) (by omega), hsh, zci_ok, if_pos (by decide), e_L_lengths_360]
def Fnd (G : Nat → Int → Int) (m i j : Nat) (v : Int) : Prop := (v = -1 ∧ ∀ j', j' < j → rk (kL G 0) m j' ≠ rk (kW G) m i) ∨ ∃ j' : Nat, j' < j ∧ v = j' ∧ rk (kL G 0) m j' = rk (kW G) m i
theorem N6cmp (h : LwS G g) (hw : LwW G g th) (hm : isM G th m) {i j : Nat} (hi : i < m) (hj : j < m) (v : Int) : zx zblk xs 92 399 [some (.inr (.inr (some pX))), some (.inr (.inr (some 265))), some (.inr (.inr (some 266))), some (.inr (.inr (some 268))), none, some (.inl ((m : Int))), none, none, none, none, none, some (.inl ((i : Int))), some (.inl (v)), some (.inl ((j : Int))), some (.inl (0)), some (.inl (0)), some (.inl (0))] [] (HH g) = zx zblk xs 92 495 [some (.inr (.inr (some pX))), some (.inr (.inr (some 265))), some (.inr (.inr (some 266))), some (.inr (.inr (some 268))), none, some (.inl ((m : Int))), none, none, none, none, none, some (.inl ((i : Int))), some (.inl (v)), some (.inl ((j : Int))), some (.inl (rk (kW G) m i)), some (.inl (rk (kL G 0) m j))] [] (HH g) := by
  obtain ⟨m1, m2, m3, m4⟩ := id hm
  obtain ⟨w1, w2, w3, w4⟩ := id hw
  have wi := W_rg h hw hm hi
  have kj := K_rg h hm hj
  have hh := zloop (fun k : Nat => zx zblk xs 92 399 [some (.inr (.inr (some pX))), some (.inr (.inr (some 265))), some (.inr (.inr (some 266))), some (.inr (.inr (some 268))), none, some (.inl ((m : Int))), none, none, none, none, none, some (.inl ((i : Int))), some (.inl (v)), some (.inl ((j : Int))), some (.inl (zsum (fun j => if kW G j < kW G i ∨ (kW G j = kW G i ∧ j < i) then 1 else 0) k)), some (.inl (zsum (fun i => if kL G 0 i < kL G 0 j ∨ (kL G 0 i = kL G 0 j ∧ i < j) then 1 else 0) k)), some (.inl ((k : Int)))] [] (HH g)) m (fun k hk => by
    have wk := W_rg h hw hm hk
    have kk := K_rg h hm hk
    have z1 : zsum (fun j => if kW G j < kW G i ∨ (kW G j = kW G i ∧ j < i) then 1 else 0) (k + 1) = zsum (fun j => if kW G j < kW G i ∨ (kW G j = kW G i ∧ j < i) then 1 else 0) k + (if kW G k < kW G i ∨ (kW G k = kW G i ∧ k < i) then 1 else 0) := rfl
    have z2 : zsum (fun i => if kL G 0 i < kL G 0 j ∨ (kL G 0 i = kL G 0 j ∧ i < j) then 1 else 0) (k + 1) = zsum (fun i => if kL G 0 i < kL G 0 j ∨ (kL G 0 i = kL G 0 j ∧ i < j) then 1 else 0) k + (if kL G 0 k < kL G 0 j ∨ (kL G 0 k = kL G 0 j ∧ k < j) then 1 else 0) := rfl
    generalize zsum (fun j => if kW G j < kW G i ∨ (kW G j = kW G i ∧ j < i) then 1 else 0) (k + 1) = H' at z1 ⊢
    generalize zsum (fun i => if kL G 0 i < kL G 0 j ∨ (kL G 0 i = kL G 0 j ∧ i < j) then 1 else 0) (k + 1) = S' at z2 ⊢
    generalize zsum (fun j => if kW G j < kW G i ∨ (kW G j = kW G i ∧ j < i) then 1 else 0) k = H at z1 ⊢
    generalize zsum (fun i => if kL G 0 i < kL G 0 j ∨ (kL G 0 i = kL G 0 j ∧ i < j) then 1 else 0) k = S at z2 ⊢
    have ew : (kW G k < kW G i ∨ (kW G k = kW G i ∧ k < i)) ↔ (G pM_weights i < G pM_weights k ∨ (G pM_weights k = G pM_weights i ∧ k < i)) := by unfold kW; omega
    have e442 : zx zblk xs 92 399 [some (.inr (.inr (some pX))), some (.inr (.inr (some 265))), some (.inr (.inr (some 266))), some (.inr (.inr (some 268))), none, some (.inl ((m : Int))), none, none, none, none, none, some (.inl ((i : Int))), some (.inl (v)), some (.inl ((j : Int))), some (.inl (H)), some (.inl (S)), some (.inl ((k : Int)))] [] (HH g) = zx zblk xs 92 442 [some (.inr (.inr (some pX))), some (.inr (.inr (some 265))), some (.inr (.inr (some 266))), some (.inr (.inr (some 268))), none, some (.inl ((m : Int))), none, none, none, none, none, some (.inl ((i : Int))), some (.inl (v)), some (.inl ((j : Int))), none, some (.inl (S)), some (.inl ((k : Int)))] [.inl (if kW G k < kW G i ∨ (kW G k = kW G i ∧ k < i) then 1 else 0), .inl H] (HH g) := by
      rw [e_L_lengths_399, if_neg (by rw [zw_id (by omega) (by omega), zw_id (by omega) (by omega)]; omega), W_at xs hw hm hk, W_at xs hw hm hi, zw_id (a := G pM_weights i) (by omega) (by omega), zw_id (a := G pM_weights k) (by omega) (by omega)]
      by_cases a : G pM_weights i < G pM_weights k
      · rw [if_pos a, e_L_lengths_437, if_pos (ew.mpr (Or.inl a))]
      · rw [if_neg a, W_at xs hw hm hk, W_at xs hw hm hi, zw_id (a := G pM_weights i) (by omega) (by omega), zw_id (a := G pM_weights k) (by omega) (by omega)]
        by_cases b : G pM_weights k = G pM_weights i
        · rw [if_neg (fun z => z b), zw_id (a := (i : Int)) (by omega) (by omega), zw_id (a := (k : Int)) (by omega) (by omega)]
          by_cases d : k < i
          · rw [if_neg (by omega), e_L_lengths_437, if_pos (ew.mpr (Or.inr ⟨b, d⟩))]
          · rw [if_pos (by omega), e_L_lengths_441, if_neg (fun z => by have := ew.mp z; omega)]
        · rw [if_pos b, e_L_lengths_441, if_neg (fun z => by have := ew.mp z; omega)]
    rw [e442, e_L_lengths_442, L_long0 xs h (by omega), zci_ok, L_long0 xs h (by omega), zci_ok, zw_id (a := longS G 0 k - longS G 0 j) (by omega) (by omega), zw_id (a := (k : Int)) (by omega) (by omega), zw_id (a := (j : Int)) (by omega) (by omega), ← z1]
    have el : (kL G 0 k < kL G 0 j ∨ (kL G 0 k = kL G 0 j ∧ k < j)) ↔ (longS G 0 k < longS G 0 j ∨ (longS G 0 k = longS G 0 j ∧ k < j)) := Iff.rfl
    by_cases a : longS G 0 k - longS G 0 j < 0
    · rw [if_pos a, e_L_lengths_481, e_L_lengths_486, z2, if_pos (el.mpr (Or.inl (by omega))), Int.natCast_succ]
    · rw [if_neg a]
      by_cases b : longS G 0 k - longS G 0 j = 0
      · rw [if_neg (fun z => z b)]
        by_cases d : k < j
        · rw [if_neg (by omega), e_L_lengths_481, e_L_lengths_486, z2, if_pos (el.mpr (Or.inr ⟨by omega, d⟩)), Int.natCast_succ]
        · rw [if_pos (by omega), e_L_lengths_485, e_L_lengths_486, z2, if_neg (fun z => by have := el.mp z; omega), Int.natCast_succ]
      · rw [if_pos b, e_L_lengths_485, e_L_lengths_486, z2, if_neg (fun z => by have := el.mp z; omega), Int.natCast_succ])
  refine Eq.trans ?_ (hh.trans ?_)
  · rfl
  · rw [e_L_lengths_399, if_pos (Int.le_refl _)]
    rfl
theorem N6j (h : LwS G g) (hw : LwW G g th) (hm : isM G th m) {i : Nat} (hi : i < m) : ∀ (r j : Nat) (v : Int), j + r = m → Fnd G m i j v → ∃ v', zx zblk xs 92 376 [some (.inr (.inr (some pX))), some (.inr (.inr (some 265))), some (.inr (.inr (some 266))), some (.inr (.inr (some 268))), none, some (.inl ((m : Int))), none, none, none, none, none, some (.inl ((i : Int))), some (.inl (v)), some (.inl ((j : Int)))] [] (HH g) = zx zblk xs 92 512 [some (.inr (.inr (some pX))), some (.inr (.inr (some 265))), some (.inr (.inr (some 266))), some (.inr (.inr (some 268))), none, some (.inl ((m : Int))), none, none, none, none, none, some (.inl ((i : Int))), some (.inl (v'))] [] (HH g) ∧ Fnd G m i m v' := by
  obtain ⟨m1, m2, m3, m4⟩ := id hm
  obtain ⟨w1, w2, w3, w4⟩ := id hw
  intro r
  induction r with
  | zero =>
    intro j v hj hv
    have : j = m := by omega
    subst this
    exact ⟨v, by rw [e_L_lengths_376, if_pos (Int.le_refl _)], hv⟩
  | succ r ih =>
    intro j v hj hv
    have r1 := rk_rg (kW G) hi
    have r2 := rk_rg (kL G 0) (n := m) (i := j) (by omega)
    rw [e_L_lengths_376, if_neg (by rw [zw_id (by omega) (by omega), zw_id (by omega) (by omega)]; omega), if_neg (by rw [zw_id (by omega) (by omega), zw_id (by omega) (by omega)]; omega), N6cmp xs h hw hm hi (by omega) v, e_L_lengths_495, zw_id (a := rk (kW G) m i) (by omega) (by omega), zw_id (a := rk (kL G 0) m j) (by omega) (by omega)]
    by_cases a : rk (kW G) m i = rk (kL G 0) m j
    · obtain ⟨v', s1, s2⟩ := ih (j + 1) (j : Int) (by omega) (Or.inr ⟨j, by omega, rfl, a.symm⟩)
      refine ⟨v', ?_, s2⟩
      rw [if_neg (fun z => z a), e_L_lengths_506, ← s1, Int.natCast_succ]
    · obtain ⟨v', s1, s2⟩ := ih (j + 1) v (by omega) (by
        rcases hv with ⟨h1, h2⟩ | ⟨j', h1, h2, h3⟩
        · refine Or.inl ⟨h1, fun j' hj' => ?_⟩
          by_cases e : j' = j
          · rw [e]; exact fun z => a z.symm
          · exact h2 j' (by omega)
        · exact Or.inr ⟨j', by omega, h2, h3⟩)
      refine ⟨v', ?_, s2⟩
      rw [if_pos a, e_L_lengths_506, ← s1, Int.natCast_succ]
theorem N6 (h : LwS G g) (hw : LwW G g th) (hm : isM G th m) (hm0 : 1 ≤ m) : ∀ (r i : Nat), i + r = 8 → zx zblk xs 92 363 [some (.inr (.inr (some pX))), some (.inr (.inr (some 265))), some (.inr (.inr (some 266))), some (.inr (.inr (some 268))), none, some (.inl ((m : Int))), none, none, none, none, none, some (.inl ((i : Int)))] [] (HH g) = some (some (.inl 1), HH g) := by
  obtain ⟨m1, m2, m3, m4⟩ := id hm
  obtain ⟨w1, w2, w3, w4⟩ := id hw
  intro r
  induction r with
  | zero =>
    intro i hi
    have : i = 8 := by omega
    subst this
    rw [e_L_lengths_363, if_pos (by decide), e_L_lengths_535, if_pos (Or.inr rfl)]
  | succ r ih =>
    intro i hi
    have hX := X_dealt xs h.1 h.2.1 (c := 0) (w := 10 + (i : Int)) rfl (zw_id (by omega) (by omega))
    have hd : dlS G 0 (10 + (i : Int)) = if i < m then dlT G 0 i else -1 := by
      unfold dlS
      rw [if_pos h.c1, if_pos (Or.inr (by omega)), m2, if_neg (by omega), if_pos (by omega), show (10 + (i : Int) - 10) = (i : Int) by omega, Int.toNat_natCast]
      by_cases a : i < m
      · rw [if_pos (by omega), if_pos a]
      · rw [if_neg (by omega), if_neg a]
    rw [hd] at hX
    have nx : zx zblk xs 92 512 [some (.inr (.inr (some pX))), some (.inr (.inr (some 265))), some (.inr (.inr (some 266))), some (.inr (.inr (some 268))), none, some (.inl ((m : Int))), none, none, none, none, none, some (.inl ((i : Int))), some (.inl (if i < m then dlT G 0 i else -1))] [] (HH g) = some (some (.inl 1), HH g) := by
      rw [e_L_lengths_512, pX_ck, hX, zci_ok, if_pos rfl, e_L_lengths_529, ← ih (i + 1) (by omega), Int.natCast_succ]
    rw [e_L_lengths_363, if_neg (by rw [show zw 8 = 8 from rfl, zw_id (by omega) (by omega)]; omega)]
    by_cases a : i < m
    · obtain ⟨v', s1, s2⟩ := N6j xs h hw hm a m 0 (-1) (by omega) (Or.inl ⟨rfl, fun j' hj' => by omega⟩)
      rw [z0N] at s1
      rw [if_pos a] at nx
      obtain ⟨s, hs⟩ := dl_s hm hm0
      have hv : v' = dlT G 0 i := by
        rw [(hs i a).2.2]
        rcases s2 with ⟨h1, h2⟩ | ⟨j', h1, h2, h3⟩
        · exact absurd (hs i a).2.1 (h2 _ (hs i a).1)
        · have := rk_inj (kL G 0) h1 (hs i a).1 (h3.trans (hs i a).2.1.symm)
          rw [h2, this]
      rw [s1, hv, nx]
    · rw [if_neg a] at nx
      have : zx zblk xs 92 376 [some (.inr (.inr (some pX))), some (.inr (.inr (some 265))), some (.inr (.inr (some 266))), some (.inr (.inr (some 268))), none, some (.inl ((m : Int))), none, none, none, none, none, some (.inl ((i : Int))), some (.inl (-1)), some (.inl (0))] [] (HH g) = zx zblk xs 92 512 [some (.inr (.inr (some pX))), some (.inr (.inr (some 265))), some (.inr (.inr (some 266))), some (.inr (.inr (some 268))), none, some (.inl ((m : Int))), none, none, none, none, none, some (.inl ((i : Int))), some (.inl (-1))] [] (HH g) := by
        rw [e_L_lengths_376, if_neg (by rw [zw_id (by omega) (by omega)]; simp only [show zw 0 = 0 from rfl]; omega), if_pos (by rw [zw_id (by omega) (by omega), zw_id (by omega) (by omega)]; omega)]
      rw [this, nx]
end LN2
theorem L_lengths (xs : List Int) {G g : Nat → Int → Int} {th : Nat} (h : LwS G g) (hw : LwW G g th) : zx zblk xs 92 0 [some (.inr (.inr (some pX))), some (.inr (.inr (some 265))), some (.inr (.inr (some 266))), some (.inr (.inr (some 268))), some (.inl ((th : Int)))] [] (HH g) = some (some (.inl 1), HH g) := by
  have hm := isM_of h hw
  rw [N1 xs h hw hm]
  by_cases a : mS G 0 = 0
  · exact N2 xs h hw hm a
  · obtain ⟨v', s1, s2⟩ := N4 xs h hw hm (by omega) (zsum (fun t => G pM_weights t) (mS G 0)) (mS G 0 ^ mS G 0) 0 (-1) (by omega) (Or.inl ⟨rfl, fun code hc => by omega⟩)
    rw [z0N] at s1
    rw [N3 xs h hw hm (by omega), s1, N5 xs h hw hm (by omega) s2]
    have := N6 xs h hw hm (by omega) 8 0 (by omega)
    rw [z0N] at this
    exact this
