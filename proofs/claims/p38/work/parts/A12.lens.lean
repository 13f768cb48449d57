/-! ===== lengths ===== -/
/-- the law's weights -/
def LwW (G g : Nat → Int → Int) (th : Nat) : Prop := zAr g 268 8 ∧ th ≤ 5 ∧ G pM 10 = (th : Int) ∧ ∀ t : Nat, t < th → g 268 (t : Int) = G pM_weights t
section LN
variable (xs : List Int) {G g : Nat → Int → Int} {th m : Nat}
def isM (G : Nat → Int → Int) (th m : Nat) : Prop := mS G 0 = m ∧ saidS G 0 = (m : Int) ∧ m ≤ nS G 0 ∧ m ≤ th
theorem isM_of (h : LwS G g) (hw : LwW G g th) : isM G th (mS G 0) := by
  have hn := h.n
  obtain ⟨w1, w2, w3, w4⟩ := hw
  have hs := saidS_rg h.1 h.c1
  have : (mS G 0 : Int) = saidS G 0 := by unfold mS; omega
  exact ⟨rfl, this.symm, by omega, by omega⟩
theorem W_at (hw : LwW G g th) (hm : isM G th m) {i : Nat} (hi : i < m) (f : Int → Option zR) : zai xs (HH g) (some 268) (i : Int) f = f (G pM_weights i) := by
  obtain ⟨w1, w2, w3, w4⟩ := hw
  obtain ⟨m1, m2, m3, m4⟩ := hm
  rw [HF_ai w1 (by omega) (by omega), w4 i (by omega)]
theorem W_rg (h : LwS G g) (hw : LwW G g th) (hm : isM G th m) {i : Nat} (hi : i < m) : 1 ≤ G pM_weights i ∧ G pM_weights i ≤ 99 := by
  obtain ⟨w1, w2, w3, w4⟩ := hw
  obtain ⟨m1, m2, m3, m4⟩ := hm
  exact w_rg h.1 i (by omega)
theorem K_rg (h : LwS G g) (hm : isM G th m) {i : Nat} (hi : i < m) : 1 ≤ longS G 0 i ∧ longS G 0 i ≤ 45 := by
  have hn := h.n
  obtain ⟨m1, m2, m3, m4⟩ := hm
  exact longS_rg h.1 h.c1 (s := (i : Int)) ⟨by omega, by omega⟩
/-- sums of all, odd, whole -/
theorem N1 (h : LwS G g) (hw : LwW G g th) (hm : isM G th m) : zx zblk xs 92 0 [some (.inr (.inr (some pX))), some (.inr (.inr (some 265))), some (.inr (.inr (some 266))), some (.inr (.inr (some 268))), some (.inl ((th : Int)))] [] (HH g) = zx zblk xs 92 118 [some (.inr (.inr (some pX))), some (.inr (.inr (some 265))), some (.inr (.inr (some 266))), some (.inr (.inr (some 268))), none, some (.inl ((m : Int))), some (.inl (zsum (fun t => G pM_weights t * longS G 0 t) m)), some (.inl (zsum (fun t => G pM_weights t * osm G 0 t) m)), some (.inl (zsum (fun t => G pM_weights t) m))] [] (HH g) := by
  have hn := h.n
  obtain ⟨w1, w2, w3, w4⟩ := id hw
  obtain ⟨m1, m2, m3, m4⟩ := id hm
  have h5 := h.2.2.2.2.1
  have e0 : zx zblk xs 92 0 [some (.inr (.inr (some pX))), some (.inr (.inr (some 265))), some (.inr (.inr (some 266))), some (.inr (.inr (some 268))), some (.inl ((th : Int)))] [] (HH g) = zx zblk xs 92 30 [some (.inr (.inr (some pX))), some (.inr (.inr (some 265))), some (.inr (.inr (some 266))), some (.inr (.inr (some 268))), none, some (.inl ((m : Int))), some (.inl (0)), some (.inl (0)), some (.inl (0)), some (.inl (0))] [] (HH g) := by
    rw [e_L_lengths_0, HF_ai h5 (by omega) (by omega), h.2.2.2.2.2.1, zw_id (by omega) (by omega), zw_id (by omega) (by omega)]
    have hs : saidS G 0 = if G pM_speeches 0 < G pM 10 then G pM_speeches 0 else G pM 10 := rfl
    rw [hn.2.2, w3] at hs
    by_cases a : (th : Int) ≤ nS G 0
    · rw [if_neg (by omega)] at hs
      rw [if_pos a, e_L_lengths_14, e_L_lengths_16, ← hs, m2]
    · rw [if_pos (by omega)] at hs
      rw [if_neg a, HF_ai h5 (by omega) (by omega), h.2.2.2.2.2.1, e_L_lengths_16, ← hs, m2]
  have hh := zloop (fun i : Nat => zx zblk xs 92 30 [some (.inr (.inr (some pX))), some (.inr (.inr (some 265))), some (.inr (.inr (some 266))), some (.inr (.inr (some 268))), none, some (.inl ((m : Int))), some (.inl (zsum (fun t => G pM_weights t * longS G 0 t) i)), some (.inl (zsum (fun t => G pM_weights t * osm G 0 t) i)), some (.inl (zsum (fun t => G pM_weights t) i)), some (.inl ((i : Int)))] [] (HH g)) m (fun i hi => by
    obtain ⟨l1, l2, l3⟩ := h.len (i := i) (by omega)
    obtain ⟨j1, j2⟩ := h.2.2.2.2.2.2 i (by omega)
    have h2 := zloop (fun k : Nat => zx zblk xs 92 66 [some (.inr (.inr (some pX))), some (.inr (.inr (some 265))), some (.inr (.inr (some 266))), some (.inr (.inr (some 268))), none, some (.inl ((m : Int))), some (.inl (zsum (fun t => G pM_weights t * longS G 0 t) (i + 1))), some (.inl (zsum (fun t => G pM_weights t * osm G 0 t) i + G pM_weights i * zsum (fun k => oddS G (rowS G 0 i k)) k)), some (.inl (zsum (fun t => G pM_weights t) (i + 1))), some (.inl ((i : Int))), some (.inl ((k : Int)))] [] (HH g)) (lenS G 0 i) (fun k hk => by
      rw [e_L_lengths_66, HF_ai h5 (by omega) (by omega), j1, if_neg (by rw [zw_id (by omega) (by omega), zw_id (by omega) (by omega)]; omega), W_at xs hw hm hi, HF_ai h5 (by omega) (by omega), j2 k hk, L_odd xs h.1.1 h.1.2.2.2.1 h.2.2.1 (l3 k hk), zci_ok, show zsum (fun k => oddS G (rowS G 0 i k)) (k + 1) = zsum (fun k => oddS G (rowS G 0 i k)) k + oddS G (rowS G 0 i k) from rfl, Int.mul_add, ← Int.add_assoc, Int.natCast_succ])
    rw [e_L_lengths_30, if_neg (by rw [zw_id (by omega) (by omega), zw_id (by omega) (by omega)]; omega), W_at xs hw hm hi, L_long0 xs h (by omega), zci_ok, W_at xs hw hm hi]
    refine Eq.trans ?_ (h2.trans ?_)
    · simp only [zsum, Int.mul_zero, Int.add_zero]
      rfl
    · rw [e_L_lengths_66, HF_ai h5 (by omega) (by omega), j1, if_pos (Int.le_refl _), e_L_lengths_112, Int.natCast_succ]
      rfl)
  rw [e0]
  refine Eq.trans ?_ (hh.trans ?_)
  · rfl
  · rw [e_L_lengths_30, if_pos (Int.le_refl _)]
theorem N2 (h : LwS G g) (hw : LwW G g th) (hm : isM G th m) (hm0 : m = 0) : zx zblk xs 92 118 [some (.inr (.inr (some pX))), some (.inr (.inr (some 265))), some (.inr (.inr (some 266))), some (.inr (.inr (some 268))), none, some (.inl ((m : Int))), some (.inl (zsum (fun t => G pM_weights t * longS G 0 t) m)), some (.inl (zsum (fun t => G pM_weights t * osm G 0 t) m)), some (.inl (zsum (fun t => G pM_weights t) m))] [] (HH g) = some (some (.inl 1), HH g) := by
  obtain ⟨m1, m2, m3, m4⟩ := id hm
  have ho : odS G 0 = zsum (fun t => G pM_weights t * osm G 0 t) m := by
    unfold odS
    rw [if_pos h.c1]
    unfold odO
    rw [m2, Int.toNat_natCast]
  have v1 : meS G 0 0 = -103 := by
    unfold meS
    rw [if_pos h.c1, if_pos (by omega), if_pos (by omega)]
  have v2 : dlS G 0 10 = -103 := by
    unfold dlS
    rw [if_pos h.c1, if_pos (by omega), if_pos (by omega)]
  rw [e_L_lengths_118, pX_ck, X_oddness xs h.1 h.2.1 rfl, zci_ok, ho, if_pos rfl, e_L_lengths_130, if_neg (by rw [zw_id (by omega) (by omega)]; omega), pX_ck, X_mean xs h.1 h.2.1 rfl rfl, zci_ok, v1, if_neg (fun z => z rfl), pX_ck, X_dealt xs h.1 h.2.1 rfl rfl, zci_ok, v2, if_neg (fun z => z rfl), e_L_lengths_163, if_pos (Or.inr rfl)]
theorem fracS_zw {a b : Nat} (ha : a ≤ 1000000) (hb : b ≤ 1000000) (p : Int) : zw (fracS a b p) = fracS a b p := by
  have d0 : a / Nat.gcd a b ≤ a := Nat.div_le_self _ _
  have d1 : b / Nat.gcd a b ≤ b := Nat.div_le_self _ _
  unfold fracS
  generalize a / Nat.gcd a b = x at d0 ⊢
  generalize b / Nat.gcd a b = y at d1 ⊢
  split <;> exact zw_id (by omega) (by omega)
theorem N3 (h : LwS G g) (hw : LwW G g th) (hm : isM G th m) (hm0 : 1 ≤ m) : zx zblk xs 92 118 [some (.inr (.inr (some pX))), some (.inr (.inr (some 265))), some (.inr (.inr (some 266))), some (.inr (.inr (some 268))), none, some (.inl ((m : Int))), some (.inl (zsum (fun t => G pM_weights t * longS G 0 t) m)), some (.inl (zsum (fun t => G pM_weights t * osm G 0 t) m)), some (.inl (zsum (fun t => G pM_weights t) m))] [] (HH g) = zx zblk xs 92 224 [some (.inr (.inr (some pX))), some (.inr (.inr (some 265))), some (.inr (.inr (some 266))), some (.inr (.inr (some 268))), none, some (.inl ((m : Int))), none, none, some (.inl (zsum (fun t => G pM_weights t) m)), some (.inl (((m ^ m : Nat) : Int))), some (.inl (-1)), some (.inl (0))] [] (HH g) := by
  obtain ⟨m1, m2, m3, m4⟩ := id hm
  obtain ⟨w1, w2, w3, w4⟩ := id hw
  have ho : odS G 0 = zsum (fun t => G pM_weights t * osm G 0 t) m := by
    unfold odS
    rw [if_pos h.c1]
    unfold odO
    rw [m2, Int.toNat_natCast]
  have hme := meO_rg h.1 h.c1
  have hml : meO G 0 = zsum (fun t => G pM_weights t * longS G 0 t) m := by
    unfold meO
    rw [m2, Int.toNat_natCast]
  have hws := wsum_rg h.1 (n := (m : Int)) (by omega) (by omega)
  have hwl : wsum G (m : Int) = zsum (fun t => G pM_weights t) m := by
    unfold wsum
    rw [Int.toNat_natCast]
  have v : ∀ p : Int, p = 0 ∨ p = 1 → meS G 0 p = fracS (meO G 0).toNat (wsum G (m : Int)).toNat p := fun p hp => by
    unfold meS
    rw [if_pos h.c1, if_pos hp, m2, if_neg (by omega)]
  have hsh := L_share xs (a := (meO G 0).toNat) (b := (wsum G (m : Int)).toNat) (by omega) (by omega) (by omega) (HH g)
  rw [Int.toNat_of_nonneg hme.1, Int.toNat_of_nonneg (show 0 ≤ wsum G (m : Int) by omega)] at hsh
  have hpow := zloop (fun k : Nat => zx zblk xs 92 198 [some (.inr (.inr (some pX))), some (.inr (.inr (some 265))), some (.inr (.inr (some 266))), some (.inr (.inr (some 268))), none, some (.inl ((m : Int))), none, none, some (.inl (zsum (fun t => G pM_weights t) m)), some (.inl (((m ^ k : Nat) : Int))), some (.inl ((k : Int)))] [] (HH g)) m (fun k hk => by
    rw [e_L_lengths_198, if_neg (by rw [zw_id (by omega) (by omega), zw_id (by omega) (by omega)]; omega), Nat.pow_succ, Int.natCast_mul, Int.natCast_succ])
  rw [e_L_lengths_118, pX_ck, X_oddness xs h.1 h.2.1 rfl, zci_ok, ho, if_pos rfl, e_L_lengths_130, if_pos (by rw [zw_id (by omega) (by omega)]; omega), e_L_lengths_164, pX_ck, X_mean xs h.1 h.2.1 rfl rfl, zci_ok, pX_ck, X_mean xs h.1 h.2.1 rfl rfl, zci_ok, v 0 (Or.inl rfl), v 1 (Or.inr rfl), fracS_zw (by omega) (by omega), fracS_zw (by omega) (by omega), ← hml, ← hwl, zw_id (a := meO G 0) (by omega) (by omega), zw_id (a := wsum G (m : Int)) (by omega) (by omega), hsh, zci_ok, if_pos (by decide), e_L_lengths_192]
  rw [← hwl] at hpow
  refine Eq.trans ?_ (hpow.trans ?_)
  · rfl
  · rw [e_L_lengths_198, if_pos (Int.le_refl _), e_L_lengths_218]
theorem csum_nn (h : LwS G g) (hw : LwW G g th) (hm : isM G th m) (hm0 : 1 ≤ m) (code i : Nat) (hi : i ≤ m) : 0 ≤ zsum (fun i => G pM_weights i * longS G 0 (dgt m code i)) i ∧ zsum (fun i => G pM_weights i * longS G 0 (dgt m code i)) i ≤ i * 4455 := by
  have := zsum_rg (a := 0) (b := 4455) (n := i) (f := fun i => G pM_weights i * longS G 0 (dgt m code i)) (fun k hk => by
    have h1 := W_rg h hw hm (i := k) (by omega)
    have h2 := K_rg h hm (i := dgt m code k) (Nat.mod_lt _ (by omega))
    have := mul_rg (a := G pM_weights k) (b := longS G 0 (dgt m code k)) (x := 99) (y := 45) (by omega) (by omega)
    omega)
  omega
/-- all dealings -/
theorem N4 (h : LwS G g) (hw : LwW G g th) (hm : isM G th m) (hm0 : 1 ≤ m) (T : Int) : ∀ (r c : Nat) (v : Int), c + r = m ^ m → LeT (fun t => G pM_weights t) (fun t => longS G 0 t) m c v → ∃ v', zx zblk xs 92 224 [some (.inr (.inr (some pX))), some (.inr (.inr (some 265))), some (.inr (.inr (some 266))), some (.inr (.inr (some 268))), none, some (.inl ((m : Int))), none, none, some (.inl (T)), some (.inl (((m ^ m : Nat) : Int))), some (.inl (v)), some (.inl ((c : Int)))] [] (HH g) = zx zblk xs 92 332 [some (.inr (.inr (some pX))), some (.inr (.inr (some 265))), some (.inr (.inr (some 266))), some (.inr (.inr (some 268))), none, some (.inl ((m : Int))), none, none, some (.inl (T)), none, some (.inl (v'))] [] (HH g) ∧ LeT (fun t => G pM_weights t) (fun t => longS G 0 t) m (m ^ m) v' := by
  obtain ⟨m1, m2, m3, m4⟩ := id hm
  obtain ⟨w1, w2, w3, w4⟩ := id hw
  have hmm : m ^ m ≤ 3125 := by
    have : m = 1 ∨ m = 2 ∨ m = 3 ∨ m = 4 ∨ m = 5 := by omega
    rcases this with rfl | rfl | rfl | rfl | rfl <;> decide
  intro r
  induction r with
  | zero =>
    intro c v hc hv
    have : c = m ^ m := by omega
    subst this
    exact ⟨v, by rw [e_L_lengths_224, if_pos (Int.le_refl _)], hv⟩
  | succ r ih =>
    intro c v hc hv
    have hin := zloop (fun i : Nat => zx zblk xs 92 244 [some (.inr (.inr (some pX))), some (.inr (.inr (some 265))), some (.inr (.inr (some 266))), some (.inr (.inr (some 268))), none, some (.inl ((m : Int))), none, none, some (.inl (T)), some (.inl (((m ^ m : Nat) : Int))), some (.inl (v)), some (.inl ((c : Int))), some (.inl (usd m c i)), some (.inl (zsum (fun i => G pM_weights i * longS G 0 (dgt m c i)) i)), some (.inl ((lft m c i : Int))), some (.inl ((i : Int)))] [] (HH g)) m (fun i hi => by
      have hl := lft_le m c i
      have hd : dgt m c i < m := Nat.mod_lt _ (by omega)
      have e1 : ((lft m c i : Int)).tmod (m : Int) = (dgt m c i : Int) := by
        rw [Int.tmod_eq_emod_of_nonneg (by omega), ← Int.natCast_emod]
        rfl
      have e2 : ((lft m c i : Int)).tdiv (m : Int) = (lft m c (i + 1) : Int) := by
        rw [Int.tdiv_eq_ediv_of_nonneg (by omega), ← Int.natCast_ediv]
        rfl
      have n0 : ¬ (m : Int) = 0 := by omega
      rw [e_L_lengths_244, zw_id (a := (m : Int)) (by omega) (by omega), zw_id (a := (i : Int)) (by omega) (by omega), zw_id (a := (lft m c i : Int)) (by omega) (by omega), if_neg (by omega), if_neg n0, W_at xs hw hm hi, if_neg n0, e1, L_long0 xs h (by omega), zci_ok, if_neg n0, e2, Int.natCast_succ]
      rfl)
    have e0 : zx zblk xs 92 224 [some (.inr (.inr (some pX))), some (.inr (.inr (some 265))), some (.inr (.inr (some 266))), some (.inr (.inr (some 268))), none, some (.inl ((m : Int))), none, none, some (.inl (T)), some (.inl (((m ^ m : Nat) : Int))), some (.inl (v)), some (.inl ((c : Int)))] [] (HH g) = zx zblk xs 92 296 [some (.inr (.inr (some pX))), some (.inr (.inr (some 265))), some (.inr (.inr (some 266))), some (.inr (.inr (some 268))), none, some (.inl ((m : Int))), none, none, some (.inl (T)), some (.inl (((m ^ m : Nat) : Int))), some (.inl (v)), some (.inl ((c : Int))), some (.inl (usd m c m)), some (.inl (csum (fun t => G pM_weights t) (fun t => longS G 0 t) m c))] [] (HH g) := by
      rw [e_L_lengths_224, if_neg (by rw [zw_id (by omega) (by omega), zw_id (by omega) (by omega)]; omega)]
      refine Eq.trans ?_ (hin.trans ?_)
      · rfl
      · rw [e_L_lengths_244, if_pos (Int.le_refl _)]
        rfl
    have hc0 : ∀ code, 0 ≤ csum (fun t => G pM_weights t) (fun t => longS G 0 t) m code ∧ csum (fun t => G pM_weights t) (fun t => longS G 0 t) m code ≤ m * 4455 := fun code => csum_nn h hw hm hm0 code m (Nat.le_refl _)
    have vrg : -1 ≤ v ∧ v ≤ m * 4455 := by
      rcases hv with ⟨z, -⟩ | ⟨⟨code, -, -, z⟩, -⟩
      · omega
      · have := hc0 code; omega
    have nx : ∀ v', LeT (fun t => G pM_weights t) (fun t => longS G 0 t) m (c + 1) v' → ∃ v'', zx zblk xs 92 326 [some (.inr (.inr (some pX))), some (.inr (.inr (some 265))), some (.inr (.inr (some 266))), some (.inr (.inr (some 268))), none, some (.inl ((m : Int))), none, none, some (.inl (T)), some (.inl (((m ^ m : Nat) : Int))), some (.inl (v')), some (.inl ((c : Int)))] [] (HH g) = zx zblk xs 92 332 [some (.inr (.inr (some pX))), some (.inr (.inr (some 265))), some (.inr (.inr (some 266))), some (.inr (.inr (some 268))), none, some (.inl ((m : Int))), none, none, some (.inl (T)), none, some (.inl (v''))] [] (HH g) ∧ LeT (fun t => G pM_weights t) (fun t => longS G 0 t) m (m ^ m) v'' := fun v' hv' => by
      obtain ⟨v'', s1, s2⟩ := ih (c + 1) v' (by omega) hv'
      refine ⟨v'', ?_, s2⟩
      rw [e_L_lengths_326, ← s1, Int.natCast_succ]
    have hcc := hc0 c
    have hall := usd_all (m := m) (code := c) ⟨hm0, by omega⟩
    rw [e0, e_L_lengths_296]
    by_cases a : zw (usd m c m + 1) < zw (zshl 1 m)
    · rw [if_pos a]
      exact nx v (LeT_no hv (Or.inl (fun z => hall.mpr z a)))
    · rw [if_neg a, zw_id (a := v) (by omega) (by omega), zw_id (a := csum (fun t => G pM_weights t) (fun t => longS G 0 t) m c) (by omega) (by omega)]
      have ha := hall.mp a
      by_cases b : v < 0
      · rw [if_pos b, e_L_lengths_322]
        exact nx _ (LeT_yes hv ha (fun code => (hc0 code).1) (Or.inl (by omega)))
      · rw [if_neg b]
        by_cases d : csum (fun t => G pM_weights t) (fun t => longS G 0 t) m c < v
        · rw [if_pos d, e_L_lengths_322]
          exact nx _ (LeT_yes hv ha (fun code => (hc0 code).1) (Or.inr d))
        · rw [if_neg d]
          exact nx v (LeT_no hv (Or.inr ⟨by omega, by omega⟩))
end LN
