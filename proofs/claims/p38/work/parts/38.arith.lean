/-! ===== lowest terms; mean, dealt ===== -/
def fracS (a b : Nat) (part : Int) : Int := if part = 0 then ((a / Nat.gcd a b : Nat) : Int) else ((b / Nat.gcd a b : Nat) : Int)
theorem zwl_nat {a : Nat} (h : a < 4611686018427387904) : zwl (a : Int) = a := zwl_id (by omega) (by omega)
theorem zcmp0 {a : Nat} (h : a < 4611686018427387904) : zw (if zwl (a : Int) < zwl 0 then -1 else if zwl (a : Int) = zwl 0 then 0 else 1) = if a = 0 then 0 else 1 := by
  rw [zwl_nat h, show zwl 0 = 0 from rfl, if_neg (by omega)]
  by_cases h0 : a = 0
  · rw [if_pos (by omega), if_pos h0]; rfl
  · rw [if_neg (by omega), if_neg h0]; rfl
theorem X_lowest_loop (xs : List Int) (h : zH) (a b : Nat) (part : Int) : ∀ (m x y i : Nat), x * y < 2 ^ m → y ≤ x → i + m + 1 ≤ 128 → x < 4611686018427387904 → zx zblk xs 76 9 [some (.inr (.inl ((a : Int)))), none, some (.inr (.inl ((b : Int)))), none, some (.inl (part)), some (.inr (.inl ((x : Int)))), none, some (.inr (.inl ((y : Int)))), none, some (.inl ((i : Int)))] [] h = zx zblk xs 76 45 [some (.inr (.inl ((a : Int)))), none, some (.inr (.inl ((b : Int)))), none, some (.inl (part)), some (.inr (.inl (((Nat.gcd x y : Nat) : Int))))] [] h := by
  intro m
  induction m with
  | zero =>
    intro x y i hm hyx hi hx
    have h0 : y = 0 := by
      have : x * y = 0 := by omega
      rcases Nat.mul_eq_zero.mp this with h | h <;> omega
    subst h0
    rw [e_X_lowest_9, show zw 128 = 128 from rfl, zw_id (by omega) (by omega), if_neg (by omega), zcmp0 (by omega), if_pos rfl, if_pos rfl, Nat.gcd_zero_right]
  | succ m ih =>
    intro x y i hm hyx hi hx
    rw [e_X_lowest_9, show zw 128 = 128 from rfl, zw_id (a := (i : Int)) (by omega) (by omega), if_neg (by omega), zcmp0 (by omega)]
    by_cases h0 : y = 0
    · subst h0
      rw [if_pos rfl, if_pos rfl, Nat.gcd_zero_right]
    · have hlt := Nat.mod_lt x (show 0 < y by omega)
      have hdm := Nat.div_add_mod x y
      have hd1 : 1 ≤ x / y := Nat.div_pos hyx (by omega)
      have hmul : y * 1 ≤ y * (x / y) := Nat.mul_le_mul_left y hd1
      have h2 : 2 * (x % y) ≤ x := by omega
      have h3 : y * (2 * (x % y)) ≤ y * x := Nat.mul_le_mul_left y h2
      have h4 : y * (2 * (x % y)) = 2 * (y * (x % y)) := by rw [Nat.mul_left_comm]
      have h5 : y * x = x * y := Nat.mul_comm y x
      have h6 : 2 ^ (m + 1) = 2 * 2 ^ m := by rw [Nat.pow_succ, Nat.mul_comm]
      have ht : (x : Int).tmod (y : Int) = ((x % y : Nat) : Int) := rfl
      rw [if_neg h0, if_neg (by decide), zwl_nat hx, zwl_nat (by omega), if_neg (by omega), ht, ← Int.natCast_succ, ih y (x % y) (i + 1) (by omega) (by omega) (by omega) (by omega)]
      rw [Nat.gcd_comm x y, Nat.gcd_rec y x, Nat.gcd_comm y (x % y)]
theorem X_lowest (xs : List Int) (h : zH) {a b : Nat} {part : Int} (hp : zw part = part) (ha : a < 4611686018427387904) (hb : b < 4611686018427387904) (hb0 : 0 < b) : zx zblk xs 76 0 [some (.inr (.inl ((a : Int)))), none, some (.inr (.inl ((b : Int)))), none, some (.inl (part))] [] h = some (some (.inr (.inl (fracS a b part))), h) := by
  have hg : 0 < Nat.gcd a b := Nat.gcd_pos_of_pos_right a hb0
  have hgl : Nat.gcd a b ≤ b := Nat.gcd_le_right a hb0
  have hab : a * b < 2 ^ 126 := by
    have h1 : a * b ≤ 4611686018427387904 * b := Nat.mul_le_mul_right b (by omega)
    have h2 : (2 : Nat) ^ 126 = 4611686018427387904 * 18446744073709551616 := rfl
    omega
  have key : zx zblk xs 76 9 [some (.inr (.inl ((a : Int)))), none, some (.inr (.inl ((b : Int)))), none, some (.inl (part)), some (.inr (.inl ((a : Int)))), none, some (.inr (.inl ((b : Int)))), none, some (.inl (0))] [] h = zx zblk xs 76 45 [some (.inr (.inl ((a : Int)))), none, some (.inr (.inl ((b : Int)))), none, some (.inl (part)), some (.inr (.inl (((Nat.gcd a b : Nat) : Int))))] [] h := by
    by_cases hle : b ≤ a
    · exact X_lowest_loop xs h a b part 126 a b 0 hab hle (by omega) ha
    · have ht : (a : Int).tmod (b : Int) = ((a % b : Nat) : Int) := rfl
      have hm : a % b = a := Nat.mod_eq_of_lt (by omega)
      rw [e_X_lowest_9, show zw 128 = 128 from rfl, show zw 0 = 0 from rfl, if_neg (by omega), zcmp0 hb, if_neg (show ¬ b = 0 by omega), if_neg (by decide), zwl_nat ha, zwl_nat hb, if_neg (by omega), ht, hm]
      have := X_lowest_loop xs h a b part 126 b a 1 (by rw [Nat.mul_comm]; exact hab) (by omega) (by omega) hb
      rw [Nat.gcd_comm b a] at this
      exact this
  rw [e_X_lowest_0, key, e_X_lowest_45, zcmp0 (by omega), if_neg (show ¬ Nat.gcd a b = 0 by omega), if_pos (by decide), e_X_lowest_54, hp]
  unfold fracS
  by_cases p0 : part = 0
  · have ht : (a : Int).tdiv ((Nat.gcd a b : Nat) : Int) = ((a / Nat.gcd a b : Nat) : Int) := rfl
    rw [if_neg (by omega), zwl_nat (by omega), if_neg (by omega), e_X_lowest_70, zwl_nat ha, ht, if_pos p0]
  · have ht : (b : Int).tdiv ((Nat.gcd a b : Nat) : Int) = ((b / Nat.gcd a b : Nat) : Int) := rfl
    rw [if_pos p0, e_X_lowest_66, zwl_nat (by omega), if_neg (by omega), e_X_lowest_70, zwl_nat hb, ht, if_neg p0]
theorem w_rg {G : Nat → Int → Int} (hB : Bd G) (t : Nat) (h : (t : Int) < G pM 10) : 1 ≤ G pM_weights t ∧ G pM_weights t ≤ 99 := hB.2.2.2.2.1 t (by omega) h
theorem wsum_rg {G : Nat → Int → Int} (hB : Bd G) {n : Int} (h0 : 0 ≤ n) (h : n ≤ G pM 10) : n ≤ wsum G n ∧ wsum G n ≤ n * 99 := by
  have := zsum_rg (a := 1) (b := 99) (n := n.toNat) (f := fun t => G pM_weights t) (fun k hk => w_rg hB k (by omega))
  unfold wsum
  omega
theorem X_wAt (xs : List Int) {G g : Nat → Int → Int} (hB : Bd G) (h : Rel G g) (t : Nat) (ht : (t : Int) < G pM 10) : zx zblk xs 20 0 [some (.inr (.inr (some 11))), some (.inl ((t : Int)))] [] (HH g) = some (some (.inl (G pM_weights t)), HH g) := by
  have hw := wL_len hB.1
  have hat : zat (wL G) (t : Int) = G pM_weights t := by unfold wL; rw [zat_Li (by omega)]; rfl
  rw [Row_at xs Rw11 h.2.1 hw.2 t (zw_id (by omega) (by omega)), hat]
def meO (G : Nat → Int → Int) (c : Int) : Int := zsum (fun t => G pM_weights t * longS G c t) (saidS G c).toNat
def meS (G : Nat → Int → Int) (c p : Int) : Int := if 0 ≤ c ∧ c < G pM 5 then (if p = 0 ∨ p = 1 then (if saidS G c = 0 then -103 else fracS (meO G c).toNat (wsum G (saidS G c)).toNat p) else -102) else -101
theorem mul_rg {a b x y : Int} (ha : 0 ≤ a ∧ a ≤ x) (hb : 0 ≤ b ∧ b ≤ y) : 0 ≤ a * b ∧ a * b ≤ x * y :=
  ⟨Int.mul_nonneg ha.1 hb.1, Int.le_trans (Int.mul_le_mul_of_nonneg_right ha.2 hb.1) (Int.mul_le_mul_of_nonneg_left hb.2 (Int.le_trans ha.1 ha.2))⟩
theorem meO_rg {G : Nat → Int → Int} (hB : Bd G) {c : Int} (a : 0 ≤ c ∧ c < G pM 5) : 0 ≤ meO G c ∧ meO G c ≤ 35640 := by
  have hs := saidS_rg hB a
  have hn := nS_rg hB a
  have := zsum_rg (a := 0) (b := 4455) (n := (saidS G c).toNat) (f := fun t => G pM_weights t * longS G c t) (fun k hk => by
    have h1 := w_rg hB k (by omega)
    have h2 := longS_rg hB a (s := (k : Int)) (by omega)
    have := mul_rg (a := G pM_weights k) (b := longS G c k) (x := 99) (y := 45) (by omega) (by omega)
    omega)
  unfold meO
  omega
theorem X_mean (xs : List Int) {G g : Nat → Int → Int} (hB : Bd G) (h : Rel G g) {c p : Int} (hc : zw c = c) (hp : zw p = p) : zx zblk xs 54 0 [some (.inr (.inr (some pX))), some (.inl (c)), some (.inl (p))] [] (HH g) = some (some (.inl (meS G c p)), HH g) := by
  obtain ⟨-, ⟨hc0, hc1⟩, -, ⟨h2, h3⟩, -⟩ := id hB.1
  rw [e_X_mean_0, pX_ck]
  unfold meS
  by_cases a : 0 ≤ c ∧ c < G pM 5
  · obtain ⟨k, rfl⟩ : ∃ k : Nat, c = k := ⟨c.toNat, by omega⟩
    rw [X_codeAt_in xs hB h k a.2, zcr_ok, zif_some, if_pos a, e_X_mean_13, X_isPart xs p _ hp, zci_ok, zb_zw]
    by_cases b : p = 0 ∨ p = 1
    · have hs := saidS_rg hB a
      have hn := nS_rg hB a
      rw [zb_t b, if_pos (by decide), if_pos b, e_X_mean_23, pX_ck, X_thingsSaid xs hB h k a.2, zci_ok, zw_id (by omega) (by omega)]
      by_cases s0 : saidS G k = 0
      · rw [if_neg (by omega), if_pos s0]
      · have hws := wsum_rg hB (n := saidS G k) (by omega) (by omega)
        have hme := meO_rg hB a
        have hh := zloop (fun t : Nat => zx zblk xs 54 44 [some (.inr (.inr (some pX))), none, some (.inl (p)), some (.inr (.inr (some (PC k)))), some (.inl (saidS G k)), some (.inr (.inl (zsum (fun t => G pM_weights t * longS G k t) t))), none, some (.inl ((t : Int)))] [] (HH g)) (saidS G k).toNat (fun t ht => by
          have h1 := w_rg hB t (by omega)
          have h2 := longS_rg hB a (s := (t : Int)) (by omega)
          have hm := mul_rg (a := G pM_weights t) (b := longS G k t) (x := 99) (y := 45) (by omega) (by omega)
          rw [e_X_mean_44, if_neg (by rw [zw_id (by omega) (by omega), zw_id (by omega) (by omega)]; omega), pX_r_weights, Rw_ck Rw11, X_wAt xs hB h t (by omega), zci_ok, pX_ck, X_longOf xs hB h k t a.2 (by omega), zci_ok, zw_id (a := G pM_weights t * longS G k t) (by omega) (by omega), zsum, Int.natCast_succ])
        have ht := X_lowest xs (HH g) (a := (meO G k).toNat) (b := (wsum G (saidS G k)).toNat) hp (by omega) (by omega) (by omega)
        rw [Int.toNat_of_nonneg hme.1, Int.toNat_of_nonneg (by omega)] at ht
        rw [if_pos s0, if_neg s0, e_X_mean_38]
        refine Eq.trans ?_ (hh.trans ?_)
        · rfl
        · rw [e_X_mean_44, if_pos (by rw [zw_id (by omega) (by omega), zw_id (by omega) (by omega)]; omega), e_X_mean_80, pX_r_weights, Rw_ck Rw11, X_weighed xs hB h hs.1 hs.2.2.1, zci_ok, show zsum (fun t => G pM_weights t * longS G k t) (saidS G k).toNat = meO G k from rfl, zw_id (a := wsum G (saidS G k)) (by omega) (by omega), ht, zcl_ok']
    · rw [zb_f b, if_neg (by decide), if_neg b]
  · rw [X_codeAt_out xs hB h c hc a, zcr_ok, zif, if_neg a]

