/-! ===== seen: the class ===== -/
theorem zsum_app (f : Nat → Int) (a : Nat) : ∀ b, zsum f (a + b) = zsum f a + zsum (fun k => f (a + k)) b
  | 0 => by simp [zsum]
  | b + 1 => by rw [← Nat.add_assoc, zsum, zsum, zsum_app f a b, Int.add_assoc]
def sgS : Nat → Nat → Int
  | 0, _ => 1
  | m + 1, s => if s.testBit m then sgS m s else - sgS m s
theorem sgS_cg {s s' : Nat} : ∀ {m : Nat}, (∀ i, i < m → s.testBit i = s'.testBit i) → sgS m s = sgS m s'
  | 0, _ => rfl
  | m + 1, h => by rw [sgS, sgS, h m (by omega), sgS_cg (m := m) (fun i hi => h i (by omega))]
def wtS (w : Nat → Int) (m s : Nat) : Int := zsum (fun i => if s.testBit i then w i else 0) m
theorem wtS_cg (w : Nat → Int) {s s' m : Nat} (h : ∀ i, i < m → s.testBit i = s'.testBit i) : wtS w m s = wtS w m s' := zsum_cg (fun i hi => by rw [h i hi])
def cS (w : Nat → Int) (m : Nat) (c : Int) (n : Nat) : Nat → Int := zsum (fun s => sgS m s * (c + wtS w m s) ^ n)
theorem cS_dS (w : Nat → Int) (n : Nat) : ∀ (m : Nat) (c : Int) (s : Nat), (∀ i, i < m → s.testBit i = true) → cS w m c n (2 ^ m) = dS w m s c n
  | 0, c, s, _ => by
    rw [dS, Nat.pow_zero]
    simp [cS, zsum, sgS, wtS]
  | m + 1, c, s, h => by
    rw [dS, if_pos (h m (by omega)), ← cS_dS w n m c s (fun i hi => h i (by omega)), ← cS_dS w n m (c + w m) s (fun i hi => h i (by omega)), Nat.pow_succ, Nat.mul_comm, Nat.two_mul]
    unfold cS
    rw [zsum_app, zsum_cg (f := fun s => sgS (m + 1) s * (c + wtS w (m + 1) s) ^ n) (f' := fun s => 0 - sgS m s * (c + wtS w m s) ^ n) (fun k hk => by
      have hb : k.testBit m = false := Nat.testBit_lt_two_pow hk
      unfold wtS
      rw [sgS, zsum, hb, if_neg (by simp), if_neg (by simp), Int.add_zero, Int.neg_mul, Int.zero_sub]), zsum_cg (f := fun k => sgS (m + 1) (2 ^ m + k) * (c + wtS w (m + 1) (2 ^ m + k)) ^ n) (f' := fun s => sgS m s * (c + w m + wtS w m s) ^ n) (fun k hk => by
      have hb : (2 ^ m + k).testBit m = true := by rw [Nat.testBit_two_pow_add_eq, Nat.testBit_lt_two_pow hk]; rfl
      have hi : ∀ i, i < m → (2 ^ m + k).testBit i = k.testBit i := fun i hi => Nat.testBit_two_pow_add_gt hi k
      rw [sgS, hb, if_pos rfl, sgS_cg hi]
      have e : wtS w (m + 1) (2 ^ m + k) = wtS w m (2 ^ m + k) + w m := by
        unfold wtS
        rw [zsum, hb, if_pos rfl]
      rw [e, wtS_cg w hi, show c + (wtS w m k + w m) = c + w m + wtS w m k by omega]), zsum_sub, zsum_nought]
    omega
theorem bit_ok : ∀ s : Nat, s < 256 → ∀ i : Nat, i < 8 → zand (zshr s i) 1 = if s.testBit i then 1 else 0 := by decide +kernel
theorem sg_ok : ∀ T : Nat, T < 7 → ∀ s : Nat, s < 2 ^ T → (((T : Int) - popI s).tmod 2 = 0 ↔ sgS T s = 1) ∧ (sgS T s = 1 ∨ sgS T s = -1) := by decide +kernel
theorem shl_ok : ∀ T : Nat, T < 9 → zshl 1 T = ((2 ^ T : Nat) : Int) := by decide +kernel
theorem pow_256 {T : Nat} (h : T ≤ 8) : 2 ^ T ≤ 256 := Nat.pow_le_pow_right (by omega) h
theorem wtS_rg {w : Nat → Int} {m : Nat} (hw : ∀ t, t < m → 1 ≤ w t ∧ w t ≤ 99) (s : Nat) : ∀ j, j ≤ m → 0 ≤ wtS w j s ∧ wtS w j s ≤ 99 * j := fun j hj => by
  have := zsum_rg (a := 0) (b := 99) (n := j) (f := fun i => if s.testBit i then w i else 0) (fun k hk => by
    have := hw k (by omega)
    split <;> omega)
  unfold wtS
  omega
def seO (G : Nat → Int → Int) (n : Nat) : Int := aS (fun t => G pM_weights t) (G pM 10).toNat n (2 ^ (G pM 10).toNat - 1)
theorem full_pc : ∀ {T m s : Nat}, m ≤ T → (∀ i, i < T → s.testBit i = true) → pcS m s = m
  | _, 0, _, _, _ => rfl
  | T, m + 1, s, hm, h => by rw [pcS, h m (by omega), if_pos rfl, full_pc (T := T) (by omega) h]
theorem full_bit {T : Nat} : ∀ i, i < T → (2 ^ T - 1).testBit i = true := fun i hi => by
  rw [Nat.testBit_two_pow_sub_one]
  exact decide_eq_true hi
theorem X_waysAllSeen (xs : List Int) {G g : Nat → Int → Int} (hB : Bd G) (h : Rel G g) {n : Nat} (hn : n ≤ 6) : zx zblk xs 194 0 [some (.inr (.inr (some pX))), some (.inl ((n : Int)))] [] (HH g) = some (some (.inr (.inl (seO G n))), HH g) := by
  obtain ⟨-, -, -, q10, -⟩ := id hB.1
  have hl := wL_len hB.1
  obtain ⟨T, hT⟩ : ∃ T : Nat, G pM 10 = T := ⟨(G pM 10).toNat, by omega⟩
  have hw : ∀ t, t < T → 1 ≤ G pM_weights (t : Int) ∧ G pM_weights (t : Int) ≤ 99 := fun t ht => hB.2.2.2.2.1 t (by omega) (by omega)
  have hTn : (G pM 10).toNat = T := by omega
  unfold seO
  rw [hTn, e_X_waysAllSeen_0, pX_r_weights, Rw_ck Rw11, Row_size xs Rw11 h.2.1, zci_ok, hl.1, hT, zw_id (by omega) (by omega), zw_id (by omega) (by omega)]
  by_cases c : T ≤ n
  · have hT6 : T < 7 := by omega
    have hp := pow_256 (T := T) (by omega)
    have inner : ∀ (sm : Int) (s : Nat), s < 2 ^ T → zx zblk xs 194 34 [some (.inr (.inr (some pX))), some (.inl ((n : Int))), some (.inl ((T : Int))), some (.inr (.inl (sm))), none, some (.inl ((s : Int))), some (.inl (0)), some (.inl (0))] [] (HH g) = zx zblk xs 194 68 [some (.inr (.inr (some pX))), some (.inl ((n : Int))), some (.inl ((T : Int))), some (.inr (.inl (sm))), none, some (.inl ((s : Int))), some (.inl (wtS (fun t => G pM_weights t) T s))] [] (HH g) := fun sm s hs => by
      have hh := zloop (fun k : Nat => zx zblk xs 194 34 [some (.inr (.inr (some pX))), some (.inl ((n : Int))), some (.inl ((T : Int))), some (.inr (.inl (sm))), none, some (.inl ((s : Int))), some (.inl (wtS (fun t => G pM_weights t) k s)), some (.inl ((k : Int)))] [] (HH g)) T (fun k hk => by
        have hb := bit_ok s (by omega) k (by omega)
        rw [e_X_waysAllSeen_34, if_neg (by rw [zw_id (by omega) (by omega), zw_id (by omega) (by omega)]; omega), pX_r_weights, Rw_ck Rw11, X_wAt xs hB h k (by omega), zci_ok, hb, ← Int.natCast_succ]
        have e : wtS (fun t => G pM_weights t) (k + 1) s = wtS (fun t => G pM_weights t) k s + (if s.testBit k = true then 1 else 0) * G pM_weights k := by
          unfold wtS
          rw [zsum]
          congr 1
          by_cases b : s.testBit k = true
          · rw [if_pos b, if_pos b, Int.one_mul]
          · rw [if_neg b, if_neg b, Int.zero_mul]
        rw [e])
      refine Eq.trans ?_ (hh.trans ?_)
      · rfl
      · rw [e_X_waysAllSeen_34, if_pos (Int.le_refl _)]
    have hh := zloop (fun s : Nat => zx zblk xs 194 20 [some (.inr (.inr (some pX))), some (.inl ((n : Int))), some (.inl ((T : Int))), some (.inr (.inl (cS (fun t => G pM_weights t) T 0 n s))), none, some (.inl ((s : Int)))] [] (HH g)) (2 ^ T) (fun s hs => by
      obtain ⟨p1, p2, p3⟩ := pop_ok s (by omega)
      obtain ⟨s1, s2⟩ := sg_ok T hT6 s hs
      have hwt := wtS_rg hw s T (Nat.le_refl _)
      have hst : zx zblk xs 194 20 [some (.inr (.inr (some pX))), some (.inl ((n : Int))), some (.inl ((T : Int))), some (.inr (.inl (cS (fun t => G pM_weights t) T 0 n s))), none, some (.inl ((s : Int)))] [] (HH g) = zx zblk xs 194 68 [some (.inr (.inr (some pX))), some (.inl ((n : Int))), some (.inl ((T : Int))), some (.inr (.inl (cS (fun t => G pM_weights t) T 0 n s))), none, some (.inl ((s : Int))), some (.inl (wtS (fun t => G pM_weights t) T s))] [] (HH g) := by
        rw [e_X_waysAllSeen_20, shl_ok T (by omega), if_neg (by rw [zw_id (by omega) (by omega), zw_id (by omega) (by omega)]; omega), inner _ s hs]
      have hc : cS (fun t => G pM_weights t) T 0 n (s + 1) = cS (fun t => G pM_weights t) T 0 n s + sgS T s * wtS (fun t => G pM_weights t) T s ^ n := by
        unfold cS
        rw [zsum, Int.zero_add]
      rw [hst, e_X_waysAllSeen_68, J_bitCount, zci_ok, p1, show zw 2 = 2 from rfl, if_neg (by decide), zw_id (a := (T : Int) - popI s) (by omega) (by omega), hc]
      have e85 : ∀ v : Int, zw v = v → (v = 0 ∨ v = 1) → zx zblk xs 194 85 [some (.inr (.inr (some pX))), some (.inl ((n : Int))), some (.inl ((T : Int))), some (.inr (.inl (cS (fun t => G pM_weights t) T 0 n s))), none, some (.inl ((s : Int))), some (.inl (wtS (fun t => G pM_weights t) T s))] [.inl v] (HH g) = zx zblk xs 194 20 [some (.inr (.inr (some pX))), some (.inl ((n : Int))), some (.inl ((T : Int))), some (.inr (.inl (cS (fun t => G pM_weights t) T 0 n s + (if v = 1 then 1 else -1) * wtS (fun t => G pM_weights t) T s ^ n))), none, some (.inl (((s + 1 : Nat) : Int)))] [] (HH g) := fun v hv h01 => by
        rw [e_X_waysAllSeen_85, hv, zw_id (a := wtS (fun t => G pM_weights t) T s) (by omega) (by omega), X_power xs _ _ _ (by omega), zcl_ok']
        rcases h01 with rfl | rfl
        · rw [if_pos rfl, e_X_waysAllSeen_103, zw_id (a := wtS (fun t => G pM_weights t) T s) (by omega) (by omega), X_power xs _ _ _ (by omega), zcl_ok', e_X_waysAllSeen_111, ← Int.natCast_succ, if_neg (by decide), Int.neg_mul, Int.one_mul]
        · rw [if_neg (by decide), e_X_waysAllSeen_111, ← Int.natCast_succ, if_pos rfl, Int.one_mul]
      have htm := Int.tmod_lt_of_pos ((T : Int) - popI s) (show (0 : Int) < 2 by decide)
      by_cases d : ((T : Int) - popI s).tmod 2 = 0
      · rw [d, if_neg (by decide), e85 1 rfl (Or.inr rfl), if_pos rfl, s1.mp d]
      · have hs1 : sgS T s = -1 := by
          rcases s2 with e | e
          · exact absurd (s1.mpr e) d
          · exact e
        have hgt : -2 < ((T : Int) - popI s).tmod 2 := Int.lt_tmod_of_pos _ (by decide)
        rw [if_pos (by rw [zw_id (by omega) (by omega)]; exact d), e_X_waysAllSeen_84, e85 0 rfl (Or.inl rfl), if_neg (by decide), hs1])
    rw [if_pos (by omega), e_X_waysAllSeen_15]
    refine Eq.trans ?_ (hh.trans ?_)
    · rfl
    · rw [e_X_waysAllSeen_20, shl_ok T (by omega), if_pos (Int.le_refl _), e_X_waysAllSeen_119, cS_dS _ n T 0 (2 ^ T - 1) full_bit]
      rfl
  · rw [if_neg (by omega), aS_few _ T n _ (by rw [full_pc (T := T) (Nat.le_refl _) full_bit]; omega)]
