/-! ===== the least sum over all dealings ===== -/
theorem zsum_add (f f' : Nat → Int) (n : Nat) : zsum (fun k => f k + f' k) n = zsum f n + zsum f' n := by
  induction n with
  | zero => rfl
  | succ n ih => rw [zsum, zsum, zsum, ih]; omega
theorem zsum_mul (c : Int) (f : Nat → Int) (n : Nat) : zsum (fun k => c * f k) n = c * zsum f n := by
  induction n with
  | zero => rw [zsum, zsum, Int.mul_zero]
  | succ n ih => rw [zsum, zsum, ih, Int.mul_add]
theorem zsum_swap (f : Nat → Nat → Int) (n m : Nat) : zsum (fun i => zsum (fun j => f i j) m) n = zsum (fun j => zsum (fun i => f i j) n) m := by
  induction n with
  | zero =>
    induction m with
    | zero => rfl
    | succ m ih => rw [zsum] at ih ⊢; rw [zsum, ← ih]; rfl
  | succ n ih => rw [zsum, ih, ← zsum_add]; rfl
theorem zsum_upd {f f' : Nat → Int} {i0 : Nat} : ∀ {n : Nat}, i0 < n → (∀ k, k < n → k ≠ i0 → f' k = f k) → zsum f' n = zsum f n - f i0 + f' i0
  | 0, h, _ => by omega
  | n + 1, h, hk => by
    rw [zsum, zsum]
    by_cases e : i0 = n
    · subst e
      rw [zsum_cg (f := f') (f' := f) (fun k hk' => hk k (by omega) (by omega))]
      omega
    · rw [zsum_upd (n := n) (by omega) (fun k hk' hne => hk k (by omega) hne), hk n (by omega) (by omega)]
      omega
theorem zsum_perm (u : Nat → Int) : ∀ (n : Nat) (f : Nat → Nat), (∀ i, i < n → f i < n) → (∀ i j, i < n → j < n → f i = f j → i = j) → zsum (fun i => u (f i)) n = zsum u n
  | 0, _, _, _ => rfl
  | n + 1, f, hf, hj => by
    obtain ⟨i0, h0, h1⟩ := pigeon (n + 1) f hf hj n (by omega)
    by_cases e : i0 = n
    · subst e
      have hlt : ∀ i, i < i0 → f i < i0 := fun i hi => by
        have := hf i (by omega)
        by_cases a : f i = i0
        · have := hj i i0 (by omega) (by omega) (by omega)
          omega
        · omega
      rw [zsum, zsum, zsum_perm u i0 f hlt (fun i j hi hj' => hj i j (by omega) (by omega)), h1]
    · have hfn : f n < n := by
        have := hf n (by omega)
        by_cases a : f n = n
        · have := hj n i0 (by omega) h0 (by omega)
          omega
        · omega
      have ih := zsum_perm u n (fun i => if i = i0 then f n else f i) (fun i hi => by
        show (if i = i0 then f n else f i) < n
        by_cases a : i = i0
        · rw [if_pos a]; exact hfn
        · rw [if_neg a]
          have := hf i (by omega)
          by_cases b : f i = n
          · have := hj i i0 (by omega) h0 (by omega)
            omega
          · omega) (fun i j hi hj' he => by
        change (if i = i0 then f n else f i) = (if j = i0 then f n else f j) at he
        by_cases a : i = i0
        · by_cases b : j = i0
          · omega
          · rw [if_pos a, if_neg b] at he
            have := hj n j (by omega) (by omega) he
            omega
        · by_cases b : j = i0
          · rw [if_neg a, if_pos b] at he
            have := hj i n (by omega) (by omega) he
            omega
          · rw [if_neg a, if_neg b] at he
            exact hj i j (by omega) (by omega) he)
      have hu : zsum (fun i => u (if i = i0 then f n else f i)) n = zsum (fun i => u (f i)) n - u (f i0) + u (if i0 = i0 then f n else f i0) := zsum_upd (f := fun i => u (f i)) (f' := fun i => u (if i = i0 then f n else f i)) (i0 := i0) (n := n) (by omega) (fun k hk hne => by
        show u (if k = i0 then f n else f k) = u (f k)
        rw [if_neg hne])
      rw [ih, if_pos rfl, h1] at hu
      rw [zsum, zsum]
      omega
/-- a number as how many lie below it -/
theorem zsum_lvl {v : Int} {N : Nat} (h0 : 0 ≤ v) (h1 : v ≤ N) : zsum (fun a => if (a : Int) < v then 1 else 0) N = v := by
  have key : ∀ n : Nat, zsum (fun a => if (a : Int) < v then 1 else 0) n = if (n : Int) ≤ v then (n : Int) else v := by
    intro n
    induction n with
    | zero => rw [zsum, if_pos (by omega)]; rfl
    | succ n ih =>
      rw [zsum, ih]
      by_cases a : (n : Int) < v
      · rw [if_pos (by omega), if_pos a, if_pos (by omega)]; omega
      · rw [if_neg a]
        by_cases b : (n : Int) ≤ v
        · rw [if_pos b, if_neg (by omega)]; omega
        · rw [if_neg b, if_neg (by omega)]; omega
  rw [key N]
  split <;> omega
theorem ite_mul_ite (P Q : Prop) [Decidable P] [Decidable Q] : (if P then (1 : Int) else 0) * (if Q then 1 else 0) = if P ∧ Q then 1 else 0 := by
  by_cases a : P <;> by_cases b : Q <;> simp [a, b]
theorem sum_lvl {W K : Nat → Int} {n : Nat} (hW : ∀ t, t < n → 0 ≤ W t ∧ W t ≤ 100) (hK : ∀ t, t < n → 0 ≤ K t ∧ K t ≤ 100) : zsum (fun t => W t * K t) n = zsum (fun a => zsum (fun b => zsum (fun t => if (a : Int) < W t ∧ (b : Int) < K t then 1 else 0) n) 100) 100 := by
  have e1 : zsum (fun t => W t * K t) n = zsum (fun t => zsum (fun a => zsum (fun b => if (a : Int) < W t ∧ (b : Int) < K t then 1 else 0) 100) 100) n := by
    refine zsum_cg (fun t ht => ?_)
    have h1 := zsum_lvl (v := W t) (N := 100) (hW t ht).1 (hW t ht).2
    have h2 := zsum_lvl (v := K t) (N := 100) (hK t ht).1 (hK t ht).2
    have e : W t * K t = K t * zsum (fun a => if (a : Int) < W t then 1 else 0) 100 := by rw [h1, Int.mul_comm]
    rw [e, ← zsum_mul]
    refine zsum_cg (fun a _ => ?_)
    have e2 : K t * (if (a : Int) < W t then (1 : Int) else 0) = (if (a : Int) < W t then (1 : Int) else 0) * zsum (fun b => if (b : Int) < K t then 1 else 0) 100 := by rw [h2, Int.mul_comm]
    rw [e2, ← zsum_mul]
    refine zsum_cg (fun b _ => ?_)
    exact ite_mul_ite _ _
  rw [e1, zsum_swap]
  refine zsum_cg (fun a _ => ?_)
  exact zsum_swap _ _ _
/-- the dealing by ranks costs no more than any other -/
theorem rearr {W K : Nat → Int} {n : Nat} (hW : ∀ t, t < n → 0 ≤ W t ∧ W t ≤ 100) (hK : ∀ t, t < n → 0 ≤ K t ∧ K t ≤ 100) {s d : Nat → Nat} (hs : ∀ i, i < n → s i < n) (hsi : ∀ i j, i < n → j < n → s i = s j → i = j) (hd : ∀ i, i < n → d i < n) (hdi : ∀ i j, i < n → j < n → d i = d j → i = j) (ho : ∀ i j, i < n → j < n → W j < W i → K (s i) ≤ K (s j)) : zsum (fun t => W t * K (s t)) n ≤ zsum (fun t => W t * K (d t)) n := by
  rw [sum_lvl (K := fun t => K (s t)) hW (fun t ht => hK _ (hs t ht)), sum_lvl (K := fun t => K (d t)) hW (fun t ht => hK _ (hd t ht))]
  refine zsum_le (fun a _ => zsum_le (fun b _ => ?_))
  -- how many of each kind
  have pB : zsum (fun t => if (b : Int) < K (s t) then (1 : Int) else 0) n = zsum (fun t => if (b : Int) < K (d t) then (1 : Int) else 0) n := by
    rw [zsum_perm (fun i => if (b : Int) < K i then (1 : Int) else 0) n s hs hsi, zsum_perm (fun i => if (b : Int) < K i then (1 : Int) else 0) n d hd hdi]
  have lo : ∀ q : Nat → Nat, zsum (fun t => (if (a : Int) < W t then (1 : Int) else 0) + ((if (b : Int) < K (q t) then (1 : Int) else 0) + (-1))) n ≤ zsum (fun t => if (a : Int) < W t ∧ (b : Int) < K (q t) then (1 : Int) else 0) n := fun q => zsum_le (fun t _ => by
    by_cases x : (a : Int) < W t <;> by_cases y : (b : Int) < K (q t) <;> simp [x, y])
  have sp : ∀ q : Nat → Nat, zsum (fun t => (if (a : Int) < W t then (1 : Int) else 0) + ((if (b : Int) < K (q t) then (1 : Int) else 0) + (-1))) n = zsum (fun t => if (a : Int) < W t then (1 : Int) else 0) n + (zsum (fun t => if (b : Int) < K (q t) then (1 : Int) else 0) n + zsum (fun _ => -1) n) := fun q => by rw [zsum_add, zsum_add]
  by_cases hex : ∃ t, t < n ∧ (a : Int) < W t ∧ (b : Int) < K (s t)
  · obtain ⟨t, ht, h1, h2⟩ := hex
    have eqs : zsum (fun t => if (a : Int) < W t ∧ (b : Int) < K (s t) then (1 : Int) else 0) n = zsum (fun t => (if (a : Int) < W t then (1 : Int) else 0) + ((if (b : Int) < K (s t) then (1 : Int) else 0) + (-1))) n := by
      refine zsum_cg (fun u hu => ?_)
      by_cases x : (a : Int) < W u
      · by_cases y : (b : Int) < K (s u) <;> simp [x, y]
      · have := ho t u ht hu (by omega)
        have y : (b : Int) < K (s u) := by omega
        simp [x, y]
    rw [eqs, sp s, pB, ← sp d]
    exact lo d
  · have e0 : zsum (fun t => if (a : Int) < W t ∧ (b : Int) < K (s t) then (1 : Int) else 0) n = zsum (fun _ => 0) n := zsum_cg (fun t ht => if_neg (fun z => hex ⟨t, ht, z⟩))
    rw [e0]
    refine zsum_le (fun t _ => ?_)
    split <;> omega
/-- digits -/
def lft (m code : Nat) : Nat → Nat
  | 0 => code
  | i + 1 => lft m code i / m
def dgt (m code i : Nat) : Nat := lft m code i % m
theorem lft_le (m code : Nat) : ∀ i, lft m code i ≤ code
  | 0 => Nat.le_refl _
  | i + 1 => Nat.le_trans (Nat.div_le_self _ _) (lft_le m code i)
def hor (s : Nat → Nat) (m : Nat) : Nat → Nat
  | 0 => 0
  | r + 1 => s (m - (r + 1)) + m * hor s m r
theorem hor_lt {s : Nat → Nat} {m : Nat} (hs : ∀ i, i < m → s i < m) : ∀ r, r ≤ m → hor s m r < m ^ r
  | 0, _ => by rw [hor]; exact Nat.one_pos
  | r + 1, h => by
    have ih := hor_lt hs r (by omega)
    have h1 := hs (m - (r + 1)) (by omega)
    rw [hor, Nat.pow_succ]
    have h2 : m * (hor s m r + 1) ≤ m * m ^ r := Nat.mul_le_mul_left m ih
    rw [Nat.mul_add, Nat.mul_one] at h2
    rw [Nat.mul_comm (m ^ r) m]
    omega
theorem hor_lft {s : Nat → Nat} {m : Nat} (hs : ∀ i, i < m → s i < m) : ∀ i, i ≤ m → lft m (hor s m m) i = hor s m (m - i)
  | 0, _ => rfl
  | i + 1, h => by
    rw [lft, hor_lft hs i (by omega)]
    obtain ⟨r, hr⟩ : ∃ r, m - i = r + 1 := ⟨m - i - 1, by omega⟩
    have h1 := hs (m - (r + 1)) (by omega)
    rw [hr, hor, Nat.add_mul_div_left _ _ (by omega), Nat.div_eq_of_lt h1, Nat.zero_add, show m - (i + 1) = r by omega]
theorem hor_dgt {s : Nat → Nat} {m : Nat} (hs : ∀ i, i < m → s i < m) {i : Nat} (hi : i < m) : dgt m (hor s m m) i = s i := by
  unfold dgt
  rw [hor_lft hs i (by omega)]
  obtain ⟨r, hr⟩ : ∃ r, m - i = r + 1 := ⟨m - i - 1, by omega⟩
  have h1 := hs (m - (r + 1)) (by omega)
  rw [hr, hor, Nat.add_mul_mod_self_left, Nat.mod_eq_of_lt h1, show m - (r + 1) = i by omega]
/-- all digits are there -/
def allD (m code : Nat) : Prop := ∀ v, v < m → ∃ i, i < m ∧ dgt m code i = v
theorem allD_inj {m code : Nat} (hm : 1 ≤ m) (h : allD m code) : ∀ i j, i < m → j < m → dgt m code i = dgt m code j → i = j := by
  have ⟨e, he⟩ : ∃ e : Nat → Nat, ∀ v, v < m → e v < m ∧ dgt m code (e v) = v := by
    refine ⟨fun v => if hv : v < m then (h v hv).choose else 0, fun v hv => ?_⟩
    simp only [dif_pos hv]
    exact (h v hv).choose_spec
  have hs := pigeon m e (fun i hi => (he i hi).1) (fun i j hi hj hij => by
    have h1 := (he i hi).2
    have h2 := (he j hj).2
    rw [hij, h2] at h1
    exact h1.symm)
  intro i j hi hj hij
  obtain ⟨v, hv, rfl⟩ := hs i hi
  obtain ⟨u, hu, rfl⟩ := hs j hj
  rw [(he v hv).2, (he u hu).2] at hij
  rw [hij]
def csum (W K : Nat → Int) (m code : Nat) : Int := zsum (fun i => W i * K (dgt m code i)) m
/-- the least so far of all dealings that give each speech away -/
def LeT (W K : Nat → Int) (m c : Nat) (v : Int) : Prop := (v = -1 ∧ ∀ code, code < c → ¬ allD m code) ∨ ((∃ code, code < c ∧ allD m code ∧ v = csum W K m code) ∧ ∀ code, code < c → allD m code → v ≤ csum W K m code)
theorem LeT_no {W K : Nat → Int} {m c : Nat} {v : Int} (h : LeT W K m c v) (hc : ¬ allD m c ∨ (v ≠ -1 ∧ v ≤ csum W K m c)) : LeT W K m (c + 1) v := by
  rcases h with ⟨h1, h2⟩ | ⟨⟨code, h1, h2, h3⟩, h4⟩
  · refine Or.inl ⟨h1, fun code hc' => ?_⟩
    by_cases e : code = c
    · subst e
      rcases hc with z | z
      · exact z
      · exact absurd h1 z.1
    · exact h2 code (by omega)
  · refine Or.inr ⟨⟨code, by omega, h2, h3⟩, fun code' hc' ha => ?_⟩
    by_cases e : code' = c
    · subst e
      rcases hc with z | z
      · exact absurd ha z
      · exact z.2
    · exact h4 code' (by omega) ha
theorem LeT_yes {W K : Nat → Int} {m c : Nat} {v : Int} (h : LeT W K m c v) (ha : allD m c) (h0 : ∀ code, 0 ≤ csum W K m code) (hv : v = -1 ∨ csum W K m c < v) : LeT W K m (c + 1) (csum W K m c) := by
  refine Or.inr ⟨⟨c, by omega, ha, rfl⟩, fun code hc ha' => ?_⟩
  by_cases e : code = c
  · subst e; exact Int.le_refl _
  · rcases h with ⟨h1, h2⟩ | ⟨⟨code0, h1, h2, h3⟩, h4⟩
    · exact absurd ha' (h2 code (by omega))
    · have := h4 code (by omega) ha'
      have := h0 code0
      rcases hv with z | z
      · omega
      · omega
theorem LeT_end {W K : Nat → Int} {m : Nat} {v : Int} (hm : 1 ≤ m) (h : LeT W K m (m ^ m) v) (hW : ∀ t, t < m → 0 ≤ W t ∧ W t ≤ 100) (hK : ∀ t, t < m → 0 ≤ K t ∧ K t ≤ 100) {s : Nat → Nat} (hs : ∀ i, i < m → s i < m) (hsi : ∀ i j, i < m → j < m → s i = s j → i = j) (ho : ∀ i j, i < m → j < m → W j < W i → K (s i) ≤ K (s j)) : v = zsum (fun t => W t * K (s t)) m := by
  have hall : allD m (hor s m m) := fun u hu => by
    obtain ⟨i, hi, he⟩ := pigeon m s hs hsi u hu
    exact ⟨i, hi, by rw [hor_dgt hs hi]; exact he⟩
  have hlt := hor_lt hs m (Nat.le_refl _)
  have hc : csum W K m (hor s m m) = zsum (fun t => W t * K (s t)) m := by
    unfold csum
    refine zsum_cg (fun i hi => ?_)
    rw [hor_dgt hs hi]
  rcases h with ⟨h1, h2⟩ | ⟨⟨code, h1, h2, h3⟩, h4⟩
  · exact absurd hall (h2 _ hlt)
  · have a1 := h4 _ hlt hall
    rw [hc] at a1
    have a2 := rearr hW hK hs hsi (d := dgt m code) (fun i hi => Nat.mod_lt _ (by omega)) (allD_inj hm h2) ho
    have a3 : v = zsum (fun t => W t * K (dgt m code t)) m := h3
    omega
/-- the digits used, as bits -/
theorem bit_or : ∀ U : Nat, U < 32 → ∀ d : Nat, d < 5 → ∀ v : Nat, v < 5 → zand (zshr (zor U (zshl 1 d)) v) 1 = if v = d then 1 else zand (zshr U v) 1 := by decide +kernel
theorem bit_rg : ∀ m : Nat, m < 6 → ∀ U : Nat, U < 2 ^ m → ∀ d : Nat, d < m → 0 ≤ zor U (zshl 1 d) ∧ zor U (zshl 1 d) < ((2 ^ m : Nat) : Int) := by decide +kernel
theorem bit_all : ∀ m : Nat, m < 6 → ∀ U : Nat, U < 2 ^ m → (¬ (zw ((U : Int) + 1) < zw (zshl 1 m)) ↔ ∀ v : Nat, v < m → zand (zshr U v) 1 = 1) := by decide +kernel
def usd (m code : Nat) : Nat → Int
  | 0 => 0
  | i + 1 => zor (usd m code i) (zshl 1 (dgt m code i))
theorem usd_ok {m code : Nat} (hm : 1 ≤ m ∧ m < 6) : ∀ i, (∃ U : Nat, usd m code i = U ∧ U < 2 ^ m) ∧ ∀ v : Nat, v < m → (zand (zshr (usd m code i) v) 1 = 1 ↔ ∃ k, k < i ∧ dgt m code k = v)
  | 0 => by
    refine ⟨⟨0, rfl, Nat.pow_pos (by omega)⟩, fun v hv => ?_⟩
    have : ∀ v : Nat, v < 5 → ¬ zand (zshr 0 v) 1 = 1 := by decide +kernel
    have h1 := this v (by omega)
    exact ⟨fun z => absurd z h1, fun ⟨k, hk, _⟩ => by omega⟩
  | i + 1 => by
    obtain ⟨⟨U, h1, h2⟩, h3⟩ := usd_ok (code := code) hm i
    have hd : dgt m code i < m := Nat.mod_lt _ (by omega)
    have hr := bit_rg m hm.2 U h2 _ hd
    have hp : 2 ^ m ≤ 32 := by
      have : m = 1 ∨ m = 2 ∨ m = 3 ∨ m = 4 ∨ m = 5 := by omega
      rcases this with rfl | rfl | rfl | rfl | rfl <;> decide
    refine ⟨⟨(zor U (zshl 1 (dgt m code i))).toNat, ?_, by omega⟩, fun v hv => ?_⟩
    · rw [usd, h1]; omega
    · rw [usd, h1, bit_or U (by omega) _ (by omega) v (by omega)]
      by_cases e : v = dgt m code i
      · rw [if_pos e]
        exact ⟨fun _ => ⟨i, by omega, e.symm⟩, fun _ => rfl⟩
      · rw [if_neg e, ← h1, h3 v hv]
        constructor
        · rintro ⟨k, hk, he⟩
          exact ⟨k, by omega, he⟩
        · rintro ⟨k, hk, he⟩
          refine ⟨k, ?_, he⟩
          by_cases z : k = i
          · subst z; exact absurd he.symm e
          · omega
theorem usd_all {m code : Nat} (hm : 1 ≤ m ∧ m < 6) : ¬ (zw (usd m code m + 1) < zw (zshl 1 m)) ↔ allD m code := by
  obtain ⟨⟨U, h1, h2⟩, h3⟩ := usd_ok (code := code) hm m
  rw [h1, bit_all m hm.2 U h2, ← h1]
  exact ⟨fun z v hv => (h3 v hv).mp (z v hv), fun z v hv => (h3 v hv).mpr (z v hv)⟩
