/-! ===== dealt ===== -/
/-- how many are ahead of one -/
def rk (K : Nat → Int) (n i : Nat) : Int := zsum (fun j => if K j < K i ∨ (K j = K i ∧ j < i) then 1 else 0) n
theorem zsum_le {f f' : Nat → Int} : ∀ {n : Nat}, (∀ k, k < n → f k ≤ f' k) → zsum f n ≤ zsum f' n
  | 0, _ => Int.le_refl _
  | n + 1, h => by
    have := zsum_le (n := n) (fun k hk => h k (by omega))
    have := h n (by omega)
    rw [zsum, zsum]
    omega
theorem zsum_lt {f f' : Nat → Int} {j : Nat} : ∀ {n : Nat}, (∀ k, k < n → f k ≤ f' k) → j < n → f j < f' j → zsum f n < zsum f' n
  | 0, _, h, _ => by omega
  | n + 1, h, hj, hlt => by
    rw [zsum, zsum]
    by_cases hn : j = n
    · have := zsum_le (n := n) (fun k hk => h k (by omega))
      subst hn
      omega
    · have := zsum_lt (n := n) (fun k hk => h k (by omega)) (by omega) hlt
      have := h n (by omega)
      omega
theorem zsum_const (n : Nat) : zsum (fun _ => 1) n = n := by
  induction n with
  | zero => rfl
  | succ n ih => rw [zsum, ih, Int.natCast_succ]
theorem rk_rg (K : Nat → Int) {n i : Nat} (hi : i < n) : 0 ≤ rk K n i ∧ rk K n i < n := by
  constructor
  · exact zsum_nn (fun k => by split <;> omega)
  · rw [← zsum_const n]
    unfold rk
    refine zsum_lt (j := i) (fun k _ => by split <;> omega) hi ?_
    rw [if_neg (by omega)]
    omega
theorem rk_lt (K : Nat → Int) {n i i' : Nat} (hi : i < n) (h : K i < K i' ∨ (K i = K i' ∧ i < i')) : rk K n i < rk K n i' := by
  unfold rk
  refine zsum_lt (j := i) (fun k _ => ?_) hi ?_
  · by_cases a : K k < K i ∨ (K k = K i ∧ k < i)
    · rw [if_pos a, if_pos (by omega)]; omega
    · rw [if_neg a]; split <;> omega
  · rw [if_neg (by omega), if_pos h]; omega
theorem rk_inj (K : Nat → Int) {n i i' : Nat} (hi : i < n) (hi' : i' < n) (h : rk K n i = rk K n i') : i = i' := by
  by_cases a : K i < K i' ∨ (K i = K i' ∧ i < i')
  · have := rk_lt K hi a; omega
  · by_cases b : K i' < K i ∨ (K i' = K i ∧ i' < i)
    · have := rk_lt K hi' b; omega
    · omega
theorem pigeon : ∀ (n : Nat) (f : Nat → Nat), (∀ i, i < n → f i < n) → (∀ i j, i < n → j < n → f i = f j → i = j) → ∀ r, r < n → ∃ i, i < n ∧ f i = r
  | 0, _, _, _, r, h => by omega
  | n + 1, f, hf, hj, r, hr => by
    by_cases hex : ∃ i, i < n + 1 ∧ f i = n
    · obtain ⟨i0, h0, h1⟩ := hex
      by_cases hrn : r = n
      · exact ⟨i0, h0, by omega⟩
      · have hfn : f n ≤ n := by have := hf n (by omega); omega
        obtain ⟨i, hi, hfi⟩ := pigeon n (fun i => if i = i0 then f n else f i) (fun i hi => by
          show (if i = i0 then f n else f i) < n
          by_cases a : i = i0
          · rw [if_pos a]
            by_cases b : f n = n
            · have := hj n i0 (by omega) h0 (by omega)
              omega
            · omega
          · rw [if_neg a]
            have := hf i (by omega)
            by_cases b : f i = n
            · exact absurd (hj i i0 (by omega) h0 (by omega)) a
            · omega) (fun i j hi hj' he => by
          change (if i = i0 then f n else f i) = (if j = i0 then f n else f j) at he
          by_cases a : i = i0
          · by_cases b : j = i0
            · omega
            · rw [if_pos a, if_neg b] at he
              have := hj n j (by omega) (by omega) he
              omega
          · by_cases b : j = i0
            · rw [if_neg a, if_pos b] at he
              have := hj i n (by omega) (by omega) he
              omega
            · rw [if_neg a, if_neg b] at he
              exact hj i j (by omega) (by omega) he) r (by omega)
        change (if i = i0 then f n else f i) = r at hfi
        by_cases a : i = i0
        · rw [if_pos a] at hfi; exact ⟨n, by omega, hfi⟩
        · rw [if_neg a] at hfi; exact ⟨i, by omega, hfi⟩
    · have hlt : ∀ i, i < n + 1 → f i < n := fun i hi => by
        have := hf i hi
        by_cases a : f i = n
        · exact absurd ⟨i, hi, a⟩ hex
        · omega
      obtain ⟨i, hi, hfi⟩ := pigeon n f (fun i hi => hlt i (by omega)) (fun i j hi hj' => hj i j (by omega) (by omega)) (f n) (hlt n (by omega))
      have := hj i n (by omega) (by omega) hfi
      omega
theorem rk_ex (K : Nat → Int) {n : Nat} {r : Int} (h0 : 0 ≤ r) (h1 : r < n) : ∃ i : Nat, i < n ∧ rk K n i = r := by
  obtain ⟨i, hi, he⟩ := pigeon n (fun i => (rk K n i).toNat) (fun i hi => by have := rk_rg K hi; show (rk K n i).toNat < n; omega) (fun i j hi hj he => by
    have h1 := rk_rg K hi
    have h2 := rk_rg K hj
    change (rk K n i).toNat = (rk K n j).toNat at he
    exact rk_inj K hi hj (by omega)) r.toNat (by omega)
  have h2 := rk_rg K hi
  change (rk K n i).toNat = r.toNat at he
  exact ⟨i, hi, by omega⟩
/-- the one of a rank -/
def rkAt (K : Nat → Int) (n : Nat) (r : Int) : Int := zfo (fun i => if rk K n i = r then i else -1) n 0
theorem rkAt_eq (K : Nat → Int) {n i : Nat} (hi : i < n) {r : Int} (h : rk K n i = r) : rkAt K n r = i := by
  unfold rkAt
  rw [zfo_at (j := i) (fun k _ hk => if_neg (fun z => by have := rk_inj K (by omega) hi (z.trans h.symm); omega)) (by rw [if_pos h]; omega) (by omega) (by omega), if_pos h]
/-- how the speeches come by length, the things by weight -/
def kL (G : Nat → Int → Int) (c : Int) : Nat → Int := fun i => longS G c i
def kW (G : Nat → Int → Int) : Nat → Int := fun t => -G pM_weights t
def mS (G : Nat → Int → Int) (c : Int) : Nat := (saidS G c).toNat
def dlT (G : Nat → Int → Int) (c : Int) (t : Nat) : Int := rkAt (kL G c) (mS G c) (rk (kW G) (mS G c) t)
def dlO (G : Nat → Int → Int) (c : Int) : Int := zsum (fun t => G pM_weights t * longS G c (dlT G c t)) (mS G c)
def dlS (G : Nat → Int → Int) (c w : Int) : Int := if 0 ≤ c ∧ c < G pM 5 then (if (w = 0 ∨ w = 1) ∨ (10 ≤ w ∧ w ≤ 17) then (if saidS G c = 0 then -103 else if 10 ≤ w then (if w - 10 < saidS G c then dlT G c (w - 10).toNat else -1) else fracS (dlO G c).toNat (wsum G (saidS G c)).toNat w) else -102) else -101
theorem dlT_ex {G : Nat → Int → Int} {c : Int} {t : Nat} (ht : t < mS G c) : ∃ i : Nat, i < mS G c ∧ rk (kL G c) (mS G c) i = rk (kW G) (mS G c) t ∧ dlT G c t = i := by
  have h := rk_rg (kW G) ht
  obtain ⟨i, hi, he⟩ := rk_ex (kL G c) h.1 h.2
  exact ⟨i, hi, he, rkAt_eq _ hi he⟩
theorem dlO_rg {G : Nat → Int → Int} (hB : Bd G) {c : Int} (a : 0 ≤ c ∧ c < G pM 5) : 0 ≤ dlO G c ∧ dlO G c ≤ 35640 := by
  have hs := saidS_rg hB a
  have hn := nS_rg hB a
  have hm : (mS G c : Int) = saidS G c := by unfold mS; omega
  have := zsum_rg (a := 0) (b := 4455) (n := mS G c) (f := fun t => G pM_weights t * longS G c (dlT G c t)) (fun k hk => by
    obtain ⟨i, hi, -, he⟩ := dlT_ex hk
    have h1 := w_rg hB k (by omega)
    have h2 := longS_rg hB a (s := (i : Int)) (by omega)
    have := mul_rg (a := G pM_weights k) (b := longS G c i) (x := 99) (y := 45) (by omega) (by omega)
    rw [he]
    omega)
  unfold dlO
  omega
theorem X_isAhead (xs : List Int) (h : zH) {x i y j : Int} (hx : zw x = x) (hi : zw i = i) (hy : zw y = y) (hj : zw j = j) : zx zblk xs 75 0 [some (.inl (x)), some (.inl (i)), some (.inl (y)), some (.inl (j))] [] h = some (some (.inl (zb (x < y ∨ (x = y ∧ i < j)))), h) := by
  have e15 : zx zblk xs 75 15 [] [] h = some (some (.inl 1), h) := by rw [e_X_isAhead_15, e_X_isAhead_20, if_pos (Or.inr rfl)]
  have e19 : zx zblk xs 75 19 [] [] h = some (some (.inl 0), h) := by rw [e_X_isAhead_19, e_X_isAhead_20, if_pos (Or.inl rfl)]
  rw [e_X_isAhead_0, e15, e19, hx, hi, hy, hj]
  by_cases a : x < y
  · rw [if_pos a, zb_t (by omega)]
  · rw [if_neg a]
    by_cases b : x = y
    · rw [if_neg (by omega)]
      by_cases d : i < j
      · rw [if_neg (by omega), zb_t (by omega)]
      · rw [if_pos (by omega), zb_f (by omega)]
    · rw [if_pos b, zb_f (by omega)]
theorem X_rankByLong (xs : List Int) {G g : Nat → Int → Int} (hB : Bd G) (h : Rel G g) {c : Nat} (hc : (c : Int) < G pM 5) {m i : Nat} (hm : m ≤ nS G c) (hi : i < m) : zx zblk xs 74 0 [some (.inr (.inr (some pX))), some (.inr (.inr (some (PC c)))), some (.inl ((i : Int))), some (.inl ((m : Int)))] [] (HH g) = some (some (.inl (rk (kL G c) m i)), HH g) := by
  have a : 0 ≤ (c : Int) ∧ (c : Int) < G pM 5 := by omega
  have hn := nS_rg hB a
  have hli := longS_rg hB a (s := (i : Int)) (by omega)
  have hh := zloop (fun j : Nat => zx zblk xs 74 6 [some (.inr (.inr (some pX))), some (.inr (.inr (some (PC c)))), some (.inl ((i : Int))), some (.inl ((m : Int))), some (.inl (rk (kL G c) j i)), some (.inl ((j : Int)))] [] (HH g)) m (fun j hj => by
    have hlj := longS_rg hB a (s := (j : Int)) (by omega)
    have e37 : ∀ v4 : Int, zx zblk xs 74 37 [some (.inr (.inr (some pX))), some (.inr (.inr (some (PC c)))), some (.inl ((i : Int))), some (.inl ((m : Int))), some (.inl (v4)), some (.inl ((j : Int)))] [] (HH g) = zx zblk xs 74 6 [some (.inr (.inr (some pX))), some (.inr (.inr (some (PC c)))), some (.inl ((i : Int))), some (.inl ((m : Int))), some (.inl (v4)), some (.inl (((j + 1 : Nat) : Int)))] [] (HH g) := fun v4 => by rw [e_X_rankByLong_37, Int.natCast_succ]
    rw [e_X_rankByLong_6, if_neg (by rw [zw_id (by omega) (by omega), zw_id (by omega) (by omega)]; omega), pX_ck, X_longOf xs hB h c j hc (by omega), zci_ok, pX_ck, X_longOf xs hB h c i hc (by omega), zci_ok, X_isAhead xs _ (zw_id (by omega) (by omega)) (zw_id (by omega) (by omega)) (zw_id (by omega) (by omega)) (zw_id (by omega) (by omega)), zci_ok, zb_zw, e37, e37]
    rw [show rk (kL G c) (j + 1) i = rk (kL G c) j i + (if kL G c j < kL G c i ∨ (kL G c j = kL G c i ∧ j < i) then 1 else 0) from rfl]
    unfold kL
    by_cases b : longS G c j < longS G c i ∨ (longS G c j = longS G c i ∧ j < i)
    · rw [zb_t (by omega), if_neg (by decide), if_pos b]
    · rw [zb_f (by omega), if_pos rfl, if_neg b, Int.add_zero])
  rw [e_X_rankByLong_0]
  refine Eq.trans ?_ (hh.trans ?_)
  · rfl
  · rw [e_X_rankByLong_6, if_pos (by omega), e_X_rankByLong_43]
theorem X_dealtTo (xs : List Int) {G g : Nat → Int → Int} (hB : Bd G) (h : Rel G g) {c : Nat} (hc : (c : Int) < G pM 5) {t : Int} (htz : zw t = t) (ht0 : 0 ≤ t) : zx zblk xs 73 0 [some (.inr (.inr (some pX))), some (.inr (.inr (some (PC c)))), some (.inl (t))] [] (HH g) = some (some (.inl (if t < saidS G c then dlT G c t.toNat else -1)), HH g) := by
  have a : 0 ≤ (c : Int) ∧ (c : Int) < G pM 5 := by omega
  have hs := saidS_rg hB a
  have hn := nS_rg hB a
  have hm : (mS G c : Int) = saidS G c := by unfold mS; omega
  rw [e_X_dealtTo_0, pX_ck, X_thingsSaid xs hB h c hc, zci_ok, htz, if_neg (by omega), zw_id (a := saidS G c) (by omega) (by omega)]
  by_cases tl : t < saidS G c
  · obtain ⟨k, rfl⟩ : ∃ k : Nat, t = k := ⟨t.toNat, by omega⟩
    have hk : k < mS G c := by omega
    rw [if_pos tl, if_pos tl, e_X_dealtTo_17]
    have hw := w_rg hB k (by omega)
    have hh := zloop (fun j : Nat => zx zblk xs 73 23 [some (.inr (.inr (some pX))), some (.inr (.inr (some (PC c)))), some (.inl ((k : Int))), some (.inl (saidS G c)), some (.inl (rk (kW G) j k)), some (.inl ((j : Int)))] [] (HH g)) (mS G c) (fun j hj => by
      have hwj := w_rg hB j (by omega)
      have e60 : ∀ v4 : Int, zx zblk xs 73 60 [some (.inr (.inr (some pX))), some (.inr (.inr (some (PC c)))), some (.inl ((k : Int))), some (.inl (saidS G c)), some (.inl (v4)), some (.inl ((j : Int)))] [] (HH g) = zx zblk xs 73 23 [some (.inr (.inr (some pX))), some (.inr (.inr (some (PC c)))), some (.inl ((k : Int))), some (.inl (saidS G c)), some (.inl (v4)), some (.inl (((j + 1 : Nat) : Int)))] [] (HH g) := fun v4 => by rw [e_X_dealtTo_60, Int.natCast_succ]
      rw [e_X_dealtTo_23, if_neg (by rw [zw_id (by omega) (by omega), zw_id (by omega) (by omega)]; omega), pX_r_weights, Rw_ck Rw11, X_wAt xs hB h j (by omega), zci_ok, pX_r_weights, Rw_ck Rw11, X_wAt xs hB h k (by omega), zci_ok, X_isAhead xs _ (zw_id (by omega) (by omega)) (zw_id (by omega) (by omega)) (zw_id (by omega) (by omega)) (zw_id (by omega) (by omega)), zci_ok, zb_zw, e60, e60]
      rw [show rk (kW G) (j + 1) k = rk (kW G) j k + (if kW G j < kW G k ∨ (kW G j = kW G k ∧ j < k) then 1 else 0) from rfl]
      unfold kW
      by_cases b : -G pM_weights j < -G pM_weights k ∨ (-G pM_weights j = -G pM_weights k ∧ j < k)
      · rw [zb_t (by omega), if_neg (by decide), if_pos b]
      · rw [zb_f (by omega), if_pos rfl, if_neg b, Int.add_zero])
    refine Eq.trans ?_ (hh.trans ?_)
    · rfl
    · have hrk := rk_rg (kW G) hk
      rw [e_X_dealtTo_23, if_pos (by rw [zw_id (by omega) (by omega), zw_id (by omega) (by omega)]; omega), e_X_dealtTo_66]
      obtain ⟨i, hi, hri, he⟩ := dlT_ex hk
      have loop : ∀ (r j : Nat), j + r = mS G c → zx zblk xs 73 69 [some (.inr (.inr (some pX))), some (.inr (.inr (some (PC c)))), none, some (.inl (saidS G c)), some (.inl (rk (kW G) (mS G c) k)), some (.inl ((j : Int)))] [] (HH g) = some (some (.inl (zfo (fun i => if rk (kL G c) (mS G c) i = rk (kW G) (mS G c) k then (i : Int) else -1) r j)), HH g) := by
        intro r
        induction r with
        | zero =>
          intro j hj
          rw [e_X_dealtTo_69, if_pos (by rw [zw_id (by omega) (by omega), zw_id (by omega) (by omega)]; omega), e_X_dealtTo_97, zfo]
        | succ r ih =>
          intro j hj
          have hj' : j < mS G c := by omega
          have hrj := rk_rg (kL G c) hj'
          have hrb := X_rankByLong xs hB h hc (m := mS G c) (i := j) (by omega) hj'
          rw [hm] at hrb
          rw [e_X_dealtTo_69, if_neg (by rw [zw_id (by omega) (by omega), zw_id (by omega) (by omega)]; omega), pX_ck, hrb, zci_ok, zw_id (by omega) (by omega), zw_id (by omega) (by omega), zfo]
          by_cases b : rk (kL G c) (mS G c) j = rk (kW G) (mS G c) k
          · rw [if_neg (by omega), if_pos b, if_pos (by omega)]
          · rw [if_pos b, if_neg b, if_neg (by simp), e_X_dealtTo_91, ← Int.natCast_succ]
            exact ih (j + 1) (by omega)
      exact loop (mS G c) 0 (by omega)
  · rw [if_neg tl, if_neg tl, e_X_dealtTo_15]
theorem X_dealt (xs : List Int) {G g : Nat → Int → Int} (hB : Bd G) (h : Rel G g) {c w : Int} (hc : zw c = c) (hw : zw w = w) : zx zblk xs 56 0 [some (.inr (.inr (some pX))), some (.inl (c)), some (.inl (w))] [] (HH g) = some (some (.inl (dlS G c w)), HH g) := by
  obtain ⟨-, ⟨hc0, hc1⟩, -, ⟨h2, h3⟩, -⟩ := id hB.1
  rw [e_X_dealt_0, pX_ck]
  unfold dlS
  by_cases a : 0 ≤ c ∧ c < G pM 5
  · obtain ⟨k, rfl⟩ : ∃ k : Nat, c = k := ⟨c.toNat, by omega⟩
    have hs := saidS_rg hB a
    have hn := nS_rg hB a
    have hm : (mS G k : Int) = saidS G k := by unfold mS; omega
    have e32 : zx zblk xs 56 32 [] [] (HH g) = some (some (.inl (-102)), HH g) := e_X_dealt_32 xs _
    have e35 : (w = 0 ∨ w = 1) ∨ (10 ≤ w ∧ w ≤ 17) → zx zblk xs 56 35 [some (.inr (.inr (some pX))), none, some (.inl (w)), some (.inr (.inr (some (PC k))))] [] (HH g) = some (some (.inl (if saidS G k = 0 then -103 else if 10 ≤ w then (if w - 10 < saidS G k then dlT G k (w - 10).toNat else -1) else fracS (dlO G k).toNat (wsum G (saidS G k)).toNat w)), HH g) := by
      intro hww
      rw [e_X_dealt_35, pX_ck, X_thingsSaid xs hB h k a.2, zci_ok, zw_id (by omega) (by omega)]
      by_cases s0 : saidS G k = 0
      · rw [if_neg (by omega), if_pos s0]
      · rw [if_pos s0, if_neg s0, e_X_dealt_50, hw, show zw 10 = 10 from rfl]
        by_cases w10 : 10 ≤ w
        · rw [if_neg (by omega), if_pos w10, pX_ck, X_dealtTo xs hB h a.2 (zw_id (by omega) (by omega)) (by omega), zci_ok]
        · have hws := wsum_rg hB (n := saidS G k) (by omega) (by omega)
          have hdl := dlO_rg hB a
          have hh := zloop (fun t : Nat => zx zblk xs 56 72 [some (.inr (.inr (some pX))), none, some (.inl (w)), some (.inr (.inr (some (PC k)))), some (.inl (saidS G k)), some (.inr (.inl (zsum (fun t => G pM_weights t * longS G k (dlT G k t)) t))), none, some (.inl ((t : Int)))] [] (HH g)) (mS G k) (fun t ht => by
            obtain ⟨i, hi, -, he⟩ := dlT_ex ht
            have h1 := w_rg hB t (by omega)
            have h2 := longS_rg hB a (s := (i : Int)) (by omega)
            have hmm := mul_rg (a := G pM_weights t) (b := longS G k i) (x := 99) (y := 45) (by omega) (by omega)
            rw [e_X_dealt_72, if_neg (by rw [zw_id (by omega) (by omega), zw_id (by omega) (by omega)]; omega), pX_r_weights, Rw_ck Rw11, X_wAt xs hB h t (by omega), zci_ok, pX_ck, X_dealtTo xs hB h a.2 (zw_id (by omega) (by omega)) (by omega), zci_ok, if_pos (by omega), show (t : Int).toNat = t from rfl, he, pX_ck, X_longOf xs hB h k i a.2 (by omega), zci_ok, zw_id (a := G pM_weights t * longS G k i) (by omega) (by omega), zsum, he, Int.natCast_succ])
          have ht := X_lowest xs (HH g) (a := (dlO G k).toNat) (b := (wsum G (saidS G k)).toNat) hw (by omega) (by omega) (by omega)
          rw [Int.toNat_of_nonneg hdl.1, Int.toNat_of_nonneg (by omega)] at ht
          rw [if_pos (by omega), if_neg w10, e_X_dealt_66]
          refine Eq.trans ?_ (hh.trans ?_)
          · rfl
          · rw [e_X_dealt_72, if_pos (by rw [zw_id (by omega) (by omega), zw_id (by omega) (by omega)]; omega), e_X_dealt_113, pX_r_weights, Rw_ck Rw11, X_weighed xs hB h hs.1 hs.2.2.1, zci_ok, show zsum (fun t => G pM_weights t * longS G k (dlT G k t)) (mS G k) = dlO G k from rfl, zw_id (a := wsum G (saidS G k)) (by omega) (by omega), ht, zcl_ok']
    rw [X_codeAt_in xs hB h k a.2, zcr_ok, zif_some, if_pos a, e_X_dealt_13, X_isPart xs w _ hw, zci_ok, zb_zw]
    by_cases b : w = 0 ∨ w = 1
    · rw [zb_t b, if_pos (by decide), if_pos (Or.inl b), e35 (Or.inl b)]
    · rw [zb_f b, if_neg (by decide), hw, show zw 10 = 10 from rfl, show zw 18 = 18 from rfl]
      by_cases d : 10 ≤ w ∧ w ≤ 17
      · rw [if_neg (by omega), if_pos (by omega), if_pos (Or.inr d), e35 (Or.inr d)]
      · rw [if_neg (show ¬ ((w = 0 ∨ w = 1) ∨ (10 ≤ w ∧ w ≤ 17)) from fun z => by rcases z with z | z; exact b z; exact d z)]
        by_cases d0 : w < 10
        · rw [if_pos d0, e32]
        · rw [if_neg d0, if_neg (by omega), e32]
  · rw [X_codeAt_out xs hB h c hc a, zcr_ok, zif, if_neg a]

