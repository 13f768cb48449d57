/-! ===== the law: call by call ===== -/
def sc (xs : List Int) (i : Int) : Int := xs.getD i.toNat 0
theorem zai_s (xs : List Int) (hl : xs.length ≤ 3072) (h : zH) {i : Int} (h0 : 0 ≤ i) (h1 : i < xs.length) (f : Int → Option zR) : zai xs h (some 0) i f = f (sc xs i) := by
  have e : xs[i.toNat]? = some (sc xs i) := by
    unfold sc
    rw [List.getD, List.getElem?_eq_getElem (show i.toNat < xs.length by omega), Option.getD_some]
  unfold zai zar
  dsimp only
  rw [zw_id (by omega) (by omega), if_pos ⟨rfl, h0⟩, e]
  rfl
theorem zln_s (xs : List Int) (h : zH) (f : Int → Option zR) : zln xs h (some 0) f = f xs.length := rfl
theorem sc_zw {xs : List Int} (hx : ∀ v ∈ xs, zw v = v) {i : Int} (h0 : 0 ≤ i) (h1 : i < xs.length) : zw (sc xs i) = sc xs i := by
  apply hx
  unfold sc
  rw [List.getD, List.getElem?_eq_getElem (show i.toNat < xs.length by omega), Option.getD_some]
  exact List.getElem_mem _
theorem zcmp_self (v : Int) : zw (if zwl v < zwl v then -1 else if zwl v = zwl v then 0 else 1) = 0 := by
  rw [if_neg (Int.lt_irrefl _), if_pos rfl]
  rfl
theorem law_letters (xs : List Int) (hl : xs.length ≤ 3072) (hx : ∀ v ∈ xs, zw v = v) {g : Nat → Int → Int} (hI : Inv g) {k : Nat} (hk : k + 6 ≤ xs.length) : ∃ g2, zx zblk xs 0 188 [some (.inr (.inr (some 0))), some (.inr (.inr (some pX))), some (.inr (.inr (some pM))), some (.inl ((k : Int)))] [] (HH g) = zx zblk xs 0 1187 [some (.inr (.inr (some 0))), some (.inr (.inr (some pX))), some (.inr (.inr (some pM))), some (.inl ((k : Int)))] [] (HH g2) ∧ Inv g2 := by
  obtain ⟨v, g1, g2, x, m, h⟩ := op_letters xs hI (zorl (zshll (zw (sc xs ((k : Int) + 1))) 32) (zandl (zw (sc xs ((k : Int) + 2))) 4294967295))
  have x' : zx zblk xs 135 0 [some (.inr (.inr (some pX))), some (.inr (.inl ((zorl (zshll (zw (sc xs ((k : Int) + 1))) 32) (zandl (zw (sc xs ((k : Int) + 2))) 4294967295))))), none] [] (HH g) = some (some (.inl v), HH g1) := x
  have m' : zx zblk xs 3 0 [some (.inr (.inr (some pM))), some (.inr (.inl ((zorl (zshll (zw (sc xs ((k : Int) + 1))) 32) (zandl (zw (sc xs ((k : Int) + 2))) 4294967295))))), none] [] (HH g1) = some (some (.inl v), HH g2) := m
  exact ⟨g2, by rw [e_L_law_188, zai_s xs hl _ (i := (k : Int) + 1) (by omega) (by omega), zai_s xs hl _ (i := (k : Int) + 2) (by omega) (by omega), pX_ck, x', zci_ok, zai_s xs hl _ (i := (k : Int) + 1) (by omega) (by omega), zai_s xs hl _ (i := (k : Int) + 2) (by omega) (by omega), pM_ck, m', zci_ok, if_pos rfl], h⟩
theorem law_blank (xs : List Int) (hl : xs.length ≤ 3072) (hx : ∀ v ∈ xs, zw v = v) {g : Nat → Int → Int} (hI : Inv g) {k : Nat} (hk : k + 6 ≤ xs.length) : ∃ g2, zx zblk xs 0 241 [some (.inr (.inr (some 0))), some (.inr (.inr (some pX))), some (.inr (.inr (some pM))), some (.inl ((k : Int)))] [] (HH g) = zx zblk xs 0 1187 [some (.inr (.inr (some 0))), some (.inr (.inr (some pX))), some (.inr (.inr (some pM))), some (.inl ((k : Int)))] [] (HH g2) ∧ Inv g2 := by
  obtain ⟨v, g1, g2, x, m, h⟩ := op_blank xs hI
  have x' : zx zblk xs 136 0 [some (.inr (.inr (some pX)))] [] (HH g) = some (some (.inl v), HH g1) := x
  have m' : zx zblk xs 4 0 [some (.inr (.inr (some pM)))] [] (HH g1) = some (some (.inl v), HH g2) := m
  exact ⟨g2, by rw [e_L_law_241, pX_ck, x', zci_ok, pM_ck, m', zci_ok, if_pos rfl], h⟩
theorem law_fault (xs : List Int) (hl : xs.length ≤ 3072) (hx : ∀ v ∈ xs, zw v = v) {g : Nat → Int → Int} (hI : Inv g) {k : Nat} (hk : k + 6 ≤ xs.length) : ∃ g2, zx zblk xs 0 254 [some (.inr (.inr (some 0))), some (.inr (.inr (some pX))), some (.inr (.inr (some pM))), some (.inl ((k : Int)))] [] (HH g) = zx zblk xs 0 1187 [some (.inr (.inr (some 0))), some (.inr (.inr (some pX))), some (.inr (.inr (some pM))), some (.inl ((k : Int)))] [] (HH g2) ∧ Inv g2 := by
  obtain ⟨v, g1, g2, x, m, h⟩ := op_fault xs hI
  have x' : zx zblk xs 137 0 [some (.inr (.inr (some pX)))] [] (HH g) = some (some (.inl v), HH g1) := x
  have m' : zx zblk xs 7 0 [some (.inr (.inr (some pM)))] [] (HH g1) = some (some (.inl v), HH g2) := m
  exact ⟨g2, by rw [e_L_law_254, pX_ck, x', zci_ok, pM_ck, m', zci_ok, if_pos rfl], h⟩
theorem law_code (xs : List Int) (hl : xs.length ≤ 3072) (hx : ∀ v ∈ xs, zw v = v) {g : Nat → Int → Int} (hI : Inv g) {k : Nat} (hk : k + 6 ≤ xs.length) : ∃ g2, zx zblk xs 0 267 [some (.inr (.inr (some 0))), some (.inr (.inr (some pX))), some (.inr (.inr (some pM))), some (.inl ((k : Int)))] [] (HH g) = zx zblk xs 0 1187 [some (.inr (.inr (some 0))), some (.inr (.inr (some pX))), some (.inr (.inr (some pM))), some (.inl ((k : Int)))] [] (HH g2) ∧ Inv g2 := by
  obtain ⟨v, g1, g2, x, m, h⟩ := op_code xs hI
  have x' : zx zblk xs 138 0 [some (.inr (.inr (some pX)))] [] (HH g) = some (some (.inl v), HH g1) := x
  have m' : zx zblk xs 8 0 [some (.inr (.inr (some pM)))] [] (HH g1) = some (some (.inl v), HH g2) := m
  exact ⟨g2, by rw [e_L_law_267, pX_ck, x', zci_ok, pM_ck, m', zci_ok, if_pos rfl], h⟩
theorem law_signal (xs : List Int) (hl : xs.length ≤ 3072) (hx : ∀ v ∈ xs, zw v = v) {g : Nat → Int → Int} (hI : Inv g) {k : Nat} (hk : k + 6 ≤ xs.length) : ∃ g2, zx zblk xs 0 280 [some (.inr (.inr (some 0))), some (.inr (.inr (some pX))), some (.inr (.inr (some pM))), some (.inl ((k : Int)))] [] (HH g) = zx zblk xs 0 1187 [some (.inr (.inr (some 0))), some (.inr (.inr (some pX))), some (.inr (.inr (some pM))), some (.inl ((k : Int)))] [] (HH g2) ∧ Inv g2 := by
  obtain ⟨v, g1, g2, x, m, h⟩ := op_signal xs hI (sc_zw hx (i := (k : Int) + 1) (by omega) (by omega)) (sc_zw hx (i := (k : Int) + 2) (by omega) (by omega)) (sc_zw hx (i := (k : Int) + 3) (by omega) (by omega)) (sc_zw hx (i := (k : Int) + 4) (by omega) (by omega))
  have x' : zx zblk xs 139 0 [some (.inr (.inr (some pX))), some (.inl ((sc xs ((k : Int) + 1)))), some (.inl ((sc xs ((k : Int) + 2)))), some (.inl ((sc xs ((k : Int) + 3)))), some (.inl ((sc xs ((k : Int) + 4))))] [] (HH g) = some (some (.inl v), HH g1) := x
  have m' : zx zblk xs 10 0 [some (.inr (.inr (some pM))), some (.inl ((sc xs ((k : Int) + 1)))), some (.inl ((sc xs ((k : Int) + 2)))), some (.inl ((sc xs ((k : Int) + 3)))), some (.inl ((sc xs ((k : Int) + 4))))] [] (HH g1) = some (some (.inl v), HH g2) := m
  exact ⟨g2, by rw [e_L_law_280, zai_s xs hl _ (i := (k : Int) + 1) (by omega) (by omega), zai_s xs hl _ (i := (k : Int) + 2) (by omega) (by omega), zai_s xs hl _ (i := (k : Int) + 3) (by omega) (by omega), zai_s xs hl _ (i := (k : Int) + 4) (by omega) (by omega), pX_ck, x', zci_ok, zai_s xs hl _ (i := (k : Int) + 1) (by omega) (by omega), zai_s xs hl _ (i := (k : Int) + 2) (by omega) (by omega), zai_s xs hl _ (i := (k : Int) + 3) (by omega) (by omega), zai_s xs hl _ (i := (k : Int) + 4) (by omega) (by omega), pM_ck, m', zci_ok, if_pos rfl], h⟩
theorem law_as (xs : List Int) (hl : xs.length ≤ 3072) (hx : ∀ v ∈ xs, zw v = v) {g : Nat → Int → Int} (hI : Inv g) {k : Nat} (hk : k + 6 ≤ xs.length) : ∃ g2, zx zblk xs 0 333 [some (.inr (.inr (some 0))), some (.inr (.inr (some pX))), some (.inr (.inr (some pM))), some (.inl ((k : Int)))] [] (HH g) = zx zblk xs 0 1187 [some (.inr (.inr (some 0))), some (.inr (.inr (some pX))), some (.inr (.inr (some pM))), some (.inl ((k : Int)))] [] (HH g2) ∧ Inv g2 := by
  obtain ⟨v, g1, g2, x, m, h⟩ := op_as xs hI (sc_zw hx (i := (k : Int) + 1) (by omega) (by omega)) (sc_zw hx (i := (k : Int) + 2) (by omega) (by omega))
  have x' : zx zblk xs 140 0 [some (.inr (.inr (some pX))), some (.inl ((sc xs ((k : Int) + 1)))), some (.inl ((sc xs ((k : Int) + 2))))] [] (HH g) = some (some (.inl v), HH g1) := x
  have m' : zx zblk xs 12 0 [some (.inr (.inr (some pM))), some (.inl ((sc xs ((k : Int) + 1)))), some (.inl ((sc xs ((k : Int) + 2))))] [] (HH g1) = some (some (.inl v), HH g2) := m
  exact ⟨g2, by rw [e_L_law_333, zai_s xs hl _ (i := (k : Int) + 1) (by omega) (by omega), zai_s xs hl _ (i := (k : Int) + 2) (by omega) (by omega), pX_ck, x', zci_ok, zai_s xs hl _ (i := (k : Int) + 1) (by omega) (by omega), zai_s xs hl _ (i := (k : Int) + 2) (by omega) (by omega), pM_ck, m', zci_ok, if_pos rfl], h⟩
theorem law_about (xs : List Int) (hl : xs.length ≤ 3072) (hx : ∀ v ∈ xs, zw v = v) {g : Nat → Int → Int} (hI : Inv g) {k : Nat} (hk : k + 6 ≤ xs.length) : ∃ g2, zx zblk xs 0 366 [some (.inr (.inr (some 0))), some (.inr (.inr (some pX))), some (.inr (.inr (some pM))), some (.inl ((k : Int)))] [] (HH g) = zx zblk xs 0 1187 [some (.inr (.inr (some 0))), some (.inr (.inr (some pX))), some (.inr (.inr (some pM))), some (.inl ((k : Int)))] [] (HH g2) ∧ Inv g2 := by
  obtain ⟨v, g1, g2, x, m, h⟩ := op_about xs hI (sc_zw hx (i := (k : Int) + 1) (by omega) (by omega)) (sc_zw hx (i := (k : Int) + 2) (by omega) (by omega))
  have x' : zx zblk xs 141 0 [some (.inr (.inr (some pX))), some (.inl ((sc xs ((k : Int) + 1)))), some (.inl ((sc xs ((k : Int) + 2))))] [] (HH g) = some (some (.inl v), HH g1) := x
  have m' : zx zblk xs 13 0 [some (.inr (.inr (some pM))), some (.inl ((sc xs ((k : Int) + 1)))), some (.inl ((sc xs ((k : Int) + 2))))] [] (HH g1) = some (some (.inl v), HH g2) := m
  exact ⟨g2, by rw [e_L_law_366, zai_s xs hl _ (i := (k : Int) + 1) (by omega) (by omega), zai_s xs hl _ (i := (k : Int) + 2) (by omega) (by omega), pX_ck, x', zci_ok, zai_s xs hl _ (i := (k : Int) + 1) (by omega) (by omega), zai_s xs hl _ (i := (k : Int) + 2) (by omega) (by omega), pM_ck, m', zci_ok, if_pos rfl], h⟩
theorem law_thing (xs : List Int) (hl : xs.length ≤ 3072) (hx : ∀ v ∈ xs, zw v = v) {g : Nat → Int → Int} (hI : Inv g) {k : Nat} (hk : k + 6 ≤ xs.length) : ∃ g2, zx zblk xs 0 399 [some (.inr (.inr (some 0))), some (.inr (.inr (some pX))), some (.inr (.inr (some pM))), some (.inl ((k : Int)))] [] (HH g) = zx zblk xs 0 1187 [some (.inr (.inr (some 0))), some (.inr (.inr (some pX))), some (.inr (.inr (some pM))), some (.inl ((k : Int)))] [] (HH g2) ∧ Inv g2 := by
  obtain ⟨v, g1, g2, x, m, h⟩ := op_thing xs hI (sc_zw hx (i := (k : Int) + 1) (by omega) (by omega))
  have x' : zx zblk xs 142 0 [some (.inr (.inr (some pX))), some (.inl ((sc xs ((k : Int) + 1))))] [] (HH g) = some (some (.inl v), HH g1) := x
  have m' : zx zblk xs 14 0 [some (.inr (.inr (some pM))), some (.inl ((sc xs ((k : Int) + 1))))] [] (HH g1) = some (some (.inl v), HH g2) := m
  exact ⟨g2, by rw [e_L_law_399, zai_s xs hl _ (i := (k : Int) + 1) (by omega) (by omega), pX_ck, x', zci_ok, zai_s xs hl _ (i := (k : Int) + 1) (by omega) (by omega), pM_ck, m', zci_ok, if_pos rfl], h⟩
theorem law_weigh (xs : List Int) (hl : xs.length ≤ 3072) (hx : ∀ v ∈ xs, zw v = v) {g : Nat → Int → Int} (hI : Inv g) {k : Nat} (hk : k + 6 ≤ xs.length) : ∃ g2, zx zblk xs 0 422 [some (.inr (.inr (some 0))), some (.inr (.inr (some pX))), some (.inr (.inr (some pM))), some (.inl ((k : Int)))] [] (HH g) = zx zblk xs 0 1187 [some (.inr (.inr (some 0))), some (.inr (.inr (some pX))), some (.inr (.inr (some pM))), some (.inl ((k : Int)))] [] (HH g2) ∧ Inv g2 := by
  obtain ⟨v, g1, g2, x, m, h⟩ := op_weigh xs hI (sc_zw hx (i := (k : Int) + 1) (by omega) (by omega)) (sc_zw hx (i := (k : Int) + 2) (by omega) (by omega))
  have x' : zx zblk xs 143 0 [some (.inr (.inr (some pX))), some (.inl ((sc xs ((k : Int) + 1)))), some (.inl ((sc xs ((k : Int) + 2))))] [] (HH g) = some (some (.inl v), HH g1) := x
  have m' : zx zblk xs 16 0 [some (.inr (.inr (some pM))), some (.inl ((sc xs ((k : Int) + 1)))), some (.inl ((sc xs ((k : Int) + 2))))] [] (HH g1) = some (some (.inl v), HH g2) := m
  exact ⟨g2, by rw [e_L_law_422, zai_s xs hl _ (i := (k : Int) + 1) (by omega) (by omega), zai_s xs hl _ (i := (k : Int) + 2) (by omega) (by omega), pX_ck, x', zci_ok, zai_s xs hl _ (i := (k : Int) + 1) (by omega) (by omega), zai_s xs hl _ (i := (k : Int) + 2) (by omega) (by omega), pM_ck, m', zci_ok, if_pos rfl], h⟩
theorem law_speech (xs : List Int) (hl : xs.length ≤ 3072) (hx : ∀ v ∈ xs, zw v = v) {g : Nat → Int → Int} (hI : Inv g) {k : Nat} (hk : k + 6 ≤ xs.length) : ∃ g2, zx zblk xs 0 455 [some (.inr (.inr (some 0))), some (.inr (.inr (some pX))), some (.inr (.inr (some pM))), some (.inl ((k : Int)))] [] (HH g) = zx zblk xs 0 1187 [some (.inr (.inr (some 0))), some (.inr (.inr (some pX))), some (.inr (.inr (some pM))), some (.inl ((k : Int)))] [] (HH g2) ∧ Inv g2 := by
  obtain ⟨v, g1, g2, x, m, h⟩ := op_speech xs hI (sc_zw hx (i := (k : Int) + 1) (by omega) (by omega)) (sc_zw hx (i := (k : Int) + 2) (by omega) (by omega)) (sc_zw hx (i := (k : Int) + 3) (by omega) (by omega))
  have x' : zx zblk xs 144 0 [some (.inr (.inr (some pX))), some (.inl ((sc xs ((k : Int) + 1)))), some (.inl ((sc xs ((k : Int) + 2)))), some (.inl ((sc xs ((k : Int) + 3))))] [] (HH g) = some (some (.inl v), HH g1) := x
  have m' : zx zblk xs 25 0 [some (.inr (.inr (some pM))), some (.inl ((sc xs ((k : Int) + 1)))), some (.inl ((sc xs ((k : Int) + 2)))), some (.inl ((sc xs ((k : Int) + 3))))] [] (HH g1) = some (some (.inl v), HH g2) := m
  exact ⟨g2, by rw [e_L_law_455, zai_s xs hl _ (i := (k : Int) + 1) (by omega) (by omega), zai_s xs hl _ (i := (k : Int) + 2) (by omega) (by omega), zai_s xs hl _ (i := (k : Int) + 3) (by omega) (by omega), pX_ck, x', zci_ok, zai_s xs hl _ (i := (k : Int) + 1) (by omega) (by omega), zai_s xs hl _ (i := (k : Int) + 2) (by omega) (by omega), zai_s xs hl _ (i := (k : Int) + 3) (by omega) (by omega), pM_ck, m', zci_ok, if_pos rfl], h⟩
theorem law_means (xs : List Int) (hl : xs.length ≤ 3072) (hx : ∀ v ∈ xs, zw v = v) {g : Nat → Int → Int} (hI : Inv g) {k : Nat} (hk : k + 6 ≤ xs.length) : ∃ g2, zx zblk xs 0 498 [some (.inr (.inr (some 0))), some (.inr (.inr (some pX))), some (.inr (.inr (some pM))), some (.inl ((k : Int)))] [] (HH g) = zx zblk xs 0 1187 [some (.inr (.inr (some 0))), some (.inr (.inr (some pX))), some (.inr (.inr (some pM))), some (.inl ((k : Int)))] [] (HH g2) ∧ Inv g2 := by
  obtain ⟨v, g1, g2, x, m, h⟩ := op_means xs hI (sc_zw hx (i := (k : Int) + 1) (by omega) (by omega))
  have x' : zx zblk xs 145 0 [some (.inr (.inr (some pX))), some (.inl ((sc xs ((k : Int) + 1))))] [] (HH g) = some (some (.inl v), HH g1) := x
  have m' : zx zblk xs 31 0 [some (.inr (.inr (some pM))), some (.inl ((sc xs ((k : Int) + 1))))] [] (HH g1) = some (some (.inl v), HH g2) := m
  exact ⟨g2, by rw [e_L_law_498, zai_s xs hl _ (i := (k : Int) + 1) (by omega) (by omega), pX_ck, x', zci_ok, zai_s xs hl _ (i := (k : Int) + 1) (by omega) (by omega), pM_ck, m', zci_ok, if_pos rfl], h⟩
theorem law_clear (xs : List Int) (hl : xs.length ≤ 3072) (hx : ∀ v ∈ xs, zw v = v) {g : Nat → Int → Int} (hI : Inv g) {k : Nat} (hk : k + 6 ≤ xs.length) : ∃ g2, zx zblk xs 0 521 [some (.inr (.inr (some 0))), some (.inr (.inr (some pX))), some (.inr (.inr (some pM))), some (.inl ((k : Int)))] [] (HH g) = zx zblk xs 0 1187 [some (.inr (.inr (some 0))), some (.inr (.inr (some pX))), some (.inr (.inr (some pM))), some (.inl ((k : Int)))] [] (HH g2) ∧ Inv g2 := by
  obtain ⟨v, g1, g2, x, m, h⟩ := op_clear xs hI (sc_zw hx (i := (k : Int) + 1) (by omega) (by omega)) (sc_zw hx (i := (k : Int) + 2) (by omega) (by omega))
  have x' : zx zblk xs 146 0 [some (.inr (.inr (some pX))), some (.inl ((sc xs ((k : Int) + 1)))), some (.inl ((sc xs ((k : Int) + 2))))] [] (HH g) = some (some (.inl v), HH g1) := x
  have m' : zx zblk xs 33 0 [some (.inr (.inr (some pM))), some (.inl ((sc xs ((k : Int) + 1)))), some (.inl ((sc xs ((k : Int) + 2))))] [] (HH g1) = some (some (.inl v), HH g2) := m
  exact ⟨g2, by rw [e_L_law_521, zai_s xs hl _ (i := (k : Int) + 1) (by omega) (by omega), zai_s xs hl _ (i := (k : Int) + 2) (by omega) (by omega), pX_ck, x', zci_ok, zai_s xs hl _ (i := (k : Int) + 1) (by omega) (by omega), zai_s xs hl _ (i := (k : Int) + 2) (by omega) (by omega), pM_ck, m', zci_ok, if_pos rfl], h⟩
theorem law_starts (xs : List Int) (hl : xs.length ≤ 3072) (hx : ∀ v ∈ xs, zw v = v) {g : Nat → Int → Int} (hI : Inv g) {k : Nat} (hk : k + 6 ≤ xs.length) : ∃ g2, zx zblk xs 0 554 [some (.inr (.inr (some 0))), some (.inr (.inr (some pX))), some (.inr (.inr (some pM))), some (.inl ((k : Int)))] [] (HH g) = zx zblk xs 0 1187 [some (.inr (.inr (some 0))), some (.inr (.inr (some pX))), some (.inr (.inr (some pM))), some (.inl ((k : Int)))] [] (HH g2) ∧ Inv g2 := by
  obtain ⟨v, g1, g2, x, m, h⟩ := op_starts xs hI (sc_zw hx (i := (k : Int) + 1) (by omega) (by omega)) (sc_zw hx (i := (k : Int) + 2) (by omega) (by omega))
  have x' : zx zblk xs 147 0 [some (.inr (.inr (some pX))), some (.inl ((sc xs ((k : Int) + 1)))), some (.inl ((sc xs ((k : Int) + 2))))] [] (HH g) = some (some (.inl v), HH g1) := x
  have m' : zx zblk xs 34 0 [some (.inr (.inr (some pM))), some (.inl ((sc xs ((k : Int) + 1)))), some (.inl ((sc xs ((k : Int) + 2))))] [] (HH g1) = some (some (.inl v), HH g2) := m
  exact ⟨g2, by rw [e_L_law_554, zai_s xs hl _ (i := (k : Int) + 1) (by omega) (by omega), zai_s xs hl _ (i := (k : Int) + 2) (by omega) (by omega), pX_ck, x', zci_ok, zai_s xs hl _ (i := (k : Int) + 1) (by omega) (by omega), zai_s xs hl _ (i := (k : Int) + 2) (by omega) (by omega), pM_ck, m', zci_ok, if_pos rfl], h⟩
theorem law_twice (xs : List Int) (hl : xs.length ≤ 3072) (hx : ∀ v ∈ xs, zw v = v) {g : Nat → Int → Int} (hI : Inv g) {k : Nat} (hk : k + 6 ≤ xs.length) : ∃ g2, zx zblk xs 0 587 [some (.inr (.inr (some 0))), some (.inr (.inr (some pX))), some (.inr (.inr (some pM))), some (.inl ((k : Int)))] [] (HH g) = zx zblk xs 0 1187 [some (.inr (.inr (some 0))), some (.inr (.inr (some pX))), some (.inr (.inr (some pM))), some (.inl ((k : Int)))] [] (HH g2) ∧ Inv g2 := by
  obtain ⟨v, g1, g2, x, m, h⟩ := op_twice xs hI (sc_zw hx (i := (k : Int) + 1) (by omega) (by omega))
  have x' : zx zblk xs 148 0 [some (.inr (.inr (some pX))), some (.inl ((sc xs ((k : Int) + 1))))] [] (HH g) = some (some (.inl v), HH g1) := x
  have m' : zx zblk xs 39 0 [some (.inr (.inr (some pM))), some (.inl ((sc xs ((k : Int) + 1))))] [] (HH g1) = some (some (.inl v), HH g2) := m
  exact ⟨g2, by rw [e_L_law_587, zai_s xs hl _ (i := (k : Int) + 1) (by omega) (by omega), pX_ck, x', zci_ok, zai_s xs hl _ (i := (k : Int) + 1) (by omega) (by omega), pM_ck, m', zci_ok, if_pos rfl], h⟩
theorem law_mean (xs : List Int) (hl : xs.length ≤ 3072) (hx : ∀ v ∈ xs, zw v = v) {g : Nat → Int → Int} (hI : Inv g) {k : Nat} (hk : k + 6 ≤ xs.length) : ∃ g2, zx zblk xs 0 610 [some (.inr (.inr (some 0))), some (.inr (.inr (some pX))), some (.inr (.inr (some pM))), some (.inl ((k : Int)))] [] (HH g) = zx zblk xs 0 1187 [some (.inr (.inr (some 0))), some (.inr (.inr (some pX))), some (.inr (.inr (some pM))), some (.inl ((k : Int)))] [] (HH g2) ∧ Inv g2 := by
  obtain ⟨v, g1, g2, x, m, h⟩ := op_mean xs hI (sc_zw hx (i := (k : Int) + 1) (by omega) (by omega)) (sc_zw hx (i := (k : Int) + 2) (by omega) (by omega))
  have x' : zx zblk xs 149 0 [some (.inr (.inr (some pX))), some (.inl ((sc xs ((k : Int) + 1)))), some (.inl ((sc xs ((k : Int) + 2))))] [] (HH g) = some (some (.inl v), HH g1) := x
  have m' : zx zblk xs 45 0 [some (.inr (.inr (some pM))), some (.inl ((sc xs ((k : Int) + 1)))), some (.inl ((sc xs ((k : Int) + 2))))] [] (HH g1) = some (some (.inl v), HH g2) := m
  exact ⟨g2, by rw [e_L_law_610, zai_s xs hl _ (i := (k : Int) + 1) (by omega) (by omega), zai_s xs hl _ (i := (k : Int) + 2) (by omega) (by omega), pX_ck, x', zci_ok, zai_s xs hl _ (i := (k : Int) + 1) (by omega) (by omega), zai_s xs hl _ (i := (k : Int) + 2) (by omega) (by omega), pM_ck, m', zci_ok, if_pos rfl], h⟩
theorem law_oddness (xs : List Int) (hl : xs.length ≤ 3072) (hx : ∀ v ∈ xs, zw v = v) {g : Nat → Int → Int} (hI : Inv g) {k : Nat} (hk : k + 6 ≤ xs.length) : ∃ g2, zx zblk xs 0 643 [some (.inr (.inr (some 0))), some (.inr (.inr (some pX))), some (.inr (.inr (some pM))), some (.inl ((k : Int)))] [] (HH g) = zx zblk xs 0 1187 [some (.inr (.inr (some 0))), some (.inr (.inr (some pX))), some (.inr (.inr (some pM))), some (.inl ((k : Int)))] [] (HH g2) ∧ Inv g2 := by
  obtain ⟨v, g1, g2, x, m, h⟩ := op_oddness xs hI (sc_zw hx (i := (k : Int) + 1) (by omega) (by omega))
  have x' : zx zblk xs 150 0 [some (.inr (.inr (some pX))), some (.inl ((sc xs ((k : Int) + 1))))] [] (HH g) = some (some (.inl v), HH g1) := x
  have m' : zx zblk xs 47 0 [some (.inr (.inr (some pM))), some (.inl ((sc xs ((k : Int) + 1))))] [] (HH g1) = some (some (.inl v), HH g2) := m
  exact ⟨g2, by rw [e_L_law_643, zai_s xs hl _ (i := (k : Int) + 1) (by omega) (by omega), pX_ck, x', zci_ok, zai_s xs hl _ (i := (k : Int) + 1) (by omega) (by omega), pM_ck, m', zci_ok, if_pos rfl], h⟩
theorem law_dealt (xs : List Int) (hl : xs.length ≤ 3072) (hx : ∀ v ∈ xs, zw v = v) {g : Nat → Int → Int} (hI : Inv g) {k : Nat} (hk : k + 6 ≤ xs.length) : ∃ g2, zx zblk xs 0 666 [some (.inr (.inr (some 0))), some (.inr (.inr (some pX))), some (.inr (.inr (some pM))), some (.inl ((k : Int)))] [] (HH g) = zx zblk xs 0 1187 [some (.inr (.inr (some 0))), some (.inr (.inr (some pX))), some (.inr (.inr (some pM))), some (.inl ((k : Int)))] [] (HH g2) ∧ Inv g2 := by
  obtain ⟨v, g1, g2, x, m, h⟩ := op_dealt xs hI (sc_zw hx (i := (k : Int) + 1) (by omega) (by omega)) (sc_zw hx (i := (k : Int) + 2) (by omega) (by omega))
  have x' : zx zblk xs 151 0 [some (.inr (.inr (some pX))), some (.inl ((sc xs ((k : Int) + 1)))), some (.inl ((sc xs ((k : Int) + 2))))] [] (HH g) = some (some (.inl v), HH g1) := x
  have m' : zx zblk xs 50 0 [some (.inr (.inr (some pM))), some (.inl ((sc xs ((k : Int) + 1)))), some (.inl ((sc xs ((k : Int) + 2))))] [] (HH g1) = some (some (.inl v), HH g2) := m
  exact ⟨g2, by rw [e_L_law_666, zai_s xs hl _ (i := (k : Int) + 1) (by omega) (by omega), zai_s xs hl _ (i := (k : Int) + 2) (by omega) (by omega), pX_ck, x', zci_ok, zai_s xs hl _ (i := (k : Int) + 1) (by omega) (by omega), zai_s xs hl _ (i := (k : Int) + 2) (by omega) (by omega), pM_ck, m', zci_ok, if_pos rfl], h⟩
theorem law_shortest (xs : List Int) (hl : xs.length ≤ 3072) (hx : ∀ v ∈ xs, zw v = v) {g : Nat → Int → Int} (hI : Inv g) {k : Nat} (hk : k + 6 ≤ xs.length) : ∃ g2, zx zblk xs 0 699 [some (.inr (.inr (some 0))), some (.inr (.inr (some pX))), some (.inr (.inr (some pM))), some (.inl ((k : Int)))] [] (HH g) = zx zblk xs 0 1187 [some (.inr (.inr (some 0))), some (.inr (.inr (some pX))), some (.inr (.inr (some pM))), some (.inl ((k : Int)))] [] (HH g2) ∧ Inv g2 := by
  obtain ⟨v, g1, g2, x, m, h⟩ := op_shortest xs hI (sc_zw hx (i := (k : Int) + 1) (by omega) (by omega)) (sc_zw hx (i := (k : Int) + 2) (by omega) (by omega))
  have x' : zx zblk xs 152 0 [some (.inr (.inr (some pX))), some (.inl ((sc xs ((k : Int) + 1)))), some (.inl ((sc xs ((k : Int) + 2))))] [] (HH g) = some (some (.inl v), HH g1) := x
  have m' : zx zblk xs 53 0 [some (.inr (.inr (some pM))), some (.inl ((sc xs ((k : Int) + 1)))), some (.inl ((sc xs ((k : Int) + 2))))] [] (HH g1) = some (some (.inl v), HH g2) := m
  exact ⟨g2, by rw [e_L_law_699, zai_s xs hl _ (i := (k : Int) + 1) (by omega) (by omega), zai_s xs hl _ (i := (k : Int) + 2) (by omega) (by omega), pX_ck, x', zci_ok, zai_s xs hl _ (i := (k : Int) + 1) (by omega) (by omega), zai_s xs hl _ (i := (k : Int) + 2) (by omega) (by omega), pM_ck, m', zci_ok, if_pos rfl], h⟩
theorem law_apart (xs : List Int) (hl : xs.length ≤ 3072) (hx : ∀ v ∈ xs, zw v = v) {g : Nat → Int → Int} (hI : Inv g) {k : Nat} (hk : k + 6 ≤ xs.length) : ∃ g2, zx zblk xs 0 732 [some (.inr (.inr (some 0))), some (.inr (.inr (some pX))), some (.inr (.inr (some pM))), some (.inl ((k : Int)))] [] (HH g) = zx zblk xs 0 1187 [some (.inr (.inr (some 0))), some (.inr (.inr (some pX))), some (.inr (.inr (some pM))), some (.inl ((k : Int)))] [] (HH g2) ∧ Inv g2 := by
  obtain ⟨v, g1, g2, x, m, h⟩ := op_apart xs hI (sc_zw hx (i := (k : Int) + 1) (by omega) (by omega))
  have x' : zx zblk xs 153 0 [some (.inr (.inr (some pX))), some (.inl ((sc xs ((k : Int) + 1))))] [] (HH g) = some (some (.inl v), HH g1) := x
  have m' : zx zblk xs 55 0 [some (.inr (.inr (some pM))), some (.inl ((sc xs ((k : Int) + 1))))] [] (HH g1) = some (some (.inl v), HH g2) := m
  exact ⟨g2, by rw [e_L_law_732, zai_s xs hl _ (i := (k : Int) + 1) (by omega) (by omega), pX_ck, x', zci_ok, zai_s xs hl _ (i := (k : Int) + 1) (by omega) (by omega), pM_ck, m', zci_ok, if_pos rfl], h⟩
theorem law_named (xs : List Int) (hl : xs.length ≤ 3072) (hx : ∀ v ∈ xs, zw v = v) {g : Nat → Int → Int} (hI : Inv g) {k : Nat} (hk : k + 6 ≤ xs.length) : ∃ g2, zx zblk xs 0 755 [some (.inr (.inr (some 0))), some (.inr (.inr (some pX))), some (.inr (.inr (some pM))), some (.inl ((k : Int)))] [] (HH g) = zx zblk xs 0 1187 [some (.inr (.inr (some 0))), some (.inr (.inr (some pX))), some (.inr (.inr (some pM))), some (.inl ((k : Int)))] [] (HH g2) ∧ Inv g2 := by
  obtain ⟨v, g1, g2, x, m, h⟩ := op_named xs hI (sc_zw hx (i := (k : Int) + 1) (by omega) (by omega))
  have x' : zx zblk xs 154 0 [some (.inr (.inr (some pX))), some (.inl ((sc xs ((k : Int) + 1))))] [] (HH g) = some (some (.inl v), HH g1) := x
  have m' : zx zblk xs 56 0 [some (.inr (.inr (some pM))), some (.inl ((sc xs ((k : Int) + 1))))] [] (HH g1) = some (some (.inl v), HH g2) := m
  exact ⟨g2, by rw [e_L_law_755, zai_s xs hl _ (i := (k : Int) + 1) (by omega) (by omega), pX_ck, x', zci_ok, zai_s xs hl _ (i := (k : Int) + 1) (by omega) (by omega), pM_ck, m', zci_ok, if_pos rfl], h⟩
theorem law_right (xs : List Int) (hl : xs.length ≤ 3072) (hx : ∀ v ∈ xs, zw v = v) {g : Nat → Int → Int} (hI : Inv g) {k : Nat} (hk : k + 6 ≤ xs.length) : ∃ g2, zx zblk xs 0 778 [some (.inr (.inr (some 0))), some (.inr (.inr (some pX))), some (.inr (.inr (some pM))), some (.inl ((k : Int)))] [] (HH g) = zx zblk xs 0 1187 [some (.inr (.inr (some 0))), some (.inr (.inr (some pX))), some (.inr (.inr (some pM))), some (.inl ((k : Int)))] [] (HH g2) ∧ Inv g2 := by
  obtain ⟨v, g1, g2, x, m, h⟩ := op_right xs hI (sc_zw hx (i := (k : Int) + 1) (by omega) (by omega)) (sc_zw hx (i := (k : Int) + 2) (by omega) (by omega)) (sc_zw hx (i := (k : Int) + 3) (by omega) (by omega)) (sc_zw hx (i := (k : Int) + 4) (by omega) (by omega)) (sc_zw hx (i := (k : Int) + 5) (by omega) (by omega))
  have x' : zx zblk xs 155 0 [some (.inr (.inr (some pX))), some (.inl ((sc xs ((k : Int) + 1)))), some (.inl ((sc xs ((k : Int) + 2)))), some (.inl ((sc xs ((k : Int) + 3)))), some (.inl ((sc xs ((k : Int) + 4)))), some (.inl ((sc xs ((k : Int) + 5))))] [] (HH g) = some (some (.inr (.inl v)), HH g1) := x
  have m' : zx zblk xs 58 0 [some (.inr (.inr (some pM))), some (.inl ((sc xs ((k : Int) + 1)))), some (.inl ((sc xs ((k : Int) + 2)))), some (.inl ((sc xs ((k : Int) + 3)))), some (.inl ((sc xs ((k : Int) + 4)))), some (.inl ((sc xs ((k : Int) + 5))))] [] (HH g1) = some (some (.inr (.inl v)), HH g2) := m
  exact ⟨g2, by rw [e_L_law_778, zai_s xs hl _ (i := (k : Int) + 1) (by omega) (by omega), zai_s xs hl _ (i := (k : Int) + 2) (by omega) (by omega), zai_s xs hl _ (i := (k : Int) + 3) (by omega) (by omega), zai_s xs hl _ (i := (k : Int) + 4) (by omega) (by omega), zai_s xs hl _ (i := (k : Int) + 5) (by omega) (by omega), pX_ck, x', zcl_ok', zai_s xs hl _ (i := (k : Int) + 1) (by omega) (by omega), zai_s xs hl _ (i := (k : Int) + 2) (by omega) (by omega), zai_s xs hl _ (i := (k : Int) + 3) (by omega) (by omega), zai_s xs hl _ (i := (k : Int) + 4) (by omega) (by omega), zai_s xs hl _ (i := (k : Int) + 5) (by omega) (by omega), pM_ck, m', zcl_ok', if_pos (zcmp_self v)], h⟩
theorem law_note (xs : List Int) (hl : xs.length ≤ 3072) (hx : ∀ v ∈ xs, zw v = v) {g : Nat → Int → Int} (hI : Inv g) {k : Nat} (hk : k + 6 ≤ xs.length) : ∃ g2, zx zblk xs 0 842 [some (.inr (.inr (some 0))), some (.inr (.inr (some pX))), some (.inr (.inr (some pM))), some (.inl ((k : Int)))] [] (HH g) = zx zblk xs 0 1187 [some (.inr (.inr (some 0))), some (.inr (.inr (some pX))), some (.inr (.inr (some pM))), some (.inl ((k : Int)))] [] (HH g2) ∧ Inv g2 := by
  obtain ⟨v, g1, g2, x, m, h⟩ := op_note xs hI (sc_zw hx (i := (k : Int) + 1) (by omega) (by omega))
  have x' : zx zblk xs 156 0 [some (.inr (.inr (some pX))), some (.inl ((sc xs ((k : Int) + 1))))] [] (HH g) = some (some (.inl v), HH g1) := x
  have m' : zx zblk xs 59 0 [some (.inr (.inr (some pM))), some (.inl ((sc xs ((k : Int) + 1))))] [] (HH g1) = some (some (.inl v), HH g2) := m
  exact ⟨g2, by rw [e_L_law_842, zai_s xs hl _ (i := (k : Int) + 1) (by omega) (by omega), pX_ck, x', zci_ok, zai_s xs hl _ (i := (k : Int) + 1) (by omega) (by omega), pM_ck, m', zci_ok, if_pos rfl], h⟩
theorem law_forget (xs : List Int) (hl : xs.length ≤ 3072) (hx : ∀ v ∈ xs, zw v = v) {g : Nat → Int → Int} (hI : Inv g) {k : Nat} (hk : k + 6 ≤ xs.length) : ∃ g2, zx zblk xs 0 865 [some (.inr (.inr (some 0))), some (.inr (.inr (some pX))), some (.inr (.inr (some pM))), some (.inl ((k : Int)))] [] (HH g) = zx zblk xs 0 1187 [some (.inr (.inr (some 0))), some (.inr (.inr (some pX))), some (.inr (.inr (some pM))), some (.inl ((k : Int)))] [] (HH g2) ∧ Inv g2 := by
  obtain ⟨v, g1, g2, x, m, h⟩ := op_forget xs hI
  have x' : zx zblk xs 157 0 [some (.inr (.inr (some pX)))] [] (HH g) = some (some (.inl v), HH g1) := x
  have m' : zx zblk xs 60 0 [some (.inr (.inr (some pM)))] [] (HH g1) = some (some (.inl v), HH g2) := m
  exact ⟨g2, by rw [e_L_law_865, pX_ck, x', zci_ok, pM_ck, m', zci_ok, if_pos rfl], h⟩
theorem law_which (xs : List Int) (hl : xs.length ≤ 3072) (hx : ∀ v ∈ xs, zw v = v) {g : Nat → Int → Int} (hI : Inv g) {k : Nat} (hk : k + 6 ≤ xs.length) : ∃ g2, zx zblk xs 0 878 [some (.inr (.inr (some 0))), some (.inr (.inr (some pX))), some (.inr (.inr (some pM))), some (.inl ((k : Int)))] [] (HH g) = zx zblk xs 0 1187 [some (.inr (.inr (some 0))), some (.inr (.inr (some pX))), some (.inr (.inr (some pM))), some (.inl ((k : Int)))] [] (HH g2) ∧ Inv g2 := by
  obtain ⟨v, g1, g2, x, m, h⟩ := op_which xs hI
  have x' : zx zblk xs 158 0 [some (.inr (.inr (some pX)))] [] (HH g) = some (some (.inl v), HH g1) := x
  have m' : zx zblk xs 63 0 [some (.inr (.inr (some pM)))] [] (HH g1) = some (some (.inl v), HH g2) := m
  exact ⟨g2, by rw [e_L_law_878, pX_ck, x', zci_ok, pM_ck, m', zci_ok, if_pos rfl], h⟩
theorem law_step (xs : List Int) (hl : xs.length ≤ 3072) (hx : ∀ v ∈ xs, zw v = v) {g : Nat → Int → Int} (hI : Inv g) {k : Nat} (hk : k + 6 ≤ xs.length) : ∃ g2, zx zblk xs 0 891 [some (.inr (.inr (some 0))), some (.inr (.inr (some pX))), some (.inr (.inr (some pM))), some (.inl ((k : Int)))] [] (HH g) = zx zblk xs 0 1187 [some (.inr (.inr (some 0))), some (.inr (.inr (some pX))), some (.inr (.inr (some pM))), some (.inl ((k : Int)))] [] (HH g2) ∧ Inv g2 := by
  obtain ⟨v, g1, g2, x, m, h⟩ := op_step xs hI (sc_zw hx (i := (k : Int) + 1) (by omega) (by omega)) (sc_zw hx (i := (k : Int) + 2) (by omega) (by omega))
  have x' : zx zblk xs 159 0 [some (.inr (.inr (some pX))), some (.inl ((sc xs ((k : Int) + 1)))), some (.inl ((sc xs ((k : Int) + 2))))] [] (HH g) = some (some (.inl v), HH g1) := x
  have m' : zx zblk xs 64 0 [some (.inr (.inr (some pM))), some (.inl ((sc xs ((k : Int) + 1)))), some (.inl ((sc xs ((k : Int) + 2))))] [] (HH g1) = some (some (.inl v), HH g2) := m
  exact ⟨g2, by rw [e_L_law_891, zai_s xs hl _ (i := (k : Int) + 1) (by omega) (by omega), zai_s xs hl _ (i := (k : Int) + 2) (by omega) (by omega), pX_ck, x', zci_ok, zai_s xs hl _ (i := (k : Int) + 1) (by omega) (by omega), zai_s xs hl _ (i := (k : Int) + 2) (by omega) (by omega), pM_ck, m', zci_ok, if_pos rfl], h⟩
theorem law_seen (xs : List Int) (hl : xs.length ≤ 3072) (hx : ∀ v ∈ xs, zw v = v) {g : Nat → Int → Int} (hI : Inv g) {k : Nat} (hk : k + 6 ≤ xs.length) : ∃ g2, zx zblk xs 0 924 [some (.inr (.inr (some 0))), some (.inr (.inr (some pX))), some (.inr (.inr (some pM))), some (.inl ((k : Int)))] [] (HH g) = zx zblk xs 0 1187 [some (.inr (.inr (some 0))), some (.inr (.inr (some pX))), some (.inr (.inr (some pM))), some (.inl ((k : Int)))] [] (HH g2) ∧ Inv g2 := by
  obtain ⟨v, g1, g2, x, m, h⟩ := op_seen xs hI (sc_zw hx (i := (k : Int) + 1) (by omega) (by omega)) (sc_zw hx (i := (k : Int) + 2) (by omega) (by omega))
  have x' : zx zblk xs 160 0 [some (.inr (.inr (some pX))), some (.inl ((sc xs ((k : Int) + 1)))), some (.inl ((sc xs ((k : Int) + 2))))] [] (HH g) = some (some (.inr (.inl v)), HH g1) := x
  have m' : zx zblk xs 65 0 [some (.inr (.inr (some pM))), some (.inl ((sc xs ((k : Int) + 1)))), some (.inl ((sc xs ((k : Int) + 2))))] [] (HH g1) = some (some (.inr (.inl v)), HH g2) := m
  exact ⟨g2, by rw [e_L_law_924, zai_s xs hl _ (i := (k : Int) + 1) (by omega) (by omega), zai_s xs hl _ (i := (k : Int) + 2) (by omega) (by omega), pX_ck, x', zcl_ok', zai_s xs hl _ (i := (k : Int) + 1) (by omega) (by omega), zai_s xs hl _ (i := (k : Int) + 2) (by omega) (by omega), pM_ck, m', zcl_ok', if_pos (zcmp_self v)], h⟩
theorem law_change (xs : List Int) (hl : xs.length ≤ 3072) (hx : ∀ v ∈ xs, zw v = v) {g : Nat → Int → Int} (hI : Inv g) {k : Nat} (hk : k + 6 ≤ xs.length) : ∃ g2, zx zblk xs 0 958 [some (.inr (.inr (some 0))), some (.inr (.inr (some pX))), some (.inr (.inr (some pM))), some (.inl ((k : Int)))] [] (HH g) = zx zblk xs 0 1187 [some (.inr (.inr (some 0))), some (.inr (.inr (some pX))), some (.inr (.inr (some pM))), some (.inl ((k : Int)))] [] (HH g2) ∧ Inv g2 := by
  obtain ⟨v, g1, g2, x, m, h⟩ := op_change xs hI (sc_zw hx (i := (k : Int) + 1) (by omega) (by omega)) (sc_zw hx (i := (k : Int) + 2) (by omega) (by omega))
  have x' : zx zblk xs 161 0 [some (.inr (.inr (some pX))), some (.inl ((sc xs ((k : Int) + 1)))), some (.inl ((sc xs ((k : Int) + 2))))] [] (HH g) = some (some (.inl v), HH g1) := x
  have m' : zx zblk xs 68 0 [some (.inr (.inr (some pM))), some (.inl ((sc xs ((k : Int) + 1)))), some (.inl ((sc xs ((k : Int) + 2))))] [] (HH g1) = some (some (.inl v), HH g2) := m
  exact ⟨g2, by rw [e_L_law_958, zai_s xs hl _ (i := (k : Int) + 1) (by omega) (by omega), zai_s xs hl _ (i := (k : Int) + 2) (by omega) (by omega), pX_ck, x', zci_ok, zai_s xs hl _ (i := (k : Int) + 1) (by omega) (by omega), zai_s xs hl _ (i := (k : Int) + 2) (by omega) (by omega), pM_ck, m', zci_ok, if_pos rfl], h⟩
theorem law_cheapest (xs : List Int) (hl : xs.length ≤ 3072) (hx : ∀ v ∈ xs, zw v = v) {g : Nat → Int → Int} (hI : Inv g) {k : Nat} (hk : k + 6 ≤ xs.length) : ∃ g2, zx zblk xs 0 991 [some (.inr (.inr (some 0))), some (.inr (.inr (some pX))), some (.inr (.inr (some pM))), some (.inl ((k : Int)))] [] (HH g) = zx zblk xs 0 1187 [some (.inr (.inr (some 0))), some (.inr (.inr (some pX))), some (.inr (.inr (some pM))), some (.inl ((k : Int)))] [] (HH g2) ∧ Inv g2 := by
  obtain ⟨v, g1, g2, x, m, h⟩ := op_cheapest xs hI (sc_zw hx (i := (k : Int) + 1) (by omega) (by omega))
  have x' : zx zblk xs 162 0 [some (.inr (.inr (some pX))), some (.inl ((sc xs ((k : Int) + 1))))] [] (HH g) = some (some (.inl v), HH g1) := x
  have m' : zx zblk xs 69 0 [some (.inr (.inr (some pM))), some (.inl ((sc xs ((k : Int) + 1))))] [] (HH g1) = some (some (.inl v), HH g2) := m
  exact ⟨g2, by rw [e_L_law_991, zai_s xs hl _ (i := (k : Int) + 1) (by omega) (by omega), pX_ck, x', zci_ok, zai_s xs hl _ (i := (k : Int) + 1) (by omega) (by omega), pM_ck, m', zci_ok, if_pos rfl], h⟩
theorem law_luck (xs : List Int) (hl : xs.length ≤ 3072) (hx : ∀ v ∈ xs, zw v = v) {g : Nat → Int → Int} (hI : Inv g) {k : Nat} (hk : k + 6 ≤ xs.length) : ∃ g2, zx zblk xs 0 1014 [some (.inr (.inr (some 0))), some (.inr (.inr (some pX))), some (.inr (.inr (some pM))), some (.inl ((k : Int)))] [] (HH g) = zx zblk xs 0 1187 [some (.inr (.inr (some 0))), some (.inr (.inr (some pX))), some (.inr (.inr (some pM))), some (.inl ((k : Int)))] [] (HH g2) ∧ Inv g2 := by
  obtain ⟨v, g1, g2, x, m, h⟩ := op_luck xs hI (sc_zw hx (i := (k : Int) + 1) (by omega) (by omega)) (sc_zw hx (i := (k : Int) + 2) (by omega) (by omega)) (sc_zw hx (i := (k : Int) + 3) (by omega) (by omega)) (sc_zw hx (i := (k : Int) + 4) (by omega) (by omega))
  have x' : zx zblk xs 163 0 [some (.inr (.inr (some pX))), some (.inl ((sc xs ((k : Int) + 1)))), some (.inl ((sc xs ((k : Int) + 2)))), some (.inl ((sc xs ((k : Int) + 3)))), some (.inl ((sc xs ((k : Int) + 4))))] [] (HH g) = some (some (.inr (.inl v)), HH g1) := x
  have m' : zx zblk xs 70 0 [some (.inr (.inr (some pM))), some (.inl ((sc xs ((k : Int) + 1)))), some (.inl ((sc xs ((k : Int) + 2)))), some (.inl ((sc xs ((k : Int) + 3)))), some (.inl ((sc xs ((k : Int) + 4))))] [] (HH g1) = some (some (.inr (.inl v)), HH g2) := m
  exact ⟨g2, by rw [e_L_law_1014, zai_s xs hl _ (i := (k : Int) + 1) (by omega) (by omega), zai_s xs hl _ (i := (k : Int) + 2) (by omega) (by omega), zai_s xs hl _ (i := (k : Int) + 3) (by omega) (by omega), zai_s xs hl _ (i := (k : Int) + 4) (by omega) (by omega), pX_ck, x', zcl_ok', zai_s xs hl _ (i := (k : Int) + 1) (by omega) (by omega), zai_s xs hl _ (i := (k : Int) + 2) (by omega) (by omega), zai_s xs hl _ (i := (k : Int) + 3) (by omega) (by omega), zai_s xs hl _ (i := (k : Int) + 4) (by omega) (by omega), pM_ck, m', zcl_ok', if_pos (zcmp_self v)], h⟩
theorem law_left (xs : List Int) (hl : xs.length ≤ 3072) (hx : ∀ v ∈ xs, zw v = v) {g : Nat → Int → Int} (hI : Inv g) {k : Nat} (hk : k + 6 ≤ xs.length) : ∃ g2, zx zblk xs 0 1068 [some (.inr (.inr (some 0))), some (.inr (.inr (some pX))), some (.inr (.inr (some pM))), some (.inl ((k : Int)))] [] (HH g) = zx zblk xs 0 1187 [some (.inr (.inr (some 0))), some (.inr (.inr (some pX))), some (.inr (.inr (some pM))), some (.inl ((k : Int)))] [] (HH g2) ∧ Inv g2 := by
  obtain ⟨v, g1, g2, x, m, h⟩ := op_left xs hI (sc_zw hx (i := (k : Int) + 1) (by omega) (by omega)) (sc_zw hx (i := (k : Int) + 2) (by omega) (by omega))
  have x' : zx zblk xs 164 0 [some (.inr (.inr (some pX))), some (.inl ((sc xs ((k : Int) + 1)))), some (.inl ((sc xs ((k : Int) + 2))))] [] (HH g) = some (some (.inl v), HH g1) := x
  have m' : zx zblk xs 72 0 [some (.inr (.inr (some pM))), some (.inl ((sc xs ((k : Int) + 1)))), some (.inl ((sc xs ((k : Int) + 2))))] [] (HH g1) = some (some (.inl v), HH g2) := m
  exact ⟨g2, by rw [e_L_law_1068, zai_s xs hl _ (i := (k : Int) + 1) (by omega) (by omega), zai_s xs hl _ (i := (k : Int) + 2) (by omega) (by omega), pX_ck, x', zci_ok, zai_s xs hl _ (i := (k : Int) + 1) (by omega) (by omega), zai_s xs hl _ (i := (k : Int) + 2) (by omega) (by omega), pM_ck, m', zci_ok, if_pos rfl], h⟩
theorem law_stop (xs : List Int) (hl : xs.length ≤ 3072) (hx : ∀ v ∈ xs, zw v = v) {g : Nat → Int → Int} (hI : Inv g) {k : Nat} (hk : k + 6 ≤ xs.length) : ∃ g2, zx zblk xs 0 1101 [some (.inr (.inr (some 0))), some (.inr (.inr (some pX))), some (.inr (.inr (some pM))), some (.inl ((k : Int)))] [] (HH g) = zx zblk xs 0 1187 [some (.inr (.inr (some 0))), some (.inr (.inr (some pX))), some (.inr (.inr (some pM))), some (.inl ((k : Int)))] [] (HH g2) ∧ Inv g2 := by
  obtain ⟨v, g1, g2, x, m, h⟩ := op_stop xs hI (sc_zw hx (i := (k : Int) + 1) (by omega) (by omega))
  have x' : zx zblk xs 165 0 [some (.inr (.inr (some pX))), some (.inl ((sc xs ((k : Int) + 1))))] [] (HH g) = some (some (.inl v), HH g1) := x
  have m' : zx zblk xs 74 0 [some (.inr (.inr (some pM))), some (.inl ((sc xs ((k : Int) + 1))))] [] (HH g1) = some (some (.inl v), HH g2) := m
  exact ⟨g2, by rw [e_L_law_1101, zai_s xs hl _ (i := (k : Int) + 1) (by omega) (by omega), pX_ck, x', zci_ok, zai_s xs hl _ (i := (k : Int) + 1) (by omega) (by omega), pM_ck, m', zci_ok, if_pos rfl], h⟩
theorem law_image (xs : List Int) (hl : xs.length ≤ 3072) (hx : ∀ v ∈ xs, zw v = v) {g : Nat → Int → Int} (hI : Inv g) {k : Nat} (hk : k + 6 ≤ xs.length) : ∃ g2, zx zblk xs 0 1124 [some (.inr (.inr (some 0))), some (.inr (.inr (some pX))), some (.inr (.inr (some pM))), some (.inl ((k : Int)))] [] (HH g) = zx zblk xs 0 1187 [some (.inr (.inr (some 0))), some (.inr (.inr (some pX))), some (.inr (.inr (some pM))), some (.inl ((k : Int)))] [] (HH g2) ∧ Inv g2 := by
  obtain ⟨v, g1, g2, x, m, h⟩ := op_image xs hI
  have x' : zx zblk xs 166 0 [some (.inr (.inr (some pX)))] [] (HH g) = some (some (.inl v), HH g1) := x
  have m' : zx zblk xs 75 0 [some (.inr (.inr (some pM)))] [] (HH g1) = some (some (.inl v), HH g2) := m
  exact ⟨g2, by rw [e_L_law_1124, pX_ck, x', zci_ok, pM_ck, m', zci_ok, if_pos rfl], h⟩
theorem law_restore (xs : List Int) (hl : xs.length ≤ 3072) (hx : ∀ v ∈ xs, zw v = v) {g : Nat → Int → Int} (hI : Inv g) {k : Nat} (hk : k + 6 ≤ xs.length) : ∃ g2, zx zblk xs 0 1137 [some (.inr (.inr (some 0))), some (.inr (.inr (some pX))), some (.inr (.inr (some pM))), some (.inl ((k : Int)))] [] (HH g) = zx zblk xs 0 1187 [some (.inr (.inr (some 0))), some (.inr (.inr (some pX))), some (.inr (.inr (some pM))), some (.inl ((k : Int)))] [] (HH g2) ∧ Inv g2 := by
  obtain ⟨v, g1, g2, x, m, h⟩ := op_restore xs hI
  have x' : zx zblk xs 167 0 [some (.inr (.inr (some pX)))] [] (HH g) = some (some (.inl v), HH g1) := x
  have m' : zx zblk xs 76 0 [some (.inr (.inr (some pM)))] [] (HH g1) = some (some (.inl v), HH g2) := m
  exact ⟨g2, by rw [e_L_law_1137, pX_ck, x', zci_ok, pM_ck, m', zci_ok, if_pos rfl], h⟩
theorem law_count (xs : List Int) (hl : xs.length ≤ 3072) (hx : ∀ v ∈ xs, zw v = v) {g : Nat → Int → Int} (hI : Inv g) {k : Nat} (hk : k + 6 ≤ xs.length) : ∃ g2, zx zblk xs 0 1150 [some (.inr (.inr (some 0))), some (.inr (.inr (some pX))), some (.inr (.inr (some pM))), some (.inl ((k : Int)))] [] (HH g) = zx zblk xs 0 1187 [some (.inr (.inr (some 0))), some (.inr (.inr (some pX))), some (.inr (.inr (some pM))), some (.inl ((k : Int)))] [] (HH g2) ∧ Inv g2 := by
  obtain ⟨v, g1, g2, x, m, h⟩ := op_count xs hI (sc_zw hx (i := (k : Int) + 1) (by omega) (by omega))
  have x' : zx zblk xs 168 0 [some (.inr (.inr (some pX))), some (.inl ((sc xs ((k : Int) + 1))))] [] (HH g) = some (some (.inl v), HH g1) := x
  have m' : zx zblk xs 78 0 [some (.inr (.inr (some pM))), some (.inl ((sc xs ((k : Int) + 1))))] [] (HH g1) = some (some (.inl v), HH g2) := m
  exact ⟨g2, by rw [e_L_law_1150, zai_s xs hl _ (i := (k : Int) + 1) (by omega) (by omega), pX_ck, x', zci_ok, zai_s xs hl _ (i := (k : Int) + 1) (by omega) (by omega), pM_ck, m', zci_ok, if_pos rfl], h⟩
theorem law_digest (xs : List Int) (hl : xs.length ≤ 3072) (hx : ∀ v ∈ xs, zw v = v) {g : Nat → Int → Int} (hI : Inv g) {k : Nat} (hk : k + 6 ≤ xs.length) : ∃ g2, zx zblk xs 0 1173 [some (.inr (.inr (some 0))), some (.inr (.inr (some pX))), some (.inr (.inr (some pM))), some (.inl ((k : Int)))] [] (HH g) = zx zblk xs 0 1187 [some (.inr (.inr (some 0))), some (.inr (.inr (some pX))), some (.inr (.inr (some pM))), some (.inl ((k : Int)))] [] (HH g2) ∧ Inv g2 := by
  obtain ⟨v, g1, g2, x, m, h⟩ := op_digest xs hI
  have x' : zx zblk xs 169 0 [some (.inr (.inr (some pX)))] [] (HH g) = some (some (.inr (.inl v)), HH g1) := x
  have m' : zx zblk xs 81 0 [some (.inr (.inr (some pM)))] [] (HH g1) = some (some (.inr (.inl v)), HH g2) := m
  exact ⟨g2, by rw [e_L_law_1173, pX_ck, x', zcl_ok', pM_ck, m', zcl_ok', if_pos (zcmp_self v)], h⟩
theorem law_case (xs : List Int) (hl : xs.length ≤ 3072) (hx : ∀ v ∈ xs, zw v = v) {g : Nat → Int → Int} (hI : Inv g) {k : Nat} (hk : k + 6 ≤ xs.length) : ∀ t : Nat, t < 35 → ∃ g2, zsel (([188, 241, 254, 267, 280, 333, 366, 399, 422, 455, 498, 521, 554, 587, 610, 643, 666, 699, 732, 755, 778, 842, 865, 878, 891, 924, 958, 991, 1014, 1068, 1101, 1124, 1137, 1150, 1173] : List Nat)[t]?) (fun t => zx zblk xs 0 t [some (.inr (.inr (some 0))), some (.inr (.inr (some pX))), some (.inr (.inr (some pM))), some (.inl ((k : Int)))] [] (HH g)) = zx zblk xs 0 1187 [some (.inr (.inr (some 0))), some (.inr (.inr (some pX))), some (.inr (.inr (some pM))), some (.inl ((k : Int)))] [] (HH g2) ∧ Inv g2
  | 0, _ => law_letters xs hl hx hI hk
  | 1, _ => law_blank xs hl hx hI hk
  | 2, _ => law_fault xs hl hx hI hk
  | 3, _ => law_code xs hl hx hI hk
  | 4, _ => law_signal xs hl hx hI hk
  | 5, _ => law_as xs hl hx hI hk
  | 6, _ => law_about xs hl hx hI hk
  | 7, _ => law_thing xs hl hx hI hk
  | 8, _ => law_weigh xs hl hx hI hk
  | 9, _ => law_speech xs hl hx hI hk
  | 10, _ => law_means xs hl hx hI hk
  | 11, _ => law_clear xs hl hx hI hk
  | 12, _ => law_starts xs hl hx hI hk
  | 13, _ => law_twice xs hl hx hI hk
  | 14, _ => law_mean xs hl hx hI hk
  | 15, _ => law_oddness xs hl hx hI hk
  | 16, _ => law_dealt xs hl hx hI hk
  | 17, _ => law_shortest xs hl hx hI hk
  | 18, _ => law_apart xs hl hx hI hk
  | 19, _ => law_named xs hl hx hI hk
  | 20, _ => law_right xs hl hx hI hk
  | 21, _ => law_note xs hl hx hI hk
  | 22, _ => law_forget xs hl hx hI hk
  | 23, _ => law_which xs hl hx hI hk
  | 24, _ => law_step xs hl hx hI hk
  | 25, _ => law_seen xs hl hx hI hk
  | 26, _ => law_change xs hl hx hI hk
  | 27, _ => law_cheapest xs hl hx hI hk
  | 28, _ => law_luck xs hl hx hI hk
  | 29, _ => law_left xs hl hx hI hk
  | 30, _ => law_stop xs hl hx hI hk
  | 31, _ => law_image xs hl hx hI hk
  | 32, _ => law_restore xs hl hx hI hk
  | 33, _ => law_count xs hl hx hI hk
  | 34, _ => law_digest xs hl hx hI hk
  | t + 35, h => by omega
theorem law_loop (xs : List Int) (hl : xs.length ≤ 3072) (hx : ∀ v ∈ xs, zw v = v) : ∀ (r k : Nat) (g : Nat → Int → Int), xs.length < k + r → k ≤ 4000 → Inv g → ∃ g2, zx zblk xs 0 18 [some (.inr (.inr (some 0))), some (.inr (.inr (some pX))), some (.inr (.inr (some pM))), some (.inl ((k : Int)))] [] (HH g) = some (some (.inl 1), HH g2) := by
  intro r
  induction r with
  | zero =>
    intro k g hk hk2 hI
    refine ⟨g, ?_⟩
    rw [e_L_law_18]
    rw [zln_s, zw_id (by omega) (by omega), zw_id (by omega) (by omega), if_pos (by omega), e_L_law_1193, if_pos (Or.inr rfl)]
  | succ r ih =>
    intro k g hk hk2 hI
    by_cases c : k + 6 ≤ xs.length
    · have e87 : ∀ g, zx zblk xs 0 1187 [some (.inr (.inr (some 0))), some (.inr (.inr (some pX))), some (.inr (.inr (some pM))), some (.inl ((k : Int)))] [] (HH g) = zx zblk xs 0 18 [some (.inr (.inr (some 0))), some (.inr (.inr (some pX))), some (.inr (.inr (some pM))), some (.inl (((k + 6 : Nat) : Int)))] [] (HH g) := fun g => by
        rw [e_L_law_1187]
        rfl
      have e18 : zx zblk xs 0 18 [some (.inr (.inr (some 0))), some (.inr (.inr (some pX))), some (.inr (.inr (some pM))), some (.inl ((k : Int)))] [] (HH g) = if zw (zand (sc xs k) 63) < 0 ∨ 34 < zw (zand (sc xs k) 63) then zx zblk xs 0 1187 [some (.inr (.inr (some 0))), some (.inr (.inr (some pX))), some (.inr (.inr (some pM))), some (.inl ((k : Int)))] [] (HH g) else zsel (([188, 241, 254, 267, 280, 333, 366, 399, 422, 455, 498, 521, 554, 587, 610, 643, 666, 699, 732, 755, 778, 842, 865, 878, 891, 924, 958, 991, 1014, 1068, 1101, 1124, 1137, 1150, 1173] : List Nat)[(zw (zand (sc xs k) 63) - 0).toNat]?) (fun t => zx zblk xs 0 t [some (.inr (.inr (some 0))), some (.inr (.inr (some pX))), some (.inr (.inr (some pM))), some (.inl ((k : Int)))] [] (HH g)) := by
        rw [e_L_law_18]
        rw [zln_s, zw_id (a := (xs.length : Int) - 6) (by omega) (by omega), zw_id (a := (k : Int)) (by omega) (by omega), if_neg (by omega), zai_s xs hl _ (i := (k : Int)) (by omega) (by omega)]
      by_cases d : zw (zand (sc xs k) 63) < 0 ∨ 34 < zw (zand (sc xs k) 63)
      · obtain ⟨g2, q⟩ := ih (k + 6) g (by omega) (by omega) hI
        exact ⟨g2, by rw [e18, if_pos d, e87]; exact q⟩
      · obtain ⟨t, ht⟩ : ∃ t : Nat, zw (zand (sc xs k) 63) = t := ⟨(zw (zand (sc xs k) 63)).toNat, by omega⟩
        obtain ⟨g1, p1, p2⟩ := law_case xs hl hx hI c t (by omega)
        obtain ⟨g2, q⟩ := ih (k + 6) g1 (by omega) (by omega) p2
        refine ⟨g2, ?_⟩
        rw [e18, if_neg d, ht, show ((t : Int) - 0).toNat = t by omega, p1, e87]
        exact q
    · refine ⟨g, ?_⟩
      rw [e_L_law_18]
      rw [zln_s, zw_id (by omega) (by omega), zw_id (by omega) (by omega), if_pos (by omega), e_L_law_1193, if_pos (Or.inr rfl)]
theorem inv0 : Inv g0 := by
  have e : ∀ q j, ¬ (q = 265 ∧ j = 22) → g0 q j = 0 := fun q j h => if_neg h
  have f : ∀ q : Nat, q ≠ 265 → g0 q = fun _ => 0 := fun q h => funext fun j => e q j (fun z => h z.1)
  have m : ∀ j : Int, j ≠ 22 → g0 pM j = 0 := fun j h => e _ _ (fun z => h z.2)
  have r : ∀ q : Nat, q ≠ 265 → q + 1 ≠ 265 → zRow g0 q [] := fun q h1 h2 => ⟨by rw [f q h1]; rfl, zPre_nil _⟩
  have m22 : g0 pM 22 = -1 := rfl
  refine ⟨⟨?_, ?_, ?_, ?_, ?_, ?_, ?_⟩, ?_, ?_, ?_, ?_, ?_, ?_⟩
  · unfold bdQ
    rw [m 1 (by decide), m 5 (by decide), m 8 (by decide), m 10 (by decide), m 18 (by decide)]
    decide
  · intro k h1 h2
    rw [m 1 (by decide)] at h2
    omega
  · intro c h1 h2
    rw [m 5 (by decide)] at h2
    omega
  · intro s h1 h2
    rw [m 8 (by decide)] at h2
    omega
  · intro t h1 h2
    rw [m 10 (by decide)] at h2
    omega
  · intro n h1 h2
    rw [m 18 (by decide)] at h2
    omega
  · exact Or.inl m22
  · have hs : ∀ j, sigL g0 j = [] := fun j => by
      unfold sigL
      rw [m 8 (by decide)]
      rfl
    unfold RelS
    rw [hs, hs, hs, hs]
    exact ⟨r 3 (by decide) (by decide), r 5 (by decide) (by decide), r 7 (by decide) (by decide), r 9 (by decide) (by decide)⟩
  · unfold wL
    rw [m 10 (by decide)]
    exact r 11 (by decide) (by decide)
  · unfold pL
    rw [m 1 (by decide)]
    exact r 14 (by decide) (by decide)
  · refine ⟨by rw [f pX (by decide), m 5 (by decide)], fun c hc => ⟨fun h5 => ?_, fun _ s hs => r _ (by simp only [PC]; omega) (by simp only [PC]; omega)⟩⟩
    rw [m 5 (by decide)] at h5
    omega
  · rw [m 18 (by decide)]
    exact ⟨r 17 (by decide) (by decide), fun k hk => by omega⟩
  · refine ⟨by rw [f pX (by decide), m22]; rfl, fun h => absurd m22 h⟩
theorem HH_len (g : Nat → Int → Int) : (HH g).length = 280 := by
  unfold HH
  rw [List.length_mapIdx]
  decide +kernel
def zszS : List (Nat × List Nat) → Nat
  | [] => 0
  | c :: t => c.2.length + zszS t
theorem zsz_map (f : Nat → Int → Int) : ∀ (l : List (Nat × List Nat)) (n : Nat), zsz (l.mapIdx fun q c => zcell c (f (q + n))) = zszS l
  | [], n => rfl
  | c :: t, n => by
    rw [List.mapIdx_cons]
    have ih := zsz_map f t (n + 1)
    show (zcell c (f (0 + n))).2.length + zsz (t.mapIdx fun q c => zcell c (f (q + 1 + n))) = c.2.length + zszS t
    rw [show (fun (q : Nat) (c : Nat × List Nat) => zcell c (f (q + 1 + n))) = fun q c => zcell c (f (q + (n + 1))) by funext q c; rw [Nat.add_assoc, Nat.add_comm 1 n], ih]
    simp [zcell]
theorem HH_sz (g : Nat → Int → Int) : zsz (HH g) = 2821 := (zsz_map g zsh 1).trans (by decide +kernel)
theorem zmain (xs : List Int) (hl : xs.length ≤ 3072) (hx : ∀ v ∈ xs, zw v = v) : ∃ h', zx zblk xs 0 0 [some (.inr (.inr (some 0)))] [] [] = some (some (.inl 1), h') ∧ h'.length ≤ 600000 ∧ zsz h' ≤ 7302250 := by
  obtain ⟨g2, q⟩ := law_loop xs hl hx (xs.length + 1) 0 g0 (by omega) (by omega) inv0
  rw [z0N] at q
  refine ⟨HH g2, ?_, by rw [HH_len]; decide, by rw [HH_sz]; decide⟩
  rw [L_start]
  exact q
