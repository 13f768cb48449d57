/-! ===== the law's state; its methods over it ===== -/
/-- the class and the law's two tables say what G says; one code -/
def LwS (G g : Nat → Int → Int) : Prop := Bd G ∧ Rel G g ∧ LG G g ∧ G pM 5 = 1 ∧ zAr g 266 49 ∧ g 266 0 = (nS G 0 : Int) ∧ ∀ i : Nat, i < nS G 0 → g 266 (1 + 6 * i) = (lenS G 0 i : Int) ∧ ∀ k : Nat, k < lenS G 0 i → g 266 (2 + 6 * i + k) = rowS G 0 i k
theorem LS_fr {G g g1 : Nat → Int → Int} (h : LwS G g) (e : ∀ q, (q < 72 ∨ 101 ≤ q) → q ≤ 266 → g1 q = g q) : LwS G g1 := by
  obtain ⟨h1, h2, h3, h4, h5, h6, h7⟩ := h
  have e6 := e 266 (by omega) (by omega)
  refine ⟨h1, Rel_fr h1 h2 (fun q a b => e q a (by omega)), LG_fr h3 (e 0 (by omega) (by omega)) (e 265 (by omega) (by omega)), h4, zAr_cg h5 (by rw [e 0 (by omega) (by omega)]), ?_⟩
  rw [e6]
  exact ⟨h6, h7⟩
theorem LwS.n {G g : Nat → Int → Int} (h : LwS G g) : 1 ≤ nS G 0 ∧ nS G 0 ≤ 8 ∧ G pM_speeches 0 = nS G 0 := by
  have := nS_rg h.1 (c := 0) ⟨by omega, by rw [h.2.2.2.1]; omega⟩
  omega
theorem LwS.len {G g : Nat → Int → Int} (h : LwS G g) {i : Nat} (hi : i < nS G 0) : 1 ≤ lenS G 0 i ∧ lenS G 0 i ≤ 5 ∧ ∀ k : Nat, k < lenS G 0 i → 0 ≤ rowS G 0 i k ∧ rowS G 0 i k ≤ 7 := by
  have hn := h.n
  have := lenS_rg h.1.2.2.1 (c := 0) (s := (i : Int)) ⟨by omega, by rw [h.2.2.2.1]; omega⟩ ⟨by omega, by omega⟩
  exact ⟨this.1, this.2.1, this.2.2.2⟩
theorem LwS.pl {G g : Nat → Int → Int} (h : LwS G g) {i : Nat} (hi : i < nS G 0) (st : Int) : (plS G st 0 i).length ≤ 10 ∧ isR7 (plS G st 0 i) := by
  have hn := h.n
  exact ⟨plS_len h.1.2.2.1 ⟨by omega, by rw [h.2.2.2.1]; omega⟩ ⟨by omega, by omega⟩ st, isR7_plS h.1 ⟨by omega, by rw [h.2.2.2.1]; omega⟩ ⟨by omega, by omega⟩ st⟩
theorem L_speech (xs : List Int) {G g : Nat → Int → Int} (h : LwS G g) {i pp np : Nat} (hi : i < nS G 0) (hp : zAr g pp np) (hpp : 266 < pp) (hnp : 11 ≤ np) {st : Int} (hst : 0 ≤ st ∧ st < 256) : ∃ g1, zx zblk xs 84 0 [some (.inr (.inr (some 265))), some (.inr (.inr (some 266))), some (.inl ((i : Int))), some (.inl (st)), some (.inr (.inr (some pp)))] [] (HH g) = some (none, HH g1) ∧ pRow g1 pp (plS G st 0 i) ∧ zFr (fun q _ => q = pp) g g1 := by
  have hn := h.n
  obtain ⟨l1, l2, l3⟩ := h.len hi
  obtain ⟨h1, h2, h3, h4, h5, h6, h7⟩ := h
  obtain ⟨g1, q1, q2, q3⟩ := L_plain xs h1.1 h1.2.2.2.1 h3 (fr := 2 + 6 * i) (many := lenS G 0 i) (f := rowS G 0 i) h5 hp (by omega) (by omega) (fun k hk => by rw [← (h7 i hi).2 k hk]; rfl) l3 (by omega) (by omega) hst
  refine ⟨g1, ?_, q2, q3⟩
  rw [e_L_speech_0, HF_ai h5 (by omega) (by omega), (h7 i hi).1, show (2 + 6 * (i : Int)) = ((2 + 6 * i : Nat) : Int) by omega, q1, zcv_ok]
theorem L_like (xs : List Int) {g : Nat → Int → Int} {p n q m : Nat} {a b : List Int} (hp : zAr g p n) (hq : zAr g q m) (ha : pRow g p a) (hb : pRow g q b) (hn : a.length < n) (hm : b.length < m) (hra : isR7 a) (hrb : isR7 b) : zx zblk xs 85 0 [some (.inr (.inr (some p))), some (.inr (.inr (some q)))] [] (HH g) = some (some (.inl (zb (a = b))), HH g) := by
  have hn1 := hp.2.1
  have hm1 := hq.2.1
  have e49 : ∀ v : Int, v = 0 ∨ v = 1 → zx zblk xs 85 49 [none, none, some (.inl (v))] [] (HH g) = some (some (.inl v), HH g) := fun v hv => by rw [e_L_like_49, if_pos hv]
  have e0 : ∀ k : Int, zx zblk xs 85 17 [some (.inr (.inr (some p))), some (.inr (.inr (some q))), some (.inl (0)), some (.inl (k))] [] (HH g) = some (some (.inl 0), HH g) := fun k => by rw [e_L_like_17, if_pos (show zw 0 = 0 from rfl), e49 0 (Or.inl rfl)]
  have loop : a.length = b.length → ∀ (r k : Nat), k + r = a.length → a.take k = b.take k → zx zblk xs 85 17 [some (.inr (.inr (some p))), some (.inr (.inr (some q))), some (.inl (1)), some (.inl ((k : Int) + 1))] [] (HH g) = some (some (.inl (zb (a = b))), HH g) := by
    intro hl r
    induction r with
    | zero =>
      intro k hk ht
      have hkl : k = a.length := by omega
      subst hkl
      rw [List.take_length, hl, List.take_length] at ht
      rw [e_L_like_17, if_neg (by decide), HF_ai hp (by omega) (by omega), ha.1, if_pos (by rw [zw_id (by omega) (by omega), zw_id (by omega) (by omega)]; omega), e49 1 (Or.inr rfl), zb_t ht]
    | succ r ih =>
      intro k hk ht
      have ra := isR7_get hra (k := k) (by omega)
      have rb := isR7_get hrb (k := k) (by omega)
      have hts := take_succ_eq (A := a) (B := b) (k := k) (by omega) (by omega)
      rw [e_L_like_17, if_neg (by decide), HF_ai hp (by omega) (by omega), ha.1, if_neg (by rw [zw_id (by omega) (by omega), zw_id (by omega) (by omega)]; omega), HF_ai hp (by omega) (by omega), ha.2 k (by omega), HF_ai hq (by omega) (by omega), hb.2 k (by omega), zw_id (by omega) (by omega), zw_id (by omega) (by omega)]
      by_cases he : a[k] = b[k]
      · rw [if_neg (by omega), e_L_like_42, ← Int.natCast_succ k]
        exact ih (k + 1) (by omega) (hts.mpr ⟨ht, he⟩)
      · rw [if_pos he, e_L_like_41, e_L_like_42, e0, zb_f]
        intro z
        subst z
        exact he rfl
  rw [e_L_like_0, HF_ai hp (by omega) (by omega), ha.1, HF_ai hq (by omega) (by omega), hb.1, zw_id (by omega) (by omega), zw_id (by omega) (by omega)]
  by_cases hl : a.length = b.length
  · rw [if_neg (by omega), e_L_like_14]
    have := loop hl a.length 0 (by omega) rfl
    rw [z0N, Int.zero_add] at this
    exact this
  · rw [if_pos (by omega), e_L_like_13, e_L_like_14, e0, zb_f (fun z => hl (by rw [z]))]
theorem L_seconds (xs : List Int) {G g : Nat → Int → Int} (hQ : bdQ G) (hS : bdS G) (h : LG G g) {a : Int} (h0 : 0 ≤ a ∧ a ≤ 7) : zx zblk xs 86 0 [some (.inr (.inr (some 265))), some (.inl (a))] [] (HH g) = some (some (.inl (secS G a)), HH g) := by
  obtain ⟨q1, q5, q8, -⟩ := id hQ
  obtain ⟨h1, h2, h3⟩ := h
  rw [e_L_seconds_0, HF_ai h1 (by omega) (by omega), h2, zw_id (by omega) (by omega), zw_id (by omega) (by omega)]
  unfold secS
  by_cases d : a < G pM 8
  · rw [if_neg (by omega), HF_ai h1 (by omega) (by omega), h3 _ (by omega) (by omega), e_L_seconds_19, if_pos ⟨h0.1, d⟩]
  · rw [if_pos (by omega), e_L_seconds_18, e_L_seconds_19, if_neg (by omega)]
theorem L_odd (xs : List Int) {G g : Nat → Int → Int} (hQ : bdQ G) (hS : bdS G) (h : LG G g) {a : Int} (h0 : 0 ≤ a ∧ a ≤ 7) : zx zblk xs 87 0 [some (.inr (.inr (some 265))), some (.inl (a))] [] (HH g) = some (some (.inl (oddS G a)), HH g) := by
  obtain ⟨q1, q5, q8, -⟩ := id hQ
  obtain ⟨h1, h2, h3⟩ := h
  rw [e_L_odd_0, HF_ai h1 (by omega) (by omega), h2, zw_id (by omega) (by omega), zw_id (by omega) (by omega)]
  unfold oddS
  by_cases d : a < G pM 8
  · rw [if_neg (by omega), HF_ai h1 (by omega) (by omega), h3 _ (by omega) (by omega), e_L_odd_19, if_pos ⟨h0.1, d⟩]
  · rw [if_pos (by omega), e_L_odd_18, e_L_odd_19, if_neg (by omega)]
theorem L_long0 (xs : List Int) {G g : Nat → Int → Int} (h : LwS G g) {i : Nat} (hi : i < nS G 0) : zx zblk xs 88 0 [some (.inr (.inr (some 265))), some (.inr (.inr (some 266))), some (.inl ((i : Int)))] [] (HH g) = some (some (.inl (longS G 0 i)), HH g) := by
  have hn := h.n
  obtain ⟨l1, l2, l3⟩ := h.len hi
  obtain ⟨h1, h2, h3, h4, h5, h6, h7⟩ := h
  obtain ⟨j1, j2⟩ := h7 i hi
  have hh := zloop (fun k : Nat => zx zblk xs 88 5 [some (.inr (.inr (some 265))), some (.inr (.inr (some 266))), some (.inl ((i : Int))), some (.inl (zsum (fun k => secS G (rowS G 0 i k)) k)), some (.inl ((k : Int)))] [] (HH g)) (lenS G 0 i) (fun k hk => by
    rw [e_L_long0_5, HF_ai h5 (by omega) (by omega), j1, if_neg (by rw [zw_id (by omega) (by omega), zw_id (by omega) (by omega)]; omega), HF_ai h5 (by omega) (by omega), j2 k hk, L_seconds xs h1.1 h1.2.2.2.1 h3 (l3 k hk), zci_ok, zsum, Int.natCast_succ])
  rw [e_L_long0_0]
  refine Eq.trans ?_ (hh.trans ?_)
  · rfl
  · rw [e_L_long0_5, HF_ai h5 (by omega) (by omega), j1, if_pos (Int.le_refl _), e_L_long0_42]
    rfl
theorem L_share (xs : List Int) {a b : Nat} (ha : a ≤ 1000000) (hb : 1 ≤ b) (hb2 : b ≤ 1000000) (h : zH) : zx zblk xs 89 0 [some (.inr (.inl (fracS a b 0))), none, some (.inr (.inl (fracS a b 1))), none, some (.inr (.inl ((a : Int)))), none, some (.inr (.inl ((b : Int)))), none] [] h = some (some (.inl 1), h) := by
  have hg : 1 ≤ Nat.gcd a b := Nat.gcd_pos_of_pos_right _ hb
  have hgb : Nat.gcd a b ≤ b := Nat.gcd_le_right _ hb
  have f0 : fracS a b 0 = ((a / Nat.gcd a b : Nat) : Int) := if_pos rfl
  have f1 : fracS a b 1 = ((b / Nat.gcd a b : Nat) : Int) := if_neg (by decide)
  have d0 : a / Nat.gcd a b ≤ a := Nat.div_le_self _ _
  have d1 : b / Nat.gcd a b ≤ b := Nat.div_le_self _ _
  have d2 : 1 ≤ b / Nat.gcd a b := Nat.div_pos hgb hg
  have loop : ∀ (y x : Nat), y ≤ 1000000 → x ≤ 1000000 → zx zblk xs 89 16 [some (.inr (.inl (fracS a b 0))), none, some (.inr (.inl (fracS a b 1))), none, some (.inr (.inl ((a : Int)))), none, some (.inr (.inl ((b : Int)))), none, some (.inr (.inl ((x : Int)))), none, some (.inr (.inl ((y : Int))))] [] h = zx zblk xs 89 41 [some (.inr (.inl (fracS a b 0))), none, some (.inr (.inl (fracS a b 1))), none, some (.inr (.inl ((a : Int)))), none, some (.inr (.inl ((b : Int)))), none, some (.inr (.inl (((Nat.gcd x y : Nat) : Int))))] [] h := by
    intro y
    induction y using Nat.strongRecOn with
    | _ y ih =>
      intro x hy hx
      rw [e_L_share_16, zwl_id (a := (y : Int)) (by omega) (by omega), zwl_id (a := (x : Int)) (by omega) (by omega), show zwl 0 = 0 from rfl, if_neg (show ¬ (y : Int) < 0 by omega)]
      by_cases hy0 : y = 0
      · subst hy0
        rw [if_pos (by rfl), Nat.gcd_zero_right]
      · rw [if_neg (by rw [if_neg (by omega)]; decide), if_neg (by omega), Int.tmod_eq_emod_of_nonneg (by omega), ← Int.natCast_emod]
        have hlt := Nat.mod_lt x (show 0 < y by omega)
        rw [ih (x % y) hlt y (by omega) hy, Nat.gcd_comm x y, Nat.gcd_rec y x, Nat.gcd_comm]
  rw [e_L_share_0, f1, zwl_id (a := ((b / Nat.gcd a b : Nat) : Int)) (by omega) (by omega), show zwl 1 = 1 from rfl, if_neg (show ¬ ((b / Nat.gcd a b : Nat) : Int) < 1 by omega), if_pos (by split <;> decide), e_L_share_8, ← f1, loop a b ha hb2, e_L_share_41, Nat.gcd_comm b a, zwl_id (a := ((Nat.gcd a b : Nat) : Int)) (by omega) (by omega), if_neg (by omega), zwl_id (a := (a : Int)) (by omega) (by omega), zwl_id (a := (b : Int)) (by omega) (by omega), Int.tdiv_eq_ediv_of_nonneg (by omega), Int.tdiv_eq_ediv_of_nonneg (by omega), ← Int.natCast_ediv, ← Int.natCast_ediv, f0, f1, if_neg (Int.lt_irrefl _), if_pos rfl, if_neg (by decide), if_neg (by omega), if_neg (Int.lt_irrefl _), if_pos rfl, if_neg (by decide), e_L_share_66, if_pos (Or.inr rfl)]
