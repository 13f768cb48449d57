/-! ===== rows that are spoken ===== -/
/-- the row of a turn -/
theorem R1 (xs : List Int) (hx : xs.length ≤ 260) {G g : Nat → Int → Int} (h : LwS G g) (hl : zAr g 271 6) {t : Nat} (ht : t < 4) : ∃ (g1 : Nat → Int → Int) (m : Nat) (f : Nat → Int), m ≤ 5 ∧ (∀ k, k < m → 0 ≤ f k ∧ f k ≤ 7 ∧ g1 271 (k : Int) = f k) ∧ zx zblk xs 90 27 [some (.inr (.inr (some pX))), some (.inr (.inr (some 0))), some (.inr (.inr (some 265))), some (.inr (.inr (some 266))), some (.inr (.inr (some 271))), some (.inr (.inr (some 272))), some (.inr (.inr (some 273))), some (.inr (.inr (some 274))), some (.inl ((t : Int)))] [] (HH g) = zx zblk xs 90 146 [some (.inr (.inr (some pX))), some (.inr (.inr (some 0))), some (.inr (.inr (some 265))), some (.inr (.inr (some 266))), some (.inr (.inr (some 271))), some (.inr (.inr (some 272))), some (.inr (.inr (some 273))), some (.inr (.inr (some 274))), some (.inl ((t : Int))), none, none, some (.inl ((m : Int)))] [] (HH g1) ∧ zFr (fun q _ => q = 271) g g1 := by
  have hn := h.n
  generalize hX : clV xs (27 + t) = X
  have ar := atV_rg X (n := (nS G 0 : Int)) (by omega)
  obtain ⟨fr, hfr⟩ : ∃ fr : Nat, atV X (nS G 0 : Int) = fr := ⟨(atV X (nS G 0 : Int)).toNat, by omega⟩
  obtain ⟨l1, l2, l3⟩ := h.len (i := fr) (by omega)
  obtain ⟨j1, j2⟩ := h.2.2.2.2.2.2 fr (by omega)
  have h5 := h.2.2.2.2.1
  have e1 : zx zblk xs 90 27 [some (.inr (.inr (some pX))), some (.inr (.inr (some 0))), some (.inr (.inr (some 265))), some (.inr (.inr (some 266))), some (.inr (.inr (some 271))), some (.inr (.inr (some 272))), some (.inr (.inr (some 273))), some (.inr (.inr (some 274))), some (.inl ((t : Int)))] [] (HH g) = zx zblk xs 90 68 [some (.inr (.inr (some pX))), some (.inr (.inr (some 0))), some (.inr (.inr (some 265))), some (.inr (.inr (some 266))), some (.inr (.inr (some 271))), some (.inr (.inr (some 272))), some (.inr (.inr (some 273))), some (.inr (.inr (some 274))), some (.inl ((t : Int))), some (.inl (X)), some (.inl ((fr : Int))), some (.inl ((lenS G 0 fr : Int))), some (.inl (0))] [] (HH g) := by
    rw [e_L_rows_27, if_neg (by rw [show zw 4 = 4 from rfl, zw_id (by omega) (by omega)]; omega), show (27 + (t : Int)) = ((27 + t : Nat) : Int) by omega, L_cell xs hx (27 + t) (by omega), zci_ok, HF_ai h5 (by omega) (by omega), h.2.2.2.2.2.1, L_at xs _ _ _ (by omega) (by omega), zci_ok, hX, hfr, HF_ai h5 (by omega) (by omega), j1]
  -- the letters
  have copy : ∀ (r k : Nat) (gk : Nat → Int → Int), k + r = lenS G 0 fr → (∀ j : Nat, j < k → gk 271 (j : Int) = rowS G 0 fr j) → zFr (fun q _ => q = 271) g gk → ∃ g1, zx zblk xs 90 68 [some (.inr (.inr (some pX))), some (.inr (.inr (some 0))), some (.inr (.inr (some 265))), some (.inr (.inr (some 266))), some (.inr (.inr (some 271))), some (.inr (.inr (some 272))), some (.inr (.inr (some 273))), some (.inr (.inr (some 274))), some (.inl ((t : Int))), some (.inl (X)), some (.inl ((fr : Int))), some (.inl ((lenS G 0 fr : Int))), some (.inl ((k : Int)))] [] (HH gk) = zx zblk xs 90 98 [some (.inr (.inr (some pX))), some (.inr (.inr (some 0))), some (.inr (.inr (some 265))), some (.inr (.inr (some 266))), some (.inr (.inr (some 271))), some (.inr (.inr (some 272))), some (.inr (.inr (some 273))), some (.inr (.inr (some 274))), some (.inl ((t : Int))), some (.inl (X)), none, some (.inl ((lenS G 0 fr : Int)))] [] (HH g1) ∧ (∀ j : Nat, j < lenS G 0 fr → g1 271 (j : Int) = rowS G 0 fr j) ∧ zFr (fun q _ => q = 271) g g1 := by
    intro r
    induction r with
    | zero =>
      intro k gk hk hj hf
      have : k = lenS G 0 fr := by omega
      refine ⟨gk, ?_, fun j hj' => hj j (by omega), hf⟩
      rw [e_L_rows_68, if_pos (by rw [zw_id (by omega) (by omega), zw_id (by omega) (by omega)]; omega)]
    | succ r ih =>
      intro k gk hk hj hf
      have c0 : gk 0 0 = g 0 0 := hf 0 0 (by omega)
      have k6 : gk 266 = g 266 := hf.at (fun j => by omega)
      obtain ⟨g1, s1, s2, s3⟩ := ih (k + 1) (up gk 271 k (rowS G 0 fr k)) (by omega) (fun j hj' => by
        by_cases e : j = k
        · subst e; exact up_same _ _ _ _
        · rw [up_ne _ _ (by omega)]; exact hj j (by omega)) (hf.up rfl)
      refine ⟨g1, ?_, s2, s3⟩
      rw [e_L_rows_68, if_neg (by rw [zw_id (by omega) (by omega), zw_id (by omega) (by omega)]; omega), HF_ai (zAr_cg h5 c0) (by omega) (by omega), k6, j2 k (by omega), HF_st (zAr_cg hl c0) (by omega) (by omega), ← s1, Int.natCast_succ]
  obtain ⟨g1, s1, s2, s3⟩ := copy (lenS G 0 fr) 0 g (by omega) (fun j hj => by omega) zFr.rf
  rw [z0N] at s1
  -- a letter changed or not
  have c1 : g1 0 0 = g 0 0 := s3 0 0 (by omega)
  have chg : ∃ (g2 : Nat → Int → Int) (f : Nat → Int), (∀ k, k < lenS G 0 fr → 0 ≤ f k ∧ f k ≤ 7 ∧ g2 271 (k : Int) = f k) ∧ zx zblk xs 90 98 [some (.inr (.inr (some pX))), some (.inr (.inr (some 0))), some (.inr (.inr (some 265))), some (.inr (.inr (some 266))), some (.inr (.inr (some 271))), some (.inr (.inr (some 272))), some (.inr (.inr (some 273))), some (.inr (.inr (some 274))), some (.inl ((t : Int))), some (.inl (X)), none, some (.inl ((lenS G 0 fr : Int)))] [] (HH g1) = zx zblk xs 90 131 [some (.inr (.inr (some pX))), some (.inr (.inr (some 0))), some (.inr (.inr (some 265))), some (.inr (.inr (some 266))), some (.inr (.inr (some 271))), some (.inr (.inr (some 272))), some (.inr (.inr (some 273))), some (.inr (.inr (some 274))), some (.inl ((t : Int))), some (.inl (X)), none, some (.inl ((lenS G 0 fr : Int)))] [] (HH g2) ∧ zFr (fun q _ => q = 271) g g2 := by
    rw [e_L_rows_98, L_at xs _ 2 _ (by omega) (by omega), zci_ok]
    by_cases a : zw (atV (zshr X 3) 2) ≠ 0
    · exact ⟨g1, rowS G 0 fr, fun k hk => ⟨(l3 k hk).1, (l3 k hk).2, s2 k hk⟩, by rw [if_pos a], s3⟩
    · have b1 := atV_rg (zshr X 4) (n := (lenS G 0 fr : Int)) (by omega)
      have b2 := atV_rg (zshr X 7) (n := 8) (by omega)
      refine ⟨up g1 271 (atV (zshr X 4) (lenS G 0 fr : Int)) (atV (zshr X 7) 8), fun k => if (k : Int) = atV (zshr X 4) (lenS G 0 fr : Int) then atV (zshr X 7) 8 else rowS G 0 fr k, fun k hk => ?_, ?_, s3.up rfl⟩
      · by_cases e : (k : Int) = atV (zshr X 4) (lenS G 0 fr : Int)
        · simp only [if_pos e]
          rw [e, up_same]
          exact ⟨b2.1, by omega, rfl⟩
        · simp only [if_neg e]
          rw [up_ne _ _ (fun z => e z.2)]
          exact ⟨(l3 k hk).1, (l3 k hk).2, s2 k hk⟩
      · rw [if_neg a, L_at xs _ _ _ (by omega) (by omega), zci_ok, L_at xs _ 8 _ (by omega) (by omega), zci_ok, HF_st (zAr_cg hl c1) (by omega) (by omega)]
  obtain ⟨g2, f, t1, t2, t3⟩ := chg
  rw [e1, s1, t2, e_L_rows_131, L_at xs _ 5 _ (by omega) (by omega), zci_ok]
  by_cases a : zw (atV (zshr X 10) 5) ≠ 0
  · exact ⟨g2, lenS G 0 fr, f, l2, t1, by rw [if_pos a], t3⟩
  · exact ⟨g2, lenS G 0 fr - 1, f, by omega, fun k hk => t1 k (by omega), by rw [if_neg a, show (lenS G 0 fr : Int) + -1 = ((lenS G 0 fr - 1 : Nat) : Int) by omega], t3⟩
/-- its text, and what stands of it -/
theorem R2 (xs : List Int) {G g : Nat → Int → Int} (h : LwS G g) (hl : zAr g 271 6) (ht : zAr g 272 6) (hp : zAr g 273 14) {m : Nat} {f : Nat → Int} (hm : m ≤ 5) (hf : ∀ k, k < m → 0 ≤ f k ∧ f k ≤ 7 ∧ g 271 (k : Int) = f k) (t : Int) : ∃ g1, zx zblk xs 90 146 [some (.inr (.inr (some pX))), some (.inr (.inr (some 0))), some (.inr (.inr (some 265))), some (.inr (.inr (some 266))), some (.inr (.inr (some 271))), some (.inr (.inr (some 272))), some (.inr (.inr (some 273))), some (.inr (.inr (some 274))), some (.inl (t)), none, none, some (.inl ((m : Int)))] [] (HH g) = zx zblk xs 90 200 [some (.inr (.inr (some pX))), some (.inr (.inr (some 0))), some (.inr (.inr (some 265))), some (.inr (.inr (some 266))), some (.inr (.inr (some 271))), some (.inr (.inr (some 272))), some (.inr (.inr (some 273))), some (.inr (.inr (some 274))), some (.inl (t)), none, none, some (.inl ((m : Int))), some (.inl (-1)), some (.inl (-1)), some (.inl (99)), some (.inl (0))] [] (HH g1) ∧ (∀ k : Nat, k < m → g1 272 (k : Int) = 97 + f k) ∧ pRow g1 273 (pln G 0 f m) ∧ zFr (fun q _ => q = 272 ∨ q = 273) g g1 := by
  have copy : ∀ (r k : Nat) (gk : Nat → Int → Int), k + r = m → (∀ j : Nat, j < k → gk 272 (j : Int) = 97 + f j) → zFr (fun q _ => q = 272) g gk → ∃ g1, zx zblk xs 90 149 [some (.inr (.inr (some pX))), some (.inr (.inr (some 0))), some (.inr (.inr (some 265))), some (.inr (.inr (some 266))), some (.inr (.inr (some 271))), some (.inr (.inr (some 272))), some (.inr (.inr (some 273))), some (.inr (.inr (some 274))), some (.inl (t)), none, none, some (.inl ((m : Int))), some (.inl ((k : Int)))] [] (HH gk) = zx zblk xs 90 175 [some (.inr (.inr (some pX))), some (.inr (.inr (some 0))), some (.inr (.inr (some 265))), some (.inr (.inr (some 266))), some (.inr (.inr (some 271))), some (.inr (.inr (some 272))), some (.inr (.inr (some 273))), some (.inr (.inr (some 274))), some (.inl (t)), none, none, some (.inl ((m : Int)))] [] (HH g1) ∧ (∀ j : Nat, j < m → g1 272 (j : Int) = 97 + f j) ∧ zFr (fun q _ => q = 272) g g1 := by
    intro r
    induction r with
    | zero =>
      intro k gk hk hj hF
      refine ⟨gk, ?_, fun j hj' => hj j (by omega), hF⟩
      rw [e_L_rows_149, if_pos (by rw [zw_id (by omega) (by omega), zw_id (by omega) (by omega)]; omega)]
    | succ r ih =>
      intro k gk hk hj hF
      have c0 : gk 0 0 = g 0 0 := hF 0 0 (by omega)
      have k6 : gk 271 = g 271 := hF.at (fun j => by omega)
      obtain ⟨g1, s1, s2, s3⟩ := ih (k + 1) (up gk 272 k (97 + f k)) (by omega) (fun j hj' => by
        by_cases e : j = k
        · subst e; exact up_same _ _ _ _
        · rw [up_ne _ _ (by omega)]; exact hj j (by omega)) (hF.up rfl)
      refine ⟨g1, ?_, s2, s3⟩
      rw [e_L_rows_149, if_neg (by rw [zw_id (by omega) (by omega), zw_id (by omega) (by omega)]; omega), HF_ai (zAr_cg hl c0) (by omega) (by omega), k6, (hf k (by omega)).2.2, HF_st (zAr_cg ht c0) (by omega) (by omega), ← s1, Int.natCast_succ]
  obtain ⟨g1, s1, s2, s3⟩ := copy m 0 g (by omega) (fun j hj => by omega) zFr.rf
  rw [z0N] at s1
  have hfr : ∀ q, q ≠ 272 → g1 q = g q := fun q hq => s3.at (fun _ => hq)
  have c1 : g1 0 0 = g 0 0 := by rw [hfr 0 (by omega)]
  have h1 : LwS G g1 := LS_fr h (fun q a b => hfr q (by omega))
  obtain ⟨g2, q1, q2, q3⟩ := L_plain xs h1.1.1 h1.1.2.2.2.1 h1.2.2.1 (pl := 271) (pp := 273) (fr := 0) (many := m) (f := f) (st := 0) (zAr_cg hl c1) (zAr_cg hp c1) (by omega) (by omega) (fun k hk => by rw [hfr 271 (by omega), z0N, Int.zero_add]; exact (hf k hk).2.2) (fun k hk => ⟨(hf k hk).1, (hf k hk).2.1⟩) (by omega) (by omega) (by omega)
  rw [z0N] at q1
  refine ⟨g2, ?_, fun k hk => by rw [q3.at (fun j => by omega)]; exact s2 k hk, q2, (s3.mono (fun q j z => Or.inl z)).tr (q3.mono (fun q j z => Or.inr z))⟩
  rw [e_L_rows_146, s1, e_L_rows_175, q1, zcv_ok]
/-- which means it, which is nearest, so far -/
def mst (L : Nat → List Int) (B : List Int) : Nat → Int
  | 0 => -1
  | i + 1 => if L i = B ∧ mst L B i < 0 then i else mst L B i
def lbt (L : Nat → List Int) (B : List Int) : Nat → Int × Int
  | 0 => (-1, 99)
  | i + 1 => if B.length = (L i).length ∧ dif (L i) B < (lbt L B i).2 then ((i : Int), dif (L i) B) else lbt L B i
theorem mst_ch (L : Nat → List Int) (B : List Int) : ∀ n, (mst L B n = -1 ∧ ∀ k, k < n → L k ≠ B) ∨ ∃ a : Nat, a < n ∧ mst L B n = a ∧ L a = B ∧ ∀ b, b < a → L b ≠ B
  | 0 => Or.inl ⟨rfl, fun k hk => by omega⟩
  | n + 1 => by
    rcases mst_ch L B n with ⟨h1, h2⟩ | ⟨a, h1, h2, h3, h4⟩
    · rw [mst, h1]
      by_cases e : L n = B
      · exact Or.inr ⟨n, by omega, if_pos ⟨e, by omega⟩, e, h2⟩
      · refine Or.inl ⟨if_neg (fun z => e z.1), fun k hk => ?_⟩
        by_cases z : k = n
        · rw [z]; exact e
        · exact h2 k (by omega)
    · rw [mst, h2]
      exact Or.inr ⟨a, by omega, if_neg (fun z => by omega), h3, h4⟩
theorem mst_mnO (L : Nat → List Int) (B : List Int) (n : Nat) : mst L B n = mnO L B n := by
  unfold mnO
  rcases mst_ch L B n with ⟨h1, h2⟩ | ⟨a, h1, h2, h3, h4⟩
  · rw [h1, zfo_no (fun k _ hk => if_neg (h2 k (by omega)))]
  · have e := zfo_at (f := fun i : Nat => if L i = B then (i : Int) else -1) (n := n) (i := 0) (j := a) (fun k _ hk => if_neg (h4 k hk)) (by show (if L a = B then (a : Int) else -1) ≠ -1; rw [if_pos h3]; omega) (by omega) (by omega)
    rw [e, h2]
    exact (if_pos h3).symm
theorem lbt_nb (L : Nat → List Int) (B : List Int) (hB : B.length ≤ 10) : ∀ n, (lbt L B n = (-1, 99) ∧ nbest (fun i => dif (L i) B) n = (-1, 1000000)) ∨ (lbt L B n = nbest (fun i => dif (L i) B) n ∧ 0 ≤ (lbt L B n).2 ∧ (lbt L B n).2 ≤ 10 ∧ 0 ≤ (lbt L B n).1)
  | 0 => Or.inl ⟨rfl, rfl⟩
  | n + 1 => by
    have ih := lbt_nb L B hB n
    by_cases e : (L n).length = B.length
    · have hd : 0 ≤ dif (L n) B ∧ dif (L n) B ≤ 10 := by
        have := zsum_rg (a := 0) (b := 1) (n := B.length) (f := fun k => if (L n).getD k 0 = B.getD k 0 then 0 else 1) (fun k _ => by split <;> omega)
        unfold dif
        rw [if_pos e]
        omega
      rcases ih with ⟨h1, h2⟩ | ⟨h1, h2, h3, h4⟩
      · right
        rw [lbt, nbest, h1, h2, if_pos ⟨e.symm, by show dif (L n) B < 99; omega⟩, if_pos (by show dif (L n) B < 1000000; omega)]
        exact ⟨rfl, hd.1, hd.2, by show (0 : Int) ≤ n; omega⟩
      · right
        rw [lbt, nbest, ← h1]
        by_cases d : dif (L n) B < (lbt L B n).2
        · rw [if_pos ⟨e.symm, d⟩, if_pos d]
          exact ⟨rfl, hd.1, hd.2, by show (0 : Int) ≤ n; omega⟩
        · rw [if_neg (fun z => d z.2), if_neg d]
          exact ⟨rfl, h2, h3, h4⟩
    · have hd : dif (L n) B = 1000000 := by unfold dif; rw [if_neg e]
      rcases ih with ⟨h1, h2⟩ | ⟨h1, h2, h3, h4⟩
      · left
        rw [lbt, nbest, h1, h2, if_neg (fun z => e z.1.symm), if_neg (by rw [hd]; decide)]
        exact ⟨rfl, rfl⟩
      · right
        rw [lbt, nbest, ← h1, if_neg (fun z => e z.1.symm), if_neg (by rw [hd]; omega)]
        exact ⟨rfl, h2, h3, h4⟩
theorem lbt_rg (L : Nat → List Int) (B : List Int) (hB : B.length ≤ 10) (n : Nat) : -1 ≤ (lbt L B n).1 ∧ 0 ≤ (lbt L B n).2 ∧ (lbt L B n).2 ≤ 99 := by
  rcases lbt_nb L B hB n with ⟨h1, h2⟩ | ⟨h1, h2, h3, h4⟩
  · rw [h1]; decide
  · omega
theorem lbt_nm (L : Nat → List Int) (B : List Int) (hB : B.length ≤ 10) (n : Nat) : (lbt L B n).1 = (nbest (fun i => dif (L i) B) n).1 := by
  rcases lbt_nb L B hB n with ⟨h1, h2⟩ | ⟨h1, -⟩
  · rw [h1, h2]
  · rw [h1]
theorem mst_rg (L : Nat → List Int) (B : List Int) (n : Nat) : -1 ≤ mst L B n ∧ mst L B n ≤ n := by
  rcases mst_ch L B n with ⟨h1, h2⟩ | ⟨a, h1, h2, h3, h4⟩ <;> omega
theorem R3cmp (xs : List Int) {g : Nat → Int → Int} {p q : List Int} (hp : zAr g 273 14) (hq : zAr g 274 12) (h1 : pRow g 273 p) (h2 : pRow g 274 q) (l1 : p.length ≤ 10) (he : p.length = q.length) (r1 : isR7 p) (r2 : isR7 q) (t m a b d i : Int) : ∀ (r k : Nat), k + r = p.length → zx zblk xs 90 243 [some (.inr (.inr (some pX))), some (.inr (.inr (some 0))), some (.inr (.inr (some 265))), some (.inr (.inr (some 266))), some (.inr (.inr (some 271))), some (.inr (.inr (some 272))), some (.inr (.inr (some 273))), some (.inr (.inr (some 274))), some (.inl (t)), none, none, some (.inl (m)), some (.inl (a)), some (.inl (b)), some (.inl (d)), some (.inl (i)), some (.inl (offV p q k)), some (.inl ((k : Int) + 1))] [] (HH g) = zx zblk xs 90 292 [some (.inr (.inr (some pX))), some (.inr (.inr (some 0))), some (.inr (.inr (some 265))), some (.inr (.inr (some 266))), some (.inr (.inr (some 271))), some (.inr (.inr (some 272))), some (.inr (.inr (some 273))), some (.inr (.inr (some 274))), some (.inl (t)), none, none, some (.inl (m)), some (.inl (a)), some (.inl (b)), some (.inl (d)), some (.inl (i)), some (.inl (offV p q p.length))] [] (HH g) := by
  intro r
  induction r with
  | zero =>
    intro k hk
    have : k = p.length := by omega
    subst this
    rw [e_L_rows_243, HF_ai hp (by omega) (by omega), h1.1, if_pos (by rw [zw_id (by omega) (by omega), zw_id (by omega) (by omega)]; omega)]
  | succ r ih =>
    intro k hk
    have b1 := isR7_get r1 (k := k) (by omega)
    have b2 := isR7_get r2 (k := k) (by omega)
    have d1 : p.getD k 0 = p[k] := by simp [List.getD, show k < p.length by omega]
    have d2 : q.getD k 0 = q[k] := by simp [List.getD, show k < q.length by omega]
    have hof : offV p q (k + 1) = offV p q k + (if p[k] = q[k] then 0 else 1) := by
      unfold offV
      rw [zsum, d1, d2]
    have goal := ih (k + 1) (by omega)
    rw [hof, Int.natCast_succ] at goal
    rw [e_L_rows_243, HF_ai hp (by omega) (by omega), h1.1, if_neg (by rw [zw_id (by omega) (by omega), zw_id (by omega) (by omega)]; omega), HF_ai hp (by omega) (by omega), h1.1, HF_ai hq (by omega) (by omega), h2.1, if_neg (by rw [he]; exact fun z => z rfl), HF_ai hp (by omega) (by omega), h1.2 k (by omega), HF_ai hq (by omega) (by omega), h2.2 k (by omega), zw_id (by omega) (by omega), zw_id (by omega) (by omega)]
    by_cases e : p[k] = q[k]
    · rw [if_neg (fun z => z e), e_L_rows_283]
      rw [if_pos e] at goal
      exact goal
    · rw [if_pos e, e_L_rows_282, e_L_rows_283]
      rw [if_neg e] at goal
      exact goal
theorem R3 (xs : List Int) {G : Nat → Int → Int} {B : List Int} (hBl : B.length ≤ 10) (hB7 : isR7 B) (t m : Int) : ∀ (r i : Nat) (g : Nat → Int → Int), i + r = nS G 0 → LwS G g → zAr g 273 14 → zAr g 274 12 → pRow g 273 B → ∃ g1, zx zblk xs 90 200 [some (.inr (.inr (some pX))), some (.inr (.inr (some 0))), some (.inr (.inr (some 265))), some (.inr (.inr (some 266))), some (.inr (.inr (some 271))), some (.inr (.inr (some 272))), some (.inr (.inr (some 273))), some (.inr (.inr (some 274))), some (.inl (t)), none, none, some (.inl (m)), some (.inl (mst (fun s : Nat => plS G 0 0 s) B i)), some (.inl ((lbt (fun s : Nat => plS G 0 0 s) B i).1)), some (.inl ((lbt (fun s : Nat => plS G 0 0 s) B i).2)), some (.inl ((i : Int)))] [] (HH g) = zx zblk xs 90 327 [some (.inr (.inr (some pX))), some (.inr (.inr (some 0))), some (.inr (.inr (some 265))), some (.inr (.inr (some 266))), some (.inr (.inr (some 271))), some (.inr (.inr (some 272))), some (.inr (.inr (some 273))), some (.inr (.inr (some 274))), some (.inl (t)), none, none, some (.inl (m)), some (.inl (mnO (fun s : Nat => plS G 0 0 s) B (nS G 0))), some (.inl ((nbest (fun s : Nat => dif (plS G 0 0 s) B) (nS G 0)).1))] [] (HH g1) ∧ zFr (fun q _ => q = 274) g g1 := by
  intro r
  induction r with
  | zero =>
    intro i g hi h hp hq hrow
    have : i = nS G 0 := by omega
    subst this
    refine ⟨g, ?_, zFr.rf⟩
    rw [e_L_rows_200, HF_ai h.2.2.2.2.1 (by omega) (by omega), h.2.2.2.2.2.1, if_pos (Int.le_refl _), mst_mnO, lbt_nm _ _ hBl]
  | succ r ih =>
    intro i g hi h hp hq hrow
    have hn := h.n
    obtain ⟨g1, q1, q2, q3⟩ := L_speech xs h (i := i) (st := 0) (by omega) hq (by omega) (by omega) (by omega)
    obtain ⟨l2, r2⟩ := h.pl (i := i) (by omega) 0
    have hfr : ∀ q, q ≠ 274 → g1 q = g q := fun q hq => q3.at (fun _ => hq)
    have c1 : g1 0 0 = g 0 0 := by rw [hfr 0 (by omega)]
    have hp1 := zAr_cg hp c1
    have hq1 := zAr_cg hq c1
    have hrow1 : pRow g1 273 B := pRow_fr hrow (hfr 273 (by omega))
    obtain ⟨g2, s1, s2⟩ := ih (i + 1) g1 (by omega) (LS_fr h (fun q a b => hfr q (by omega))) hp1 hq1 hrow1
    refine ⟨g2, ?_, q3.tr s2⟩
    have mrg := mst_rg (fun s : Nat => plS G 0 0 s) B i
    have lrg := lbt_rg (fun s : Nat => plS G 0 0 s) B hBl i
    have hm : mst (fun s : Nat => plS G 0 0 s) B (i + 1) = if plS G 0 0 i = B ∧ mst (fun s : Nat => plS G 0 0 s) B i < 0 then (i : Int) else mst (fun s : Nat => plS G 0 0 s) B i := rfl
    have hb : lbt (fun s : Nat => plS G 0 0 s) B (i + 1) = if B.length = (plS G 0 0 i).length ∧ dif (plS G 0 0 i) B < (lbt (fun s : Nat => plS G 0 0 s) B i).2 then ((i : Int), dif (plS G 0 0 i) B) else lbt (fun s : Nat => plS G 0 0 s) B i := rfl
    generalize mst (fun s : Nat => plS G 0 0 s) B (i + 1) = M' at hm s1
    generalize lbt (fun s : Nat => plS G 0 0 s) B (i + 1) = B' at hb s1
    generalize mst (fun s : Nat => plS G 0 0 s) B i = M0 at hm mrg ⊢
    generalize lbt (fun s : Nat => plS G 0 0 s) B i = B0 at hb lrg ⊢
    have e1 : zx zblk xs 90 200 [some (.inr (.inr (some pX))), some (.inr (.inr (some 0))), some (.inr (.inr (some 265))), some (.inr (.inr (some 266))), some (.inr (.inr (some 271))), some (.inr (.inr (some 272))), some (.inr (.inr (some 273))), some (.inr (.inr (some 274))), some (.inl (t)), none, none, some (.inl (m)), some (.inl (M0)), some (.inl (B0.1)), some (.inl (B0.2)), some (.inl ((i : Int)))] [] (HH g) = zx zblk xs 90 237 [some (.inr (.inr (some pX))), some (.inr (.inr (some 0))), some (.inr (.inr (some 265))), some (.inr (.inr (some 266))), some (.inr (.inr (some 271))), some (.inr (.inr (some 272))), some (.inr (.inr (some 273))), some (.inr (.inr (some 274))), some (.inl (t)), none, none, some (.inl (m)), some (.inl (M')), some (.inl (B0.1)), some (.inl (B0.2)), some (.inl ((i : Int)))] [] (HH g1) := by
      rw [e_L_rows_200, HF_ai h.2.2.2.2.1 (by omega) (by omega), h.2.2.2.2.2.1, if_neg (by rw [zw_id (by omega) (by omega), zw_id (by omega) (by omega)]; omega), q1, zcv_ok, L_like xs hp1 hq1 hrow1 q2 (by omega) (by omega) hB7 r2, zci_ok, zb_zw, zw_id (a := M0) (by omega) (by omega), hm]
      by_cases e : B = plS G 0 0 i
      · rw [zb_t e, if_neg (by decide)]
        by_cases d : 0 ≤ M0
        · rw [if_pos d, if_neg (fun z => by omega)]
        · rw [if_neg d, if_pos ⟨e.symm, by omega⟩]
      · rw [zb_f e, if_pos rfl, if_neg (fun z => e z.1.symm)]
    rw [e1, e_L_rows_237, ← s1, hb]
    have e321 : ∀ x : Int × Int, zx zblk xs 90 321 [some (.inr (.inr (some pX))), some (.inr (.inr (some 0))), some (.inr (.inr (some 265))), some (.inr (.inr (some 266))), some (.inr (.inr (some 271))), some (.inr (.inr (some 272))), some (.inr (.inr (some 273))), some (.inr (.inr (some 274))), some (.inl (t)), none, none, some (.inl (m)), some (.inl (M')), some (.inl (x.1)), some (.inl (x.2)), some (.inl ((i : Int)))] [] (HH g1) = zx zblk xs 90 200 [some (.inr (.inr (some pX))), some (.inr (.inr (some 0))), some (.inr (.inr (some 265))), some (.inr (.inr (some 266))), some (.inr (.inr (some 271))), some (.inr (.inr (some 272))), some (.inr (.inr (some 273))), some (.inr (.inr (some 274))), some (.inl (t)), none, none, some (.inl (m)), some (.inl (M')), some (.inl (x.1)), some (.inl (x.2)), some (.inl (((i + 1 : Nat) : Int)))] [] (HH g1) := fun x => by rw [e_L_rows_321, Int.natCast_succ]
    by_cases e : B.length = (plS G 0 0 i).length
    · have c := R3cmp xs hp1 hq1 hrow1 q2 hBl e hB7 r2 t m M' B0.1 B0.2 i B.length 0 (by omega)
      have o0 : offV B (plS G 0 0 i) 0 = 0 := rfl
      have od : offV B (plS G 0 0 i) B.length = dif (plS G 0 0 i) B := by
        rw [dif_comm]
        unfold dif offV
        rw [if_pos e, e]
      have hd := offV_rg B (plS G 0 0 i) B.length
      rw [od] at hd
      rw [o0, z0N, Int.zero_add, od] at c
      rw [c, e_L_rows_292, HF_ai hp1 (by omega) (by omega), hrow1.1, HF_ai hq1 (by omega) (by omega), q2.1, if_neg (by rw [e]; exact fun z => z rfl), zw_id (a := dif (plS G 0 0 i) B) (by omega) (by omega), zw_id (a := B0.2) (by omega) (by omega)]
      by_cases d : dif (plS G 0 0 i) B < B0.2
      · rw [if_pos d, if_pos ⟨e, d⟩, e_L_rows_313]
        exact e321 ((i : Int), dif (plS G 0 0 i) B)
      · rw [if_neg d, if_neg (fun z => d z.2)]
        exact e321 B0
    · have c : zx zblk xs 90 243 [some (.inr (.inr (some pX))), some (.inr (.inr (some 0))), some (.inr (.inr (some 265))), some (.inr (.inr (some 266))), some (.inr (.inr (some 271))), some (.inr (.inr (some 272))), some (.inr (.inr (some 273))), some (.inr (.inr (some 274))), some (.inl (t)), none, none, some (.inl (m)), some (.inl (M')), some (.inl (B0.1)), some (.inl (B0.2)), some (.inl ((i : Int))), some (.inl (0)), some (.inl (1))] [] (HH g1) = zx zblk xs 90 292 [some (.inr (.inr (some pX))), some (.inr (.inr (some 0))), some (.inr (.inr (some 265))), some (.inr (.inr (some 266))), some (.inr (.inr (some 271))), some (.inr (.inr (some 272))), some (.inr (.inr (some 273))), some (.inr (.inr (some 274))), some (.inl (t)), none, none, some (.inl (m)), some (.inl (M')), some (.inl (B0.1)), some (.inl (B0.2)), some (.inl ((i : Int))), some (.inl (0))] [] (HH g1) := by
        rw [e_L_rows_243, HF_ai hp1 (by omega) (by omega), hrow1.1]
        by_cases d : zw (B.length : Int) < zw 1
        · rw [if_pos d]
        · rw [if_neg d, HF_ai hp1 (by omega) (by omega), hrow1.1, HF_ai hq1 (by omega) (by omega), q2.1, if_pos (by rw [zw_id (by omega) (by omega), zw_id (by omega) (by omega)]; omega)]
      rw [c, e_L_rows_292, HF_ai hp1 (by omega) (by omega), hrow1.1, HF_ai hq1 (by omega) (by omega), q2.1, if_pos (by rw [zw_id (by omega) (by omega), zw_id (by omega) (by omega)]; omega), if_neg (fun z => e z.1)]
      exact e321 B0
