/-! ===== the law's small methods ===== -/
theorem zushr1_rg (a : Int) : 0 ≤ zushr a 1 ∧ zushr a 1 < 2147483648 := by
  unfold zushr
  have h0 : (Int32.ofInt 1).toUInt32 &&& Int32.toUInt32 31 = 1 := by decide
  rw [h0]
  have h1 : ((Int32.ofInt a).toUInt32 >>> (1 : UInt32)).toBitVec.toNat < 2147483648 := by
    rw [UInt32.toBitVec_shiftRight]
    have : ((1 : UInt32).toBitVec % 32).toNat = 1 := by decide
    simp only [BitVec.ushiftRight_eq', BitVec.toNat_ushiftRight, this, Nat.shiftRight_eq_div_pow]
    have := (Int32.ofInt a).toUInt32.toBitVec.isLt
    omega
  have h2 : ((Int32.ofInt a).toUInt32 >>> (1 : UInt32)).toInt32.toInt = (((Int32.ofInt a).toUInt32 >>> (1 : UInt32)).toBitVec.toNat : Int) := by
    show ((Int32.ofInt a).toUInt32 >>> (1 : UInt32)).toBitVec.toInt = _
    exact BitVec.toInt_eq_toNat_of_lt (by omega)
  rw [h2]
  omega
/-- a script's number, or one made up beyond its end -/
def clV (xs : List Int) (k : Nat) : Int := if k < xs.length then xs.getD k 0 else 747796405 * ((k : Int) + 1)
/-- a number below n -/
def atV (x : Int) (n : Int) : Int := (zushr x 1).tmod n
theorem atV_rg (x : Int) {n : Int} (h : 1 ≤ n) : 0 ≤ atV x n ∧ atV x n < n := by
  have h1 := zushr1_rg x
  unfold atV
  rw [Int.tmod_eq_emod_of_nonneg h1.1]
  exact ⟨Int.emod_nonneg _ (by omega), Int.emod_lt_of_pos _ (by omega)⟩
theorem L_at (xs : List Int) (x n : Int) (h : zH) (h1 : 1 ≤ n) (h2 : n ≤ 1000) : zx zblk xs 79 0 [some (.inl (x)), some (.inl (n))] [] h = some (some (.inl (atV x n)), h) := by
  have := zushr1_rg x
  rw [e_L_at_0, zw_id (a := n) (by omega) (by omega), if_neg (by omega), zw_id (by omega) (by omega)]
  rfl
theorem zln_0 (xs : List Int) (h : zH) (f : Int → Option zR) : zln xs h (some 0) f = f xs.length := rfl
def sc (xs : List Int) (i : Int) : Int := xs.getD i.toNat 0
theorem zai_s (xs : List Int) (hl : xs.length ≤ 260) (h : zH) {i : Int} (h0 : 0 ≤ i) (h1 : i < xs.length) (f : Int → Option zR) : zai xs h (some 0) i f = f (sc xs i) := by
  have e : xs[i.toNat]? = some (sc xs i) := by
    unfold sc
    rw [List.getD, List.getElem?_eq_getElem (show i.toNat < xs.length by omega), Option.getD_some]
  unfold zai zar
  dsimp only
  rw [zw_id (by omega) (by omega), if_pos ⟨rfl, h0⟩, e]
  rfl
theorem L_cell_a (xs : List Int) (hx : xs.length ≤ 260) (k : Nat) (hk : k ≤ 1000) (h : zH) (a : k < xs.length) : zx zblk xs 78 0 [some (.inr (.inr (some 0))), some (.inl ((k : Int)))] [] h = some (some (.inl (clV xs k)), h) := by
  have c : ¬ zw (xs.length : Int) ≤ zw (k : Int) := by rw [zw_id (by omega) (by omega), zw_id (by omega) (by omega)]; omega
  have e : clV xs k = xs.getD k 0 := if_pos a
  rw [e_L_cell_0, zln_0, if_neg c, zai_s xs hx h (by omega) (by omega), e_L_cell_18, e]
  rfl
theorem L_cell_b (xs : List Int) (hx : xs.length ≤ 260) (k : Nat) (hk : k ≤ 1000) (h : zH) (a : ¬ k < xs.length) : zx zblk xs 78 0 [some (.inr (.inr (some 0))), some (.inl ((k : Int)))] [] h = some (some (.inl (clV xs k)), h) := by
  have c : zw (xs.length : Int) ≤ zw (k : Int) := by rw [zw_id (by omega) (by omega), zw_id (by omega) (by omega)]; omega
  have e : clV xs k = 747796405 * ((k : Int) + 1) := if_neg a
  rw [e_L_cell_0, zln_0, if_pos c, e_L_cell_12, e_L_cell_18, e]
theorem L_cell (xs : List Int) (hx : xs.length ≤ 260) (k : Nat) (hk : k ≤ 1000) (h : zH) : zx zblk xs 78 0 [some (.inr (.inr (some 0))), some (.inl ((k : Int)))] [] h = some (some (.inl (clV xs k)), h) := by
  by_cases a : k < xs.length
  · exact L_cell_a xs hx k hk h a
  · exact L_cell_b xs hx k hk h a
/-- a row of the law's: how many, then each -/
def pRow (g : Nat → Int → Int) (p : Nat) (l : List Int) : Prop := g p 0 = l.length ∧ ∀ (k : Nat) (hk : k < l.length), g p ((k : Int) + 1) = l[k]
theorem pRow_fr {g g1 : Nat → Int → Int} {p : Nat} {l : List Int} (h : pRow g p l) (e : g1 p = g p) : pRow g1 p l := by
  unfold pRow
  rw [e]
  exact h
/-- the law's table of signals -/
def LG (G g : Nat → Int → Int) : Prop := zAr g 265 33 ∧ g 265 32 = G pM 8 ∧ ∀ j : Int, 0 ≤ j → j < 4 * G pM 8 → g 265 j = G pM_signalRows j
theorem LG_fr {G g g1 : Nat → Int → Int} (h : LG G g) (e0 : g1 0 = g 0) (e : g1 265 = g 265) : LG G g1 := by
  obtain ⟨h1, h2, h3⟩ := h
  refine ⟨zAr_cg h1 (by rw [e0]), ?_⟩
  rw [e]
  exact ⟨h2, h3⟩
theorem bit01 : ∀ s : Nat, s < 256 → ∀ k : Nat, k < 8 → zand (zshr s k) 1 = 0 ∨ zand (zshr s k) 1 = 1 := by decide +kernel
theorem zand1_01 {st v : Int} (h0 : 0 ≤ st ∧ st < 256) (h1 : 0 ≤ v ∧ v ≤ 7) : zand (zshr st v) 1 = 0 ∨ zand (zshr st v) 1 = 1 := by
  have := bit01 st.toNat (by omega) v.toNat (by omega)
  rw [Int.toNat_of_nonneg h0.1, Int.toNat_of_nonneg h1.1] at this
  exact this
theorem L_plain (xs : List Int) {G g : Nat → Int → Int} (hQ : bdQ G) (hS : bdS G) (h : LG G g) {pl nl pp np fr many : Nat} {f : Nat → Int} (hl : zAr g pl nl) (hp : zAr g pp np) (hne : pp ≠ pl) (h265 : pp ≠ 265) (hf : ∀ k : Nat, k < many → g pl ((fr : Int) + k) = f k) (hr : ∀ k, k < many → 0 ≤ f k ∧ f k ≤ 7) (hfr : fr + many ≤ nl) (hm : 2 * many + 1 ≤ np) {st : Int} (hst : 0 ≤ st ∧ st < 256) : ∃ g1, zx zblk xs 83 0 [some (.inr (.inr (some 265))), some (.inr (.inr (some pl))), some (.inl ((fr : Int))), some (.inl ((many : Int))), some (.inl (st)), some (.inr (.inr (some pp)))] [] (HH g) = some (none, HH g1) ∧ pRow g1 pp (pln G st f many) ∧ zFr (fun q _ => q = pp) g g1 := by
  obtain ⟨q1, q5, q8, -⟩ := id hQ
  have hnl := hl.2.1
  have hnp := hp.2.1
  have hp0 := hp.1
  have loop : ∀ (r k : Nat) (gk : Nat → Int → Int), k + r = many → pRow gk pp (pln G st f k) → zFr (fun q _ => q = pp) g gk → ∃ g1, zx zblk xs 83 8 [some (.inr (.inr (some 265))), some (.inr (.inr (some pl))), some (.inl ((fr : Int))), some (.inl ((many : Int))), some (.inl (st)), some (.inr (.inr (some pp))), some (.inl ((k : Int)))] [] (HH gk) = some (none, HH g1) ∧ pRow g1 pp (pln G st f many) ∧ zFr (fun q _ => q = pp) g g1 := by
    intro r
    induction r with
    | zero =>
      intro k gk hk hl hF
      have : k = many := by omega
      subst this
      exact ⟨gk, by rw [e_L_plain_8, if_pos (Int.le_refl _), e_L_plain_150], hl, hF⟩
    | succ r ih =>
      intro k gk hk hrow hF
      have hr' := hr k (by omega)
      have c0 : gk 0 0 = g 0 0 := hF 0 0 (Ne.symm hp0)
      have k265 : gk 265 = g 265 := hF.at (fun j => Ne.symm h265)
      have kl : gk pl = g pl := hF.at (fun j => Ne.symm hne)
      obtain ⟨hg1, hg2, hg3⟩ := LG_fr h (hF.at (fun j => Ne.symm hp0)) k265
      have hlk := zAr_cg hl c0
      have hpk := zAr_cg hp c0
      have hlen := pln_len G st f k
      have e144 : ∀ gx : Nat → Int → Int, pRow gx pp (pln G st f (k + 1)) → zFr (fun q _ => q = pp) g gx → ∃ g1, zx zblk xs 83 144 [some (.inr (.inr (some 265))), some (.inr (.inr (some pl))), some (.inl ((fr : Int))), some (.inl ((many : Int))), some (.inl (st)), some (.inr (.inr (some pp))), some (.inl ((k : Int)))] [] (HH gx) = some (none, HH g1) ∧ pRow g1 pp (pln G st f many) ∧ zFr (fun q _ => q = pp) g g1 := fun gx hx hF' => by
        obtain ⟨g1, s1, s2, s3⟩ := ih (k + 1) gx (by omega) hx hF'
        refine ⟨g1, ?_, s2, s3⟩
        rw [e_L_plain_144, ← Int.natCast_succ]
        exact s1
      rw [e_L_plain_8, if_neg (by rw [zw_id (by omega) (by omega), zw_id (by omega) (by omega)]; omega), HF_ai hlk (by omega) (by omega), kl, hf k (by omega), show zw 1 = 1 from rfl, zw_zand]
      by_cases b : zand (zshr st (f k)) 1 ≠ 0
      · rw [if_neg (by rcases zand1_01 hst hr' with z | z <;> omega)]
        exact e144 gk (by rw [pln, if_pos b]; exact hrow) hF
      · rw [if_pos (by omega), e_L_plain_36, HF_ai hg1 (by omega) (by omega), hg2, zw_id (a := f k) (by omega) (by omega), zw_id (a := G pM 8) (by omega) (by omega)]
        have hpl : pln G st f (k + 1) = stp G (pln G st f k) (f k) := by rw [pln, if_neg b]
        -- kind
        have hkd : kindS G (f k) = if 0 ≤ f k ∧ f k < G pM 8 then G pM_signalRows (4 * f k) else 0 := rfl
        have hkr : 0 ≤ kindS G (f k) ∧ kindS G (f k) ≤ 4 := by
          rw [hkd]
          split
          next z => have := hS (f k) z.1 z.2; omega
          next => omega
        have e55 : (if G pM 8 ≤ f k then zx zblk xs 83 54 [some (.inr (.inr (some 265))), some (.inr (.inr (some pl))), some (.inl ((fr : Int))), some (.inl ((many : Int))), some (.inl (st)), some (.inr (.inr (some pp))), some (.inl ((k : Int))), some (.inl (f k))] [] (HH gk) else zai xs (HH gk) (some 265) (4 * f k) fun a2 => zx zblk xs 83 55 [some (.inr (.inr (some 265))), some (.inr (.inr (some pl))), some (.inl ((fr : Int))), some (.inl ((many : Int))), some (.inl (st)), some (.inr (.inr (some pp))), some (.inl ((k : Int))), some (.inl (f k))] [.inl a2] (HH gk)) = zx zblk xs 83 55 [some (.inr (.inr (some 265))), some (.inr (.inr (some pl))), some (.inl ((fr : Int))), some (.inl ((many : Int))), some (.inl (st)), some (.inr (.inr (some pp))), some (.inl ((k : Int))), some (.inl (f k))] [.inl (kindS G (f k))] (HH gk) := by
          rw [hkd]
          by_cases d : f k < G pM 8
          · rw [if_neg (by omega), HF_ai hg1 (by omega) (by omega), hg3 _ (by omega) (by omega), if_pos ⟨hr'.1, d⟩]
          · rw [if_pos (by omega), e_L_plain_54, if_neg (by omega)]
        rw [e55, e_L_plain_55, zw_id (a := kindS G (f k)) (by omega) (by omega), show zw 2 = 2 from rfl]
        have hlen0 : gk pp 0 = ((pln G st f k).length : Int) := hrow.1
        -- one signal more
        have add : ∀ (gy : Nat → Int → Int) (l : List Int) (v : Int), gy 0 0 = g 0 0 → pRow gy pp l → l.length + 1 < np → pRow (up (up gy pp 0 (l.length + 1)) pp (l.length + 1) v) pp (l ++ [v]) := fun gy l v _ hy _ => by
          refine ⟨?_, fun j hj => ?_⟩
          · rw [up_ne _ _ (by omega), up_same, List.length_append]
            simp
          · rw [List.length_append] at hj
            simp only [List.length_singleton] at hj
            by_cases e : j = l.length
            · subst e
              rw [up_same, List.getElem_append_right (Nat.le_refl _)]
              simp
            · rw [up_ne _ _ (by omega), up_ne _ _ (by omega), hy.2 j (by omega), List.getElem_append_left (by omega)]
        have e123no : ∀ (gx : Nat → Int → Int) (kd : Int), zw kd = kd → kd ≠ 4 → zx zblk xs 83 123 [some (.inr (.inr (some 265))), some (.inr (.inr (some pl))), some (.inl ((fr : Int))), some (.inl ((many : Int))), some (.inl (st)), some (.inr (.inr (some pp))), some (.inl ((k : Int))), none, some (.inl (kd))] [] (HH gx) = zx zblk xs 83 144 [some (.inr (.inr (some 265))), some (.inr (.inr (some pl))), some (.inl ((fr : Int))), some (.inl ((many : Int))), some (.inl (st)), some (.inr (.inr (some pp))), some (.inl ((k : Int)))] [] (HH gx) := fun gx kd h1 h2 => by
          rw [e_L_plain_123, h1, show zw 4 = 4 from rfl, if_pos h2]
        by_cases d : kindS G (f k) < 2
        · have hst1 : stp G (pln G st f k) (f k) = pln G st f k ++ [f k] := by unfold stp; rw [if_pos d]
          rw [if_neg (by omega), HF_ai hpk (by omega) (by omega), hlen0, HF_st hpk (by omega) (by omega), HF_st (zAr_up hpk hp0) (by omega) (by omega), e_L_plain_77, zw_id (a := kindS G (f k)) (by omega) (by omega), show zw 2 = 2 from rfl, if_pos (by omega), e123no _ _ (zw_id (by omega) (by omega)) (by omega)]
          exact e144 _ (by rw [hpl, hst1]; exact add gk _ _ c0 hrow (by omega)) ((hF.up rfl).up rfl)
        · rw [if_pos (by omega), e_L_plain_77, zw_id (a := kindS G (f k)) (by omega) (by omega), show zw 2 = 2 from rfl]
          by_cases d2 : kindS G (f k) = 2
          · have d3 : f k < G pM 8 := by
              by_cases z : f k < G pM 8
              · exact z
              · rw [hkd, if_neg (by omega)] at d2; omega
            have hst2 : stp G (pln G st f k) (f k) = pln G st f k ++ [G pM_signalRows (4 * f k + 1)] ++ [G pM_signalRows (4 * f k + 1)] := by unfold stp; rw [if_neg d, if_pos d2]
            have a1 := add gk _ (G pM_signalRows (4 * f k + 1)) c0 hrow (by omega)
            have hl1 : (pln G st f k ++ [G pM_signalRows (4 * f k + 1)]).length = (pln G st f k).length + 1 := by simp
            have a2 := add _ _ (G pM_signalRows (4 * f k + 1)) (by rw [up_q (Ne.symm hp0), up_q (Ne.symm hp0)]; exact c0) a1 (by omega)
            have u265 : ∀ i v j w, up (up gk pp i v) pp j w 265 = gk 265 := fun i v j w => by rw [up_p _ _ _ (Ne.symm h265), up_p _ _ _ (Ne.symm h265)]
            rw [if_neg (by omega), HF_ai hpk (by omega) (by omega), hlen0, HF_st hpk (by omega) (by omega), HF_ai (zAr_up hg1 hp0) (by omega) (by omega), up_q (Ne.symm h265), hg3 _ (by omega) (by omega), HF_st (zAr_up hpk hp0) (by omega) (by omega), HF_ai (zAr_up (zAr_up hpk hp0) hp0) (by omega) (by omega), a1.1, HF_st (zAr_up (zAr_up hpk hp0) hp0) (by omega) (by omega), HF_ai (zAr_up (zAr_up (zAr_up hg1 hp0) hp0) hp0) (by omega) (by omega), up_q (Ne.symm h265), u265, hg3 _ (by omega) (by omega), HF_st (zAr_up (zAr_up (zAr_up hpk hp0) hp0) hp0) (by omega) (by omega), e123no _ _ (zw_id (by omega) (by omega)) (by omega)]
            exact e144 _ (by rw [hpl, hst2]; exact a2) ((((hF.up rfl).up rfl).up rfl).up rfl)
          · rw [if_pos d2, e_L_plain_123, zw_id (a := kindS G (f k)) (by omega) (by omega), show zw 4 = 4 from rfl]
            by_cases d4 : kindS G (f k) = 4
            · have hst4 : stp G (pln G st f k) (f k) = (pln G st f k).dropLast := by unfold stp; rw [if_neg d, if_neg d2, if_pos d4]
              rw [if_neg (by omega), HF_ai hpk (by omega) (by omega), hlen0, zw_id (by omega) (by omega)]
              by_cases e0 : ((pln G st f k).length : Int) ≤ 0
              · rw [if_pos e0]
                have : pln G st f k = [] := List.length_eq_zero_iff.mp (by omega)
                refine e144 gk ?_ hF
                rw [hpl, hst4, this]
                rw [this] at hrow
                exact hrow
              · rw [if_neg e0, HF_ai hpk (by omega) (by omega), hlen0, HF_st hpk (by omega) (by omega)]
                refine e144 _ ?_ (hF.up rfl)
                rw [hpl, hst4]
                refine ⟨?_, fun j hj => ?_⟩
                · rw [up_same, List.length_dropLast]; omega
                · rw [List.length_dropLast] at hj
                  rw [up_ne _ _ (by omega), hrow.2 j (by omega), List.getElem_dropLast]
            · have hst5 : stp G (pln G st f k) (f k) = pln G st f k := by unfold stp; rw [if_neg d, if_neg d2, if_neg d4]
              rw [if_pos d4]
              exact e144 gk (by rw [hpl, hst5]; exact hrow) hF
  obtain ⟨g1, s1, s2, s3⟩ := loop many 0 (up g pp 0 0) (by omega) ⟨up_same _ _ _ _, fun k hk => absurd hk (by simp [pln])⟩ (zFr.rf.up rfl)
  rw [z0N] at s1
  refine ⟨g1, ?_, s2, s3⟩
  rw [e_L_plain_0, HF_st hp (by omega) (by omega)]
  exact s1
