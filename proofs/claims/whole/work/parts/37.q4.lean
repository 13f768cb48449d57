/-! ===== queries: oddness, change, cheapest, count ===== -/
theorem saidS_rg {G : Nat → Int → Int} (hB : Bd G) {c : Int} (a : 0 ≤ c ∧ c < G pM 5) : 0 ≤ saidS G c ∧ saidS G c ≤ nS G c ∧ saidS G c ≤ G pM 10 ∧ saidS G c ≤ 8 := by
  have h1 := nS_rg hB a
  obtain ⟨-, -, -, ⟨h2, h3⟩, -⟩ := hB.1
  unfold saidS
  split <;> omega
theorem M_saidBy (xs : List Int) {g : Nat → Int → Int} (hB : Bd g) {c : Int} (a : 0 ≤ c ∧ c < g pM 5) : zx zblk xs 40 0 [some (.inr (.inr (some pM))), some (.inl (c))] [] (HH g) = some (some (.inl (saidS g c)), HH g) := by
  obtain ⟨-, ⟨hc0, hc1⟩, -, ⟨h2, h3⟩, -⟩ := hB.1
  have h1 := nS_rg hB a
  rw [e_M_saidBy_0, pM_r_speeches, pM_a_speeches xs _ (by omega) (by omega), pM_g_things, zw_id (by omega) (by omega), zw_id (by omega) (by omega)]
  unfold saidS
  by_cases b : g pM_speeches c < g pM 10
  · rw [if_neg (by omega), pM_r_speeches, pM_a_speeches xs _ (by omega) (by omega), e_M_saidBy_26, if_pos b]
  · rw [if_pos (by omega), e_M_saidBy_22, pM_g_things, e_M_saidBy_26, if_neg b]
theorem M_weighed (xs : List Int) {g : Nat → Int → Int} (hB : Bd g) (m : Nat) (hm : (m : Int) ≤ g pM 10) : zx zblk xs 44 0 [some (.inr (.inr (some pM))), some (.inl ((m : Int)))] [] (HH g) = some (some (.inl (zsum (fun t => g pM_weights t) m)), HH g) := by
  obtain ⟨-, -, -, ⟨h2, h3⟩, -⟩ := hB.1
  have hh := zloop (fun k : Nat => zx zblk xs 44 4 [some (.inr (.inr (some pM))), some (.inl ((m : Int))), some (.inl (zsum (fun t => g pM_weights t) k)), some (.inl ((k : Int)))] [] (HH g)) m (fun k hk => by
    rw [e_M_weighed_4, if_neg (by rw [zw_id (by omega) (by omega), zw_id (by omega) (by omega)]; omega), pM_r_weights, pM_a_weights xs _ (by omega) (by omega), zsum, Int.natCast_succ])
  rw [e_M_weighed_0]
  refine Eq.trans ?_ (hh.trans ?_)
  · rfl
  · rw [e_M_weighed_4, if_pos (by omega), e_M_weighed_24]
/-- how odd a speech is -/
def osm (G : Nat → Int → Int) (c s : Int) : Int := zsum (fun k => oddS G (rowS G c s k)) (lenS G c s)
def odO (G : Nat → Int → Int) (c : Int) : Int := zsum (fun t => G pM_weights t * osm G c t) (saidS G c).toNat
def odS (G : Nat → Int → Int) (c : Int) : Int := if 0 ≤ c ∧ c < G pM 5 then odO G c else -101
theorem es_saidS {g1 g : Nat → Int → Int} (h : es g1 = es g) : saidS g1 = saidS g := by
  obtain ⟨e1, e2, e3, e4, e5, e6, e7, e8, e9, e10, e11, e12, e13, e14, e15⟩ := es_all h
  funext c
  unfold saidS
  rw [e2, e12]
theorem es_odO {g1 g : Nat → Int → Int} (h : es g1 = es g) : odO g1 = odO g := by
  obtain ⟨e1, e2, e3, e4, e5, e6, e7, e8, e9, e10, e11, e12, e13, e14, e15⟩ := es_all h
  funext c
  unfold odO osm
  rw [es_saidS h, es_oddS h, es_rowS h, es_lenS h, e5]
theorem es_odS {g1 g : Nat → Int → Int} (h : es g1 = es g) : odS g1 = odS g := by
  obtain ⟨e1, e2, e3, e4, e5, e6, e7, e8, e9, e10, e11, e12, e13, e14, e15⟩ := es_all h
  funext c
  unfold odS
  rw [e10, es_odO h]
theorem M_oddnessOf (xs : List Int) {g : Nat → Int → Int} (hB : Bd g) {c : Int} (a : 0 ≤ c ∧ c < g pM 5) : zx zblk xs 46 0 [some (.inr (.inr (some pM))), some (.inl (c))] [] (HH g) = some (some (.inl (odO g c)), HH g) := by
  obtain ⟨-, ⟨hc0, hc1⟩, -, ⟨h2, h3⟩, -⟩ := id hB.1
  have h1 := nS_rg hB a
  have hs := saidS_rg hB a
  have inner : ∀ (t : Nat) (A : Int), (t : Int) < saidS g c → zx zblk xs 46 27 [some (.inr (.inr (some pM))), some (.inl (c)), some (.inl (A)), some (.inl ((t : Int))), some (.inl (48 * c + 6 * t)), some (.inl (1))] [] (HH g) = zx zblk xs 46 69 [some (.inr (.inr (some pM))), some (.inl (c)), some (.inl (A + g pM_weights t * osm g c t)), some (.inl ((t : Int)))] [] (HH g) := by
    intro t A ht
    obtain ⟨l1, l2, l3, l4⟩ := lenS_rg hB.2.2.1 a (s := (t : Int)) (by omega)
    have hh := zloop (fun k : Nat => zx zblk xs 46 27 [some (.inr (.inr (some pM))), some (.inl (c)), some (.inl (A + g pM_weights t * zsum (fun k => oddS g (rowS g c t k)) k)), some (.inl ((t : Int))), some (.inl (48 * c + 6 * t)), some (.inl ((k : Int) + 1))] [] (HH g)) (lenS g c t) (fun k hk => by
      have hrow := l4 k hk
      have e2 : g pM_rows (48 * c + 6 * t + ((k : Int) + 1)) = rowS g c t k := by unfold rowS; congr 1; omega
      rw [e_M_oddnessOf_27, pM_r_rows, pM_a_rows xs _ (by omega) (by omega), l3, if_neg (by rw [zw_id (by omega) (by omega), zw_id (by omega) (by omega)]; omega), pM_r_weights, pM_a_weights xs _ (by omega) (by omega), pM_r_rows, pM_a_rows xs _ (by omega) (by omega), e2, pM_ck, M_oddOf xs g _ (zw_id (by omega) (by omega)) hB.1, zci_ok, zsum, Int.mul_add, Int.natCast_succ, Int.add_assoc])
    refine Eq.trans ?_ (hh.trans ?_)
    · simp only [zsum, Int.mul_zero, Int.add_zero]
      rfl
    · rw [e_M_oddnessOf_27, pM_r_rows, pM_a_rows xs _ (by omega) (by omega), l3, if_pos (by rw [zw_id (by omega) (by omega), zw_id (by omega) (by omega)]; omega)]
      rfl
  have hh := zloop (fun t : Nat => zx zblk xs 46 4 [some (.inr (.inr (some pM))), some (.inl (c)), some (.inl (zsum (fun t => g pM_weights t * osm g c t) t)), some (.inl ((t : Int)))] [] (HH g)) (saidS g c).toNat (fun t ht => by
    rw [e_M_oddnessOf_4, pM_ck, M_saidBy xs hB a, zci_ok, if_neg (by rw [zw_id (by omega) (by omega), zw_id (by omega) (by omega)]; omega), inner t _ (by omega), e_M_oddnessOf_69, zsum, Int.natCast_succ])
  rw [e_M_oddnessOf_0]
  refine Eq.trans ?_ (hh.trans ?_)
  · rfl
  · rw [e_M_oddnessOf_4, pM_ck, M_saidBy xs hB a, zci_ok, if_pos (by rw [zw_id (by omega) (by omega), zw_id (by omega) (by omega)]; omega), e_M_oddnessOf_75]
    rfl
theorem M_oddness (xs : List Int) {g : Nat → Int → Int} (hB : Bd g) {c : Int} (hc : zw c = c) : zx zblk xs 47 0 [some (.inr (.inr (some pM))), some (.inl (c))] [] (HH g) = some (some (.inl (odS g c)), HH g) := by
  rw [e_M_oddness_0, pM_ck, M_isCode' xs hB hc, zci_ok, zb_zw]
  unfold odS
  by_cases a : 0 ≤ c ∧ c < g pM 5
  · rw [zb_t a, if_neg (by decide), if_pos a, pM_ck, M_oddnessOf xs hB a, zci_ok, e_M_oddness_18]
  · rw [zb_f a, if_pos rfl, if_neg a, e_M_oddness_16, e_M_oddness_18]
theorem X_oddIn (xs : List Int) {G g : Nat → Int → Int} (hB : Bd G) (h : Rel G g) {c : Nat} (hc : (c : Int) < G pM 5) : zx zblk xs 150 13 [some (.inr (.inr (some pX))), none, some (.inr (.inr (some (PC c))))] [] (HH g) = some (some (.inl (odO G c)), HH g) := by
  obtain ⟨-, ⟨hc0, hc1⟩, -, ⟨h2, h3⟩, -⟩ := id hB.1
  have hc4 : c < 4 := by omega
  have a : 0 ≤ (c : Int) ∧ (c : Int) < G pM 5 := by omega
  have h1 := nS_rg hB a
  have hs := saidS_rg hB a
  have hw := wL_len hB.1
  have hh := zloop (fun t : Nat => zx zblk xs 150 25 [some (.inr (.inr (some pX))), none, some (.inr (.inr (some (PC c)))), some (.inl (saidS G c)), some (.inl (zsum (fun t => G pM_weights t * osm G c t) t)), some (.inl ((t : Int)))] [] (HH g)) (saidS G c).toNat (fun t ht => by
    obtain ⟨r1, r2, r3, r4⟩ := rowL_ok hB (c := c) (s := t) a (by omega)
    have hat : zat (wL G) (t : Int) = G pM_weights t := by unfold wL; rw [zat_Li (by omega)]; rfl
    have hos : zsum (fun k => oddS G ((rowL G c t).getD k 0)) (rowL G c t).length = osm G c t := by
      rw [r1]
      unfold osm
      refine zsum_cg (fun k hk => ?_)
      unfold rowL
      rw [zLi_getD _ hk]
    rw [e_X_oddness_25, if_neg (by rw [zw_id (by omega) (by omega), zw_id (by omega) (by omega)]; omega), pX_r_weights, Rw_ck Rw11, Row_at xs Rw11 h.2.1 hw.2 t (zw_id (by omega) (by omega)), zci_ok, hat, pX_r_signals, Co_ck (zCo_PC hc4), Code_spoken xs (zCo_PC hc4) t (by omega), zcr_ok, Sg_ck, Signals_oddOfAll xs hB.1 hB.2.2.2.1 h.1 (Rw_sp hc4 (by omega)) (h.sp hc4 hc (by omega)) r2 (isR7_int r4), zci_ok, hos, zsum, Int.natCast_succ])
  rw [e_X_oddness_13, pX_ck, X_thingsSaid xs hB h c hc, zci_ok]
  refine Eq.trans ?_ (hh.trans ?_)
  · rfl
  · rw [e_X_oddness_25, if_pos (by rw [zw_id (by omega) (by omega), zw_id (by omega) (by omega)]; omega), e_X_oddness_65]
    rfl
theorem X_oddness (xs : List Int) {G g : Nat → Int → Int} (hB : Bd G) (h : Rel G g) {c : Int} (hc : zw c = c) : zx zblk xs 150 0 [some (.inr (.inr (some pX))), some (.inl (c))] [] (HH g) = some (some (.inl (odS G c)), HH g) := by
  rw [e_X_oddness_0, pX_ck]
  unfold odS
  by_cases a : 0 ≤ c ∧ c < G pM 5
  · obtain ⟨k, rfl⟩ : ∃ k : Nat, c = k := ⟨c.toNat, by omega⟩
    rw [X_codeAt_in xs hB h k a.2, zcr_ok, zif_some, if_pos a, X_oddIn xs hB h a.2]
  · rw [X_codeAt_out xs hB h c hc a, zcr_ok, zif, if_neg a]
/-- what it costs to change one code for another -/
def chO (G : Nat → Int → Int) (a b : Int) : Int := zsum (fun i => if i < nS G a ∧ rowL G a i = rowL G b i then 0 else longS G b i) (nS G b)
def chS (G : Nat → Int → Int) (a b : Int) : Int := if (0 ≤ a ∧ a < G pM 5) ∧ (0 ≤ b ∧ b < G pM 5) then chO G a b else -101
def chB (G : Nat → Int → Int) (c : Int) : Nat → Int × Int
  | 0 => (-1, 0)
  | n + 1 => if (n : Int) ≠ c ∧ ((chB G c n).1 = -1 ∨ chO G c n < (chB G c n).2) then ((n : Int), chO G c n) else chB G c n
def cpS (G : Nat → Int → Int) (c : Int) : Int := if 0 ≤ c ∧ c < G pM 5 then (chB G c (G pM 5).toNat).1 else -101
theorem es_rowL {g1 g : Nat → Int → Int} (h : es g1 = es g) : rowL g1 = rowL g := by
  funext c s
  unfold rowL
  rw [es_rowS h, es_lenS h]
theorem es_chO {g1 g : Nat → Int → Int} (h : es g1 = es g) : chO g1 = chO g := by
  funext a b
  unfold chO
  rw [es_nS h, es_rowL h, es_longS h]
theorem es_chS {g1 g : Nat → Int → Int} (h : es g1 = es g) : chS g1 = chS g := by
  obtain ⟨e1, e2, e3, e4, e5, e6, e7, e8, e9, e10, e11, e12, e13, e14, e15⟩ := es_all h
  funext a b
  unfold chS
  rw [e10, es_chO h]
theorem es_chB {g1 g : Nat → Int → Int} (h : es g1 = es g) : chB g1 = chB g := by
  funext c n
  induction n with
  | zero => rfl
  | succ n ih => rw [chB, chB, ih, es_chO h]
theorem es_cpS {g1 g : Nat → Int → Int} (h : es g1 = es g) : cpS g1 = cpS g := by
  obtain ⟨e1, e2, e3, e4, e5, e6, e7, e8, e9, e10, e11, e12, e13, e14, e15⟩ := es_all h
  funext c
  unfold cpS
  rw [e10, es_chB h]
theorem chO_rg {G : Nat → Int → Int} (hB : Bd G) (a : Int) {b : Int} (hb : 0 ≤ b ∧ b < G pM 5) : 0 ≤ chO G a b ∧ chO G a b ≤ 360 := by
  have h1 := nS_rg hB hb
  have := zsum_rg (a := 0) (b := 45) (n := nS G b) (f := fun i => if i < nS G a ∧ rowL G a i = rowL G b i then 0 else longS G b i) (fun k hk => by
    have := longS_rg hB hb (s := (k : Int)) (by omega)
    split <;> omega)
  unfold chO
  omega
theorem chB_rg {G : Nat → Int → Int} (hB : Bd G) (c : Int) : ∀ n : Nat, (n : Int) ≤ G pM 5 → -1 ≤ (chB G c n).1 ∧ (chB G c n).1 < n ∧ 0 ≤ (chB G c n).2 ∧ (chB G c n).2 ≤ 360
  | 0, _ => by simp [chB]
  | n + 1, h => by
    have ih := chB_rg hB c n (by omega)
    have := chO_rg hB c (b := (n : Int)) (by omega)
    rw [chB]
    split
    · simp only []; omega
    · omega
theorem M_isLike (xs : List Int) {g : Nat → Int → Int} (hB : Bd g) {a b : Int} (ha : 0 ≤ a ∧ a < g pM 5) (hb : 0 ≤ b ∧ b < g pM 5) {i : Nat} (hia : i < nS g a) (hib : i < nS g b) : zx zblk xs 66 0 [some (.inr (.inr (some pM))), some (.inl (a)), some (.inl (b)), some (.inl ((i : Int)))] [] (HH g) = some (some (.inl (zb (rowL g a i = rowL g b i))), HH g) := by
  obtain ⟨-, ⟨hc0, hc1⟩, -⟩ := id hB.1
  have na := nS_rg hB ha
  have nb := nS_rg hB hb
  obtain ⟨l1, l2, l3, l4⟩ := lenS_rg hB.2.2.1 ha (s := (i : Int)) (by omega)
  obtain ⟨m1, m2, m3, m4⟩ := lenS_rg hB.2.2.1 hb (s := (i : Int)) (by omega)
  have la : (rowL g a i).length = lenS g a i := zLi_len _ _
  have lb : (rowL g b i).length = lenS g b i := zLi_len _ _
  have e49 : ∀ k : Int, zw k = k → zx zblk xs 66 49 [some (.inr (.inr (some pM))), none, none, none, some (.inl (48 * a + 6 * i)), some (.inl (48 * b + 6 * i)), some (.inl (0)), some (.inl (k))] [] (HH g) = some (some (.inl 0), HH g) := by
    intro k hk
    rw [e_M_isLike_49, pM_r_rows, pM_a_rows xs _ (by omega) (by omega), e_M_isLike_102, if_pos (Or.inl rfl)]
    split
    · rfl
    · rw [if_pos (show zw 0 = 0 from rfl)]
  rw [e_M_isLike_0, pM_r_rows, pM_a_rows xs _ (by omega) (by omega), pM_r_rows, pM_a_rows xs _ (by omega) (by omega), l3, m3, zw_id (by omega) (by omega), zw_id (by omega) (by omega)]
  by_cases hl : lenS g a i = lenS g b i
  · rw [if_neg (by omega), e_M_isLike_44]
    have loop : ∀ (r k : Nat), k + r = lenS g a i → (rowL g a i).take k = (rowL g b i).take k → zx zblk xs 66 49 [some (.inr (.inr (some pM))), none, none, none, some (.inl (48 * a + 6 * i)), some (.inl (48 * b + 6 * i)), some (.inl (1)), some (.inl ((k : Int) + 1))] [] (HH g) = some (some (.inl (zb (rowL g a i = rowL g b i))), HH g) := by
      intro r
      induction r with
      | zero =>
        intro k hk ht
        rw [List.take_of_length_le (by omega), List.take_of_length_le (by omega)] at ht
        rw [e_M_isLike_49, pM_r_rows, pM_a_rows xs _ (by omega) (by omega), l3, if_pos (by rw [zw_id (by omega) (by omega), zw_id (by omega) (by omega)]; omega), e_M_isLike_102, if_pos (Or.inr rfl), zb_t ht]
      | succ r ih =>
        intro k hk ht
        have e1 : g pM_rows (48 * a + 6 * i + ((k : Int) + 1)) = rowS g a i k := by unfold rowS; congr 1; omega
        have e2 : g pM_rows (48 * b + 6 * i + ((k : Int) + 1)) = rowS g b i k := by unfold rowS; congr 1; omega
        have b1 := l4 k (by omega)
        have b2 := m4 k (by omega)
        have g1 : (rowL g a i)[k]'(by omega) = rowS g a i k := zLi_get _ _
        have g2 : (rowL g b i)[k]'(by omega) = rowS g b i k := zLi_get _ _
        have hts := take_succ_eq (A := rowL g a i) (B := rowL g b i) (k := k) (by omega) (by omega)
        rw [g1, g2] at hts
        rw [e_M_isLike_49, pM_r_rows, pM_a_rows xs _ (by omega) (by omega), l3, if_neg (by rw [zw_id (by omega) (by omega), zw_id (by omega) (by omega)]; omega), if_neg (by decide), pM_r_rows, pM_a_rows xs _ (by omega) (by omega), pM_r_rows, pM_a_rows xs _ (by omega) (by omega), e1, e2, zw_id (by omega) (by omega), zw_id (by omega) (by omega)]
        by_cases he : rowS g a i k = rowS g b i k
        · rw [if_neg (by simpa using he), e_M_isLike_94, ← Int.natCast_succ]
          exact ih (k + 1) (by omega) (hts.mpr ⟨ht, he⟩)
        · rw [if_pos he, e_M_isLike_93, e_M_isLike_94, e49 _ (zw_id (by omega) (by omega)), zb_f]
          intro z
          rw [z] at hts
          exact he (hts.mp rfl).2
    have h0 := loop (lenS g a i) 0 (by omega) rfl
    rw [z0N] at h0
    exact h0
  · rw [if_pos (by omega), e_M_isLike_43, e_M_isLike_44, e49 1 rfl, zb_f]
    intro z
    rw [← la, ← lb, z] at hl
    exact hl rfl
theorem M_changeOf (xs : List Int) {g : Nat → Int → Int} (hB : Bd g) {a b : Int} (ha : 0 ≤ a ∧ a < g pM 5) (hb : 0 ≤ b ∧ b < g pM 5) : zx zblk xs 67 0 [some (.inr (.inr (some pM))), some (.inl (a)), some (.inl (b))] [] (HH g) = some (some (.inl (chO g a b)), HH g) := by
  obtain ⟨-, ⟨hc0, hc1⟩, -⟩ := id hB.1
  have na := nS_rg hB ha
  have nb := nS_rg hB hb
  have hh := zloop (fun i : Nat => zx zblk xs 67 5 [some (.inr (.inr (some pM))), some (.inl (a)), some (.inl (b)), some (.inl (zsum (fun i => if i < nS g a ∧ rowL g a i = rowL g b i then 0 else longS g b i) i)), some (.inl ((i : Int)))] [] (HH g)) (nS g b) (fun i hi => by
    have e42 : zx zblk xs 67 42 [some (.inr (.inr (some pM))), some (.inl (a)), some (.inl (b)), some (.inl (zsum (fun i => if i < nS g a ∧ rowL g a i = rowL g b i then 0 else longS g b i) i)), some (.inl ((i : Int)))] [] (HH g) = zx zblk xs 67 5 [some (.inr (.inr (some pM))), some (.inl (a)), some (.inl (b)), some (.inl (zsum (fun i => if i < nS g a ∧ rowL g a i = rowL g b i then 0 else longS g b i) i + longS g b i)), some (.inl (((i + 1 : Nat) : Int)))] [] (HH g) := by
      rw [e_M_changeOf_42, e_M_changeOf_43, if_pos (show zw 0 = 0 from rfl), e_M_changeOf_55, pM_ck, M_longOf xs g b i hB hb (by omega), zci_ok, e_M_changeOf_62, Int.natCast_succ]
    rw [e_M_changeOf_5, pM_r_speeches, pM_a_speeches xs _ (by omega) (by omega), if_neg (by rw [zw_id (by omega) (by omega), zw_id (by omega) (by omega)]; omega), pM_r_speeches, pM_a_speeches xs _ (by omega) (by omega), e42, zw_id (a := g pM_speeches a) (by omega) (by omega), zw_id (a := (i : Int)) (by omega) (by omega), zsum]
    by_cases hia : i < nS g a
    · rw [if_neg (by omega), pM_ck, M_isLike xs hB ha hb hia hi, zci_ok, zb_zw]
      by_cases he : rowL g a i = rowL g b i
      · rw [zb_t he, if_neg (by decide), e_M_changeOf_43, if_neg (by decide), e_M_changeOf_62, if_pos ⟨hia, he⟩, Int.natCast_succ]
      · rw [zb_f he, if_pos rfl, e42, if_neg (fun z => he z.2)]
    · rw [if_pos (by omega), if_neg (fun z => hia z.1)])
  rw [e_M_changeOf_0]
  refine Eq.trans ?_ (hh.trans ?_)
  · rfl
  · rw [e_M_changeOf_5, pM_r_speeches, pM_a_speeches xs _ (by omega) (by omega), if_pos (by rw [zw_id (by omega) (by omega), zw_id (by omega) (by omega)]; omega), e_M_changeOf_70]
    rfl
theorem M_change (xs : List Int) {g : Nat → Int → Int} (hB : Bd g) {a b : Int} (ha : zw a = a) (hb : zw b = b) : zx zblk xs 68 0 [some (.inr (.inr (some pM))), some (.inl (a)), some (.inl (b))] [] (HH g) = some (some (.inl (chS g a b)), HH g) := by
  have e25 : zx zblk xs 68 25 [] [] (HH g) = some (some (.inl (-101)), HH g) := by rw [e_M_change_25, e_M_change_27]
  rw [e_M_change_0, pM_ck, M_isCode' xs hB ha, zci_ok, zb_zw]
  unfold chS
  by_cases c : 0 ≤ a ∧ a < g pM 5
  · rw [zb_t c, if_neg (by decide), pM_ck, M_isCode' xs hB hb, zci_ok, zb_zw]
    by_cases d : 0 ≤ b ∧ b < g pM 5
    · rw [zb_t d, if_neg (by decide), pM_ck, M_changeOf xs hB c d, zci_ok, e_M_change_27, if_pos ⟨c, d⟩]
    · rw [zb_f d, if_pos rfl, e25, if_neg (fun z => d z.2)]
  · rw [zb_f c, if_pos rfl, e25, if_neg (fun z => c z.1)]
theorem X_changeOf (xs : List Int) {G g : Nat → Int → Int} (hB : Bd G) (h : Rel G g) {a b : Nat} (ha : (a : Int) < G pM 5) (hb : (b : Int) < G pM 5) : zx zblk xs 189 0 [some (.inr (.inr (some pX))), some (.inr (.inr (some (PC a)))), some (.inr (.inr (some (PC b))))] [] (HH g) = some (some (.inl (chO G a b)), HH g) := by
  obtain ⟨-, ⟨hc0, hc1⟩, -⟩ := id hB.1
  have a4 : a < 4 := by omega
  have b4 : b < 4 := by omega
  have na := nS_rg hB (c := a) (by omega)
  have nb := nS_rg hB (c := b) (by omega)
  have ca := h.cd a4 ha
  have cb := h.cd b4 hb
  have oa := zCo_PC a4
  have ob := zCo_PC b4
  have hh := zloop (fun i : Nat => zx zblk xs 189 5 [some (.inr (.inr (some pX))), some (.inr (.inr (some (PC a)))), some (.inr (.inr (some (PC b)))), some (.inl (zsum (fun i => if i < nS G a ∧ rowL G a i = rowL G b i then 0 else longS G b i) i)), some (.inl ((i : Int)))] [] (HH g)) (nS G b) (fun i hi => by
    obtain ⟨s1, s2, s3, s4⟩ := rowL_ok hB (c := b) (s := i) (by omega) (by omega)
    have e41 : zx zblk xs 189 41 [some (.inr (.inr (some pX))), some (.inr (.inr (some (PC a)))), some (.inr (.inr (some (PC b)))), some (.inl (zsum (fun i => if i < nS G a ∧ rowL G a i = rowL G b i then 0 else longS G b i) i)), some (.inl ((i : Int)))] [] (HH g) = zx zblk xs 189 5 [some (.inr (.inr (some pX))), some (.inr (.inr (some (PC a)))), some (.inr (.inr (some (PC b)))), some (.inl (zsum (fun i => if i < nS G a ∧ rowL G a i = rowL G b i then 0 else longS G b i) i + longS G b i)), some (.inl (((i + 1 : Nat) : Int)))] [] (HH g) := by
      rw [e_X_changeOf_41, pX_ck, X_longOf xs hB h b i hb hi, zci_ok, e_X_changeOf_51, Int.natCast_succ]
    rw [e_X_changeOf_5, Co_ck ob, Code_size xs ob, zci_ok, cb.2.1, if_neg (by rw [zw_id (by omega) (by omega), zw_id (by omega) (by omega)]; omega), Co_ck oa, Code_size xs oa, zci_ok, ca.2.1, zw_id (a := (nS G a : Int)) (by omega) (by omega), zw_id (a := (i : Int)) (by omega) (by omega), e41, zsum]
    by_cases hia : i < nS G a
    · obtain ⟨r1, r2, r3, r4⟩ := rowL_ok hB (c := a) (s := i) (by omega) (by omega)
      rw [if_neg (by omega), Co_ck oa, Code_spoken xs oa i (by omega), zcr_ok, Co_ck ob, Code_spoken xs ob i (by omega), zcr_ok, Rw_ck (Rw_sp a4 (by omega)), Row_isLike xs (Rw_sp a4 (by omega)) (Rw_sp b4 (by omega)) (h.sp a4 ha hia) (h.sp b4 hb hi) r2 s2 r4 s4, zci_ok, zb_zw]
      by_cases he : rowL G a i = rowL G b i
      · rw [zb_t he, if_pos (by decide), e_X_changeOf_51, if_pos ⟨hia, he⟩, Int.add_zero, Int.natCast_succ]
      · rw [zb_f he, if_neg (by decide), e41, if_neg (fun z => he z.2)]
    · rw [if_pos (by omega), if_neg (fun z => hia z.1)])
  rw [e_X_changeOf_0]
  refine Eq.trans ?_ (hh.trans ?_)
  · rfl
  · rw [e_X_changeOf_5, Co_ck ob, Code_size xs ob, zci_ok, cb.2.1, if_pos (by omega), e_X_changeOf_57]
    rfl
theorem X_change (xs : List Int) {G g : Nat → Int → Int} (hB : Bd G) (h : Rel G g) {a b : Int} (ha : zw a = a) (hb : zw b = b) : zx zblk xs 161 0 [some (.inr (.inr (some pX))), some (.inl (a)), some (.inl (b))] [] (HH g) = some (some (.inl (chS G a b)), HH g) := by
  have e22 : zx zblk xs 161 22 [] [] (HH g) = some (some (.inl (-101)), HH g) := e_X_change_22 xs _
  rw [e_X_change_0, pX_ck]
  unfold chS
  by_cases c : 0 ≤ a ∧ a < G pM 5
  · obtain ⟨k, rfl⟩ : ∃ k : Nat, a = k := ⟨a.toNat, by omega⟩
    rw [X_codeAt_in xs hB h k c.2, zcr_ok, pX_ck]
    by_cases d : 0 ≤ b ∧ b < G pM 5
    · obtain ⟨j, rfl⟩ : ∃ j : Nat, b = j := ⟨b.toNat, by omega⟩
      rw [X_codeAt_in xs hB h j d.2, zcr_ok, zif_some, zif_some, e_X_change_25, pX_ck, X_changeOf xs hB h c.2 d.2, zci_ok, if_pos ⟨c, d⟩]
    · rw [X_codeAt_out xs hB h b hb d, zcr_ok, zif_some, zif, e22, if_neg (fun z => d z.2)]
  · rw [X_codeAt_out xs hB h a ha c, zcr_ok, pX_ck]
    rw [if_neg (fun z => c z.1)]
    by_cases d : 0 ≤ b ∧ b < G pM 5
    · obtain ⟨j, rfl⟩ : ∃ j : Nat, b = j := ⟨b.toNat, by omega⟩
      rw [X_codeAt_in xs hB h j d.2, zcr_ok, zif, e22]
    · rw [X_codeAt_out xs hB h b hb d, zcr_ok, zif, e22]
theorem M_cheapest (xs : List Int) {g : Nat → Int → Int} (hB : Bd g) {c : Int} (hc : zw c = c) : zx zblk xs 69 0 [some (.inr (.inr (some pM))), some (.inl (c))] [] (HH g) = some (some (.inl (cpS g c)), HH g) := by
  obtain ⟨-, ⟨hc0, hc1⟩, -⟩ := id hB.1
  rw [e_M_cheapest_0, pM_ck, M_isCode' xs hB hc, zci_ok, zb_zw]
  unfold cpS
  by_cases a : 0 ≤ c ∧ c < g pM 5
  · rw [zb_t a, if_pos (by decide), if_pos a, e_M_cheapest_11]
    have hh := zloop (fun n : Nat => zx zblk xs 69 18 [some (.inr (.inr (some pM))), some (.inl (c)), some (.inl ((chB g c n).1)), some (.inl ((chB g c n).2)), some (.inl ((n : Int)))] [] (HH g)) (g pM 5).toNat (fun n hn => by
      have hr := chB_rg hB c n (by omega)
      have ho := chO_rg hB c (b := (n : Int)) (by omega)
      have e53 : ∀ v2 v3 : Int, zx zblk xs 69 53 [some (.inr (.inr (some pM))), some (.inl (c)), some (.inl (v2)), some (.inl (v3)), some (.inl ((n : Int))), some (.inl (chO g c n))] [] (HH g) = zx zblk xs 69 18 [some (.inr (.inr (some pM))), some (.inl (c)), some (.inl ((n : Int))), some (.inl (chO g c n)), some (.inl (((n + 1 : Nat) : Int)))] [] (HH g) := fun v2 v3 => by
        rw [e_M_cheapest_53, e_M_cheapest_58, if_neg (by decide), e_M_cheapest_71, if_neg (by decide), e_M_cheapest_83, Int.natCast_succ]
      have e57 : ∀ v2 v3 : Int, zx zblk xs 69 57 [some (.inr (.inr (some pM))), some (.inl (c)), some (.inl (v2)), some (.inl (v3)), some (.inl ((n : Int))), some (.inl (chO g c n))] [] (HH g) = zx zblk xs 69 18 [some (.inr (.inr (some pM))), some (.inl (c)), some (.inl (v2)), some (.inl (v3)), some (.inl (((n + 1 : Nat) : Int)))] [] (HH g) := fun v2 v3 => by
        rw [e_M_cheapest_57, e_M_cheapest_58, if_pos (show zw 0 = 0 from rfl), e_M_cheapest_70, e_M_cheapest_71, if_pos (show zw 0 = 0 from rfl), e_M_cheapest_82, e_M_cheapest_83, Int.natCast_succ]
      rw [e_M_cheapest_18, pM_g_codes, if_neg (by rw [zw_id (by omega) (by omega), zw_id (by omega) (by omega)]; omega), pM_ck, M_changeOf xs hB a (b := (n : Int)) (by omega), zci_ok, e53, e57, hc, zw_id (a := (n : Int)) (by omega) (by omega), zw_id (a := (chB g c n).1) (by omega) (by omega), zw_id (a := (chB g c n).2) (by omega) (by omega), zw_id (a := chO g c n) (by omega) (by omega), show zw (-1) = -1 from rfl, chB]
      by_cases b1 : (n : Int) = c
      · rw [if_pos b1, if_neg (fun z => z.1 b1)]
      · rw [if_neg b1]
        by_cases b2 : (chB g c n).1 = -1
        · rw [if_pos b2, if_pos ⟨b1, Or.inl b2⟩]
        · rw [if_neg b2]
          by_cases b3 : chO g c n < (chB g c n).2
          · rw [if_neg (by omega), if_pos ⟨b1, Or.inr b3⟩]
          · rw [if_pos (by omega), if_neg (by omega)])
    refine Eq.trans ?_ (hh.trans ?_)
    · rfl
    · rw [e_M_cheapest_18, pM_g_codes, if_pos (by rw [zw_id (by omega) (by omega), zw_id (by omega) (by omega)]; omega), e_M_cheapest_90]
  · rw [zb_f a, if_neg (by decide), if_neg a]
theorem X_cheapest (xs : List Int) {G g : Nat → Int → Int} (hB : Bd G) (h : Rel G g) {c : Int} (hc : zw c = c) : zx zblk xs 162 0 [some (.inr (.inr (some pX))), some (.inl (c))] [] (HH g) = some (some (.inl (cpS G c)), HH g) := by
  obtain ⟨-, ⟨hc0, hc1⟩, -⟩ := id hB.1
  have e3 := h.2.2.2.1.1
  rw [e_X_cheapest_0, pX_ck]
  unfold cpS
  by_cases a : 0 ≤ c ∧ c < G pM 5
  · obtain ⟨k, rfl⟩ : ∃ k : Nat, c = k := ⟨c.toNat, by omega⟩
    rw [X_codeAt_in xs hB h k a.2, zcr_ok, zif_some, if_pos a, e_X_cheapest_13]
    have hh := zloop (fun n : Nat => zx zblk xs 162 21 [some (.inr (.inr (some pX))), some (.inl ((k : Int))), some (.inr (.inr (some (PC k)))), some (.inl ((chB G k n).1)), some (.inl ((chB G k n).2)), some (.inl ((n : Int)))] [] (HH g)) (G pM 5).toNat (fun n hn => by
      have hr := chB_rg hB k n (by omega)
      have ho := chO_rg hB k (b := (n : Int)) (by omega)
      have e80 : ∀ v2 v3 : Int, zx zblk xs 162 80 [some (.inr (.inr (some pX))), some (.inl ((k : Int))), some (.inr (.inr (some (PC k)))), some (.inl (v2)), some (.inl (v3)), some (.inl ((n : Int)))] [] (HH g) = zx zblk xs 162 21 [some (.inr (.inr (some pX))), some (.inl ((k : Int))), some (.inr (.inr (some (PC k)))), some (.inl (v2)), some (.inl (v3)), some (.inl (((n + 1 : Nat) : Int)))] [] (HH g) := fun v2 v3 => by
        rw [e_X_cheapest_80, Int.natCast_succ]
      rw [e_X_cheapest_21, pX_g_codesRead, e3, if_neg (by rw [zw_id (by omega) (by omega), zw_id (by omega) (by omega)]; omega), pX_ck, X_codeAt_in xs hB h n (by omega), zcr_ok, zif_some, hc, zw_id (a := (n : Int)) (by omega) (by omega), chB]
      by_cases b1 : (n : Int) = k
      · rw [if_neg (by omega), if_neg (fun z => z.1 b1), e80]
      · rw [if_pos b1, e_X_cheapest_52, pX_ck, X_changeOf xs hB h a.2 (by omega), zci_ok, zw_id (a := (chB G k n).1) (by omega) (by omega), zw_id (a := (chB G k n).2) (by omega) (by omega), zw_id (a := chO G k n) (by omega) (by omega), show zw (-1) = -1 from rfl, e_X_cheapest_73, e80, e80]
        by_cases b2 : (chB G k n).1 = -1
        · rw [if_pos b2, if_pos ⟨b1, Or.inl b2⟩]
        · rw [if_neg b2]
          by_cases b3 : chO G k n < (chB G k n).2
          · rw [if_neg (by omega), if_pos ⟨b1, Or.inr b3⟩]
          · rw [if_pos (by omega), if_neg (by omega)])
    refine Eq.trans ?_ (hh.trans ?_)
    · rfl
    · rw [e_X_cheapest_21, pX_g_codesRead, e3, if_pos (by rw [zw_id (by omega) (by omega), zw_id (by omega) (by omega)]; omega), e_X_cheapest_86]
  · rw [X_codeAt_out xs hB h c hc a, zcr_ok, zif, if_neg a]
/-- a NOTES object -/
def zNo (P : Nat) : Prop := P ≠ 0 ∧ zsh[P - 1]? = some (1, [P + 1 + 3, P + 3 + 3]) ∧ zRw (P + 1) 10 ∧ zRws (P + 3) 10 8
theorem No16 : zNo 16 := ⟨by decide, rfl, Rw17, Rs19⟩
theorem No45 : zNo 45 := ⟨by decide, rfl, Rw46, Rs48⟩
section NOTES
variable {P : Nat} {g : Nat → Int → Int}
theorem No_ck (h : zNo P) (o : Option zR) : zck (HH g) (some P) 1 o = o := HH_ck h.2.1 h.1 rfl o
theorem No_t (h : zNo P) (f : Option Nat → Option zR) : zgr (HH g) (some P) 1 0 f = f (some (P + 1)) := HH_gr (j := 0) h.2.1 h.1 rfl rfl f
theorem No_r (h : zNo P) (f : Option Nat → Option zR) : zgr (HH g) (some P) 1 1 f = f (some (P + 3)) := HH_gr (j := 1) h.2.1 h.1 rfl rfl f
theorem Notes_size (xs : List Int) (h : zNo P) {f : Int → Int} {n : Int} (hn0 : 0 ≤ n) (hr : RelN g P f n) : zx zblk xs 94 0 [some (.inr (.inr (some P)))] [] (HH g) = some (some (.inl n), HH g) := by
  rw [e_Notes_size_0, No_t h, Rw_ck h.2.2.1, Row_size xs h.2.2.1 hr.1, zci_ok, zLi_len, Int.toNat_of_nonneg hn0]
theorem Notes_thingOf (xs : List Int) (h : zNo P) {f : Int → Int} {n : Int} (hn : n ≤ 10) (hr : RelN g P f n) (k : Nat) (hk : (k : Int) < n) : zx zblk xs 95 0 [some (.inr (.inr (some P))), some (.inl ((k : Int)))] [] (HH g) = some (some (.inl (f (10 * k))), HH g) := by
  rw [e_Notes_thingOf_0, No_t h, Rw_ck h.2.2.1, Row_at xs h.2.2.1 hr.1 (by rw [zLi_len]; omega) k (zw_id (by omega) (by omega)), zci_ok, zat_Li (by omega)]
  rfl
theorem Notes_rowOf (xs : List Int) (h : zNo P) (k : Nat) (hk : k < 10) : zx zblk xs 96 0 [some (.inr (.inr (some P))), some (.inl ((k : Int)))] [] (HH g) = some (some (.inr (.inr (some (P + 3 + 4 + 2 * k)))), HH g) := by
  rw [e_Notes_rowOf_0, No_r h, Rws_ck h.2.2.2, Rows_row xs g h.2.2.2 k hk, zcr_ok]
end NOTES
def wsum (G : Nat → Int → Int) (n : Int) : Int := zsum (fun t => G pM_weights t) n.toNat
def coS (G : Nat → Int → Int) (w : Int) : Int := if w = 0 then G pM 8 else if w = 1 then G pM 10 else if w = 2 then G pM 5 else if w = 3 then G pM 18 else if w = 4 then G pM 1 else if w = 5 then wsum G (G pM 10) else -102
theorem es_wsum {g1 g : Nat → Int → Int} (h : es g1 = es g) : wsum g1 = wsum g := by
  obtain ⟨e1, e2, e3, e4, e5, e6, e7, e8, e9, e10, e11, e12, e13, e14, e15⟩ := es_all h
  funext n
  unfold wsum
  rw [e5]
theorem es_coS {g1 g : Nat → Int → Int} (h : es g1 = es g) : coS g1 = coS g := by
  obtain ⟨e1, e2, e3, e4, e5, e6, e7, e8, e9, e10, e11, e12, e13, e14, e15⟩ := es_all h
  funext w
  unfold coS
  rw [e9, e10, e11, e12, e13, es_wsum h]
theorem M_countOf (xs : List Int) {g : Nat → Int → Int} (hB : Bd g) {w : Int} (hw : zw w = w) : zx zblk xs 77 0 [some (.inr (.inr (some pM))), some (.inl (w))] [] (HH g) = some (some (.inl (coS g w)), HH g) := by
  obtain ⟨-, -, -, ⟨h2, h3⟩, -⟩ := hB.1
  rw [e_M_countOf_0, hw]
  unfold coS
  by_cases b : 0 ≤ w ∧ w ≤ 5
  · rw [if_neg (by omega)]
    have hh : w = 0 ∨ w = 1 ∨ w = 2 ∨ w = 3 ∨ w = 4 ∨ w = 5 := by omega
    rcases hh with rfl | rfl | rfl | rfl | rfl | rfl
    · rw [show ([40, 45, 50, 55, 60, 65] : List Nat)[((0 : Int) - 0).toNat]? = some 40 from rfl, zsel_some, e_M_countOf_40, pM_g_signals, if_pos rfl]
    · rw [show ([40, 45, 50, 55, 60, 65] : List Nat)[((1 : Int) - 0).toNat]? = some 45 from rfl, zsel_some, e_M_countOf_45, pM_g_things]
      rfl
    · rw [show ([40, 45, 50, 55, 60, 65] : List Nat)[((2 : Int) - 0).toNat]? = some 50 from rfl, zsel_some, e_M_countOf_50, pM_g_codes]
      rfl
    · rw [show ([40, 45, 50, 55, 60, 65] : List Nat)[((3 : Int) - 0).toNat]? = some 55 from rfl, zsel_some, e_M_countOf_55, pM_g_notes]
      rfl
    · rw [show ([40, 45, 50, 55, 60, 65] : List Nat)[((4 : Int) - 0).toNat]? = some 60 from rfl, zsel_some, e_M_countOf_60, pM_g_pageMany]
      rfl
    · have hwm := M_weighed xs hB (g pM 10).toNat (by omega)
      rw [Int.toNat_of_nonneg h2] at hwm
      rw [show ([40, 45, 50, 55, 60, 65] : List Nat)[((5 : Int) - 0).toNat]? = some 65 from rfl, zsel_some, e_M_countOf_65, pM_g_things, pM_ck, hwm, zci_ok]
      rfl
  · rw [if_pos (by omega), e_M_countOf_74, if_neg (by omega), if_neg (by omega), if_neg (by omega), if_neg (by omega), if_neg (by omega), if_neg (by omega)]
theorem M_count (xs : List Int) {g : Nat → Int → Int} (hB : Bd g) {w : Int} (hw : zw w = w) : zx zblk xs 78 0 [some (.inr (.inr (some pM))), some (.inl (w))] [] (HH g) = some (some (.inl (coS g w)), HH g) := by
  rw [e_M_count_0, pM_ck, M_countOf xs hB hw, zci_ok]
theorem X_weighed (xs : List Int) {G g : Nat → Int → Int} (hB : Bd G) (h : Rel G g) {m : Int} (h0 : 0 ≤ m) (hm : m ≤ G pM 10) : zx zblk xs 117 0 [some (.inr (.inr (some 11))), some (.inl (m))] [] (HH g) = some (some (.inl (wsum G m)), HH g) := by
  have hl := wL_len hB.1
  have hs := Row_sumOf xs Rw11 h.2.1 hl.2 m.toNat (by omega)
  rw [Int.toNat_of_nonneg h0] at hs
  rw [hs]
  unfold wsum
  rw [zsum_cg (f' := fun t => G pM_weights t)]
  intro k hk
  unfold wL
  rw [zLi_getD _ (by omega)]
theorem X_count (xs : List Int) {G g : Nat → Int → Int} (hB : Bd G) (h : Rel G g) {w : Int} (hw : zw w = w) : zx zblk xs 168 0 [some (.inr (.inr (some pX))), some (.inl (w))] [] (HH g) = some (some (.inl (coS G w)), HH g) := by
  obtain ⟨-, -, -, ⟨h2, h3⟩, ⟨h4, h5⟩⟩ := id hB.1
  have hl := wL_len hB.1
  have hp := pL_len hB.1
  rw [e_X_count_0, hw]
  unfold coS
  by_cases b : 0 ≤ w ∧ w ≤ 5
  · rw [if_neg (by omega)]
    have hh : w = 0 ∨ w = 1 ∨ w = 2 ∨ w = 3 ∨ w = 4 ∨ w = 5 := by omega
    rcases hh with rfl | rfl | rfl | rfl | rfl | rfl
    · rw [show ([40, 48, 56, 61, 69, 77] : List Nat)[((0 : Int) - 0).toNat]? = some 40 from rfl, zsel_some, e_X_count_40, pX_r_signals, Sg_ck, Signals_told xs hB.1 h.1, zci_ok, if_pos rfl]
    · rw [show ([40, 48, 56, 61, 69, 77] : List Nat)[((1 : Int) - 0).toNat]? = some 48 from rfl, zsel_some, e_X_count_48, pX_r_weights, Rw_ck Rw11, Row_size xs Rw11 h.2.1, zci_ok, hl.1]
      rfl
    · rw [show ([40, 48, 56, 61, 69, 77] : List Nat)[((2 : Int) - 0).toNat]? = some 56 from rfl, zsel_some, e_X_count_56, pX_g_codesRead, h.2.2.2.1.1]
      rfl
    · rw [show ([40, 48, 56, 61, 69, 77] : List Nat)[((3 : Int) - 0).toNat]? = some 61 from rfl, zsel_some, e_X_count_61, pX_r_notes, No_ck No16, Notes_size xs No16 h4 h.2.2.2.2.1, zci_ok]
      rfl
    · rw [show ([40, 48, 56, 61, 69, 77] : List Nat)[((4 : Int) - 0).toNat]? = some 69 from rfl, zsel_some, e_X_count_69, pX_r_page, Rw_ck Rw14, Row_size xs Rw14 h.2.2.1, zci_ok, hp.1]
      rfl
    · rw [show ([40, 48, 56, 61, 69, 77] : List Nat)[((5 : Int) - 0).toNat]? = some 77 from rfl, zsel_some, e_X_count_77, pX_r_weights, pX_r_weights, Rw_ck Rw11, Row_size xs Rw11 h.2.1, zci_ok, hl.1, Rw_ck Rw11, X_weighed xs hB h h2 (Int.le_refl _), zci_ok]
      rfl
  · rw [if_pos (by omega), e_X_count_92, if_neg (by omega), if_neg (by omega), if_neg (by omega), if_neg (by omega), if_neg (by omega), if_neg (by omega)]
