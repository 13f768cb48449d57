/-! ===== shortest: the class ===== -/
theorem Row_takeLeast (xs : List Int) {p n : Nat} {g : Nat → Int → Int} {l : List Int} (h : zRw p n) (hl : zRow g p l) (hn : l.length ≤ n) (hb : okL l) : ∃ g1 l2, zx zblk xs 118 0 [some (.inr (.inr (some p)))] [] (HH g) = some (some (.inl (mnL l)), HH g1) ∧ zRow g1 p l2 ∧ ((l = [] ∧ l2 = []) ∨ (mnL l :: l2).Perm l) ∧ zFr (scR p) g g1 := by
  have hn0 := h.2.1
  by_cases e : l = []
  · subst e
    refine ⟨g, [], ?_, hl, Or.inl ⟨rfl, rfl⟩, zFr.rf⟩
    rw [e_Row_takeLeast_0, Rw_g h, hl.1, if_neg (by decide)]
    rfl
  · have hpos : 0 < l.length := List.length_pos_iff.mpr e
    have hv : ∀ (k : Nat) (hk : k < l.length), 0 ≤ l[k] ∧ l[k] ≤ 800 := fun k hk => ⟨hb.1 _ (List.getElem_mem hk), by have := lsum_ge hb.1 _ (List.getElem_mem hk); have := hb.2; omega⟩
    have loop : ∀ (s i q : Nat) (hq : q < l.length), i + s = l.length → (∀ j (hj : j < l.length), j < i → l[q] ≤ l[j]) → ∃ q', ∃ hq' : q' < l.length, zx zblk xs 118 13 [some (.inr (.inr (some p))), some (.inl ((q : Int))), some (.inl ((i : Int)))] [] (HH g) = zx zblk xs 118 42 [some (.inr (.inr (some p))), some (.inl ((q' : Int)))] [] (HH g) ∧ ∀ j (hj : j < l.length), l[q'] ≤ l[j] := by
      intro s
      induction s with
      | zero =>
        intro i q hq hi hm
        refine ⟨q, hq, ?_, fun j hj => hm j hj (by omega)⟩
        rw [e_Row_takeLeast_13, Rw_g h, hl.1, if_pos (by rw [zw_id (by omega) (by omega), zw_id (by omega) (by omega)]; omega)]
      | succ s ih =>
        intro i q hq hi hm
        have v1 := hv i (by omega)
        have v2 := hv q hq
        rw [e_Row_takeLeast_13, Rw_g h, hl.1, if_neg (by rw [zw_id (by omega) (by omega), zw_id (by omega) (by omega)]; omega), Rw_ck h, Row_at xs h hl hn i (zw_id (by omega) (by omega)), zci_ok, Rw_ck h, Row_at xs h hl hn q (zw_id (by omega) (by omega)), zci_ok, zat_in (show i < l.length by omega), zat_in hq, zw_id (by omega) (by omega), zw_id (by omega) (by omega)]
        by_cases c : l[q] ≤ l[i]'(by omega)
        · rw [if_pos c, e_Row_takeLeast_36, ← Int.natCast_succ]
          exact ih (i + 1) q hq (by omega) (fun j hj hji => by
            by_cases e2 : j = i
            · subst e2; exact c
            · exact hm j hj (by omega))
        · rw [if_neg c, e_Row_takeLeast_36, ← Int.natCast_succ]
          exact ih (i + 1) i (by omega) (by omega) (fun j hj hji => by
            by_cases e2 : j = i
            · subst e2; exact Int.le_refl _
            · have := hm j hj (by omega)
              omega)
    obtain ⟨q, hq, q1, q2⟩ := loop (l.length - 1) 1 0 hpos (by omega) (fun j hj hj1 => by
      have : j = 0 := by omega
      subst this
      exact Int.le_refl _)
    have hmn : mnL l = l[q] := mnL_eq (List.getElem_mem hq) (fun w hw => by
      obtain ⟨j, hj, rfl⟩ := List.getElem_of_mem hw
      exact q2 j hj)
    obtain ⟨s1, s2⟩ := Row_set xs h hl hn q (l[l.length - 1]'(by omega)) hq
    obtain ⟨g1, d1, d2, d3⟩ := Row_dropLast xs h s2 (by rw [List.length_set]; exact hn)
    refine ⟨g1, (l.set q (l[l.length - 1]'(by omega))).dropLast, ?_, d2, Or.inr ?_, (zFr.rf.up (Or.inr rfl)).tr d3⟩
    · rw [z0N] at q1
      rw [e_Row_takeLeast_0, Rw_g h, hl.1, zw_id (by omega) (by omega), if_pos (by omega), e_Row_takeLeast_9]
      refine Eq.trans q1 ?_
      rw [e_Row_takeLeast_42, Rw_ck h, Row_at xs h hl hn q (zw_id (by omega) (by omega)), zci_ok, zat_in hq, Rw_g h, hl.1, Rw_ck h, show (l.length : Int) - 1 = ((l.length - 1 : Nat) : Int) by omega, Row_at xs h hl hn _ (zw_id (by omega) (by omega)), zci_ok, zat_in (show l.length - 1 < l.length by omega), Rw_ck h, s1, zcv_ok, Rw_ck h, d1, zcv_ok, hmn]
    · rw [hmn]
      exact set_last_perm hq
theorem X_leastLong_take (xs : List Int) (r k5 : Int) (v2 : Int) {l : List Int} (hb : okL l) {t : Nat} (ht : t ≤ 8) : ∀ (s k : Nat) (gk : Nat → Int → Int) (P : List Int), k + s = t → zRow gk 76 P → P.Perm (tkS k l).2 → P.length ≤ 8 → ∃ g1 P1, zx zblk xs 191 75 [some (.inr (.inr (some pX))), some (.inl (r)), some (.inr (.inl (v2))), none, some (.inl ((t : Int))), some (.inl (k5)), some (.inl ((tkS k l).1)), some (.inl ((k : Int)))] [] (HH gk) = zx zblk xs 191 100 [some (.inr (.inr (some pX))), some (.inl (r)), some (.inr (.inl (v2))), none, none, some (.inl (k5)), some (.inl ((tkS t l).1))] [] (HH g1) ∧ zRow g1 76 P1 ∧ P1.Perm (tkS t l).2 ∧ zFr (scR 76) gk g1 := by
  intro s
  induction s with
  | zero =>
    intro k gk P hk hr hp h8
    have : k = t := by omega
    subst this
    refine ⟨gk, P, ?_, hr, hp, zFr.rf⟩
    rw [e_X_leastLong_75, if_pos (Int.le_refl _)]
  | succ s ih =>
    intro k gk P hk hr hp h8
    obtain ⟨g2, P2, a1, a2, a3, a4⟩ := Row_takeLeast xs Rw76 hr h8 (okL_perm hp (tkS_ok hb k).1)
    obtain ⟨n1, n2⟩ := tk_next hp a3
    have hlen : P2.length ≤ 8 := by
      rcases a3 with ⟨-, e⟩ | e
      · rw [e]; simp
      · have := e.length_eq
        rw [List.length_cons] at this
        omega
    obtain ⟨g1, P1, q1, q2, q3, q4⟩ := ih (k + 1) g2 P2 (by omega) a2 n1 hlen
    refine ⟨g1, P1, ?_, q2, q3, a4.tr q4⟩
    rw [n2] at q1
    rw [e_X_leastLong_75, if_neg (by rw [zw_id (by omega) (by omega), zw_id (by omega) (by omega)]; omega), pX_r_pool, Rw_ck Rw76, a1, zci_ok, ← Int.natCast_succ]
    exact q1
theorem X_leastLong_loop (xs : List Int) {r : Nat} (hr : 2 ≤ r) (hr8 : r ≤ 8) : ∀ (f i t : Nat) (gk : Nat → Int → Int) (P : List Int) (sm : Int), i + f = 8 → 2 ≤ t → t ≤ 8 → zRow gk 76 P → P.length ≤ 8 → okL P → ∃ g1, zx zblk xs 191 51 [some (.inr (.inr (some pX))), some (.inl ((r : Int))), some (.inr (.inl (sm))), none, some (.inl ((t : Int))), some (.inl ((i : Int)))] [] (HH gk) = some (some (.inr (.inl (sm + hfS r f t P))), HH g1) ∧ zFr (scR 76) gk g1 := by
  intro f
  induction f with
  | zero =>
    intro i t gk P sm hi ht2 ht8 hrow h8 hok
    refine ⟨gk, ?_, zFr.rf⟩
    have : i = 8 := by omega
    subst this
    rw [e_X_leastLong_51, if_pos (by decide), e_X_leastLong_124, hfS, Int.add_zero]
  | succ f ih =>
    intro i t gk P sm hi ht2 ht8 hrow h8 hok
    rw [e_X_leastLong_51, show zw 8 = 8 from rfl, zw_id (by omega) (by omega), if_neg (by omega), pX_r_pool, Rw_ck Rw76, Row_size xs Rw76 hrow, zci_ok, show zw 1 = 1 from rfl, zw_id (by omega) (by omega), hfS]
    by_cases c : P.length ≤ 1
    · exact ⟨gk, by rw [if_pos (by omega), e_X_leastLong_124, if_pos c, Int.add_zero], zFr.rf⟩
    · obtain ⟨h1, h2, h3, h4⟩ := tkS_ok hok t
      have h5 := lsum_nn h1.1
      have h6 := hok.2
      obtain ⟨g1, P1, a1, a2, a3, a4⟩ := X_leastLong_take xs (r : Int) (i : Int) sm hok ht8 t 0 gk P (by omega) hrow (List.Perm.refl _) h8
      have hl1 : P1.length = P.length - t := by rw [a3.length_eq, h4]
      obtain ⟨g2, b1, b2, b3⟩ := Row_add xs Rw76 a2 (by omega) (tkS t P).1
      have hpp : (P1 ++ [(tkS t P).1]).Perm ((tkS t P).2 ++ [(tkS t P).1]) := a3.append_right _
      obtain ⟨g3, q1, q2⟩ := ih (i + 1) r g2 (P1 ++ [(tkS t P).1]) (sm + (tkS t P).1) (by omega) hr hr8 b2 (by rw [List.length_append, List.length_singleton]; omega) (okL_perm hpp (join_ok hok t))
      refine ⟨g3, ?_, (a4.tr b3).tr q2⟩
      rw [z0N] at a1
      rw [if_neg (by omega), if_neg c]
      refine Eq.trans a1 ?_
      rw [e_X_leastLong_100, pX_r_pool, Rw_ck Rw76, b1, zcv_ok, zw_id (by omega) (by omega), ← Int.natCast_succ]
      rw [hfS_perm r f r hpp, Int.add_assoc] at q1
      exact q1
/-- WEIGHT times LONG of the best speeches -/
def shO (G : Nat → Int → Int) (r : Nat) : Int := hfS r 8 (2 + ((wL G).length - 2) % (r - 1)) (wL G)
theorem wL_ok {G : Nat → Int → Int} (hB : Bd G) : okL (wL G) ∧ ∀ v ∈ wL G, 0 < v := by
  have hw : ∀ v ∈ wL G, 0 < v ∧ v ≤ 99 := zLi_mem (fun k hk => by
    have := hB.2.2.2.2.1 k (by omega) (by omega)
    omega)
  have hs : ∀ l : List Int, (∀ v ∈ l, 0 < v ∧ v ≤ 99) → lsum l ≤ 99 * l.length := by
    intro l
    induction l with
    | nil => intro _; simp [lsum]
    | cons a l ih =>
      intro h
      have h1 := h a List.mem_cons_self
      have h2 := ih (fun v hv => h v (List.mem_cons_of_mem _ hv))
      rw [lsum, List.length_cons]
      omega
  have h1 := hs _ hw
  have h2 := (wL_len hB.1).2
  refine ⟨⟨fun v hv => by have := hw v hv; omega, by omega⟩, fun v hv => (hw v hv).1⟩
theorem X_leastLong (xs : List Int) {G g : Nat → Int → Int} (hB : Bd G) (h : Rel G g) {r : Nat} (hr : 2 ≤ r) (hr8 : r ≤ 8) : ∃ g1, zx zblk xs 191 0 [some (.inr (.inr (some pX))), some (.inl ((r : Int)))] [] (HH g) = some (some (.inr (.inl (shO G r))), HH g1) ∧ zFr scX g g1 := by
  have hl := wL_len hB.1
  obtain ⟨hok, -⟩ := wL_ok hB
  obtain ⟨ga, a1, a2, a3⟩ := Row_copyOf xs Rw76 Rw11 h.2.1 hl.2 hl.2 (by omega)
  have f1 := zFr_scR (p := 76) (by omega) (by omega) a3
  have e27 : ∀ hh, zx zblk xs 191 27 [] [] hh = some (some (.inr (.inl 0)), hh) := fun hh => e_X_leastLong_27 xs _
  rw [e_X_leastLong_0, pX_r_pool, pX_r_weights, Rw_ck Rw76, a1, zcv_ok, pX_r_pool, Rw_ck Rw76, Row_size xs Rw76 a2, zci_ok, show zw 2 = 2 from rfl, zw_id (by omega) (by omega), zw_id (by omega) (by omega)]
  unfold shO
  by_cases c : (wL G).length < 2
  · refine ⟨ga, ?_, f1⟩
    rw [if_pos (by omega), e27, hfS, if_pos (by omega)]
  · have hm : (wL G).length - 2 - ((wL G).length - 2) % (r - 1) ≥ 0 := by omega
    have hm2 : ((wL G).length - 2) % (r - 1) < r - 1 := Nat.mod_lt _ (by omega)
    obtain ⟨g1, q1, q2⟩ := X_leastLong_loop xs hr hr8 8 0 (2 + ((wL G).length - 2) % (r - 1)) ga (wL G) 0 (by omega) (by omega) (by omega) a2 hl.2 hok
    rw [Int.zero_add, z0N] at q1
    refine ⟨g1, ?_, f1.tr (zFr_scR (by omega) (by omega) q2)⟩
    have hmod : ((((wL G).length : Int) - 2)).tmod ((r : Int) - 1) = ((((wL G).length - 2) % (r - 1) : Nat) : Int) := by
      rw [show (((wL G).length : Int) - 2) = (((wL G).length - 2 : Nat) : Int) by omega, show ((r : Int) - 1) = ((r - 1 : Nat) : Int) by omega]
      rfl
    rw [if_neg (by omega), if_pos (by omega), e_X_leastLong_29, pX_r_pool, Rw_ck Rw76, Row_size xs Rw76 a2, zci_ok, zw_id (a := (r : Int) - 1) (by omega) (by omega), zw_id (a := ((wL G).length : Int) - 2) (by omega) (by omega), if_neg (by omega), hmod, show (2 : Int) + ((((wL G).length - 2) % (r - 1) : Nat) : Int) = ((2 + ((wL G).length - 2) % (r - 1) : Nat) : Int) by omega]
    exact q1
noncomputable def shS (G : Nat → Int → Int) (r p : Int) : Int := if (2 ≤ r ∧ r ≤ 8) ∧ (p = 0 ∨ p = 1) then (if G pM 10 = 0 then -103 else fracS (shO G r.toNat).toNat (wsum G (G pM 10)).toNat p) else -102
theorem es_shS {g1 g : Nat → Int → Int} (h : es g1 = es g) : shS g1 = shS g := by
  obtain ⟨e1, e2, e3, e4, e5, e6, e7, e8, e9, e10, e11, e12, e13, e14, e15⟩ := es_all h
  funext r p
  unfold shS shO wL wsum
  rw [e12, e5]
theorem X_shortest (xs : List Int) {G g : Nat → Int → Int} (hB : Bd G) (h : Rel G g) {r p : Int} (hr : zw r = r) (hp : zw p = p) : ∃ g1, zx zblk xs 152 0 [some (.inr (.inr (some pX))), some (.inl (r)), some (.inl (p))] [] (HH g) = some (some (.inl (shS G r p)), HH g1) ∧ zFr scX g g1 := by
  obtain ⟨-, -, -, q10, -⟩ := id hB.1
  have hl := wL_len hB.1
  have e18 : zx zblk xs 152 18 [] [] (HH g) = some (some (.inl (-102)), HH g) := e_X_shortest_18 xs _
  rw [e_X_shortest_0, hr, show zw 2 = 2 from rfl, show zw 8 = 8 from rfl]
  unfold shS
  by_cases a : (2 ≤ r ∧ r ≤ 8) ∧ (p = 0 ∨ p = 1)
  · obtain ⟨r, rfl⟩ : ∃ r' : Nat, r = r' := ⟨r.toNat, by omega⟩
    rw [if_neg (by omega), if_neg (by omega), X_isPart xs p _ hp, zci_ok, zb_zw, zb_t a.2, if_pos (by decide), if_pos a, e_X_shortest_21, pX_r_weights, Rw_ck Rw11, Row_size xs Rw11 h.2.1, zci_ok, hl.1, zw_id (by omega) (by omega)]
    by_cases b : G pM 10 = 0
    · exact ⟨g, by rw [if_neg (fun z => z b), if_pos b], zFr.rf⟩
    · obtain ⟨g1, q1, q2⟩ := X_leastLong xs hB h (r := r) (by omega) (by omega)
      have hR1 := Rel_scX hB h q2
      have hws := wsum_rg hB (n := G pM 10) (by omega) (by omega)
      have hrg := hfS_rg r 8 (2 + ((wL G).length - 2) % (r - 1)) (wL_ok hB).1
      have hsh : 0 ≤ shO G r ∧ shO G r ≤ 6400 := by unfold shO; omega
      have ht := X_lowest xs (HH g1) (a := (shO G r).toNat) (b := (wsum G (G pM 10)).toNat) hp (by omega) (by omega) (by omega)
      rw [Int.toNat_of_nonneg hsh.1, Int.toNat_of_nonneg (by omega)] at ht
      refine ⟨g1, ?_, q2⟩
      rw [if_pos b, if_neg b, e_X_shortest_34, pX_ck, q1, zcl_ok', pX_r_weights, pX_r_weights, Rw_ck Rw11, Row_size xs Rw11 hR1.2.1, zci_ok, Rw_ck Rw11, hl.1, X_weighed xs hB hR1 (by omega) (by omega), zci_ok, zw_id (a := wsum G (G pM 10)) (by omega) (by omega), ht, zcl_ok']
      rfl
  · refine ⟨g, ?_, zFr.rf⟩
    rw [if_neg a]
    by_cases a1 : r < 2
    · rw [if_pos a1, e18]
    · by_cases a2 : 8 < r
      · rw [if_neg a1, if_pos a2, e18]
      · rw [if_neg a1, if_neg a2, X_isPart xs p _ hp, zci_ok, zb_zw, zb_f (fun z => a ⟨by omega, z⟩), if_neg (by decide), e18]
