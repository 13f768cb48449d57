/-! ===== queries: clear, starts ===== -/
def alO (L : Nat → List Int) (n : Nat) : Int := zfo (fun i => zfo (fun j => if L i = L j then 8 * i + j else -1) (n - (i + 1)) (i + 1)) n 0
def stO (L : Nat → List Int) (n : Nat) : Int := zfo (fun i => zfo (fun j => if (L i).length < (L j).length ∧ L i = (L j).take (L i).length then 8 * i + j else -1) n 0) n 0
def alS (G : Nat → Int → Int) (c : Int) : Int := alO (fun s => plS G 0 c s) (nS G c)
def stS (G : Nat → Int → Int) (c : Int) : Int := stO (fun s => plS G 0 c s) (nS G c)
theorem alO_rg (L : Nat → List Int) {n : Nat} (hn : n ≤ 8) : -1 ≤ alO L n ∧ alO L n ≤ 63 := by
  unfold alO
  refine zfo_rg (by omega) (by omega) (fun i _ hi => zfo_rg (by omega) (by omega) (fun j hj1 hj => ?_))
  split <;> omega
theorem stO_rg (L : Nat → List Int) {n : Nat} (hn : n ≤ 8) : -1 ≤ stO L n ∧ stO L n ≤ 63 := by
  unfold stO
  refine zfo_rg (by omega) (by omega) (fun i _ hi => zfo_rg (by omega) (by omega) (fun j hj1 hj => ?_))
  split <;> omega
def clS (G : Nat → Int → Int) (c w : Int) : Int := if 0 ≤ c ∧ c < G pM 5 then (if 0 ≤ w ∧ w ≤ 2 then (if w = 0 then (if alS G c = -1 then 1 else 0) else if alS G c = -1 then -1 else if w = 1 then (alS G c).tdiv 8 else (alS G c).tmod 8) else -102) else -101
def srS (G : Nat → Int → Int) (c w : Int) : Int := if 0 ≤ c ∧ c < G pM 5 then (if 0 ≤ w ∧ w ≤ 1 then (if stS G c = -1 then -1 else if w = 0 then (stS G c).tdiv 8 else (stS G c).tmod 8) else -102) else -101
theorem es_alS {g1 g : Nat → Int → Int} (h : es g1 = es g) : alS g1 = alS g := by
  funext c
  unfold alS
  rw [es_plS h, es_nS h]
theorem es_stS {g1 g : Nat → Int → Int} (h : es g1 = es g) : stS g1 = stS g := by
  funext c
  unfold stS
  rw [es_plS h, es_nS h]
theorem es_clS {g1 g : Nat → Int → Int} (h : es g1 = es g) : clS g1 = clS g := by
  obtain ⟨e1, e2, e3, e4, e5, e6, e7, e8, e9, e10, e11, e12, e13, e14, e15⟩ := es_all h
  funext c w
  unfold clS
  rw [e10, es_alS h]
theorem es_srS {g1 g : Nat → Int → Int} (h : es g1 = es g) : srS g1 = srS g := by
  obtain ⟨e1, e2, e3, e4, e5, e6, e7, e8, e9, e10, e11, e12, e13, e14, e15⟩ := es_all h
  funext c w
  unfold srS
  rw [e10, es_stS h]
theorem M_alikeOf (xs : List Int) {g : Nat → Int → Int} (hB : Bd g) {c : Int} (a : 0 ≤ c ∧ c < g pM 5) : ∃ g1, zx zblk xs 32 0 [some (.inr (.inr (some pM))), some (.inl (c))] [] (HH g) = some (some (.inl (alS g c)), HH g1) ∧ zFr scA g g1 := by
  obtain ⟨hQ, -, hC, -⟩ := id hB
  obtain ⟨-, ⟨hc0, hc1⟩, -⟩ := id hQ
  have hn := nS_rg hB a
  obtain ⟨g1, q1, q2, q3⟩ := M_layAll xs g c 0 hB a
  have hr1 := rdy_of hB a q2
  have e2 : g1 pM_speeches = g pM_speeches := (es_all (scA_es q3)).2.1
  refine ⟨g1, ?_, q3⟩
  rw [e_M_alikeOf_0, pM_ck, q1, zcv_ok]
  unfold alS alO
  have inner : ∀ (i : Nat), i < nS g c → ∀ (r j : Nat), j + r = nS g c → zx zblk xs 32 22 [some (.inr (.inr (some pM))), some (.inl (c)), some (.inl ((i : Int))), some (.inl ((j : Int)))] [] (HH g1) = if zfo (fun j => if plS g 0 c i = plS g 0 c j then (8 * i + j : Int) else -1) r j ≠ -1 then some (some (.inl (zfo (fun j => if plS g 0 c i = plS g 0 c j then (8 * i + j : Int) else -1) r j)), HH g1) else zx zblk xs 32 54 [some (.inr (.inr (some pM))), some (.inl (c)), some (.inl ((i : Int)))] [] (HH g1) := by
    intro i hi r
    induction r with
    | zero =>
      intro j hj
      rw [e_M_alikeOf_22, pM_r_speeches, pM_a_speeches xs _ (by omega) (by omega), e2, if_pos (by rw [zw_id (by omega) (by omega), zw_id (by omega) (by omega)]; omega), if_neg (by simp [zfo])]
    | succ r ih =>
      intro j hj
      have hj' : j < nS g c := by omega
      have hal := M_isAlike xs g1 (fun i => plS g 0 c i) (nS g c) i j hr1 hi hj'
      have e : zfo (fun j => if plS g 0 c i = plS g 0 c j then (8 * i + j : Int) else -1) (r + 1) j = if plS g 0 c i = plS g 0 c j then (8 * i + j : Int) else zfo (fun j => if plS g 0 c i = plS g 0 c j then (8 * i + j : Int) else -1) r (j + 1) := by
        rw [zfo]
        by_cases he : plS g 0 c i = plS g 0 c j
        · rw [if_pos he, if_pos (by omega), if_pos he]
        · rw [if_neg he, if_neg (by simp), if_neg he]
      rw [e_M_alikeOf_22, pM_r_speeches, pM_a_speeches xs _ (by omega) (by omega), e2, if_neg (by rw [zw_id (by omega) (by omega), zw_id (by omega) (by omega)]; omega), pM_ck, hal, zci_ok, zb_zw, e]
      by_cases he : plS g 0 c i = plS g 0 c j
      · rw [zb_t he, if_neg (by decide), if_pos he, if_pos (by omega)]
      · rw [zb_f he, if_pos rfl, if_neg he, e_M_alikeOf_48, ← Int.natCast_succ]
        exact ih (j + 1) (by omega)
  have outer : ∀ (r i : Nat), i + r = nS g c → zx zblk xs 32 8 [some (.inr (.inr (some pM))), some (.inl (c)), some (.inl ((i : Int)))] [] (HH g1) = some (some (.inl (zfo (fun i => zfo (fun j => if plS g 0 c i = plS g 0 c j then (8 * i + j : Int) else -1) (nS g c - (i + 1)) (i + 1)) r i)), HH g1) := by
    intro r
    induction r with
    | zero =>
      intro i hi
      rw [e_M_alikeOf_8, pM_r_speeches, pM_a_speeches xs _ (by omega) (by omega), e2, if_pos (by rw [zw_id (by omega) (by omega), zw_id (by omega) (by omega)]; omega), e_M_alikeOf_60, zfo]
    | succ r ih =>
      intro i hi
      have hi' : i < nS g c := by omega
      rw [e_M_alikeOf_8, pM_r_speeches, pM_a_speeches xs _ (by omega) (by omega), e2, if_neg (by rw [zw_id (by omega) (by omega), zw_id (by omega) (by omega)]; omega), ← Int.natCast_succ, inner i hi' (nS g c - (i + 1)) (i + 1) (by omega), zfo]
      split
      · rfl
      · rw [e_M_alikeOf_54, ← Int.natCast_succ]
        exact ih (i + 1) (by omega)
  exact outer (nS g c) 0 (by omega)
theorem M_clear (xs : List Int) {g : Nat → Int → Int} (hB : Bd g) {c w : Int} (hc : zw c = c) (hw : zw w = w) : ∃ g1, zx zblk xs 33 0 [some (.inr (.inr (some pM))), some (.inl (c)), some (.inl (w))] [] (HH g) = some (some (.inl (clS g c w)), HH g1) ∧ zFr scM g g1 := by
  rw [e_M_clear_0, pM_ck, M_isCode' xs hB hc, zci_ok, zb_zw]
  unfold clS
  by_cases a : 0 ≤ c ∧ c < g pM 5
  · have hrg := alO_rg (fun s => plS g 0 c s) (nS_rg hB a).2.2
    change -1 ≤ alS g c ∧ alS g c ≤ 63 at hrg
    rw [zb_t a, if_pos (by decide), if_pos a, e_M_clear_11, M_in' xs _ hw rfl rfl, zci_ok, zb_zw]
    by_cases b : 0 ≤ w ∧ w ≤ 2
    · obtain ⟨g1, q1, q2⟩ := M_alikeOf xs hB a
      refine ⟨g1, ?_, q2.mono (fun _ _ => scA_M)⟩
      rw [zb_t b, if_pos (by decide), if_pos b, e_M_clear_26, pM_ck, q1, zci_ok, hw, zw_id (a := alS g c) (by omega) (by omega), show zw (-1) = -1 from rfl]
      by_cases w0 : w = 0
      · rw [if_neg (by omega), if_pos w0]
        by_cases m : alS g c = -1
        · rw [if_neg (by omega), if_pos m, e_M_clear_46]
        · rw [if_pos m, if_neg m, e_M_clear_45, e_M_clear_46]
      · rw [if_pos w0, if_neg w0, e_M_clear_47, zw_id (a := alS g c) (by omega) (by omega), show zw (-1) = -1 from rfl]
        by_cases m : alS g c = -1
        · rw [if_neg (by omega), if_pos m, e_M_clear_72]
        · rw [if_pos m, if_neg m, e_M_clear_56, hw, show zw 1 = 1 from rfl, show zw 8 = 8 from rfl]
          by_cases w1 : w = 1
          · rw [if_neg (by omega), if_neg (by decide), e_M_clear_72, if_pos w1, zw_id (a := alS g c) (by omega) (by omega)]
          · rw [if_pos w1, e_M_clear_68, if_neg (by decide), e_M_clear_72, if_neg w1, zw_id (a := alS g c) (by omega) (by omega)]
            rfl
    · exact ⟨g, by rw [zb_f b, if_neg (by decide), if_neg b], zFr.rf⟩
  · exact ⟨g, by rw [zb_f a, if_neg (by decide), if_neg a], zFr.rf⟩
theorem X_ofPair (xs : List Int) (v w : Int) (h : zH) (hv : zw v = v) (hw : zw w = w) : zx zblk xs 185 0 [some (.inl (v)), some (.inl (w))] [] h = some (some (.inl (if v = -1 then -1 else if w = 0 then v.tdiv 8 else v.tmod 8)), h) := by
  rw [e_X_ofPair_0, hv, show zw (-1) = -1 from rfl]
  by_cases a : v = -1
  · rw [if_neg (by omega), if_pos a]
  · rw [if_pos a, if_neg a, e_X_ofPair_7, hw]
    by_cases b : w = 0
    · rw [if_neg (by omega), if_neg (by decide), e_X_ofPair_22, if_pos b, hv]
      rfl
    · rw [if_pos b, e_X_ofPair_18, if_neg (by decide), e_X_ofPair_22, if_neg b, hv]
      rfl
theorem X_clear (xs : List Int) {G g : Nat → Int → Int} (hB : Bd G) (h : Rel G g) {c w : Int} (hc : zw c = c) (hw : zw w = w) : zx zblk xs 146 0 [some (.inr (.inr (some pX))), some (.inl (c)), some (.inl (w))] [] (HH g) = some (some (.inl (clS G c w)), HH g) := by
  obtain ⟨hQ, -, hC, -⟩ := id hB
  obtain ⟨-, ⟨hc0, hc1⟩, -⟩ := id hQ
  rw [e_X_clear_0, pX_ck]
  unfold clS
  by_cases a : 0 ≤ c ∧ c < G pM 5
  · obtain ⟨k, rfl⟩ : ∃ k : Nat, c = k := ⟨c.toNat, by omega⟩
    have hk4 : k < 4 := by omega
    have hcd := h.cd hk4 a.2
    have hrg := alO_rg (fun s => plS G 0 k s) (nS_rg hB a).2.2
    have hal : zx zblk xs 89 0 [some (.inr (.inr (some (PC k))))] [] (HH g) = some (some (.inl (alS G k)), HH g) := Code_firstAlike xs hcd
    change -1 ≤ alS G k ∧ alS G k ≤ 63 at hrg
    have e22 : zx zblk xs 146 22 [] [] (HH g) = some (some (.inl (-102)), HH g) := e_X_clear_22 xs _
    rw [X_codeAt_in xs hB h k a.2, zcr_ok, zif_some, if_pos a, e_X_clear_13, hw, show zw 2 = 2 from rfl]
    by_cases b : 0 ≤ w ∧ w ≤ 2
    · rw [if_neg (by omega), if_pos b.2, if_pos b, e_X_clear_25, Co_ck (zCo_PC hk4), hal, zci_ok, hw, zw_id (a := alS G k) (by omega) (by omega), show zw (-1) = -1 from rfl]
      by_cases w0 : w = 0
      · rw [if_neg (by omega), if_pos w0]
        by_cases m : alS G k = -1
        · rw [if_neg (by omega), if_pos m, e_X_clear_46]
        · rw [if_pos m, if_neg m, e_X_clear_45, e_X_clear_46]
      · rw [if_pos w0, if_neg w0, e_X_clear_47, X_ofPair xs _ _ _ (zw_id (by omega) (by omega)) (zw_id (by omega) (by omega)), zci_ok]
        by_cases m : alS G k = -1
        · rw [if_pos m, if_pos m]
        · rw [if_neg m, if_neg m]
          by_cases w1 : w = 1
          · rw [if_pos (by omega), if_pos w1]
          · rw [if_neg (by omega), if_neg w1]
    · rw [if_neg b]
      by_cases b0 : w < 0
      · rw [if_pos b0, e22]
      · rw [if_neg b0, if_neg (by omega), e22]
  · rw [X_codeAt_out xs hB h c hc a, zcr_ok, zif, if_neg a]
theorem zfo_shift (f : Nat → Int) : ∀ (n a i : Nat), zfo f n (a + i) = zfo (fun k => f (a + k)) n i
  | 0, _, _ => rfl
  | n + 1, a, i => by rw [zfo, zfo, show a + i + 1 = a + (i + 1) by omega, zfo_shift f n a (i + 1)]
theorem zfo_8 (f : Nat → Int) : ∀ (r i : Nat), zfo f (8 * r) (8 * i) = zfo (fun i => zfo (fun j => f (8 * i + j)) 8 0) r i
  | 0, _ => rfl
  | r + 1, i => by
    rw [show 8 * (r + 1) = 8 + 8 * r by omega, zfo_app, show 8 * i + 8 = 8 * (i + 1) by omega, zfo_8 f r (i + 1)]
    have e : zfo f 8 (8 * i) = zfo (fun j => f (8 * i + j)) 8 0 := zfo_shift f 8 (8 * i) 0
    rw [e, show zfo (fun i => zfo (fun j => f (8 * i + j)) 8 0) (r + 1) i = if zfo (fun j => f (8 * i + j)) 8 0 ≠ -1 then zfo (fun j => f (8 * i + j)) 8 0 else zfo (fun i => zfo (fun j => f (8 * i + j)) 8 0) r (i + 1) from rfl]
theorem zfo_cut {f : Nat → Int} {n m : Nat} (hn : n ≤ m) (h : ∀ k, n ≤ k → k < m → f k = -1) : zfo f m 0 = zfo f n 0 := by
  obtain ⟨d, rfl⟩ : ∃ d, m = n + d := ⟨m - n, by omega⟩
  rw [zfo_app, zfo_no (n := d) (fun k h1 h2 => h k (by omega) (by omega))]
  by_cases a : zfo f n 0 = -1
  · have n1 : ¬ zfo f n 0 ≠ -1 := fun z => z a
    rw [if_neg n1, a]
  · rw [if_pos a]
theorem stO_64 (L : Nat → List Int) {n : Nat} (hn : n ≤ 8) : zfo (fun p => if p / 8 < n ∧ p % 8 < n ∧ (L (p / 8)).length < (L (p % 8)).length ∧ L (p / 8) = (L (p % 8)).take (L (p / 8)).length then (p : Int) else -1) 64 0 = stO L n := by
  have h := zfo_8 (fun p => if p / 8 < n ∧ p % 8 < n ∧ (L (p / 8)).length < (L (p % 8)).length ∧ L (p / 8) = (L (p % 8)).take (L (p / 8)).length then (p : Int) else -1) 8 0
  refine h.trans ?_
  unfold stO
  rw [zfo_cut hn (fun i h1 h2 => zfo_no (fun j h3 h4 => by
    rw [show (8 * i + j) / 8 = i by omega]
    exact if_neg (fun z => by omega)))]
  refine zfo_cg (fun i _ hi => ?_)
  rw [zfo_cut hn (fun j h3 h4 => by
    rw [show (8 * i + j) % 8 = j by omega]
    exact if_neg (fun z => by omega))]
  refine zfo_cg (fun j _ hj => ?_)
  show (if (8 * i + j) / 8 < n ∧ (8 * i + j) % 8 < n ∧ (L ((8 * i + j) / 8)).length < (L ((8 * i + j) % 8)).length ∧ L ((8 * i + j) / 8) = (L ((8 * i + j) % 8)).take (L ((8 * i + j) / 8)).length then ((8 * i + j : Nat) : Int) else -1) = _
  rw [show (8 * i + j) / 8 = i by omega, show (8 * i + j) % 8 = j by omega]
  by_cases hh : (L i).length < (L j).length ∧ L i = (L j).take (L i).length
  · rw [if_pos hh, if_pos ⟨by omega, by omega, hh⟩]
    omega
  · rw [if_neg hh, if_neg (fun z => hh z.2.2)]
theorem M_starts (xs : List Int) {g : Nat → Int → Int} (hB : Bd g) {c w : Int} (hc : zw c = c) (hw : zw w = w) : ∃ g1, zx zblk xs 34 0 [some (.inr (.inr (some pM))), some (.inl (c)), some (.inl (w))] [] (HH g) = some (some (.inl (srS g c w)), HH g1) ∧ zFr scM g g1 := by
  obtain ⟨hQ, -, hC, -⟩ := id hB
  obtain ⟨-, ⟨hc0, hc1⟩, -⟩ := id hQ
  rw [e_M_starts_0, pM_ck, M_isCode' xs hB hc, zci_ok, zb_zw]
  unfold srS
  by_cases a : 0 ≤ c ∧ c < g pM 5
  · rw [zb_t a, if_pos (by decide), if_pos a, e_M_starts_11, M_in' xs _ hw rfl rfl, zci_ok, zb_zw]
    by_cases b : 0 ≤ w ∧ w ≤ 1
    · have hn := nS_rg hB a
      obtain ⟨g1, q1, q2, q3⟩ := M_layAll xs g c 0 hB a
      have hr1 := rdy_of hB a q2
      have e2 : g1 pM_speeches = g pM_speeches := (es_all (scA_es q3)).2.1
      refine ⟨g1, ?_, q3.mono (fun _ _ => scA_M)⟩
      rw [zb_t b, if_pos (by decide), if_pos b, e_M_starts_24, pM_ck, q1, zcv_ok]
      unfold stS
      rw [← stO_64 _ hn.2.2]
      have loop : ∀ (r k : Nat), k + r = 64 → zx zblk xs 34 32 [some (.inr (.inr (some pM))), some (.inl (c)), some (.inl (w)), some (.inl ((k : Int)))] [] (HH g1) = some (some (.inl (if zfo (fun p => if p / 8 < nS g c ∧ p % 8 < nS g c ∧ (plS g 0 c (p / 8 : Nat)).length < (plS g 0 c (p % 8 : Nat)).length ∧ plS g 0 c (p / 8 : Nat) = (plS g 0 c (p % 8 : Nat)).take (plS g 0 c (p / 8 : Nat)).length then (p : Int) else -1) r k = -1 then -1 else if w = 0 then (zfo (fun p => if p / 8 < nS g c ∧ p % 8 < nS g c ∧ (plS g 0 c (p / 8 : Nat)).length < (plS g 0 c (p % 8 : Nat)).length ∧ plS g 0 c (p / 8 : Nat) = (plS g 0 c (p % 8 : Nat)).take (plS g 0 c (p / 8 : Nat)).length then (p : Int) else -1) r k).tdiv 8 else (zfo (fun p => if p / 8 < nS g c ∧ p % 8 < nS g c ∧ (plS g 0 c (p / 8 : Nat)).length < (plS g 0 c (p % 8 : Nat)).length ∧ plS g 0 c (p / 8 : Nat) = (plS g 0 c (p % 8 : Nat)).take (plS g 0 c (p / 8 : Nat)).length then (p : Int) else -1) r k).tmod 8)), HH g1) := by
        intro r
        induction r with
        | zero =>
          intro k hk
          rw [e_M_starts_32, if_pos (by rw [show zw 64 = 64 from rfl, zw_id (by omega) (by omega)]; omega), e_M_starts_153, zfo, if_pos rfl]
        | succ r ih =>
          intro k hk
          have hdv : (k : Int).tdiv 8 = ((k / 8 : Nat) : Int) := rfl
          have hmd : (k : Int).tmod 8 = ((k % 8 : Nat) : Int) := rfl
          have h8 : zw (8 : Int) = 8 := rfl
          have e147 : zx zblk xs 34 147 [some (.inr (.inr (some pM))), some (.inl (c)), some (.inl (w)), some (.inl ((k : Int)))] [] (HH g1) = zx zblk xs 34 32 [some (.inr (.inr (some pM))), some (.inl (c)), some (.inl (w)), some (.inl (((k + 1 : Nat) : Int)))] [] (HH g1) := by rw [e_M_starts_147, ← Int.natCast_succ]
          have e83 : zx zblk xs 34 83 [some (.inr (.inr (some pM))), some (.inl (c)), some (.inl (w)), some (.inl ((k : Int))), some (.inl (((k / 8 : Nat) : Int))), some (.inl (((k % 8 : Nat) : Int)))] [] (HH g1) = zx zblk xs 34 32 [some (.inr (.inr (some pM))), some (.inl (c)), some (.inl (w)), some (.inl (((k + 1 : Nat) : Int)))] [] (HH g1) := by rw [e_M_starts_83, e_M_starts_84, if_pos (show zw 0 = 0 from rfl), e147]
          have hih := ih (k + 1) (by omega)
          have hrest : ¬ (k / 8 < nS g c ∧ k % 8 < nS g c ∧ (plS g 0 c (k / 8 : Nat)).length < (plS g 0 c (k % 8 : Nat)).length ∧ plS g 0 c (k / 8 : Nat) = (plS g 0 c (k % 8 : Nat)).take (plS g 0 c (k / 8 : Nat)).length) → zfo (fun p => if p / 8 < nS g c ∧ p % 8 < nS g c ∧ (plS g 0 c (p / 8 : Nat)).length < (plS g 0 c (p % 8 : Nat)).length ∧ plS g 0 c (p / 8 : Nat) = (plS g 0 c (p % 8 : Nat)).take (plS g 0 c (p / 8 : Nat)).length then (p : Int) else -1) (r + 1) k = zfo (fun p => if p / 8 < nS g c ∧ p % 8 < nS g c ∧ (plS g 0 c (p / 8 : Nat)).length < (plS g 0 c (p % 8 : Nat)).length ∧ plS g 0 c (p / 8 : Nat) = (plS g 0 c (p % 8 : Nat)).take (plS g 0 c (p / 8 : Nat)).length then (p : Int) else -1) r (k + 1) := by
            intro hno
            rw [zfo, if_neg (by rw [if_neg hno]; simp)]
          rw [e_M_starts_32, show zw 64 = 64 from rfl, zw_id (a := (k : Int)) (by omega) (by omega), if_neg (by omega), h8, if_neg (by decide), if_neg (by decide), hdv, hmd, zw_id (a := ((k / 8 : Nat) : Int)) (by omega) (by omega), zw_id (a := ((k % 8 : Nat) : Int)) (by omega) (by omega), e83]
          by_cases b1 : k / 8 = k % 8
          · rw [if_pos (by omega), hih, hrest (fun z => by rw [b1] at z; omega)]
          · rw [if_neg (by omega), pM_r_speeches, pM_a_speeches xs _ (by omega) (by omega), e2, zw_id (a := g pM_speeches c) (by omega) (by omega)]
            by_cases b2 : k / 8 < nS g c
            · rw [if_neg (by omega), pM_r_speeches, pM_a_speeches xs _ (by omega) (by omega), e2, zw_id (a := g pM_speeches c) (by omega) (by omega)]
              by_cases b3 : k % 8 < nS g c
              · have a1 := (hr1.1 (k / 8) b2).1
                have a2 := (hr1.1 (k % 8) b3).1
                have l1 := (hr1.2.2 (k / 8) b2).1
                have l2 := (hr1.2.2 (k % 8) b3).1
                have his := M_isStart xs g1 (fun i => plS g 0 c i) (nS g c) (k / 8) (k % 8) (plS g 0 c (k / 8 : Nat)).length hr1 b2 b3 l1
                change _ = ((plS g 0 c (k / 8 : Nat)).length : Int) at a1
                change _ = ((plS g 0 c (k % 8 : Nat)).length : Int) at a2
                change (plS g 0 c (k / 8 : Nat)).length ≤ 10 at l1
                change (plS g 0 c (k % 8 : Nat)).length ≤ 10 at l2
                rw [if_neg (by omega), e_M_starts_84, if_neg (by decide), pM_r_plains, pM_a_plains xs _ (by omega) (by omega), pM_r_plains, pM_a_plains xs _ (by omega) (by omega), a1, a2, zw_id (by omega) (by omega), zw_id (by omega) (by omega), e147]
                by_cases b4 : (plS g 0 c (k / 8 : Nat)).length < (plS g 0 c (k % 8 : Nat)).length
                · rw [if_neg (by omega), pM_r_plains, pM_a_plains xs _ (by omega) (by omega), a1, pM_ck, his, zci_ok, zb_zw]
                  by_cases b5 : plS g 0 c (k / 8 : Nat) = (plS g 0 c (k % 8 : Nat)).take (plS g 0 c (k / 8 : Nat)).length
                  · have hz : zfo (fun p => if p / 8 < nS g c ∧ p % 8 < nS g c ∧ (plS g 0 c (p / 8 : Nat)).length < (plS g 0 c (p % 8 : Nat)).length ∧ plS g 0 c (p / 8 : Nat) = (plS g 0 c (p % 8 : Nat)).take (plS g 0 c (p / 8 : Nat)).length then (p : Int) else -1) (r + 1) k = k := by
                      have hyes : (k / 8 < nS g c ∧ k % 8 < nS g c ∧ (plS g 0 c (k / 8 : Nat)).length < (plS g 0 c (k % 8 : Nat)).length ∧ plS g 0 c (k / 8 : Nat) = (plS g 0 c (k % 8 : Nat)).take (plS g 0 c (k / 8 : Nat)).length) := ⟨b2, b3, b4, b5⟩
                      rw [zfo, if_pos hyes, if_pos (by omega)]
                    rw [zb_t ⟨Nat.le_refl _, by omega, by rw [List.take_length]; exact b5⟩, if_neg (by decide), hz, hw]
                    by_cases w0 : w = 0
                    · rw [if_neg (show ¬ w ≠ 0 by omega), if_neg (show ¬ (k : Int) = -1 by omega), if_pos w0, e_M_starts_146, hdv]
                    · rw [if_pos (show w ≠ 0 from w0), if_neg (show ¬ (k : Int) = -1 by omega), if_neg w0, e_M_starts_144, e_M_starts_146, hmd]
                  · rw [zb_f (fun z => b5 (by have := z.2.2; rw [List.take_length] at this; exact this)), if_pos rfl, e147, hih, hrest (fun z => b5 z.2.2.2)]
                · rw [if_pos (by omega), hih, hrest (fun z => b4 z.2.2.1)]
              · rw [if_pos (by omega), hih, hrest (fun z => b3 z.2.1)]
            · rw [if_pos (by omega), hih, hrest (fun z => b2 z.1)]
      exact loop 64 0 (by omega)
    · exact ⟨g, by rw [zb_f b, if_neg (by decide), if_neg b], zFr.rf⟩
  · exact ⟨g, by rw [zb_f a, if_neg (by decide), if_neg a], zFr.rf⟩
theorem X_starts (xs : List Int) {G g : Nat → Int → Int} (hB : Bd G) (h : Rel G g) {c w : Int} (hc : zw c = c) (hw : zw w = w) : zx zblk xs 147 0 [some (.inr (.inr (some pX))), some (.inl (c)), some (.inl (w))] [] (HH g) = some (some (.inl (srS G c w)), HH g) := by
  obtain ⟨hQ, -, hC, -⟩ := id hB
  obtain ⟨-, ⟨hc0, hc1⟩, -⟩ := id hQ
  rw [e_X_starts_0, pX_ck]
  unfold srS
  by_cases a : 0 ≤ c ∧ c < G pM 5
  · obtain ⟨k, rfl⟩ : ∃ k : Nat, c = k := ⟨c.toNat, by omega⟩
    have hk4 : k < 4 := by omega
    have hcd := h.cd hk4 a.2
    have hrg := stO_rg (fun s => plS G 0 k s) (nS_rg hB a).2.2
    have hal : zx zblk xs 90 0 [some (.inr (.inr (some (PC k))))] [] (HH g) = some (some (.inl (stS G k)), HH g) := Code_firstStart xs hcd
    change -1 ≤ stS G k ∧ stS G k ≤ 63 at hrg
    have e22 : zx zblk xs 147 22 [] [] (HH g) = some (some (.inl (-102)), HH g) := e_X_starts_22 xs _
    rw [X_codeAt_in xs hB h k a.2, zcr_ok, zif_some, if_pos a, e_X_starts_13, hw, show zw 1 = 1 from rfl]
    by_cases b : 0 ≤ w ∧ w ≤ 1
    · rw [if_neg (by omega), if_pos b.2, if_pos b, e_X_starts_25, Co_ck (zCo_PC hk4), hal, zci_ok, X_ofPair xs _ _ _ (zw_id (by omega) (by omega)) hw, zci_ok]
    · rw [if_neg b]
      by_cases b0 : w < 0
      · rw [if_pos b0, e22]
      · rw [if_neg b0, if_neg (by omega), e22]
  · rw [X_codeAt_out xs hB h c hc a, zcr_ok, zif, if_neg a]
