/-! ===== how the class's memory lies to the reference's ===== -/
def nS (G : Nat → Int → Int) (c : Int) : Nat := (G pM_speeches c).toNat
def rowL (G : Nat → Int → Int) (c s : Int) : List Int := zLi (rowS G c s) (lenS G c s)
def wL (G : Nat → Int → Int) : List Int := zLi (fun t => G pM_weights t) (G pM 10).toNat
def pL (G : Nat → Int → Int) : List Int := zLi (fun k => G pM_page k) (G pM 1).toNat
def RelC (G g : Nat → Int → Int) : Prop := g pX 3 = G pM 5 ∧ ∀ c : Nat, c < 4 → ((c : Int) < G pM 5 → zCd g (PC c) (nS G c) (fun s => plS G 0 c s) ∧ ∀ s : Nat, s < nS G c → zRow g (PC c + 1 + 4 + 2 * s) (rowL G c s)) ∧ (G pM 5 ≤ c → ∀ s : Nat, s < 8 → zRow g (PC c + 1 + 4 + 2 * s) [])
def nRow (f : Int → Int) (n : Int) : List Int := zLi (fun k => f (10 * n + 2 + k)) (f (10 * n + 1)).toNat
def RelN (g : Nat → Int → Int) (P : Nat) (f : Int → Int) (n : Int) : Prop := zRow g (P + 1) (zLi (fun k => f (10 * k)) n.toNat) ∧ ∀ k : Nat, (k : Int) < n → zRow g (P + 3 + 4 + 2 * k) (nRow f k)
def RelK (G g : Nat → Int → Int) : Prop := g pX 8 = (if G pM 22 = -1 then 0 else 1) ∧ (G pM 22 ≠ -1 → zRow g 43 (zLi (fun t => G pM_keptWeights t) (G pM 22).toNat) ∧ RelN g 45 (G pM_keptRows) (G pM 23))
def Rel (G g : Nat → Int → Int) : Prop := RelS G g ∧ zRow g 11 (wL G) ∧ zRow g 14 (pL G) ∧ RelC G g ∧ RelN g 16 (G pM_noteRows) (G pM 18) ∧ RelK G g
theorem RelC_fr {G g g1 : Nat → Int → Int} (h : RelC G g) (e0 : g1 pX 3 = g pX 3) (e : ∀ q, 101 ≤ q → q ≤ 264 → g1 q = g q) : RelC G g1 := by
  refine ⟨e0.trans h.1, fun c hc => ⟨fun hc5 => ?_, fun hc5 s hs => ?_⟩⟩
  · obtain ⟨h1, h2⟩ := (h.2 c hc).1 hc5
    have h8 := h1.2.2.1
    exact ⟨zCd_fr h1 (fun q q1 q2 => e q (by simp only [PC] at q1; omega) (by simp only [PC] at q2; omega)), fun s hs => zRow_fr (h2 s hs) (e _ (by simp only [PC]; omega) (by simp only [PC]; omega)) (e _ (by simp only [PC]; omega) (by simp only [PC]; omega))⟩
  · exact zRow_fr ((h.2 c hc).2 hc5 s hs) (e _ (by simp only [PC]; omega) (by simp only [PC]; omega)) (e _ (by simp only [PC]; omega) (by simp only [PC]; omega))
theorem RelN_fr {g g1 : Nat → Int → Int} {P : Nat} {f : Int → Int} {n : Int} (hn : n ≤ 10) (h : RelN g P f n) (e : ∀ q, P ≤ q → q ≤ P + 26 → g1 q = g q) : RelN g1 P f n :=
  ⟨zRow_fr h.1 (e _ (by omega) (by omega)) (e _ (by omega) (by omega)), fun k hk => zRow_fr (h.2 k hk) (e _ (by omega) (by omega)) (e _ (by omega) (by omega))⟩
theorem Rel_fr {G g g1 : Nat → Int → Int} (hB : Bd G) (h : Rel G g) (e : ∀ q, q < 72 ∨ 101 ≤ q → q < 265 → g1 q = g q) : Rel G g1 := by
  obtain ⟨h1, h2, h3, h4, h5, h6, h7⟩ := h
  obtain ⟨⟨-, -, -, -, ⟨-, hn⟩⟩, -, -, -, -, -, hK⟩ := hB
  refine ⟨RelS_fr h1 (fun q _ _ => e q (by omega) (by omega)), zRow_fr h2 (e _ (by omega) (by omega)) (e _ (by omega) (by omega)), zRow_fr h3 (e _ (by omega) (by omega)) (e _ (by omega) (by omega)), RelC_fr h4 (by rw [e pX (Or.inl (by decide)) (by decide)]) (fun q _ _ => e q (by omega) (by omega)), RelN_fr hn h5 (fun q _ _ => e q (by omega) (by omega)), by rw [e pX (Or.inl (by decide)) (by decide)]; exact h6, fun hk => ?_⟩
  obtain ⟨k1, k2⟩ := h7 hk
  refine ⟨zRow_fr k1 (e _ (by omega) (by omega)) (e _ (by omega) (by omega)), RelN_fr ?_ k2 (fun q _ _ => e q (by omega) (by omega))⟩
  rcases hK with hK | hK
  · exact absurd hK hk
  · exact hK.2.2.2.1
theorem Rel_scX {G g g1 : Nat → Int → Int} (hB : Bd G) (h : Rel G g) (hf : zFr scX g g1) : Rel G g1 := Rel_fr hB h (fun q _ _ => hf.at (fun j => by simp only [scX, pX, pX_signals, pX_weights, pX_codes, pX_page, pX_notes, pX_keptWeights, pX_keptNotes, pX_said, pX_heard, pX_pool, pX_struck, pX_readings, pM, pM_page, pM_readRows, pM_speeches, pM_rows, pM_signalRows, pM_weights, pM_plain, pM_plains, pM_ahead, pM_heap, pM_noteRows, pM_ways, pM_before, pM_keptWeights, pM_keptRows]; omega))
theorem zFr_scR {p : Nat} {g g1 : Nat → Int → Int} (hp : 72 ≤ p) (hp2 : p + 1 < 101) (h : zFr (scR p) g g1) : zFr scX g g1 := h.mono (fun q j hq => by simp only [scR] at hq; simp only [scX, pX, pX_signals, pX_weights, pX_codes, pX_page, pX_notes, pX_keptWeights, pX_keptNotes, pX_said, pX_heard, pX_pool, pX_struck, pX_readings, pM, pM_page, pM_readRows, pM_speeches, pM_rows, pM_signalRows, pM_weights, pM_plain, pM_plains, pM_ahead, pM_heap, pM_noteRows, pM_ways, pM_before, pM_keptWeights, pM_keptRows]; omega)
theorem wL_len {G : Nat → Int → Int} (hQ : bdQ G) : ((wL G).length : Int) = G pM 10 ∧ (wL G).length ≤ 8 := by
  obtain ⟨-, -, -, ⟨h0, h1⟩, -⟩ := hQ
  unfold wL
  rw [zLi_len]
  omega
theorem pL_len {G : Nat → Int → Int} (hQ : bdQ G) : ((pL G).length : Int) = G pM 1 ∧ (pL G).length ≤ 48 := by
  obtain ⟨⟨h0, h1⟩, -⟩ := hQ
  unfold pL
  rw [zLi_len]
  omega
theorem nS_rg {G : Nat → Int → Int} (hB : Bd G) {c : Int} (hc : 0 ≤ c ∧ c < G pM 5) : (nS G c : Int) = G pM_speeches c ∧ 1 ≤ nS G c ∧ nS G c ≤ 8 := by
  have := hB.2.2.1 c hc.1 hc.2
  unfold nS
  omega
theorem rowL_ok {G : Nat → Int → Int} (hB : Bd G) {c s : Int} (hc : 0 ≤ c ∧ c < G pM 5) (hs : 0 ≤ s ∧ s < G pM_speeches c) : (rowL G c s).length = lenS G c s ∧ (rowL G c s).length ≤ 5 ∧ 1 ≤ lenS G c s ∧ isR7 (rowL G c s) := by
  have := lenS_rg hB.2.2.1 hc hs
  refine ⟨zLi_len _ _, ?_, this.1, zLi_mem this.2.2.2⟩
  unfold rowL
  rw [zLi_len]
  omega
theorem Rw11 : zRw 11 8 := ⟨by decide, by omega, rfl, rfl⟩
theorem Rw14 : zRw 14 48 := ⟨by decide, by omega, rfl, rfl⟩
theorem Rw72 : zRw 72 48 := ⟨by decide, by omega, rfl, rfl⟩
theorem Rw74 : zRw 74 96 := ⟨by decide, by omega, rfl, rfl⟩
theorem Rw99 : zRw 99 80 := ⟨by decide, by omega, rfl, rfl⟩
theorem Rs78 : zRws 78 8 10 := zrwsB_ok (by decide +kernel)
theorem X_signalOf (xs : List Int) (v : Int) (h : zH) (hv : zw v = v) : zx zblk xs 63 0 [some (.inl (v))] [] h = some (some (.inl (if 97 ≤ v ∧ v ≤ 104 then v - 97 else -1)), h) := by
  have e19 : zx zblk xs 63 19 [] [] h = some (some (.inl (-1)), h) := by rw [e_X_signalOf_19, e_X_signalOf_20]
  rw [e_X_signalOf_0, hv, show zw 97 = 97 from rfl, show zw 104 = 104 from rfl]
  by_cases a : v < 97
  · rw [if_pos a, e19, if_neg (by omega)]
  · by_cases b : 104 < v
    · rw [if_neg a, if_pos b, e19, if_neg (by omega)]
    · rw [if_neg a, if_neg b, e_X_signalOf_20, if_pos (by omega)]
theorem X_isWeight (xs : List Int) (v : Int) (h : zH) (hv : zw v = v) : zx zblk xs 67 0 [some (.inl (v))] [] h = some (some (.inl (zb (1 ≤ v ∧ v ≤ 99))), h) := by
  have e15 : zx zblk xs 67 15 [] [] h = some (some (.inl 0), h) := by rw [e_X_isWeight_15, e_X_isWeight_16, if_pos (Or.inl rfl)]
  rw [e_X_isWeight_0, hv, show zw 1 = 1 from rfl, show zw 99 = 99 from rfl]
  by_cases a : v < 1
  · rw [if_pos a, e15, zb_f (by omega)]
  · by_cases b : 99 < v
    · rw [if_neg a, if_pos b, e15, zb_f (by omega)]
    · rw [if_neg a, if_neg b, e_X_isWeight_16, if_pos (Or.inr rfl), zb_t (by omega)]
theorem X_isPart (xs : List Int) (v : Int) (h : zH) (hv : zw v = v) : zx zblk xs 68 0 [some (.inl (v))] [] h = some (some (.inl (zb (v = 0 ∨ v = 1))), h) := by
  have e9 : zx zblk xs 68 9 [] [] h = some (some (.inl 1), h) := by rw [e_X_isPart_9, e_X_isPart_14, if_pos (Or.inr rfl)]
  rw [e_X_isPart_0, hv, show zw 1 = 1 from rfl]
  by_cases a : v = 0
  · rw [if_pos a, e9, zb_t (by omega)]
  · by_cases b : v = 1
    · rw [if_neg a, if_neg (by omega), e9, zb_t (by omega)]
    · rw [if_neg a, if_pos b, e_X_isPart_13, e_X_isPart_14, if_pos (Or.inl rfl), zb_f (by omega)]
section XH
variable (xs : List Int) {G g : Nat → Int → Int}
theorem X_codeAt_in (hB : Bd G) (h : Rel G g) (c : Nat) (hc : (c : Int) < G pM 5) : zx zblk xs 69 0 [some (.inr (.inr (some pX))), some (.inl ((c : Int)))] [] (HH g) = some (some (.inr (.inr (some (PC c)))), HH g) := by
  obtain ⟨-, ⟨h0, h1⟩, -⟩ := hB.1
  have e3 := h.2.2.2.1.1
  have h4 : zsh[pX_codes - 1]? = some (102, [104, 145, 186, 227]) := rfl
  have hr : ([104, 145, 186, 227] : List Nat)[(c : Int).toNat]? = some (PC c + 3) := by
    have : c = 0 ∨ c = 1 ∨ c = 2 ∨ c = 3 := by omega
    rcases this with rfl | rfl | rfl | rfl <;> rfl
  rw [e_X_codeAt_0, zw_id (by omega) (by omega), if_neg (by omega), pX_g_codesRead, e3, zw_id (by omega) (by omega), if_neg (by omega), pX_r_codes, HH_ln h4 (by decide) (by show 100 ≤ 102; omega), if_neg (by show ¬ zw 4 ≤ _; rw [show zw 4 = 4 from rfl]; omega), pX_r_codes, HH_aa (n := 0) h4 (by decide) (by omega) (by omega) (by omega) hr, e_X_codeAt_31]
theorem X_codeAt_out (hB : Bd G) (h : Rel G g) (c : Int) (hz : zw c = c) (hc : ¬ (0 ≤ c ∧ c < G pM 5)) : zx zblk xs 69 0 [some (.inr (.inr (some pX))), some (.inl (c))] [] (HH g) = some (some (.inr (.inr none)), HH g) := by
  obtain ⟨-, ⟨h0, h1⟩, -⟩ := hB.1
  have e3 := h.2.2.2.1.1
  have e30 : zx zblk xs 69 30 [] [] (HH g) = some (some (.inr (.inr none)), HH g) := by rw [e_X_codeAt_30, e_X_codeAt_31]
  rw [e_X_codeAt_0, hz]
  by_cases a : c < 0
  · rw [if_pos a, e30]
  · rw [if_neg a, pX_g_codesRead, e3, zw_id (by omega) (by omega), if_pos (by omega), e30]
theorem Rel.cd (h : Rel G g) {c : Nat} (hc4 : c < 4) (hc : (c : Int) < G pM 5) : zCd g (PC c) (nS G c) (fun s => plS G 0 c s) := ((h.2.2.2.1.2 c hc4).1 hc).1
theorem Rel.sp (h : Rel G g) {c : Nat} (hc4 : c < 4) (hc : (c : Int) < G pM 5) {s : Nat} (hs : s < nS G c) : zRow g (PC c + 1 + 4 + 2 * s) (rowL G c s) := ((h.2.2.2.1.2 c hc4).1 hc).2 s hs
theorem Rw_sp {c : Nat} (hc4 : c < 4) {s : Nat} (hs : s < 8) : zRw (PC c + 1 + 4 + 2 * s) 5 := (zCo_PC hc4).2.2.1.2.2.2.2 s hs
theorem Rw_pl {c : Nat} (hc4 : c < 4) {s : Nat} (hs : s < 8) : zRw (PC c + 21 + 4 + 2 * s) 10 := (zCo_PC hc4).2.2.2.2.2.2.2 s hs
theorem X_longOf (hB : Bd G) (h : Rel G g) (c s : Nat) (hc : (c : Int) < G pM 5) (hs : s < nS G c) : zx zblk xs 71 0 [some (.inr (.inr (some pX))), some (.inr (.inr (some (PC c)))), some (.inl ((s : Int)))] [] (HH g) = some (some (.inl (longS G c s)), HH g) := by
  obtain ⟨-, ⟨h0, h1⟩, -⟩ := id hB.1
  have hc4 : c < 4 := by omega
  obtain ⟨n1, n2, n3⟩ := nS_rg hB (c := c) (by omega)
  obtain ⟨r1, r2, r3, r4⟩ := rowL_ok hB (c := c) (s := s) (by omega) (by omega)
  rw [e_X_longOf_0, pX_r_signals, Co_ck (zCo_PC hc4), Code_spoken xs (zCo_PC hc4) s (by omega), zcr_ok, Sg_ck, Signals_secondsOfAll xs hB.1 hB.2.2.2.1 h.1 (Rw_sp hc4 (by omega)) (h.sp hc4 hc hs) r2 (isR7_int r4), zci_ok, r1]
  unfold longS
  rw [zsum_cg (f' := fun k => secS G (rowS G c s k))]
  intro k hk
  unfold rowL
  rw [zLi_getD _ hk]
def saidS (G : Nat → Int → Int) (c : Int) : Int := if G pM_speeches c < G pM 10 then G pM_speeches c else G pM 10
theorem X_thingsSaid (hB : Bd G) (h : Rel G g) (c : Nat) (hc : (c : Int) < G pM 5) : zx zblk xs 70 0 [some (.inr (.inr (some pX))), some (.inr (.inr (some (PC c))))] [] (HH g) = some (some (.inl (saidS G c)), HH g) := by
  obtain ⟨-, ⟨h0, h1⟩, -⟩ := id hB.1
  have hc4 : c < 4 := by omega
  obtain ⟨n1, n2, n3⟩ := nS_rg hB (c := c) (by omega)
  have hl := wL_len hB.1
  have hcd := h.cd hc4 hc
  rw [e_X_thingsSaid_0, Co_ck (zCo_PC hc4), Code_size xs (zCo_PC hc4), zci_ok, pX_r_weights, Rw_ck Rw11, Row_size xs Rw11 h.2.1, zci_ok, hl.1, hcd.2.1, n1, zw_id (a := G pM 10) (by omega) (by omega), zw_id (a := G pM_speeches c) (by omega) (by omega)]
  congr 4
  unfold saidS
  split <;> split <;> omega
theorem X_readPage (hB : Bd G) (h : Rel G g) : ∃ g1, zFr (scR 72) g g1 ∧ ((pgOK G ∧ zx zblk xs 65 0 [some (.inr (.inr (some pX)))] [] (HH g) = some (some (.inl 1), HH g1) ∧ zRow g1 72 (zLi (fun k => G pM_page k - 97) (G pM 1).toNat)) ∨ (¬ pgOK G ∧ zx zblk xs 65 0 [some (.inr (.inr (some pX)))] [] (HH g) = some (some (.inl 0), HH g1))) := by
  obtain ⟨hQ, hPg, -⟩ := id hB
  obtain ⟨⟨h0, h1⟩, -⟩ := id hQ
  have hl := pL_len hQ
  have loop : ∀ (n k : Nat) (gk : Nat → Int → Int), (k : Int) + n = G pM 1 → (∀ j : Nat, j < k → 97 ≤ G pM_page j ∧ G pM_page j ≤ 104) → zRow gk 72 (zLi (fun k => G pM_page k - 97) k) → zFr (scR 72) g gk → ∃ g1, zFr (scR 72) g g1 ∧ ((pgOK G ∧ zx zblk xs 65 9 [some (.inr (.inr (some pX))), some (.inl ((k : Int)))] [] (HH gk) = some (some (.inl 1), HH g1) ∧ zRow g1 72 (zLi (fun k => G pM_page k - 97) (G pM 1).toNat)) ∨ (¬ pgOK G ∧ zx zblk xs 65 9 [some (.inr (.inr (some pX))), some (.inl ((k : Int)))] [] (HH gk) = some (some (.inl 0), HH g1))) := by
    intro n
    induction n with
    | zero =>
      intro k gk hk hj hlk hf
      have hp : zRow gk 14 (pL G) := zRow_fr h.2.2.1 (hf.at (fun j => by simp only [scR]; omega)) (hf.at (fun j => by simp only [scR]; omega))
      refine ⟨gk, hf, Or.inl ⟨fun j hj' => hj j (by omega), ?_, by rw [show (G pM 1).toNat = k by omega]; exact hlk⟩⟩
      rw [e_X_readPage_9, pX_r_page, Rw_ck Rw14, Row_size xs Rw14 hp, zci_ok, hl.1, if_pos (by rw [zw_id (by omega) (by omega), zw_id (by omega) (by omega)]; omega), e_X_readPage_53, if_pos (Or.inr rfl)]
    | succ n ih =>
      intro k gk hk hj hlk hf
      have hp : zRow gk 14 (pL G) := zRow_fr h.2.2.1 (hf.at (fun j => by simp only [scR]; omega)) (hf.at (fun j => by simp only [scR]; omega))
      have hpk := hPg k (by omega) (by omega)
      have hat : zat (pL G) (k : Int) = G pM_page k := by unfold pL; rw [zat_Li (by omega)]; rfl
      rw [e_X_readPage_9, pX_r_page, Rw_ck Rw14, Row_size xs Rw14 hp, zci_ok, hl.1, if_neg (by rw [zw_id (by omega) (by omega), zw_id (by omega) (by omega)]; omega), pX_r_page, Rw_ck Rw14, Row_at xs Rw14 hp hl.2 k (zw_id (by omega) (by omega)), zci_ok, hat, X_signalOf xs _ _ (zw_id (by omega) (by omega)), zci_ok]
      by_cases hr : 97 ≤ G pM_page k ∧ G pM_page k ≤ 104
      · obtain ⟨g2, q1, q2, q3⟩ := Row_add xs Rw72 hlk (by rw [zLi_len]; omega) (G pM_page k - 97)
        rw [← zLi_snoc] at q2
        obtain ⟨g1, r1, r2⟩ := ih (k + 1) g2 (by omega) (fun j hj' => by
          by_cases hjk : j = k
          · subst hjk; exact hr
          · exact hj j (by omega)) q2 (hf.tr q3)
        refine ⟨g1, r1, ?_⟩
        rw [if_pos hr, if_pos (by rw [zw_id (by omega) (by omega), show zw (-1) = -1 from rfl]; omega), e_X_readPage_39, pX_r_said, Rw_ck Rw72, q1, zcv_ok, ← Int.natCast_succ]
        exact r2
      · refine ⟨gk, hf, Or.inr ⟨fun z => hr (z k (by omega)), ?_⟩⟩
        rw [if_neg hr, if_neg (by simp), if_pos (Or.inl rfl)]
  obtain ⟨w1, w2, w3⟩ := Row_wipe xs (g := g) Rw72
  obtain ⟨g1, r1, r2⟩ := loop (G pM 1).toNat 0 _ (by omega) (fun j hj => by omega) w2 w3
  rw [z0N] at r2
  refine ⟨g1, r1, ?_⟩
  rw [e_X_readPage_0, pX_r_said, Rw_ck Rw72, w1, zcv_ok]
  exact r2
theorem X_hearPage (hB : Bd G) (h : Rel G g) : ∃ g1, zFr scX g g1 ∧ ((pgOK G ∧ zx zblk xs 66 0 [some (.inr (.inr (some pX)))] [] (HH g) = some (some (.inl 1), HH g1) ∧ zRow g1 74 (pgL G)) ∨ (¬ pgOK G ∧ zx zblk xs 66 0 [some (.inr (.inr (some pX)))] [] (HH g) = some (some (.inl 0), HH g1))) := by
  obtain ⟨⟨h0, h1⟩, -⟩ := id hB.1
  obtain ⟨g1, q1, q2⟩ := X_readPage xs hB h
  have f1 := zFr_scR (by omega) (by omega) q1
  rw [e_X_hearPage_0, pX_ck]
  rcases q2 with ⟨o, q2, q3⟩ | ⟨o, q2⟩
  · have hi : isR7 (zLi (fun k => G pM_page k - 97) (G pM 1).toNat) := zLi_mem (fun k hk => by have := o k (by omega); omega)
    obtain ⟨g2, r1, r2, r3⟩ := Signals_makePlain xs hB.1 hB.2.2.2.1 (Rel_scX hB h f1).1 Rw74 (by omega) Rw72 q3 (by rw [zLi_len]; omega) (isR7_int hi) (by rw [zLi_len]; omega) 0 (by omega)
    refine ⟨g2, f1.tr (zFr_scR (by omega) (by omega) r3), Or.inl ⟨o, ?_, ?_⟩⟩
    · rw [q2, zci_ok, if_pos (by decide), e_X_hearPage_9, pX_r_signals, pX_r_said, pX_r_heard, Sg_ck, r1, zcv_ok, if_pos (Or.inr rfl)]
    · unfold pgL
      rw [zLi_len] at r2
      rw [pln_cg G 0 (f' := fun k => G pM_page k - 97) (fun k hk => zLi_getD _ hk)] at r2
      exact r2
  · refine ⟨g1, f1, Or.inr ⟨o, ?_⟩⟩
    rw [q2, zci_ok, if_neg (by decide), if_pos (Or.inl rfl)]
end XH
