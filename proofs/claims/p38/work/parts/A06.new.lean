/-! ===== the law makes new arrays ===== -/
theorem Rel_fr0 {G g g1 : Nat → Int → Int} (hB : Bd G) (h : Rel G g) (e : ∀ q, 0 < q → q < 72 ∨ 101 ≤ q → q < 265 → g1 q = g q) : Rel G g1 := by
  obtain ⟨h1, h2, h3, h4, h5, h6, h7⟩ := h
  obtain ⟨⟨-, -, -, -, ⟨-, hn⟩⟩, -, -, -, -, -, hK⟩ := hB
  refine ⟨RelS_fr h1 (fun q _ _ => e q (by omega) (by omega) (by omega)), zRow_fr h2 (e _ (by omega) (by omega) (by omega)) (e _ (by omega) (by omega) (by omega)), zRow_fr h3 (e _ (by omega) (by omega) (by omega)) (e _ (by omega) (by omega) (by omega)), RelC_fr h4 (by rw [e pX (by decide) (Or.inl (by decide)) (by decide)]) (fun q _ _ => e q (by omega) (by omega) (by omega)), RelN_fr hn h5 (fun q _ _ => e q (by omega) (by omega) (by omega)), by rw [e pX (by decide) (Or.inl (by decide)) (by decide)]; exact h6, fun hk => ?_⟩
  obtain ⟨k1, k2⟩ := h7 hk
  refine ⟨zRow_fr k1 (e _ (by omega) (by omega) (by omega)) (e _ (by omega) (by omega) (by omega)), RelN_fr ?_ k2 (fun q _ _ => e q (by omega) (by omega) (by omega))⟩
  rcases hK with hK | hK
  · exact absurd hK hk
  · exact hK.2.2.2.1
theorem zsF_gnw {g : Nat → Int → Int} {N n : Nat} (h : g 0 0 = (N : Nat)) (hk : zlw[N]? = some n) : zsF (gnw g N) = zsF g ++ [(100, List.replicate n 0)] := by
  unfold zsF
  have e : gnw g N 0 0 = ((N + 1 : Nat) : Int) := by
    unfold gnw
    rw [if_neg (by omega), if_pos ⟨rfl, rfl⟩]
    omega
  rw [e, h, show ((N + 1 : Nat) : Int).toNat = N + 1 by omega, show ((N : Nat) : Int).toNat = N by omega, List.take_add_one, hk, List.map_append, List.append_assoc]
  rfl
theorem zAr_gnw {g : Nat → Int → Int} {N n p m : Nat} (h : g 0 0 = (N : Nat)) (hk : zlw[N]? = some n) (ha : zAr g p m) : zAr (gnw g N) p m := by
  obtain ⟨h1, h2, h3⟩ := ha
  refine ⟨h1, h2, ?_⟩
  rw [zsF_gnw h hk, List.getElem?_append_left (List.getElem?_eq_some_iff.mp h3).1]
  exact h3
theorem gnw_q {g : Nat → Int → Int} {N q : Nat} (h0 : q ≠ 0) (h : q ≠ 265 + N) : gnw g N q = g q := by
  funext j
  unfold gnw
  rw [if_neg h, if_neg (fun z => h0 z.1)]
theorem gnw_0 {g : Nat → Int → Int} {N : Nat} : gnw g N 0 0 = ((N + 1 : Nat) : Int) := by
  unfold gnw
  rw [if_neg (by omega), if_pos ⟨rfl, rfl⟩]
  omega
theorem zna_at {g : Nat → Int → Int} {N n : Nat} {m : Int} (hm : m = (n : Int)) (h : g 0 0 = (N : Nat)) (hk : zlw[N]? = some n) (hn : n ≤ 1000) (f : Option Nat → zH → Option zR) : zna (HH g) m f = f (some (265 + N)) (HH (gnw g N)) := by
  subst hm
  exact HH_zna h hk hn f
/-- how the law's steps leave what was there: all places but the scratch of the class and new ones -/
theorem LS_fr0 {G g g1 : Nat → Int → Int} (h : LwS G g) (e : ∀ q, 0 < q → (q < 72 ∨ 101 ≤ q) → q ≤ 266 → g1 q = g q) (a1 : zAr g1 265 33) (a2 : zAr g1 266 49) : LwS G g1 := by
  obtain ⟨h1, h2, h3, h4, h5, h6, h7⟩ := h
  have e6 := e 266 (by omega) (by omega) (by omega)
  have e5 := e 265 (by omega) (by omega) (by omega)
  refine ⟨h1, Rel_fr0 h1 h2 (fun q z a b => e q z a (by omega)), ⟨a1, ?_⟩, h4, a2, ?_⟩
  · rw [e5]
    exact h3.2
  · rw [e6]
    exact ⟨h6, h7⟩
theorem LS_gnw {G g : Nat → Int → Int} {N n : Nat} (h : LwS G g) (hN : g 0 0 = (N : Nat)) (hk : zlw[N]? = some n) (h2 : 2 ≤ N) : LwS G (gnw g N) := LS_fr0 h (fun q z _ _ => gnw_q (by omega) (by omega)) (zAr_gnw hN hk h.2.2.1.1) (zAr_gnw hN hk h.2.2.2.2.1)
theorem LS_scX {G g g1 : Nat → Int → Int} (h : LwS G g) (hf : zFr scX g g1) : LwS G g1 := LS_fr h (fun q a b => hf.at (fun j => by simp only [scX, pX, pX_signals, pX_weights, pX_codes, pX_page, pX_notes, pX_keptWeights, pX_keptNotes, pX_said, pX_heard, pX_pool, pX_struck, pX_readings, pM, pM_page, pM_readRows, pM_speeches, pM_rows, pM_signalRows, pM_weights, pM_plain, pM_plains, pM_ahead, pM_heap, pM_noteRows, pM_ways, pM_before, pM_keptWeights, pM_keptRows]; omega))
