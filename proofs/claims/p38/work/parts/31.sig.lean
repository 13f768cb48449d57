/-! ===== the class: signals ===== -/
/-- the first n numbers of f -/
def zLi (f : Nat → Int) (n : Nat) : List Int := (List.range n).map f
theorem zLi_len (f : Nat → Int) (n : Nat) : (zLi f n).length = n := by simp [zLi]
theorem zLi_snoc (f : Nat → Int) (n : Nat) : zLi f (n + 1) = zLi f n ++ [f n] := by simp [zLi, List.range_succ]
theorem zLi_get (f : Nat → Int) {n k : Nat} (h : k < (zLi f n).length) : (zLi f n)[k] = f k := by simp [zLi]
theorem zLi_getD (f : Nat → Int) {n k : Nat} (h : k < n) : (zLi f n).getD k 0 = f k := by simp [zLi, List.getD, h]
theorem zLi_cg {f f' : Nat → Int} {n : Nat} (h : ∀ k, k < n → f k = f' k) : zLi f n = zLi f' n := by
  induction n with
  | zero => rfl
  | succ n ih => rw [zLi_snoc, zLi_snoc, ih (fun k hk => h k (by omega)), h n (by omega)]
theorem zLi_mem {f : Nat → Int} {n : Nat} {P : Int → Prop} (h : ∀ k, k < n → P (f k)) : ∀ v ∈ zLi f n, P v := by
  intro v hv
  obtain ⟨k, hk, rfl⟩ := List.mem_map.mp hv
  exact h k (List.mem_range.mp hk)
theorem zat_Li {f : Nat → Int} {n : Nat} {i : Int} (h : 0 ≤ i ∧ i < n) : zat (zLi f n) i = f i.toNat := by
  obtain ⟨k, rfl⟩ : ∃ k : Nat, i = k := ⟨i.toNat, by omega⟩
  rw [zat_in (by rw [zLi_len]; omega), zLi_get]
  rfl
theorem zat_Lo {f : Nat → Int} {n : Nat} {i : Int} (h : ¬ (0 ≤ i ∧ i < n)) : zat (zLi f n) i = -1 := zat_out (by rw [zLi_len]; omega)
theorem pln_cg (G : Nat → Int → Int) (st : Int) {f f' : Nat → Int} : ∀ {n : Nat}, (∀ k, k < n → f k = f' k) → pln G st f n = pln G st f' n
  | 0, _ => rfl
  | n + 1, h => by
    have e := pln_cg G st (n := n) (fun k hk => h k (by omega))
    simp only [pln, e, h n (by omega)]
def sigL (G : Nat → Int → Int) (j : Int) : List Int := zLi (fun s => G pM_signalRows (4 * (s : Int) + j)) (G pM 8).toNat
def RelS (G g : Nat → Int → Int) : Prop := zRow g 3 (sigL G 0) ∧ zRow g 5 (sigL G 1) ∧ zRow g 7 (sigL G 2) ∧ zRow g 9 (sigL G 3)
theorem RelS_fr {G g g1 : Nat → Int → Int} (h : RelS G g) (e : ∀ q, 3 ≤ q → q ≤ 10 → g1 q = g q) : RelS G g1 :=
  ⟨zRow_fr h.1 (e 3 (by omega) (by omega)) (e 4 (by omega) (by omega)), zRow_fr h.2.1 (e 5 (by omega) (by omega)) (e 6 (by omega) (by omega)), zRow_fr h.2.2.1 (e 7 (by omega) (by omega)) (e 8 (by omega) (by omega)), zRow_fr h.2.2.2 (e 9 (by omega) (by omega)) (e 10 (by omega) (by omega))⟩
theorem sigL_len {G : Nat → Int → Int} (hQ : bdQ G) (j : Int) : (sigL G j).length ≤ 8 := by
  obtain ⟨-, -, ⟨h0, h1⟩, -, -⟩ := hQ
  unfold sigL
  rw [zLi_len]
  omega
theorem sigL_len' {G : Nat → Int → Int} (hQ : bdQ G) (j : Int) : ((sigL G j).length : Int) = G pM 8 := by
  obtain ⟨-, -, ⟨h0, h1⟩, -, -⟩ := hQ
  unfold sigL
  rw [zLi_len]
  omega
theorem zat_sig {G : Nat → Int → Int} (j s : Int) : zat (sigL G j) s = if 0 ≤ s ∧ s < G pM 8 then G pM_signalRows (4 * s + j) else -1 := by
  unfold sigL
  by_cases h : 0 ≤ s ∧ s < G pM 8
  · rw [if_pos h, zat_Li (by omega)]
    congr 1
    omega
  · rw [if_neg h, zat_Lo (by omega)]
theorem Rw3 : zRw 3 8 := ⟨by decide, by omega, rfl, rfl⟩
theorem Rw5 : zRw 5 8 := ⟨by decide, by omega, rfl, rfl⟩
theorem Rw7 : zRw 7 8 := ⟨by decide, by omega, rfl, rfl⟩
theorem Rw9 : zRw 9 8 := ⟨by decide, by omega, rfl, rfl⟩
theorem Sg_ck (g : Nat → Int → Int) (o : Option zR) : zck (HH g) (some pX_signals) 5 o = o := HH_ck (p := pX_signals) rfl (by decide) rfl o
theorem Sg_0 (g : Nat → Int → Int) (f : Option Nat → Option zR) : zgr (HH g) (some pX_signals) 5 0 f = f (some 3) := HH_gr (p := pX_signals) (j := 0) rfl (by decide) rfl rfl f
theorem Sg_1 (g : Nat → Int → Int) (f : Option Nat → Option zR) : zgr (HH g) (some pX_signals) 5 1 f = f (some 5) := HH_gr (p := pX_signals) (j := 1) rfl (by decide) rfl rfl f
theorem Sg_2 (g : Nat → Int → Int) (f : Option Nat → Option zR) : zgr (HH g) (some pX_signals) 5 2 f = f (some 7) := HH_gr (p := pX_signals) (j := 2) rfl (by decide) rfl rfl f
theorem Sg_3 (g : Nat → Int → Int) (f : Option Nat → Option zR) : zgr (HH g) (some pX_signals) 5 3 f = f (some 9) := HH_gr (p := pX_signals) (j := 3) rfl (by decide) rfl rfl f
section SIG
variable (xs : List Int) {G g : Nat → Int → Int}
theorem Signals_told (hQ : bdQ G) (h : RelS G g) : zx zblk xs 32 0 [some (.inr (.inr (some pX_signals)))] [] (HH g) = some (some (.inl (G pM 8)), HH g) := by
  rw [e_Signals_told_0, Sg_0, Rw_ck Rw3, Row_size xs Rw3 h.1, zci_ok, sigL_len' hQ]
theorem Signals_isTold (hQ : bdQ G) (h : RelS G g) (s : Int) : zx zblk xs 33 0 [some (.inr (.inr (some pX_signals))), some (.inl (s))] [] (HH g) = some (some (.inl (zb (0 ≤ zw s ∧ zw s < G pM 8))), HH g) := by
  obtain ⟨-, -, ⟨h0, h1⟩, -, -⟩ := id hQ
  have e19 : zx zblk xs 33 19 [] [] (HH g) = some (some (.inl 0), HH g) := by rw [e_Signals_isTold_19, e_Signals_isTold_20, if_pos (Or.inl rfl)]
  rw [e_Signals_isTold_0]
  by_cases a : zw s < 0
  · rw [if_pos a, e19, zb_f (by omega)]
  · rw [if_neg a, Sg_0, Rw_ck Rw3, Row_size xs Rw3 h.1, zci_ok, sigL_len' hQ, zw_id (a := G pM 8) (by omega) (by omega)]
    by_cases b : G pM 8 ≤ zw s
    · rw [if_pos b, e19, zb_f (by omega)]
    · rw [if_neg b, e_Signals_isTold_20, if_pos (Or.inr rfl), zb_t (by omega)]
theorem Signals_kindOf (hQ : bdQ G) (hS : bdS G) (h : RelS G g) (s : Int) (hs : zw s = s) : zx zblk xs 35 0 [some (.inr (.inr (some pX_signals))), some (.inl (s))] [] (HH g) = some (some (.inl (kindS G s)), HH g) := by
  rw [e_Signals_kindOf_0, Sg_0, Rw_ck Rw3, Row_at xs Rw3 h.1 (sigL_len hQ 0) s hs, zci_ok, zat_sig, Int.add_zero]
  unfold kindS
  by_cases a : 0 ≤ s ∧ s < G pM 8
  · have := hS s a.1 a.2
    rw [if_pos a, if_pos a, if_pos (by rw [zw_id (by omega) (by omega)]; show _ ≠ (-1 : Int); omega), e_Signals_kindOf_18, e_Signals_kindOf_19]
  · rw [if_neg a, if_neg a, if_neg (by simp), e_Signals_kindOf_19]
theorem Signals_toneOf (hQ : bdQ G) (h : RelS G g) (s : Int) (hs : zw s = s) : zx zblk xs 36 0 [some (.inr (.inr (some pX_signals))), some (.inl (s))] [] (HH g) = some (some (.inl (zat (sigL G 1) s)), HH g) := by
  rw [e_Signals_toneOf_0, Sg_1, Rw_ck Rw5, Row_at xs Rw5 h.2.1 (sigL_len hQ 1) s hs, zci_ok]
theorem Signals_secondsOf (hQ : bdQ G) (hS : bdS G) (h : RelS G g) (s : Int) (hs : zw s = s) : zx zblk xs 37 0 [some (.inr (.inr (some pX_signals))), some (.inl (s))] [] (HH g) = some (some (.inl (secS G s)), HH g) := by
  rw [e_Signals_secondsOf_0, Sg_2, Rw_ck Rw7, Row_at xs Rw7 h.2.2.1 (sigL_len hQ 2) s hs, zci_ok, zat_sig]
  unfold secS
  by_cases a : 0 ≤ s ∧ s < G pM 8
  · have := hS s a.1 a.2
    rw [if_pos a, if_pos a, if_pos (by rw [zw_id (by omega) (by omega)]; show _ ≠ (-1 : Int); omega), e_Signals_secondsOf_18, e_Signals_secondsOf_19]
  · rw [if_neg a, if_neg a, if_neg (by simp), e_Signals_secondsOf_19]
theorem Signals_oddOf (hQ : bdQ G) (hS : bdS G) (h : RelS G g) (s : Int) (hs : zw s = s) : zx zblk xs 38 0 [some (.inr (.inr (some pX_signals))), some (.inl (s))] [] (HH g) = some (some (.inl (oddS G s)), HH g) := by
  rw [e_Signals_oddOf_0, Sg_3, Rw_ck Rw9, Row_at xs Rw9 h.2.2.2 (sigL_len hQ 3) s hs, zci_ok, zat_sig]
  unfold oddS
  by_cases a : 0 ≤ s ∧ s < G pM 8
  · have := hS s a.1 a.2
    rw [if_pos a, if_pos a, if_pos (by rw [zw_id (by omega) (by omega)]; show _ ≠ (-1 : Int); omega), e_Signals_oddOf_18, e_Signals_oddOf_19]
  · rw [if_neg a, if_neg a, if_neg (by simp), e_Signals_oddOf_19]
theorem Signals_isToneFor (hQ : bdQ G) (hS : bdS G) (h : RelS G g) (k n : Int) (hk : zw k = k) (hn : zw n = n) : zx zblk xs 39 0 [some (.inr (.inr (some pX_signals))), some (.inl (k)), some (.inl (n))] [] (HH g) = some (some (.inl (zb (if k = 2 then 0 ≤ n ∧ n < G pM 8 ∧ kindS G n < 2 else n = -1))), HH g) := by
  have e14 : zx zblk xs 39 14 [] [] (HH g) = some (some (.inl 0), HH g) := by rw [e_Signals_isToneFor_14, e_Signals_isToneFor_15, if_pos (Or.inl rfl)]
  have e45 : zx zblk xs 39 45 [] [] (HH g) = some (some (.inl 0), HH g) := by rw [e_Signals_isToneFor_45, e_Signals_isToneFor_46, if_pos (Or.inl rfl)]
  have e41 : zx zblk xs 39 41 [] [] (HH g) = some (some (.inl 1), HH g) := by rw [e_Signals_isToneFor_41, e_Signals_isToneFor_46, if_pos (Or.inr rfl)]
  rw [e_Signals_isToneFor_0, hk, hn, show zw 2 = 2 from rfl, show zw (-1) = -1 from rfl]
  by_cases a : k = 2
  · simp only [if_pos a]
    rw [e_Signals_isToneFor_16, Sg_ck, Signals_isTold xs hQ h, zci_ok, zb_zw, hn]
    by_cases b : 0 ≤ n ∧ n < G pM 8
    · have hkk := kindS_rg hS n
      rw [zb_t b, if_neg (by decide), Sg_ck, Signals_kindOf xs hQ hS h n hn, zci_ok, zw_id (by omega) (by omega)]
      by_cases c0 : kindS G n = 0
      · rw [if_pos c0, e41, zb_t (by omega)]
      · rw [if_neg c0, Sg_ck, Signals_kindOf xs hQ hS h n hn, zci_ok, zw_id (by omega) (by omega), show zw 1 = 1 from rfl]
        by_cases c1 : kindS G n = 1
        · rw [if_neg (by omega), e41, zb_t (by omega)]
        · rw [if_pos c1, e45, zb_f (by omega)]
    · rw [zb_f b, if_pos rfl, e45, zb_f (by omega)]
  · simp only [if_neg a]
    by_cases b : n = -1
    · rw [if_neg (by omega), e_Signals_isToneFor_15, if_pos (Or.inr rfl), zb_t b]
    · rw [if_pos b, e14, zb_f b]
theorem Signals_secondsOfAll (hQ : bdQ G) (hS : bdS G) (h : RelS G g) {p n : Nat} {l : List Int} (hp : zRw p n) (hl : zRow g p l) (hn : l.length ≤ n) (hi : zInt l) : zx zblk xs 40 0 [some (.inr (.inr (some pX_signals))), some (.inr (.inr (some p)))] [] (HH g) = some (some (.inl (zsum (fun k => secS G (l.getD k 0)) l.length)), HH g) := by
  have hn0 := hp.2.1
  have hh := zloop (fun k : Nat => zx zblk xs 40 4 [some (.inr (.inr (some pX_signals))), some (.inr (.inr (some p))), some (.inl (zsum (fun k => secS G (l.getD k 0)) k)), some (.inl ((k : Int)))] [] (HH g)) l.length (fun k hk => by
    have d1 : l.getD k 0 = l[k] := by simp [List.getD, hk]
    rw [e_Signals_secondsOfAll_4, Rw_ck hp, Row_size xs hp hl, zci_ok, if_neg (by rw [zw_id (by omega) (by omega), zw_id (by omega) (by omega)]; omega), Rw_ck hp, Row_at xs hp hl hn k (zw_id (by omega) (by omega)), zci_ok, zat_in hk, Sg_ck, Signals_secondsOf xs hQ hS h _ (zInt_get hi hk), zci_ok, zsum, d1, Int.natCast_succ])
  rw [e_Signals_secondsOfAll_0]
  refine Eq.trans ?_ (hh.trans ?_)
  · rfl
  · rw [e_Signals_secondsOfAll_4, Rw_ck hp, Row_size xs hp hl, zci_ok, if_pos (by omega), e_Signals_secondsOfAll_30]
theorem Signals_oddOfAll (hQ : bdQ G) (hS : bdS G) (h : RelS G g) {p n : Nat} {l : List Int} (hp : zRw p n) (hl : zRow g p l) (hn : l.length ≤ n) (hi : zInt l) : zx zblk xs 41 0 [some (.inr (.inr (some pX_signals))), some (.inr (.inr (some p)))] [] (HH g) = some (some (.inl (zsum (fun k => oddS G (l.getD k 0)) l.length)), HH g) := by
  have hn0 := hp.2.1
  have hh := zloop (fun k : Nat => zx zblk xs 41 4 [some (.inr (.inr (some pX_signals))), some (.inr (.inr (some p))), some (.inl (zsum (fun k => oddS G (l.getD k 0)) k)), some (.inl ((k : Int)))] [] (HH g)) l.length (fun k hk => by
    have d1 : l.getD k 0 = l[k] := by simp [List.getD, hk]
    rw [e_Signals_oddOfAll_4, Rw_ck hp, Row_size xs hp hl, zci_ok, if_neg (by rw [zw_id (by omega) (by omega), zw_id (by omega) (by omega)]; omega), Rw_ck hp, Row_at xs hp hl hn k (zw_id (by omega) (by omega)), zci_ok, zat_in hk, Sg_ck, Signals_oddOf xs hQ hS h _ (zInt_get hi hk), zci_ok, zsum, d1, Int.natCast_succ])
  rw [e_Signals_oddOfAll_0]
  refine Eq.trans ?_ (hh.trans ?_)
  · rfl
  · rw [e_Signals_oddOfAll_4, Rw_ck hp, Row_size xs hp hl, zci_ok, if_pos (by omega), e_Signals_oddOfAll_30]
end SIG
theorem mpStep (xs : List Int) {G g : Nat → Int → Int} (hQ : bdQ G) (hS : bdS G) (h : RelS G g) {p n p2 : Nat} {l : List Int} (hp : zRw p n) (hp11 : 11 ≤ p) (hl : zRow g p l) (hn : l.length + 2 ≤ n) (st s k : Int) (hs : zw s = s) : ∃ g1, zx zblk xs 42 36 [some (.inr (.inr (some pX_signals))), some (.inr (.inr (some p2))), some (.inl (st)), some (.inr (.inr (some p))), some (.inl (k)), some (.inl (s))] [] (HH g) = zx zblk xs 42 103 [some (.inr (.inr (some pX_signals))), some (.inr (.inr (some p2))), some (.inl (st)), some (.inr (.inr (some p))), some (.inl (k))] [] (HH g1) ∧ zRow g1 p (stp G l s) ∧ zFr (scR p) g g1 := by
  have hkk := kindS_rg hS s
  have hz : zw (kindS G s) = kindS G s := zw_id (by omega) (by omega)
  rw [e_Signals_makePlain_36, Sg_ck, Signals_kindOf xs hQ hS h s hs, zci_ok, hz]
  unfold stp
  by_cases a : kindS G s < 2
  · obtain ⟨g1, q1, q2, q3⟩ := Row_add xs hp hl (by omega) s
    refine ⟨g1, ?_, by rw [if_pos a]; exact q2, q3⟩
    have e55 : zx zblk xs 42 55 [some (.inr (.inr (some pX_signals))), some (.inr (.inr (some p2))), some (.inl (st)), some (.inr (.inr (some p))), some (.inl (k)), some (.inl (s))] [] (HH g) = zx zblk xs 42 103 [some (.inr (.inr (some pX_signals))), some (.inr (.inr (some p2))), some (.inl (st)), some (.inr (.inr (some p))), some (.inl (k))] [] (HH g1) := by
      rw [e_Signals_makePlain_55, Rw_ck hp, q1, zcv_ok]
    by_cases a0 : kindS G s = 0
    · rw [if_pos a0, e55]
    · rw [if_neg a0, show zw 1 = 1 from rfl, if_neg (by omega), e55]
  · rw [if_neg (by omega), show zw 1 = 1 from rfl, if_pos (by omega), e_Signals_makePlain_64, hz, show zw 2 = 2 from rfl, if_neg a]
    by_cases b : kindS G s = 2
    · have hb := kindS_2 b
      obtain ⟨g1, q1, q2, q3⟩ := Row_add xs hp hl (by omega) (G pM_signalRows (4 * s + 1))
      have h1 : RelS G g1 := RelS_fr h (fun q h3 h10 => q3.at (fun j => by simp only [scR]; omega))
      obtain ⟨g2, r1, r2, r3⟩ := Row_add xs hp q2 (by simp; omega) (G pM_signalRows (4 * s + 1))
      refine ⟨g2, ?_, by rw [if_pos b]; exact r2, q3.tr r3⟩
      rw [if_neg (by omega), Sg_ck, Signals_toneOf xs hQ h s hs, zci_ok, zat_sig, if_pos hb, Rw_ck hp, q1, zcv_ok, Sg_ck, Signals_toneOf xs hQ h1 s hs, zci_ok, zat_sig, if_pos hb, Rw_ck hp, r1, zcv_ok]
    · rw [if_pos b, if_neg b, e_Signals_makePlain_93, hz, show zw 4 = 4 from rfl]
      by_cases c : kindS G s = 4
      · obtain ⟨g1, q1, q2, q3⟩ := Row_dropLast xs hp hl (by omega)
        refine ⟨g1, ?_, by rw [if_pos c]; exact q2, q3⟩
        rw [if_neg (by omega), Rw_ck hp, q1, zcv_ok]
      · exact ⟨g, by rw [if_pos c], by rw [if_neg c]; exact hl, zFr.rf⟩
theorem Signals_makePlain (xs : List Int) {G g : Nat → Int → Int} (hQ : bdQ G) (hS : bdS G) (h : RelS G g) {p n p2 n2 : Nat} {l2 : List Int} (hp : zRw p n) (hp11 : 11 ≤ p) (hp2 : zRw p2 n2) (hl2 : zRow g p2 l2) (hn2 : l2.length ≤ n2) (hi : zInt l2) (hn : 2 * l2.length ≤ n) (st : Int) (hd : p2 ≠ p ∧ p2 ≠ p + 1 ∧ p2 + 1 ≠ p) : ∃ g1, zx zblk xs 42 0 [some (.inr (.inr (some pX_signals))), some (.inr (.inr (some p2))), some (.inl (st)), some (.inr (.inr (some p)))] [] (HH g) = some (none, HH g1) ∧ zRow g1 p (pln G st (fun k => l2.getD k 0) l2.length) ∧ zFr (scR p) g g1 := by
  have hn0 := hp.2.1
  have hn20 := hp2.2.1
  have loop : ∀ (r k : Nat) (gk : Nat → Int → Int), k + r = l2.length → zRow gk p (pln G st (fun k => l2.getD k 0) k) → zFr (scR p) g gk → ∃ g1, zx zblk xs 42 7 [some (.inr (.inr (some pX_signals))), some (.inr (.inr (some p2))), some (.inl (st)), some (.inr (.inr (some p))), some (.inl ((k : Int)))] [] (HH gk) = some (none, HH g1) ∧ zRow g1 p (pln G st (fun k => l2.getD k 0) l2.length) ∧ zFr (scR p) g g1 := by
    intro r
    induction r with
    | zero =>
      intro k gk hk hlk hf
      have hkl : k = l2.length := by omega
      subst hkl
      have hl2k : zRow gk p2 l2 := zRow_fr hl2 (hf.at (fun j => by simp only [scR]; omega)) (hf.at (fun j => by simp only [scR]; omega))
      refine ⟨gk, ?_, hlk, hf⟩
      rw [e_Signals_makePlain_7, Rw_ck hp2, Row_size xs hp2 hl2k, zci_ok, if_pos (by omega), e_Signals_makePlain_109]
    | succ r ih =>
      intro k gk hk hlk hf
      have hl2k : zRow gk p2 l2 := zRow_fr hl2 (hf.at (fun j => by simp only [scR]; omega)) (hf.at (fun j => by simp only [scR]; omega))
      have hk2 : k < l2.length := by omega
      have d1 : l2.getD k 0 = l2[k] := by simp [List.getD, hk2]
      have hplen := pln_len G st (fun k => l2.getD k 0) k
      rw [e_Signals_makePlain_7, Rw_ck hp2, Row_size xs hp2 hl2k, zci_ok, if_neg (by rw [zw_id (by omega) (by omega), zw_id (by omega) (by omega)]; omega), Rw_ck hp2, Row_at xs hp2 hl2k hn2 k (zw_id (by omega) (by omega)), zci_ok, zat_in hk2, zw_zand]
      by_cases hbit : zand (zshr st l2[k]) 1 = 0
      · obtain ⟨g2, q1, q2, q3⟩ := mpStep xs hQ hS (RelS_fr h (fun q h3 h10 => hf.at (fun j => by simp only [scR]; omega))) (p2 := p2) hp hp11 hlk (by omega) st l2[k] k (zInt_get hi hk2)
        obtain ⟨g1, r1, r2, r3⟩ := ih (k + 1) g2 (by omega) (by simp only [pln, d1, hbit, ne_eq, not_true_eq_false, if_false]; exact q2) (hf.tr q3)
        refine ⟨g1, ?_, r2, r3⟩
        rw [if_pos hbit, q1, e_Signals_makePlain_103, ← Int.natCast_succ]
        exact r1
      · obtain ⟨g1, r1, r2, r3⟩ := ih (k + 1) gk (by omega) (by simp only [pln, d1, ne_eq, hbit, not_false_eq_true, if_true]; exact hlk) hf
        refine ⟨g1, ?_, r2, r3⟩
        rw [if_neg hbit, e_Signals_makePlain_103, ← Int.natCast_succ]
        exact r1
  obtain ⟨w1, w2, w3⟩ := Row_wipe xs (g := g) hp
  obtain ⟨g1, r1, r2, r3⟩ := loop l2.length 0 _ (by omega) w2 w3
  rw [z0N] at r1
  refine ⟨g1, ?_, r2, r3⟩
  rw [e_Signals_makePlain_0, Rw_ck hp, w1, zcv_ok]
  exact r1

