/-! ===== queries: as, about, speech ===== -/
theorem M_isCode' (xs : List Int) {g : Nat → Int → Int} (hB : Bd g) {c : Int} (hc : zw c = c) : zx zblk xs 9 0 [some (.inr (.inr (some pM))), some (.inl (c))] [] (HH g) = some (some (.inl (zb (0 ≤ c ∧ c < g pM 5))), HH g) := by
  obtain ⟨-, ⟨h0, h1⟩, -⟩ := hB.1
  have := M_isCode xs g c h0 (by omega)
  rw [this, hc]
theorem M_isSignal' (xs : List Int) {g : Nat → Int → Int} (hB : Bd g) {s : Int} (hs : zw s = s) : zx zblk xs 11 0 [some (.inr (.inr (some pM))), some (.inl (s))] [] (HH g) = some (some (.inl (zb (0 ≤ s ∧ s < g pM 8))), HH g) := by
  obtain ⟨-, -, ⟨h0, h1⟩, -⟩ := hB.1
  have := M_isSignal xs g s h0 (by omega)
  rw [this, hs]
theorem M_isThing' (xs : List Int) {g : Nat → Int → Int} (hB : Bd g) {s : Int} (hs : zw s = s) : zx zblk xs 15 0 [some (.inr (.inr (some pM))), some (.inl (s))] [] (HH g) = some (some (.inl (zb (0 ≤ s ∧ s < g pM 10))), HH g) := by
  obtain ⟨-, -, -, ⟨h0, h1⟩, -⟩ := hB.1
  have := M_isThing xs g s h0 (by omega)
  rw [this, hs]
theorem M_in' (xs : List Int) {v a b : Int} (h : zH) (hv : zw v = v) (ha : zwl a = a) (hb : zwl b = b) : zx zblk xs 2 0 [some (.inr (.inl ((zw v)))), none, some (.inr (.inl (a))), none, some (.inr (.inl (b))), none] [] h = some (some (.inl (zb (a ≤ v ∧ v ≤ b))), h) := by
  rw [M_in xs (zw v) a b h (zwl_zw v) ha hb, hv]
theorem M_isPart' (xs : List Int) {v : Int} (h : zH) (hv : zw v = v) : zx zblk xs 43 0 [some (.inl (v))] [] h = some (some (.inl (zb (v = 0 ∨ v = 1))), h) := by
  rw [M_isPart xs v h, hv]
noncomputable def zite (P : Prop) (a b : Int) : Int := @ite _ P (zdc P) a b
theorem zite_t {P : Prop} (h : P) (a b : Int) : zite P a b = a := @if_pos _ (zdc P) h _ _ _
theorem zite_f {P : Prop} (h : ¬ P) (a b : Int) : zite P a b = b := @if_neg _ (zdc P) h _ _ _
def asS (G : Nat → Int → Int) (s k : Int) : Int := if 0 ≤ s ∧ s < G pM 8 then (if 0 ≤ k ∧ k ≤ 4 then (if k = 0 ∨ k = G pM_signalRows (4 * s) ∨ (k = 1 ∧ G pM_signalRows (4 * s) = 2) then s else -1) else -102) else -101
def aboutS (G : Nat → Int → Int) (s w : Int) : Int := if 0 ≤ s ∧ s < G pM 8 then (if 0 ≤ w ∧ w ≤ 3 then G pM_signalRows (4 * s + w) else -102) else -101
def spO (G : Nat → Int → Int) (c s i : Int) : Int := if 0 ≤ i ∧ i ≤ 5 then (if i ≤ G pM_rows (48 * c + 6 * s) then G pM_rows (48 * c + 6 * s + i) else -1) else if 11 ≤ i ∧ i ≤ 20 then zat (plS G 0 c s) (i - 11) else if i = 10 then (plS G 0 c s).length else if i = 30 then longS G c s else -102
def spS (G : Nat → Int → Int) (c s i : Int) : Int := if 0 ≤ c ∧ c < G pM 5 then (if 0 ≤ s ∧ s < G pM_speeches c then spO G c s i else -101) else -101
theorem es_asS {g1 g : Nat → Int → Int} (h : es g1 = es g) : asS g1 = asS g := by
  obtain ⟨e1, e2, e3, e4, e5, e6, e7, e8, e9, e10, e11, e12, e13, e14, e15⟩ := es_all h
  funext s k
  unfold asS
  rw [e4, e11]
theorem es_aboutS {g1 g : Nat → Int → Int} (h : es g1 = es g) : aboutS g1 = aboutS g := by
  obtain ⟨e1, e2, e3, e4, e5, e6, e7, e8, e9, e10, e11, e12, e13, e14, e15⟩ := es_all h
  funext s k
  unfold aboutS
  rw [e4, e11]
theorem es_secS {g1 g : Nat → Int → Int} (h : es g1 = es g) : secS g1 = secS g := by
  obtain ⟨e1, e2, e3, e4, e5, e6, e7, e8, e9, e10, e11, e12, e13, e14, e15⟩ := es_all h
  funext s
  unfold secS
  rw [e4, e11]
theorem es_oddS {g1 g : Nat → Int → Int} (h : es g1 = es g) : oddS g1 = oddS g := by
  obtain ⟨e1, e2, e3, e4, e5, e6, e7, e8, e9, e10, e11, e12, e13, e14, e15⟩ := es_all h
  funext s
  unfold oddS
  rw [e4, e11]
theorem es_longS {g1 g : Nat → Int → Int} (h : es g1 = es g) : longS g1 = longS g := by
  funext c s
  unfold longS
  rw [es_secS h, es_rowS h, es_lenS h]
theorem es_spO {g1 g : Nat → Int → Int} (h : es g1 = es g) : spO g1 = spO g := by
  obtain ⟨e1, e2, e3, e4, e5, e6, e7, e8, e9, e10, e11, e12, e13, e14, e15⟩ := es_all h
  funext c s i
  unfold spO
  rw [e3, es_plS h, es_longS h]
theorem es_spS {g1 g : Nat → Int → Int} (h : es g1 = es g) : spS g1 = spS g := by
  obtain ⟨e1, e2, e3, e4, e5, e6, e7, e8, e9, e10, e11, e12, e13, e14, e15⟩ := es_all h
  funext c s i
  unfold spS
  rw [e2, e10, es_spO h]
theorem M_as (xs : List Int) {g : Nat → Int → Int} (hB : Bd g) {s k : Int} (hs : zw s = s) (hk : zw k = k) : zx zblk xs 12 0 [some (.inr (.inr (some pM))), some (.inl (s)), some (.inl (k))] [] (HH g) = some (some (.inl (asS g s k)), HH g) := by
  have e54 : zx zblk xs 12 54 [none, some (.inl (s))] [] (HH g) = some (some (.inl s), HH g) := by rw [e_M_as_54, e_M_as_59, if_neg (by decide), e_M_as_71]
  have e58 : zx zblk xs 12 58 [none, some (.inl (s))] [] (HH g) = some (some (.inl (-1)), HH g) := by rw [e_M_as_58, e_M_as_59, if_pos (show zw 0 = 0 from rfl), e_M_as_70, e_M_as_71]
  rw [e_M_as_0, pM_ck, M_isSignal' xs hB hs, zci_ok, zb_zw]
  unfold asS
  by_cases a : 0 ≤ s ∧ s < g pM 8
  · have hS := hB.2.2.2.1 s a.1 a.2
    have hq := hB.1.2.2.1
    rw [zb_t a, if_pos (by decide), if_pos a, e_M_as_11, M_in' xs _ hk rfl rfl, zci_ok, zb_zw]
    by_cases b : 0 ≤ k ∧ k ≤ 4
    · rw [zb_t b, if_pos (by decide), if_pos b, e_M_as_26, pM_r_signalRows, pM_a_signalRows xs _ (by omega) (by omega), e54, e58, hk, zw_id (a := g pM_signalRows (4 * s)) (by omega) (by omega), show zw 1 = 1 from rfl, show zw 2 = 2 from rfl]
      by_cases c1 : k = 0
      · rw [if_pos c1, if_pos (by omega)]
      · rw [if_neg c1]
        by_cases c2 : k = g pM_signalRows (4 * s)
        · rw [if_pos c2, if_pos (by omega)]
        · rw [if_neg c2]
          by_cases c3 : k = 1
          · rw [if_neg (by omega)]
            by_cases c4 : g pM_signalRows (4 * s) = 2
            · rw [if_neg (by omega), if_pos (by omega)]
            · rw [if_pos c4, if_neg (by omega)]
          · rw [if_pos c3, if_neg (by omega)]
    · rw [zb_f b, if_neg (by decide), if_neg b]
  · rw [zb_f a, if_neg (by decide), if_neg a]
theorem X_as (xs : List Int) {G g : Nat → Int → Int} (hB : Bd G) (h : Rel G g) {s k : Int} (hs : zw s = s) (hk : zw k = k) : zx zblk xs 140 0 [some (.inr (.inr (some pX))), some (.inl (s)), some (.inl (k))] [] (HH g) = some (some (.inl (asS G s k)), HH g) := by
  have e54 : zx zblk xs 140 54 [none, some (.inl (s))] [] (HH g) = some (some (.inl s), HH g) := by rw [e_X_as_54, e_X_as_59, if_neg (by decide), e_X_as_71]
  have e58 : zx zblk xs 140 58 [none, some (.inl (s))] [] (HH g) = some (some (.inl (-1)), HH g) := by rw [e_X_as_58, e_X_as_59, if_pos (show zw 0 = 0 from rfl), e_X_as_70, e_X_as_71]
  have e23 : zx zblk xs 140 23 [] [] (HH g) = some (some (.inl (-102)), HH g) := e_X_as_23 xs _
  rw [e_X_as_0, pX_r_signals, Sg_ck, Signals_isTold xs hB.1 h.1, zci_ok, zb_zw, hs]
  unfold asS
  by_cases a : 0 ≤ s ∧ s < G pM 8
  · have hS := hB.2.2.2.1 s a.1 a.2
    have hkd : kindS G s = G pM_signalRows (4 * s) := if_pos a
    rw [zb_t a, if_pos (by decide), if_pos a, e_X_as_14, hk, show zw 4 = 4 from rfl]
    by_cases b : 0 ≤ k ∧ k ≤ 4
    · rw [if_neg (by omega), if_pos b.2, if_pos b, e_X_as_26, pX_r_signals, Sg_ck, Signals_kindOf xs hB.1 hB.2.2.2.1 h.1 s hs, zci_ok, hkd, e54, e58, hk, zw_id (a := G pM_signalRows (4 * s)) (by omega) (by omega), show zw 1 = 1 from rfl, show zw 2 = 2 from rfl]
      by_cases c2 : k = G pM_signalRows (4 * s)
      · rw [if_pos c2, if_pos (by omega)]
      · rw [if_neg c2]
        by_cases c1 : k = 0
        · rw [if_pos c1, if_pos (by omega)]
        · rw [if_neg c1]
          by_cases c3 : k = 1
          · rw [if_neg (by omega)]
            by_cases c4 : G pM_signalRows (4 * s) = 2
            · rw [if_neg (by omega), if_pos (by omega)]
            · rw [if_pos c4, if_neg (by omega)]
          · rw [if_pos c3, if_neg (by omega)]
    · rw [if_neg b]
      by_cases b0 : k < 0
      · rw [if_pos b0, e23]
      · rw [if_neg b0, if_neg (by omega), e23]
  · rw [zb_f a, if_neg (by decide), if_neg a]
theorem M_about (xs : List Int) {g : Nat → Int → Int} (hB : Bd g) {s w : Int} (hs : zw s = s) (hw : zw w = w) : zx zblk xs 13 0 [some (.inr (.inr (some pM))), some (.inl (s)), some (.inl (w))] [] (HH g) = some (some (.inl (aboutS g s w)), HH g) := by
  rw [e_M_about_0, pM_ck, M_isSignal' xs hB hs, zci_ok, zb_zw]
  unfold aboutS
  by_cases a : 0 ≤ s ∧ s < g pM 8
  · have hq := hB.1.2.2.1
    rw [zb_t a, if_pos (by decide), if_pos a, e_M_about_11, M_in' xs _ hw rfl rfl, zci_ok, zb_zw]
    by_cases b : 0 ≤ w ∧ w ≤ 3
    · rw [zb_t b, if_neg (by decide), if_pos b, pM_r_signalRows, pM_a_signalRows xs _ (by omega) (by omega), e_M_about_38]
    · rw [zb_f b, if_pos rfl, if_neg b, e_M_about_36, e_M_about_38]
  · rw [zb_f a, if_neg (by decide), if_neg a]
theorem zsel_some (t : Nat) (f : Nat → Option zR) : zsel (some t) f = f t := rfl
theorem X_about (xs : List Int) {G g : Nat → Int → Int} (hB : Bd G) (h : Rel G g) {s w : Int} (hs : zw s = s) (hw : zw w = w) : zx zblk xs 141 0 [some (.inr (.inr (some pX))), some (.inl (s)), some (.inl (w))] [] (HH g) = some (some (.inl (aboutS G s w)), HH g) := by
  rw [e_X_about_0, pX_r_signals, Sg_ck, Signals_isTold xs hB.1 h.1, zci_ok, zb_zw, hs]
  unfold aboutS
  by_cases a : 0 ≤ s ∧ s < G pM 8
  · rw [zb_t a, if_pos (by decide), if_pos a, e_X_about_14, hw]
    by_cases b : 0 ≤ w ∧ w ≤ 3
    · rw [if_neg (by omega), if_pos b]
      have hh : w = 0 ∨ w = 1 ∨ w = 2 ∨ w = 3 := by omega
      rcases hh with rfl | rfl | rfl | rfl
      · rw [show ([44, 53, 62, 71] : List Nat)[((0 : Int) - 0).toNat]? = some 44 from rfl, zsel_some, e_X_about_44, pX_r_signals, Sg_ck, Signals_kindOf xs hB.1 hB.2.2.2.1 h.1 s hs, zci_ok, show kindS G s = _ from if_pos a, Int.add_zero]
      · rw [show ([44, 53, 62, 71] : List Nat)[((1 : Int) - 0).toNat]? = some 53 from rfl, zsel_some, e_X_about_53, pX_r_signals, Sg_ck, Signals_toneOf xs hB.1 h.1 s hs, zci_ok, zat_sig, if_pos a]
      · rw [show ([44, 53, 62, 71] : List Nat)[((2 : Int) - 0).toNat]? = some 62 from rfl, zsel_some, e_X_about_62, pX_r_signals, Sg_ck, Signals_secondsOf xs hB.1 hB.2.2.2.1 h.1 s hs, zci_ok, show secS G s = _ from if_pos a]
      · rw [show ([44, 53, 62, 71] : List Nat)[((3 : Int) - 0).toNat]? = some 71 from rfl, zsel_some, e_X_about_71, pX_r_signals, Sg_ck, Signals_oddOf xs hB.1 hB.2.2.2.1 h.1 s hs, zci_ok, show oddS G s = _ from if_pos a]
    · rw [if_pos (by omega), if_neg b, e_X_about_80]
  · rw [zb_f a, if_neg (by decide), if_neg a]
theorem M_speechOf (xs : List Int) {g : Nat → Int → Int} (hB : Bd g) {c s i : Int} (hc : 0 ≤ c ∧ c < g pM 5) (hs : 0 ≤ s ∧ s < g pM_speeches c) (hi : zw i = i) : ∃ g1, zx zblk xs 24 0 [some (.inr (.inr (some pM))), some (.inl (c)), some (.inl (s)), some (.inl (i))] [] (HH g) = some (some (.inl (spO g c s i)), HH g1) ∧ zFr scP g g1 := by
  obtain ⟨hQ, -, hC, -⟩ := id hB
  obtain ⟨-, ⟨hc0, hc1⟩, -⟩ := id hQ
  obtain ⟨l1, l2, l3, l4⟩ := lenS_rg hC hc hs
  have hn := hC c hc.1 hc.2
  rw [e_M_speechOf_0, M_in' xs _ hi rfl rfl, zci_ok, zb_zw]
  unfold spO
  by_cases a : 0 ≤ i ∧ i ≤ 5
  · refine ⟨g, ?_, zFr.rf⟩
    rw [zb_t a, if_neg (by decide), if_pos a, pM_r_rows, pM_a_rows xs _ (by omega) (by omega), hi, zw_id (a := g pM_rows (48 * c + 6 * s)) (by omega) (by omega)]
    by_cases b : i ≤ g pM_rows (48 * c + 6 * s)
    · rw [if_neg (by omega), if_pos b, pM_r_rows, pM_a_rows xs _ (by omega) (by omega), e_M_speechOf_47]
    · rw [if_pos (by omega), if_neg b, e_M_speechOf_46, e_M_speechOf_47]
  · obtain ⟨g1, q1, q2, q3⟩ := M_layPlain xs g c s 0 hB hc hs
    refine ⟨g1, ?_, q3⟩
    have hl := plS_len hC hc hs 0
    rw [zb_f a, if_pos rfl, if_neg a, e_M_speechOf_48, pM_ck, q1, zcv_ok, M_in' xs _ hi rfl rfl, zci_ok, zb_zw]
    by_cases b : 11 ≤ i ∧ i ≤ 20
    · rw [zb_t b, if_neg (by decide), if_pos b, pM_g_plainMany, q2.2, zw_id (a := i - 11) (by omega) (by omega), zw_id (by omega) (by omega)]
      by_cases d : i - 11 < (plS g 0 c s).length
      · obtain ⟨k, hk⟩ : ∃ k : Nat, i - 11 = k := ⟨(i - 11).toNat, by omega⟩
        rw [if_neg (by omega), pM_r_plain, pM_a_plain xs _ (by omega) (by omega), e_M_speechOf_93, hk, zPre_get q2.1 (by omega), zat_in (by omega)]
      · rw [if_pos (by omega), e_M_speechOf_92, e_M_speechOf_93, zat_out (by omega)]
    · rw [zb_f b, if_pos rfl, if_neg b, e_M_speechOf_94, hi, show zw 10 = 10 from rfl]
      by_cases d : i = 10
      · rw [if_neg (by omega), if_pos d, pM_g_plainMany, q2.2, e_M_speechOf_124]
      · rw [if_pos d, if_neg d, e_M_speechOf_107, hi, show zw 30 = 30 from rfl]
        by_cases e : i = 30
        · have hee := scP_es q3
          obtain ⟨e1, e2, e3, e4, e5, e6, e7, e8, e9, e10, e11, e12, e13, e14, e15⟩ := es_all hee
          rw [if_neg (by omega), if_pos e, pM_ck, M_longOf xs g1 c s (es_Bd hee hB) (by rw [e10]; exact hc) (by rw [e2]; exact hs), zci_ok, e_M_speechOf_124, es_longS hee]
        · rw [if_pos e, if_neg e, e_M_speechOf_122, e_M_speechOf_124]
theorem M_speech (xs : List Int) {g : Nat → Int → Int} (hB : Bd g) {c s i : Int} (hc : zw c = c) (hs : zw s = s) (hi : zw i = i) : ∃ g1, zx zblk xs 25 0 [some (.inr (.inr (some pM))), some (.inl (c)), some (.inl (s)), some (.inl (i))] [] (HH g) = some (some (.inl (spS g c s i)), HH g1) ∧ zFr scM g g1 := by
  obtain ⟨hQ, -, hC, -⟩ := id hB
  obtain ⟨-, ⟨hc0, hc1⟩, -⟩ := id hQ
  have e26 : zx zblk xs 25 26 [] [] (HH g) = some (some (.inl (-101)), HH g) := e_M_speech_26 xs _
  rw [e_M_speech_0, pM_ck, M_isCode' xs hB hc, zci_ok, zb_zw]
  unfold spS
  by_cases a : 0 ≤ c ∧ c < g pM 5
  · have hn := hC c a.1 a.2
    rw [zb_t a, if_neg (by decide), if_pos a, pM_r_speeches, pM_a_speeches xs _ (by omega) (by omega), zw_id (a := g pM_speeches c - 1) (by omega) (by omega), M_in' xs _ hs rfl (zwl_id (by omega) (by omega)), zci_ok, zb_zw]
    by_cases b : 0 ≤ s ∧ s < g pM_speeches c
    · obtain ⟨g1, q1, q2⟩ := M_speechOf xs hB a b hi
      refine ⟨g1, ?_, q2.mono (fun _ _ => scP_M)⟩
      rw [zb_t (by omega), if_pos (by decide), if_pos b, e_M_speech_29, pM_ck, q1, zci_ok]
    · exact ⟨g, by rw [zb_f (by omega), if_neg (by decide), if_neg b, e26], zFr.rf⟩
  · exact ⟨g, by rw [zb_f a, if_pos rfl, if_neg a, e26], zFr.rf⟩
theorem X_speechIn (xs : List Int) {G g : Nat → Int → Int} (hB : Bd G) (h : Rel G g) {c s : Nat} {i : Int} (hc : (c : Int) < G pM 5) (hs : s < nS G c) (hi : zw i = i) : zx zblk xs 144 28 [some (.inr (.inr (some pX))), none, some (.inl ((s : Int))), some (.inl (i)), some (.inr (.inr (some (PC c))))] [] (HH g) = some (some (.inl (spO G c s i)), HH g) := by
  obtain ⟨hQ, -, hC, -⟩ := id hB
  obtain ⟨-, ⟨hc0, hc1⟩, -⟩ := id hQ
  have hc4 : c < 4 := by omega
  obtain ⟨n1, n2, n3⟩ := nS_rg hB (c := c) (by omega)
  obtain ⟨r1, r2, r3, r4⟩ := rowL_ok hB (c := c) (s := s) (by omega) (by omega)
  obtain ⟨l1, l2, l3, l4⟩ := lenS_rg hC (c := c) (s := s) (by omega) (by omega)
  have hl := plS_len hC (c := c) (s := s) (by omega) (by omega) 0
  have hcd := h.cd hc4 hc
  have hsp := h.sp hc4 hc hs
  have hpl := hcd.2.2.2 s hs
  have hro := Rw_sp hc4 (s := s) (by omega)
  have hrp := Rw_pl hc4 (s := s) (by omega)
  have hco := zCo_PC hc4
  rw [e_X_speech_28, hi]
  unfold spO
  by_cases a0 : i = 0
  · rw [if_neg (by omega), Co_ck hco, Code_spoken xs hco s (by omega), zcr_ok, Rw_ck hro, Row_size xs hro hsp, zci_ok, if_pos (by omega), if_pos (by omega), a0, Int.add_zero, l3, r1]
  · rw [if_pos a0, e_X_speech_42, hi, show zw 1 = 1 from rfl, show zw 5 = 5 from rfl]
    by_cases a : 0 ≤ i ∧ i ≤ 5
    · rw [if_neg (by omega), if_neg (by omega), Co_ck hco, Code_spoken xs hco s (by omega), zcr_ok, Rw_ck hro, Row_at xs hro hsp r2 _ (zw_id (by omega) (by omega)), zci_ok, if_pos a]
      unfold rowL
      by_cases b : i ≤ G pM_rows (48 * c + 6 * s)
      · rw [if_pos b, zat_Li (by omega)]
        unfold rowS
        rw [show 48 * (c : Int) + 6 * s + 1 + ((i - 1).toNat : Int) = 48 * c + 6 * s + i by omega]
      · rw [if_neg b, zat_Lo (by omega)]
    · have e65 : zx zblk xs 144 65 [some (.inr (.inr (some pX))), none, some (.inl ((s : Int))), some (.inl (i)), some (.inr (.inr (some (PC c))))] [] (HH g) = some (some (.inl (if 11 ≤ i ∧ i ≤ 20 then zat (plS G 0 c s) (i - 11) else if i = 10 then (plS G 0 c s).length else if i = 30 then longS G c s else -102)), HH g) := by
        rw [e_X_speech_65, hi, show zw 10 = 10 from rfl]
        by_cases b : i = 10
        · rw [if_neg (by omega), Co_ck hco, Code_plain xs hco s (by omega), zcr_ok, Rw_ck hrp, Row_size xs hrp hpl.1, zci_ok, if_neg (by omega), if_pos b]
        · rw [if_pos b, e_X_speech_81, hi, show zw 10 = 10 from rfl, show zw 20 = 20 from rfl]
          have e107 : ¬ (11 ≤ i ∧ i ≤ 20) → zx zblk xs 144 107 [some (.inr (.inr (some pX))), none, some (.inl ((s : Int))), some (.inl (i)), some (.inr (.inr (some (PC c))))] [] (HH g) = some (some (.inl (if i = 30 then longS G c s else -102)), HH g) := by
            intro _
            rw [e_X_speech_107, hi, show zw 30 = 30 from rfl]
            by_cases d : i = 30
            · rw [if_neg (by omega), pX_ck, X_longOf xs hB h c s hc hs, zci_ok, e_X_speech_125, if_pos d]
            · rw [if_pos d, e_X_speech_123, e_X_speech_125, if_neg d]
          by_cases d : 11 ≤ i ∧ i ≤ 20
          · rw [if_neg (by omega), if_neg (by omega), Co_ck hco, Code_plain xs hco s (by omega), zcr_ok, Rw_ck hrp, Row_at xs hrp hpl.1 (by omega) _ (zw_id (by omega) (by omega)), zci_ok, if_pos d]
          · rw [if_neg d, if_neg b, ← e107 d]
            by_cases e : i ≤ 10
            · rw [if_pos e]
            · rw [if_neg e, if_pos (by omega)]
      rw [if_neg a, ← e65]
      by_cases b : i < 1
      · rw [if_pos b]
      · rw [if_neg b, if_pos (by omega)]
theorem X_speech (xs : List Int) {G g : Nat → Int → Int} (hB : Bd G) (h : Rel G g) {c s i : Int} (hc : zw c = c) (hs : zw s = s) (hi : zw i = i) : zx zblk xs 144 0 [some (.inr (.inr (some pX))), some (.inl (c)), some (.inl (s)), some (.inl (i))] [] (HH g) = some (some (.inl (spS G c s i)), HH g) := by
  obtain ⟨hQ, -, hC, -⟩ := id hB
  obtain ⟨-, ⟨hc0, hc1⟩, -⟩ := id hQ
  have e25 : zx zblk xs 144 25 [] [] (HH g) = some (some (.inl (-101)), HH g) := e_X_speech_25 xs _
  rw [e_X_speech_0, pX_ck]
  unfold spS
  by_cases a : 0 ≤ c ∧ c < G pM 5
  · obtain ⟨k, rfl⟩ : ∃ k : Nat, c = k := ⟨c.toNat, by omega⟩
    have hk4 : k < 4 := by omega
    obtain ⟨n1, n2, n3⟩ := nS_rg hB (c := k) (by omega)
    have hcd := h.cd hk4 a.2
    rw [X_codeAt_in xs hB h k a.2, zcr_ok, zif_some, if_pos a, hs, Co_ck (zCo_PC hk4), Code_size xs (zCo_PC hk4), zci_ok, hcd.2.1, zw_id (a := (nS G k : Int)) (by omega) (by omega)]
    by_cases b : 0 ≤ s ∧ s < G pM_speeches k
    · obtain ⟨j, rfl⟩ : ∃ j : Nat, s = j := ⟨s.toNat, by omega⟩
      rw [if_neg (by omega), if_pos (by omega), if_pos b, X_speechIn xs hB h a.2 (by omega) hi]
    · rw [if_neg b]
      by_cases b0 : s < 0
      · rw [if_pos b0, e25]
      · rw [if_neg b0, if_neg (by omega), e25]
  · rw [X_codeAt_out xs hB h c hc a, zcr_ok, zif, e25, if_neg a]
