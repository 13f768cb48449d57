/-! ===== twice: the class ===== -/
theorem Rd_ck (g : Nat → Int → Int) (o : Option zR) : zck (HH g) (some pX_readings) 2 o = o := HH_ck (p := pX_readings) rfl (by decide) rfl o
theorem Rd_g (g : Nat → Int → Int) (f : Int → Option zR) : zgi (HH g) (some pX_readings) 2 1 f = f (g pX_readings 1) := HH_gi (p := pX_readings) (j := 1) rfl (by decide) rfl rfl f
theorem Rd_p (g : Nat → Int → Int) (v : Int) (f : zH → Option zR) : zpf (HH g) (some pX_readings) 2 1 (.inl v) f = f (HH (up g pX_readings 1 v)) := HH_pf (p := pX_readings) (j := 1) rfl (by decide) rfl rfl f
theorem Rd_r (g : Nat → Int → Int) (f : Option Nat → Option zR) : zgr (HH g) (some pX_readings) 2 0 f = f (some 99) := HH_gr (p := pX_readings) (j := 0) rfl (by decide) rfl rfl f
/-- the class's tables say what is found -/
def RpX (g : Nat → Int → Int) (s : zFd) : Prop := zRow g 99 (zLi (fun t => s.1 (t / 10) (t % 10)) 80) ∧ g pX_readings 1 = s.2
def scD (q : Nat) (_ : Int) : Prop := q = pX_readings ∨ q = 99 ∨ q = 100
theorem scD_X {q : Nat} {j : Int} (h : scD q j) : scX q j := by
  simp only [scD, scX, pX, pX_signals, pX_weights, pX_codes, pX_page, pX_notes, pX_keptWeights, pX_keptNotes, pX_said, pX_heard, pX_pool, pX_struck, pX_readings, pM, pM_page, pM_readRows, pM_speeches, pM_rows, pM_signalRows, pM_weights, pM_plain, pM_plains, pM_ahead, pM_heap, pM_noteRows, pM_ways, pM_before, pM_keptWeights, pM_keptRows] at h ⊢
  omega
theorem zCd_D {g g1 : Nat → Int → Int} {P n : Nat} {L : Nat → List Int} (h : zCd g P n L) (hP : 101 ≤ P) (hf : zFr scD g g1) : zCd g1 P n L := zCd_fr h (fun q h1 h2 => hf.at (fun j => by simp only [scD, pX, pX_signals, pX_weights, pX_codes, pX_page, pX_notes, pX_keptWeights, pX_keptNotes, pX_said, pX_heard, pX_pool, pX_struck, pX_readings, pM, pM_page, pM_readRows, pM_speeches, pM_rows, pM_signalRows, pM_weights, pM_plain, pM_plains, pM_ahead, pM_heap, pM_noteRows, pM_ways, pM_before, pM_keptWeights, pM_keptRows]; omega))
theorem Rd_comeTo (xs : List Int) {g : Nat → Int → Int} {s : zFd} (hs : RpX g s) {i f : Nat} (hi : i < 8) (hf : f < 10) {v : Int} (hv : 0 ≤ v ∧ v ≤ 2000000) (h2 : 0 ≤ s.1 i f ∧ s.1 i f ≤ 1000000) : ∃ g1, zx zblk xs 17 0 [some (.inr (.inr (some pX_readings))), some (.inl ((i : Int))), some (.inl ((f : Int))), some (.inl (v))] [] (HH g) = some (some (.inl (zb (v < s.1 i f))), HH g1) ∧ RpX g1 (rlx s i f v) ∧ zFr scD g g1 := by
  have hat : zat (zLi (fun t => s.1 (t / 10) (t % 10)) 80) (((10 * i + f : Nat)) : Int) = s.1 i f := by
    rw [zat_Li (by omega)]
    show s.1 ((10 * i + f) / 10) ((10 * i + f) % 10) = _
    rw [show (10 * i + f) / 10 = i by omega, show (10 * i + f) % 10 = f by omega]
  rw [e_Readings_comeTo_0, Rd_r, Rw_ck Rw99, show (i : Int) * 10 + f = ((10 * i + f : Nat) : Int) by omega, Row_at xs Rw99 hs.1 (by rw [zLi_len]; omega) _ (zw_id (by omega) (by omega)), zci_ok, hat, zw_id (by omega) (by omega), zw_id (by omega) (by omega)]
  by_cases c : v < s.1 i f
  · obtain ⟨p1, p2⟩ := Row_set xs Rw99 hs.1 (by rw [zLi_len]; omega) (10 * i + f) v (by rw [zLi_len]; omega)
    refine ⟨up g (99 + 1) ((10 * i + f : Nat) : Int) v, ?_, ⟨?_, by rw [up_q (by decide)]; exact hs.2⟩, zFr.rf.up (Or.inr (Or.inr rfl))⟩
    · rw [if_pos c, e_Readings_comeTo_23, Rd_r, Rw_ck Rw99, p1, zcv_ok, if_pos (Or.inr rfl), zb_t c]
    · rw [zLi_set] at p2
      rw [zLi_cg (f' := fun t => if t = 10 * i + f then v else s.1 (t / 10) (t % 10)) (fun t ht => by
        show (if t / 10 = i ∧ t % 10 = f ∧ v < s.1 i f then v else s.1 (t / 10) (t % 10)) = _
        by_cases e : t = 10 * i + f
        · rw [if_pos e, if_pos ⟨by omega, by omega, c⟩]
        · rw [if_neg e, if_neg (fun z => e (by omega))])]
      exact p2
  · have hsame : rlx s i f v = s := by
      have := rlx_same (s := s) (j := i) (f := f) (v := v) (zb_f c)
      exact Prod.ext this rfl
    refine ⟨g, ?_, by rw [hsame]; exact hs, zFr.rf⟩
    rw [if_neg c, if_pos (Or.inl rfl), zb_f c]
theorem Rd_meet (xs : List Int) {g : Nat → Int → Int} {P n : Nat} {L : Nat → List Int} (h : zCd g P n L) {s : zFd} (hs : RpX g s) (hok : okF L n s) {i f k : Nat} (hi : i < n) (hk : k < n) (hf : f < (L i).length) {v : Int} (hv : 0 ≤ v ∧ v ≤ 1000000) : ∃ g1, zx zblk xs 16 0 [some (.inr (.inr (some pX_readings))), some (.inr (.inr (some P))), some (.inl ((i : Int))), some (.inl ((f : Int))), some (.inl ((k : Int))), some (.inl (v))] [] (HH g) = some (some (.inl (mtF L s i f k v).2), HH g1) ∧ RpX g1 (mtF L s i f k v).1 ∧ zFr scD g g1 := by
  obtain ⟨h1, hn, hn8, hr⟩ := id h
  obtain ⟨ri, li, ri7⟩ := hr i hi
  obtain ⟨rk, lk, rk7⟩ := hr k hk
  have wi := h.rw hi
  have wk := h.rw hk
  have hdl : ((L i).drop f).length = (L i).length - f := List.length_drop
  have X0 : zx zblk xs 16 0 [some (.inr (.inr (some pX_readings))), some (.inr (.inr (some P))), some (.inl ((i : Int))), some (.inl ((f : Int))), some (.inl ((k : Int))), some (.inl (v))] [] (HH g) = if (L k).length ≠ 0 then zx zblk xs 16 42 [some (.inr (.inr (some pX_readings))), none, some (.inl ((i : Int))), some (.inl ((f : Int))), some (.inl ((k : Int))), some (.inl (v)), some (.inr (.inr (some (P + 21 + 4 + 2 * i)))), some (.inr (.inr (some (P + 21 + 4 + 2 * k)))), some (.inl ((((L i).length - f : Nat) : Int))), some (.inl (0))] [] (HH g) else some (some (.inl 0), HH g) := by
    rw [e_Readings_meet_0, Co_ck h1, Code_plain xs h1 i (by omega), zcr_ok, Co_ck h1, Code_plain xs h1 k (by omega), zcr_ok, Rw_ck wi, Row_size xs wi ri, zci_ok, zw_id (by omega) (by omega), if_neg (by omega), Rw_ck wk, Row_size xs wk rk, zci_ok, zw_id (by omega) (by omega)]
    by_cases c : (L k).length = 0
    · rw [if_neg (by omega), e_Readings_meet_37, if_pos (Or.inl rfl), if_neg (fun z => z c)]
    · rw [if_pos (by omega), e_Readings_meet_39, if_pos c, show ((L i).length : Int) - f = (((L i).length - f : Nat) : Int) by omega]
  rw [X0]
  by_cases c : (L k).length = 0
  · have hm : mtF L s i f k v = (s, 0) := by
      unfold mtF
      exact @if_neg _ (zdc _) (fun z => by omega) _ _ _
    refine ⟨g, ?_, by rw [hm]; exact hs, zFr.rf⟩
    rw [if_neg (fun z => z c), hm]
  · rw [if_pos c]
    have X86 : agr L i f k → ∃ g1, zx zblk xs 16 86 [some (.inr (.inr (some pX_readings))), none, some (.inl ((i : Int))), some (.inl ((f : Int))), some (.inl ((k : Int))), some (.inl (v)), none, some (.inr (.inr (some (P + 21 + 4 + 2 * k)))), some (.inl ((((L i).length - f : Nat) : Int)))] [] (HH g) = some (some (.inl (mtF L s i f k v).2), HH g1) ∧ RpX g1 (mtF L s i f k v).1 ∧ zFr scD g g1 := fun ha => by
      unfold mtF
      simp only [@if_pos _ (zdc _) (⟨by omega, ha⟩ : 0 < (L k).length ∧ agr L i f k)]
      rw [e_Readings_meet_86, Rw_ck wk, Row_size xs wk rk, zci_ok, zw_id (by omega) (by omega), zw_id (by omega) (by omega)]
      by_cases d : (L k).length = (L i).length - f
      · simp only [if_pos d]
        refine ⟨up g pX_readings 1 (if v < s.2 then v else s.2), ?_, ⟨zRow_fr hs.1 (up_p _ _ _ (by decide)) (up_p _ _ _ (by decide)), up_same _ _ _ _⟩, zFr.rf.up (Or.inl rfl)⟩
        have h2 := hok.2
        rw [if_neg (by omega), Rd_g, hs.2, zw_id (by omega) (by omega), zw_id (by omega) (by omega), Rd_p, if_pos (Or.inl trivial)]
      · simp only [if_neg d]
        rw [if_pos (by omega), e_Readings_meet_111, Rw_ck wk, Row_size xs wk rk, zci_ok, zw_id (by omega) (by omega), zw_id (by omega) (by omega)]
        by_cases e : (L k).length < (L i).length - f
        · simp only [if_pos e]
          obtain ⟨g1, q1, q2, q3⟩ := Rd_comeTo xs hs (i := i) (f := f + (L k).length) (by omega) (by omega) (v := v) (by omega) ⟨(hok.1 _ _).1, (hok.1 _ _).2.1⟩
          refine ⟨g1, ?_, q2, q3⟩
          rw [if_neg (by omega), Rw_ck wk, Row_size xs wk rk, zci_ok, Rd_ck, show (f : Int) + (L k).length = ((f + (L k).length : Nat) : Int) by omega, q1, zci_ok, if_pos (zb_01 _)]
        · simp only [if_neg e]
          obtain ⟨g1, q1, q2, q3⟩ := Rd_comeTo xs hs (i := k) (f := (L i).length - f) (by omega) (by omega) (v := v + (L k).length - ((L i).length - f : Nat)) (by omega) ⟨(hok.1 _ _).1, (hok.1 _ _).2.1⟩
          refine ⟨g1, ?_, q2, q3⟩
          rw [if_pos (by omega), e_Readings_meet_136, Rw_ck wk, Row_size xs wk rk, zci_ok, Rd_ck, q1, zci_ok, if_pos (zb_01 _)]
    have loop : ∀ (r x : Nat), x + r = min ((L i).length - f) (L k).length → ((L i).drop f).take x = (L k).take x → ∃ g1, zx zblk xs 16 42 [some (.inr (.inr (some pX_readings))), none, some (.inl ((i : Int))), some (.inl ((f : Int))), some (.inl ((k : Int))), some (.inl (v)), some (.inr (.inr (some (P + 21 + 4 + 2 * i)))), some (.inr (.inr (some (P + 21 + 4 + 2 * k)))), some (.inl ((((L i).length - f : Nat) : Int))), some (.inl ((x : Int)))] [] (HH g) = some (some (.inl (mtF L s i f k v).2), HH g1) ∧ RpX g1 (mtF L s i f k v).1 ∧ zFr scD g g1 := by
      intro r
      induction r with
      | zero =>
        intro x hx ht
        have hxm : x = min ((L i).length - f) (L k).length := by omega
        obtain ⟨g1, q1, q2, q3⟩ := X86 (agr_iff.mpr (hxm ▸ ht))
        refine ⟨g1, ?_, q2, q3⟩
        rw [e_Readings_meet_42, zw_id (by omega) (by omega), zw_id (by omega) (by omega)]
        by_cases d : (L i).length - f ≤ x
        · rw [if_pos (by omega)]
          exact q1
        · rw [if_neg (by omega), Rw_ck wk, Row_size xs wk rk, zci_ok, zw_id (by omega) (by omega), if_pos (by omega)]
          exact q1
      | succ r ih =>
        intro x hx ht
        have v1 := isR7_get ri7 (k := f + x) (by omega)
        have v2 := isR7_get rk7 (k := x) (by omega)
        have hd : ((L i).drop f)[x]'(by omega) = (L i)[f + x]'(by omega) := List.getElem_drop
        have hts := take_succ_eq (A := (L i).drop f) (B := L k) (k := x) (by omega) (by omega)
        rw [e_Readings_meet_42, zw_id (by omega) (by omega), zw_id (by omega) (by omega), if_neg (by omega), Rw_ck wk, Row_size xs wk rk, zci_ok, zw_id (by omega) (by omega), if_neg (by omega), Rw_ck wi, show (f : Int) + x = ((f + x : Nat) : Int) by omega, Row_at xs wi ri li _ (zw_id (by omega) (by omega)), zci_ok, zat_in (show f + x < (L i).length by omega), Rw_ck wk, Row_at xs wk rk lk x (zw_id (by omega) (by omega)), zci_ok, zat_in (show x < (L k).length by omega), zw_id (by omega) (by omega), zw_id (by omega) (by omega)]
        by_cases d : (L i)[f + x]'(by omega) = (L k)[x]'(by omega)
        · obtain ⟨g1, q1, q2, q3⟩ := ih (x + 1) (by omega) (hts.mpr ⟨ht, by rw [hd]; exact d⟩)
          refine ⟨g1, ?_, q2, q3⟩
          rw [if_pos d, e_Readings_meet_80, ← Int.natCast_succ]
          exact q1
        · have hna : ¬ agr L i f k := fun z => by
            have h3 := agr_iff.mp z
            have h4 := congrArg (fun l : List Int => l.take (x + 1)) h3
            simp only [List.take_take] at h4
            rw [Nat.min_eq_left (by omega)] at h4
            have := (hts.mp h4).2
            rw [hd] at this
            exact d this
          have hm : mtF L s i f k v = (s, 0) := by
            unfold mtF
            exact @if_neg _ (zdc _) (fun z => hna z.2) _ _ _
          refine ⟨g, ?_, by rw [hm]; exact hs, zFr.rf⟩
          rw [if_neg d, if_pos (Or.inl rfl), hm]
    obtain ⟨g1, q1, q2, q3⟩ := loop (min ((L i).length - f) (L k).length) 0 (by omega) rfl
    rw [z0N] at q1
    exact ⟨g1, q1, q2, q3⟩
theorem mtF_self {L : Nat → List Int} {s : zFd} {j f k : Nat} : (mtF L s j f k (s.1 j f)).1.1 j f = s.1 j f := by
  unfold mtF
  by_cases c : 0 < (L k).length ∧ agr L j f k
  · simp only [@if_pos _ (zdc _) c]
    by_cases d : (L k).length = (L j).length - f
    · simp only [if_pos d]
    · simp only [if_neg d]
      by_cases g : (L k).length < (L j).length - f
      · simp only [if_pos g]
        show (if j = j ∧ f = f + (L k).length ∧ _ then _ else s.1 j f) = _
        rw [if_neg (fun z => by omega)]
      · simp only [if_neg g]
        show (if j = k ∧ f = (L j).length - f ∧ s.1 j f + (L k).length - ((L j).length - f : Nat) < s.1 k ((L j).length - f) then _ else s.1 j f) = _
        rw [if_neg]
        rintro ⟨z1, z2, z3⟩
        rw [← z2, ← z1] at z3
        rw [← z1] at d g
        omega
  · simp only [@if_neg _ (zdc _) c]
theorem swK_self {L : Nat → List Int} {j f : Nat} {s : zFd × Int} : ∀ k, (swK L j f k s).1.1 j f = s.1.1 j f
  | 0 => rfl
  | k + 1 => by
    rw [swK]
    by_cases c : (swK L j f k s).1.1 j f < 1000000
    · rw [if_pos c]
      exact mtF_self.trans (swK_self k)
    · rw [if_neg c]
      exact swK_self k
theorem Rd_swK (xs : List Int) {L : Nat → List Int} {P n : Nat} (hP : 101 ≤ P) {t : Nat} (ht : t < 80) {s : zFd × Int} (hok : okF L n s.1) : ∀ (r k : Nat) (gk : Nat → Int → Int), k + r = n → zCd gk P n L → RpX gk (swK L (t / 10) (t % 10) k s).1 → ∃ g1, zx zblk xs 15 23 [some (.inr (.inr (some pX_readings))), some (.inr (.inr (some P))), some (.inl ((swK L (t / 10) (t % 10) k s).2)), some (.inl ((t : Int))), some (.inl (s.1.1 (t / 10) (t % 10))), some (.inl ((k : Int)))] [] (HH gk) = zx zblk xs 15 67 [some (.inr (.inr (some pX_readings))), some (.inr (.inr (some P))), some (.inl ((swK L (t / 10) (t % 10) n s).2)), some (.inl ((t : Int)))] [] (HH g1) ∧ RpX g1 (swK L (t / 10) (t % 10) n s).1 ∧ zFr scD gk g1 := by
  intro r
  induction r with
  | zero =>
    intro k gk hk hc hs
    have : k = n := by omega
    subst this
    refine ⟨gk, ?_, hs, zFr.rf⟩
    rw [e_Readings_goOn_23, Co_ck hc.1, Code_size xs hc.1, zci_ok, hc.2.1, if_pos (Int.le_refl _)]
  | succ r ih =>
    intro k gk hk hc hs
    have hn8 := hc.2.2.1
    obtain ⟨i1, i2, i3, i4⟩ := swK_ok hok (j := t / 10) (f := t % 10) k (by omega)
    have hself := swK_self (L := L) (j := t / 10) (f := t % 10) (s := s) k
    have hv := hok.1 (t / 10) (t % 10)
    have hst : zx zblk xs 15 23 [some (.inr (.inr (some pX_readings))), some (.inr (.inr (some P))), some (.inl ((swK L (t / 10) (t % 10) k s).2)), some (.inl ((t : Int))), some (.inl (s.1.1 (t / 10) (t % 10))), some (.inl ((k : Int)))] [] (HH gk) = if 1000000 ≤ s.1.1 (t / 10) (t % 10) then zx zblk xs 15 67 [some (.inr (.inr (some pX_readings))), some (.inr (.inr (some P))), some (.inl ((swK L (t / 10) (t % 10) k s).2)), some (.inl ((t : Int)))] [] (HH gk) else zci (zx zblk xs 16 0 [some (.inr (.inr (some pX_readings))), some (.inr (.inr (some P))), some (.inl (((t / 10 : Nat) : Int))), some (.inl (((t % 10 : Nat) : Int))), some (.inl ((k : Int))), some (.inl ((s.1.1 (t / 10) (t % 10))))] [] (HH gk)) fun r4 h3 => (if zw r4 = 0 then zx zblk xs 15 61 [some (.inr (.inr (some pX_readings))), some (.inr (.inr (some P))), some (.inl ((swK L (t / 10) (t % 10) k s).2)), some (.inl ((t : Int))), some (.inl (s.1.1 (t / 10) (t % 10))), some (.inl ((k : Int)))] [] h3 else zx zblk xs 15 61 [some (.inr (.inr (some pX_readings))), some (.inr (.inr (some P))), some (.inl (1)), some (.inl ((t : Int))), some (.inl (s.1.1 (t / 10) (t % 10))), some (.inl ((k : Int)))] [] h3) := by
      have hdv : (t : Int).tdiv 10 = ((t / 10 : Nat) : Int) := rfl
      have hmd : (t : Int).tmod 10 = ((t % 10 : Nat) : Int) := rfl
      rw [e_Readings_goOn_23, Co_ck hc.1, Code_size xs hc.1, zci_ok, hc.2.1, if_neg (by rw [zw_id (by omega) (by omega), zw_id (by omega) (by omega)]; omega), show zw 1000000 = 1000000 from rfl, zw_id (a := s.1.1 (t / 10) (t % 10)) (by omega) (by omega), show zw 10 = 10 from rfl]
      by_cases q : 1000000 ≤ s.1.1 (t / 10) (t % 10)
      · rw [if_pos q, if_pos q]
      rw [if_neg q, if_neg q, if_neg (by decide), if_neg (by decide), Rd_ck, zw_id (a := (t : Int)) (by omega) (by omega), hdv, hmd]
    rw [hst]
    by_cases c : s.1.1 (t / 10) (t % 10) < 1000000
    · have hrch := hv.2.2 c
      obtain ⟨t', ht'⟩ := id hrch
      obtain ⟨r1, r2, r3, r4⟩ := Rch_rg ht'
      have hsw : swK L (t / 10) (t % 10) (k + 1) s = ((mtF L (swK L (t / 10) (t % 10) k s).1 (t / 10) (t % 10) k (s.1.1 (t / 10) (t % 10))).1, if (mtF L (swK L (t / 10) (t % 10) k s).1 (t / 10) (t % 10) k (s.1.1 (t / 10) (t % 10))).2 = 0 then (swK L (t / 10) (t % 10) k s).2 else 1) := by rw [swK, hself, if_pos c]
      obtain ⟨m1, m2, m3, m4, m5⟩ := mtF_ok i1.1 (j := t / 10) (f := t % 10) (k := k) (by omega) hrch
      obtain ⟨g2, p1, p2, p3⟩ := Rd_meet xs hc hs i1.1 r1 (k := k) (by omega) r3 (v := s.1.1 (t / 10) (t % 10)) (by omega)
      obtain ⟨g1, q1, q2, q3⟩ := ih (k + 1) g2 (by omega) (zCd_D hc hP p3) (by rw [hsw]; exact p2)
      refine ⟨g1, ?_, q2, p3.tr q3⟩
      rw [hsw] at q1
      rw [if_neg (by omega), p1, zci_ok]
      rcases m2 with z | z
      · rw [z] at q1 ⊢
        rw [if_pos rfl] at q1
        rw [if_pos (show zw 0 = 0 from rfl), e_Readings_goOn_61, ← Int.natCast_succ]
        exact q1
      · rw [z] at q1 ⊢
        rw [if_neg (by decide)] at q1
        rw [if_neg (by decide), e_Readings_goOn_61, ← Int.natCast_succ]
        exact q1
    · have hstop := swK_stop (L := L) (j := t / 10) (f := t % 10) (s := s) (k := k) (r := r + 1) (by rw [hself]; exact c)
      rw [hk] at hstop
      refine ⟨gk, ?_, by rw [hstop]; exact hs, zFr.rf⟩
      rw [if_pos (by omega), hstop]

