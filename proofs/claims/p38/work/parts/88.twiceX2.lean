/-! ===== twice: the class's rounds ===== -/
theorem Rd_goOn (xs : List Int) {L : Nat → List Int} {P n : Nat} (hP : 101 ≤ P) {g : Nat → Int → Int} (hc : zCd g P n L) {s : zFd} (hok : okF L n s) (hs : RpX g s) : ∃ g1, zx zblk xs 15 0 [some (.inr (.inr (some pX_readings))), some (.inr (.inr (some P)))] [] (HH g) = some (some (.inl (swT L n 10 80 (s, 0)).2), HH g1) ∧ RpX g1 (swT L n 10 80 (s, 0)).1 ∧ zFr scD g g1 := by
  have loop : ∀ (r t : Nat) (gk : Nat → Int → Int), t + r = 80 → zCd gk P n L → RpX gk (swT L n 10 t (s, 0)).1 → ∃ g1, zx zblk xs 15 4 [some (.inr (.inr (some pX_readings))), some (.inr (.inr (some P))), some (.inl ((swT L n 10 t (s, 0)).2)), some (.inl ((t : Int)))] [] (HH gk) = some (some (.inl (swT L n 10 80 (s, 0)).2), HH g1) ∧ RpX g1 (swT L n 10 80 (s, 0)).1 ∧ zFr scD gk g1 := by
    intro r
    induction r with
    | zero =>
      intro t gk ht hck hsk
      have : t = 80 := by omega
      subst this
      obtain ⟨i1, i2, -, -⟩ := swT_ok (L := L) (n := n) (m := 10) (s := (s, 0)) (by omega) hok 80
      obtain ⟨fl, -⟩ := i2 (Or.inl rfl)
      refine ⟨gk, ?_, hsk, zFr.rf⟩
      rw [e_Readings_goOn_4, if_pos (by decide), e_Readings_goOn_73, if_pos fl]
    | succ r ih =>
      intro t gk ht hck hsk
      obtain ⟨i1, i2, -, -⟩ := swT_ok (L := L) (n := n) (m := 10) (s := (s, 0)) (by omega) hok t
      obtain ⟨g2, p1, p2, p3⟩ := Rd_swK xs hP (show t < 80 by omega) (s := swT L n 10 t (s, 0)) i1.1 n 0 gk (by omega) hck hsk
      obtain ⟨g1, q1, q2, q3⟩ := ih (t + 1) g2 (by omega) (zCd_D hck hP p3) p2
      refine ⟨g1, ?_, q2, p3.tr q3⟩
      rw [z0N] at p1
      have hat : zat (zLi (fun u => (swT L n 10 t (s, 0)).1.1 (u / 10) (u % 10)) 80) (t : Int) = (swT L n 10 t (s, 0)).1.1 (t / 10) (t % 10) := by
        rw [zat_Li (by omega)]
        rfl
      rw [e_Readings_goOn_4, if_neg (by rw [show zw 80 = 80 from rfl, zw_id (by omega) (by omega)]; omega), Rd_r, Rw_ck Rw99, Row_at xs Rw99 hsk.1 (by rw [zLi_len]; omega) t (zw_id (by omega) (by omega)), zci_ok, hat]
      refine Eq.trans p1 ?_
      rw [e_Readings_goOn_67, ← Int.natCast_succ]
      exact q1
  obtain ⟨g1, q1, q2, q3⟩ := loop 80 0 g (by omega) hc hs
  rw [z0N] at q1
  exact ⟨g1, by rw [e_Readings_goOn_0]; exact q1, q2, q3⟩
theorem agr_sym {L : Nat → List Int} {i j : Nat} : agr L i 0 j ↔ agr L j 0 i := by
  unfold agr
  rw [List.drop_zero, List.drop_zero, Nat.sub_zero, Nat.sub_zero]
  exact ⟨Eq.symm, Eq.symm⟩
/-- a pair against each other is both of its starts -/
theorem mt_start {L : Nat → List Int} {n : Nat} {s : zFd} (h : okF L n s) {i j : Nat} (hi : i < n) (hj : j < n) (hij : i ≠ j) (h0 : 0 < (L i).length) : onF L n s (mtF L s i 0 j (L i).length).1 ∧ (stt L n i j → ((L i).length < (L j).length → (mtF L s i 0 j (L i).length).1.1 j (L i).length ≤ (L j).length) ∧ ((L i).length = (L j).length → (mtF L s i 0 j (L i).length).1.2 ≤ (L j).length)) ∧ (stt L n j i → ((L j).length < (L i).length → (mtF L s i 0 j (L i).length).1.1 i (L j).length ≤ (L i).length) ∧ ((L j).length = (L i).length → (mtF L s i 0 j (L i).length).1.2 ≤ (L i).length)) := by
  by_cases c : 0 < (L j).length ∧ agr L i 0 j
  · have hm : (mtF L s i 0 j (L i).length).1 = if (L j).length = (L i).length then (s.1, if ((L i).length : Int) < s.2 then ((L i).length : Int) else s.2) else if (L j).length < (L i).length then rlx s i (L j).length (L i).length else rlx s j (L i).length (L j).length := by
      unfold mtF
      simp only [@if_pos _ (zdc _) c, Nat.sub_zero, Nat.zero_add]
      by_cases d : (L j).length = (L i).length
      · simp only [if_pos d]
      · by_cases e : (L j).length < (L i).length
        · simp only [if_neg d, if_pos e]
        · simp only [if_neg d, if_neg e]
          rw [show ((L i).length : Int) + (L j).length - (L i).length = (L j).length by omega]
    by_cases d : (L j).length = (L i).length
    · rw [if_pos d] at hm
      have st1 : stt L n i j := ⟨hi, hj, hij, h0, by omega, agr_sym.mp c.2⟩
      have hst : (mtF L s i 0 j (L i).length).1 = stF L s i j := by
        rw [hm]
        unfold stF
        rw [if_pos d.symm, d]
      obtain ⟨o1, o2, o3⟩ := stF_ok h st1
      rw [hst]
      exact ⟨o1, fun _ => ⟨o2, o3⟩, fun _ => ⟨fun z => by omega, fun _ => by have := o3 d.symm; omega⟩⟩
    · rw [if_neg d] at hm
      by_cases e : (L j).length < (L i).length
      · rw [if_pos e] at hm
        have st1 : stt L n j i := ⟨hj, hi, fun z => hij z.symm, c.1, by omega, c.2⟩
        have hst : (mtF L s i 0 j (L i).length).1 = stF L s j i := by
          rw [hm]
          unfold stF
          rw [if_neg d]
        obtain ⟨o1, o2, o3⟩ := stF_ok h st1
        rw [hst]
        exact ⟨o1, fun z => absurd z.2.2.2.2.1 (by omega), fun _ => ⟨o2, o3⟩⟩
      · rw [if_neg e] at hm
        have st1 : stt L n i j := ⟨hi, hj, hij, h0, by omega, agr_sym.mp c.2⟩
        have hst : (mtF L s i 0 j (L i).length).1 = stF L s i j := by
          rw [hm]
          unfold stF
          rw [if_neg (fun z => d z.symm)]
        obtain ⟨o1, o2, o3⟩ := stF_ok h st1
        rw [hst]
        exact ⟨o1, fun _ => ⟨o2, o3⟩, fun z => absurd z.2.2.2.2.1 (by omega)⟩
  · have hm : mtF L s i 0 j (L i).length = (s, 0) := by
      unfold mtF
      exact @if_neg _ (zdc _) c _ _ _
    rw [hm]
    refine ⟨onF_rf h, fun z => absurd ⟨?_, agr_sym.mpr z.2.2.2.2.2⟩ c, fun z => absurd ⟨z.2.2.2.1, z.2.2.2.2.2⟩ c⟩
    have := z.2.2.2.2.1
    omega
theorem Rd_starts (xs : List Int) {L : Nat → List Int} {P n : Nat} (hP : 101 ≤ P) {g : Nat → Int → Int} (hc : zCd g P n L) (hs : RpX g s0F) : ∃ g1 s1, zx zblk xs 14 36 [some (.inr (.inr (some pX_readings))), some (.inr (.inr (some P)))] [] (HH g) = zx zblk xs 14 87 [some (.inr (.inr (some pX_readings))), some (.inr (.inr (some P)))] [] (HH g1) ∧ RpX g1 s1 ∧ okF L n s1 ∧ stC L n s1 ∧ zFr scD g g1 := by
  have hn8 := hc.2.2.1
  have inner : ∀ (i : Nat), i < n → ∀ (r j : Nat) (gk : Nat → Int → Int) (s : zFd), j + r = n → i < j → zCd gk P n L → RpX gk s → okF L n s → prS L n (fun i' j' => (i' < i ∨ j' < i) ∨ (i' = i ∧ j' < j) ∨ (j' = i ∧ i' < j)) s → ∃ g1 s1, zx zblk xs 14 50 [some (.inr (.inr (some pX_readings))), some (.inr (.inr (some P))), some (.inl ((i : Int))), some (.inl ((j : Int)))] [] (HH gk) = zx zblk xs 14 38 [some (.inr (.inr (some pX_readings))), some (.inr (.inr (some P))), some (.inl (((i + 1 : Nat) : Int)))] [] (HH g1) ∧ RpX g1 s1 ∧ okF L n s1 ∧ prS L n (fun i' j' => i' < i + 1 ∨ j' < i + 1) s1 ∧ zFr scD gk g1 := by
    intro i hi r
    induction r with
    | zero =>
      intro j gk s hj hij hck hsk hok hp
      have : j = n := by omega
      subst this
      refine ⟨gk, s, ?_, hsk, hok, fun i' j' d st => hp i' j' (by have := st.2.1; have := st.1; omega) st, zFr.rf⟩
      rw [e_Readings_leastTwice_50, Co_ck hck.1, Code_size xs hck.1, zci_ok, hck.2.1, if_pos (Int.le_refl _), e_Readings_leastTwice_81, Int.natCast_succ]
    | succ r ih =>
      intro j gk s hj hij hck hsk hok hp
      obtain ⟨o1, o2, o3⟩ := hck.2.2.2 i hi
      have hst : zx zblk xs 14 50 [some (.inr (.inr (some pX_readings))), some (.inr (.inr (some P))), some (.inl ((i : Int))), some (.inl ((j : Int)))] [] (HH gk) = zci (zx zblk xs 16 0 [some (.inr (.inr (some pX_readings))), some (.inr (.inr (some P))), some (.inl ((i : Int))), some (.inl (0)), some (.inl ((j : Int))), some (.inl (((L i).length : Int)))] [] (HH gk)) fun r8 h7 => zx zblk xs 14 50 [some (.inr (.inr (some pX_readings))), some (.inr (.inr (some P))), some (.inl ((i : Int))), some (.inl (((j + 1 : Nat) : Int)))] [] h7 := by
        rw [e_Readings_leastTwice_50, Co_ck hck.1, Code_size xs hck.1, zci_ok, hck.2.1, if_neg (by rw [zw_id (by omega) (by omega), zw_id (by omega) (by omega)]; omega), Co_ck hck.1, Code_plain xs hck.1 i (by omega), zcr_ok, Rw_ck (hck.rw hi), Row_size xs (hck.rw hi) o1, zci_ok, Rd_ck, Int.natCast_succ]
      by_cases c : 0 < (L i).length
      · obtain ⟨g2, p1, p2, p3⟩ := Rd_meet xs hck hsk hok hi (k := j) (by omega) (f := 0) c (v := ((L i).length : Int)) (by omega)
        rw [z0N] at p1
        obtain ⟨m1, m2, m3⟩ := mt_start hok hi (show j < n by omega) (by omega) c
        obtain ⟨g1, s1, q1, q2, q3, q4, q5⟩ := ih (j + 1) g2 (mtF L s i 0 j (L i).length).1 (by omega) (by omega) (zCd_D hck hP p3) p2 m1.1 (fun i' j' d st => by
          by_cases e : i' = i ∧ j' = j
          · obtain ⟨rfl, rfl⟩ := e
            exact m2 st
          · by_cases e2 : i' = j ∧ j' = i
            · obtain ⟨rfl, rfl⟩ := e2
              exact m3 st
            · exact prS_on hp m1 i' j' (by omega) st)
        refine ⟨g1, s1, ?_, q2, q3, q4, p3.tr q5⟩
        rw [hst, p1, zci_ok]
        exact q1
      · have hme : zx zblk xs 16 0 [some (.inr (.inr (some pX_readings))), some (.inr (.inr (some P))), some (.inl ((i : Int))), some (.inl (0)), some (.inl ((j : Int))), some (.inl (((L i).length : Int)))] [] (HH gk) = some (some (.inl 0), HH gk) := by
          rw [e_Readings_meet_0, Co_ck hck.1, Code_plain xs hck.1 i (by omega), zcr_ok, Co_ck hck.1, Code_plain xs hck.1 j (by omega), zcr_ok, Rw_ck (hck.rw hi), Row_size xs (hck.rw hi) o1, zci_ok, zw_id (by omega) (by omega), if_pos (by omega), e_Readings_meet_37, if_pos (Or.inl rfl)]
        obtain ⟨g1, s1, q1, q2, q3, q4, q5⟩ := ih (j + 1) gk s (by omega) (by omega) hck hsk hok (fun i' j' d st => by
          by_cases e : i' = i ∧ j' = j
          · obtain ⟨rfl, rfl⟩ := e
            exact absurd st.2.2.2.1 c
          · by_cases e2 : i' = j ∧ j' = i
            · obtain ⟨rfl, rfl⟩ := e2
              have := st.2.2.2.2.1
              have := st.2.2.2.1
              omega
            · exact hp i' j' (by omega) st)
        refine ⟨g1, s1, ?_, q2, q3, q4, q5⟩
        rw [hst, hme, zci_ok]
        exact q1
  have outer : ∀ (r i : Nat) (gk : Nat → Int → Int) (s : zFd), i + r = n → zCd gk P n L → RpX gk s → okF L n s → prS L n (fun i' j' => i' < i ∨ j' < i) s → ∃ g1 s1, zx zblk xs 14 38 [some (.inr (.inr (some pX_readings))), some (.inr (.inr (some P))), some (.inl ((i : Int)))] [] (HH gk) = zx zblk xs 14 87 [some (.inr (.inr (some pX_readings))), some (.inr (.inr (some P)))] [] (HH g1) ∧ RpX g1 s1 ∧ okF L n s1 ∧ stC L n s1 ∧ zFr scD gk g1 := by
    intro r
    induction r with
    | zero =>
      intro i gk s hi hck hsk hok hp
      have : i = n := by omega
      subst this
      refine ⟨gk, s, ?_, hsk, hok, prS_all hp (fun i' j' st => Or.inl st.1), zFr.rf⟩
      rw [e_Readings_leastTwice_38, Co_ck hck.1, Code_size xs hck.1, zci_ok, hck.2.1, if_pos (Int.le_refl _)]
    | succ r ih =>
      intro i gk s hi hck hsk hok hp
      obtain ⟨g2, s2, p1, p2, p3, p4, p5⟩ := inner i (by omega) (n - (i + 1)) (i + 1) gk s (by omega) (by omega) hck hsk hok (fun i' j' d st => by
        by_cases e : i' < i ∨ j' < i
        · exact hp i' j' e st
        · exact absurd st.2.2.1 (by omega))
      obtain ⟨g1, s1, q1, q2, q3, q4, q5⟩ := ih (i + 1) g2 s2 (by omega) (zCd_D hck hP p5) p2 p3 p4
      refine ⟨g1, s1, ?_, q2, q3, q4, p5.tr q5⟩
      rw [e_Readings_leastTwice_38, Co_ck hck.1, Code_size xs hck.1, zci_ok, hck.2.1, if_neg (by rw [zw_id (by omega) (by omega), zw_id (by omega) (by omega)]; omega), ← Int.natCast_succ]
      exact p1.trans q1
  obtain ⟨g1, s1, q1, q2, q3, q4, q5⟩ := outer n 0 g s0F (by omega) hc hs (s0F_ok L n) (fun i' j' d st => by omega)
  rw [z0N] at q1
  exact ⟨g1, s1, by rw [e_Readings_leastTwice_36]; exact q1, q2, q3, q4, q5⟩
theorem Rd_rounds (xs : List Int) {L : Nat → List Int} {P n : Nat} (hP : 101 ≤ P) (hL : ∀ i, i < n → (L i).length ≤ 10) : ∀ (r k : Nat) (gk : Nat → Int → Int) (s : zFd) (fl : Int), k + r = 81 → zCd gk P n L → RpX gk s → okF L n s → stC L n s → (bC L n s ∨ (fl = 1 ∧ leS L n s ≤ 80 - (k : Int) ∧ k ≤ 80)) → (fl = 0 ∨ fl = 1) → ∃ g1 b, zx zblk xs 14 91 [some (.inr (.inr (some pX_readings))), some (.inr (.inr (some P))), some (.inl (fl)), some (.inl ((k : Int)))] [] (HH gk) = zx zblk xs 14 113 [some (.inr (.inr (some pX_readings)))] [] (HH g1) ∧ g1 pX_readings 1 = b ∧ bF L n b ∧ zFr scD gk g1 := by
  intro r
  induction r with
  | zero =>
    intro k gk s fl hk hc hs hok hst hb hfl
    have : k = 81 := by omega
    subst this
    have hbC : bC L n s := by
      rcases hb with z | z
      · exact z
      · omega
    refine ⟨gk, s.2, ?_, hs.2, bF_of hok hbC, zFr.rf⟩
    rw [e_Readings_leastTwice_91, if_pos (by decide)]
  | succ r ih =>
    intro k gk s fl hk hc hs hok hst hb hfl
    have hn8 := hc.2.2.1
    rw [e_Readings_leastTwice_91, if_neg (by rw [show zw 80 = 80 from rfl, zw_id (by omega) (by omega)]; omega)]
    by_cases c : fl = 0
    · have hbC : bC L n s := by
        rcases hb with z | z
        · exact z
        · omega
      refine ⟨gk, s.2, ?_, hs.2, bF_of hok hbC, zFr.rf⟩
      rw [c, if_pos (show zw 0 = 0 from rfl)]
    · have h1 : fl = 1 := by omega
      subst h1
      have sw := sweep hL hn8 (m := 10) (by omega) hok hst
      rw [show 8 * 10 = 80 from rfl] at sw
      obtain ⟨s1, s2, s3, s4, s5, s6, s7⟩ := sw
      obtain ⟨g2, p1, p2, p3⟩ := Rd_goOn xs hP hc hok hs
      have hon := (swT_ok (L := L) (n := n) (m := 10) (s := (s, 0)) (by omega) hok 80).1
      obtain ⟨g1, b, q1, q2, q3, q4⟩ := ih (k + 1) g2 (swT L n 10 80 (s, 0)).1 (swT L n 10 80 (s, 0)).2 (by omega) (zCd_D hc hP p3) p2 s1 s2 (by
        rcases hb with z | z
        · exact Or.inl (fun len h => Int.le_trans hon.2.2 (z len h))
        · by_cases d : leS L n s = 0
          · exact Or.inl (s5 d)
          · have h2 := s6 d
            by_cases e : (swT L n 10 80 (s, 0)).2 = 0
            · exact Or.inl (s4 e)
            · have h3 := (leS_rg L n (swT L n 10 80 (s, 0)).1).1
              refine Or.inr ⟨?_, by omega, by omega⟩
              rcases s3 with z | z
              · exact absurd z e
              · exact z) s3
      refine ⟨g1, b, ?_, q2, q3, p3.tr q4⟩
      rw [if_neg (by decide), Rd_ck, p1, zci_ok, ← Int.natCast_succ]
      exact q1
theorem Rd_leastTwice (xs : List Int) {L : Nat → List Int} {P n : Nat} (hP : 101 ≤ P) {g : Nat → Int → Int} (hc : zCd g P n L) : ∃ g1, zx zblk xs 14 0 [some (.inr (.inr (some pX_readings))), some (.inr (.inr (some P)))] [] (HH g) = some (some (.inl (if bV L n < 1000000 then bV L n else -1)), HH g1) ∧ zFr scX g g1 := by
  have e0 : ∀ {gk : Nat → Int → Int}, zFr scD (up g pX_readings 1 1000000) gk → zFr scD g gk := fun h => (zFr.rf.up (Or.inl rfl)).tr h
  obtain ⟨w1, w2, w3⟩ := Row_wipe xs (g := up g pX_readings 1 1000000) Rw99
  have fw : zFr scD (up g pX_readings 1 1000000) (up (up g pX_readings 1 1000000) 99 1 0) := w3.mono (fun q j z => by simp only [scR] at z; simp only [scD, pX, pX_signals, pX_weights, pX_codes, pX_page, pX_notes, pX_keptWeights, pX_keptNotes, pX_said, pX_heard, pX_pool, pX_struck, pX_readings, pM, pM_page, pM_readRows, pM_speeches, pM_rows, pM_signalRows, pM_weights, pM_plain, pM_plains, pM_ahead, pM_heap, pM_noteRows, pM_ways, pM_before, pM_keptWeights, pM_keptRows]; omega)
  have loop : ∀ (r k : Nat) (gk : Nat → Int → Int), k + r = 80 → zRow gk 99 (zLi (fun _ => 1000000) k) → gk pX_readings 1 = 1000000 → zFr scD (up g pX_readings 1 1000000) gk → ∃ g1, zx zblk xs 14 15 [some (.inr (.inr (some pX_readings))), some (.inr (.inr (some P))), some (.inl ((k : Int)))] [] (HH gk) = zx zblk xs 14 36 [some (.inr (.inr (some pX_readings))), some (.inr (.inr (some P)))] [] (HH g1) ∧ RpX g1 s0F ∧ zFr scD (up g pX_readings 1 1000000) g1 := by
    intro r
    induction r with
    | zero =>
      intro k gk hk hr hb hf
      have : k = 80 := by omega
      subst this
      refine ⟨gk, ?_, ⟨hr, hb⟩, hf⟩
      rw [e_Readings_leastTwice_15, if_pos (by decide)]
    | succ r ih =>
      intro k gk hk hr hb hf
      obtain ⟨g2, p1, p2, p3⟩ := Row_add xs Rw99 hr (by rw [zLi_len]; omega) 1000000
      rw [← zLi_snoc (fun _ => 1000000)] at p2
      obtain ⟨g1, q1, q2, q3⟩ := ih (k + 1) g2 (by omega) p2 (by rw [p3 pX_readings 1 (by simp only [scR, pX, pX_signals, pX_weights, pX_codes, pX_page, pX_notes, pX_keptWeights, pX_keptNotes, pX_said, pX_heard, pX_pool, pX_struck, pX_readings, pM, pM_page, pM_readRows, pM_speeches, pM_rows, pM_signalRows, pM_weights, pM_plain, pM_plains, pM_ahead, pM_heap, pM_noteRows, pM_ways, pM_before, pM_keptWeights, pM_keptRows]; omega)]; exact hb) (hf.tr (p3.mono (fun q j z => by simp only [scR] at z; simp only [scD, pX, pX_signals, pX_weights, pX_codes, pX_page, pX_notes, pX_keptWeights, pX_keptNotes, pX_said, pX_heard, pX_pool, pX_struck, pX_readings, pM, pM_page, pM_readRows, pM_speeches, pM_rows, pM_signalRows, pM_weights, pM_plain, pM_plains, pM_ahead, pM_heap, pM_noteRows, pM_ways, pM_before, pM_keptWeights, pM_keptRows]; omega)))
      refine ⟨g1, ?_, q2, q3⟩
      rw [e_Readings_leastTwice_15, if_neg (by rw [show zw 80 = 80 from rfl, zw_id (by omega) (by omega)]; omega), Rd_r, Rw_ck Rw99, p1, zcv_ok, ← Int.natCast_succ]
      exact q1
  obtain ⟨ga, a1, a2, a3⟩ := loop 80 0 _ (by omega) w2 (by rw [up_q (by decide), up_same]) fw
  rw [z0N] at a1
  have hca := zCd_D hc hP (e0 a3)
  obtain ⟨gb, s1, b1, b2, b3, b4, b5⟩ := Rd_starts xs hP hca a2
  have hcb := zCd_D hca hP b5
  have hL : ∀ i, i < n → (L i).length ≤ 10 := fun i hi => (hc.2.2.2 i hi).2.1
  obtain ⟨g1, b, c1, c2, c3, c4⟩ := Rd_rounds xs hP hL 81 0 gb s1 1 (by omega) hcb b2 b3 b4 (Or.inr ⟨rfl, by have := (leS_rg L n s1).2; omega, by omega⟩) (Or.inr rfl)
  rw [z0N] at c1
  refine ⟨g1, ?_, ((e0 a3).tr (b5.tr c4)).mono (fun q j z => scD_X z)⟩
  rw [e_Readings_leastTwice_0, Rd_p, Rd_r, Rw_ck Rw99, w1, zcv_ok, a1, b1, e_Readings_leastTwice_87, c1, e_Readings_leastTwice_113, Rd_g, c2, show zw 1000000 = 1000000 from rfl, zw_id (a := b) (by have := c3.1; omega) (by have := c3.2.1; omega), bV_eq c3]
  by_cases e : b < 1000000
  · rw [if_neg (by omega), Rd_g, c2, e_Readings_leastTwice_130, if_pos e]
  · rw [if_pos (by omega), e_Readings_leastTwice_129, e_Readings_leastTwice_130, if_neg e]
theorem X_twice (xs : List Int) {G g : Nat → Int → Int} (hB : Bd G) (h : Rel G g) {c : Int} (hc : zw c = c) : ∃ g1, zx zblk xs 53 0 [some (.inr (.inr (some pX))), some (.inl (c))] [] (HH g) = some (some (.inl (twS G c)), HH g1) ∧ zFr scX g g1 := by
  rw [e_X_twice_0, pX_ck]
  unfold twS
  by_cases a : 0 ≤ c ∧ c < G pM 5
  · obtain ⟨k, rfl⟩ : ∃ k : Nat, c = k := ⟨c.toNat, by omega⟩
    obtain ⟨-, q5, -⟩ := id hB.1
    obtain ⟨g1, q1, q2⟩ := Rd_leastTwice xs (by simp only [PC]; omega) (h.cd (show k < 4 by omega) a.2)
    refine ⟨g1, ?_, q2⟩
    rw [X_codeAt_in xs hB h k a.2, zcr_ok, zif_some, e_X_twice_15, pX_r_readings, Rd_ck, q1, zci_ok, e_X_twice_23, if_pos a]
    rfl
  · exact ⟨g, by rw [X_codeAt_out xs hB h c hc a, zcr_ok, zif, e_X_twice_23, if_neg a], zFr.rf⟩
