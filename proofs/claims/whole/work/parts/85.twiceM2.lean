/-! ===== twice: the reference's sweeps ===== -/
theorem swK_stop {L : Nat → List Int} {j f : Nat} {s : zFd × Int} : ∀ {k r : Nat}, ¬ (swK L j f k s).1.1 j f < 1000000 → swK L j f (k + r) s = swK L j f k s
  | _, 0, _ => rfl
  | k, r + 1, h => by
    have ih := swK_stop (r := r) h
    rw [← Nat.add_assoc, swK, ih, if_neg h]
theorem M_swK (xs : List Int) {L : Nat → List Int} {n j f : Nat} (hf11 : f < 11) (hj8 : j < 8) {s : zFd × Int} (hok : okF L n s.1) (h01 : s.2 = 0 ∨ s.2 = 1) : ∀ (r k : Nat) (gk : Nat → Int → Int), k + r = n → rdy gk L n → RpM gk (swK L j f k s).1 → ∃ g1, zx zblk xs 38 202 [some (.inr (.inr (some pM))), none, some (.inl ((n : Int))), some (.inl ((swK L j f k s).2)), some (.inl (((11 * j + f : Nat) : Int))), some (.inl ((j : Int))), some (.inl ((f : Int))), some (.inl ((k : Int)))] [] (HH gk) = zx zblk xs 38 306 [some (.inr (.inr (some pM))), none, some (.inl ((n : Int))), some (.inl ((swK L j f n s).2)), some (.inl (((11 * j + f : Nat) : Int)))] [] (HH g1) ∧ RpM g1 (swK L j f n s).1 ∧ zFr scT gk g1 := by
  intro r
  induction r with
  | zero =>
    intro k gk hk hR hs
    have : k = n := by omega
    subst this
    refine ⟨gk, ?_, hs, zFr.rf⟩
    rw [e_M_twiceOf_202, if_pos (Int.le_refl _)]
  | succ r ih =>
    intro k gk hk hR hs
    obtain ⟨hall, hn, hr⟩ := id hR
    obtain ⟨i1, i2, i3, i4⟩ := swK_ok hok (j := j) (f := f) k (by omega)
    obtain ⟨fl, -⟩ := i2 h01
    have hv := i1.1.1 j f
    have hah := hs.1 j f hj8 hf11
    have hst : zx zblk xs 38 202 [some (.inr (.inr (some pM))), none, some (.inl ((n : Int))), some (.inl ((swK L j f k s).2)), some (.inl (((11 * j + f : Nat) : Int))), some (.inl ((j : Int))), some (.inl ((f : Int))), some (.inl ((k : Int)))] [] (HH gk) = if 1000000 ≤ (swK L j f k s).1.1 j f then zx zblk xs 38 306 [some (.inr (.inr (some pM))), none, some (.inl ((n : Int))), some (.inl ((swK L j f k s).2)), some (.inl (((11 * j + f : Nat) : Int)))] [] (HH gk) else if ((L k).length : Int) ≤ 0 then zx zblk xs 38 250 [some (.inr (.inr (some pM))), none, some (.inl ((n : Int))), some (.inl ((swK L j f k s).2)), some (.inl (((11 * j + f : Nat) : Int))), some (.inl ((j : Int))), some (.inl ((f : Int))), some (.inl ((k : Int)))] [] (HH gk) else zck (HH gk) (some pM) 7 (zci (zx zblk xs 35 0 [some (.inr (.inr (some pM))), some (.inl ((j : Int))), some (.inl ((f : Int))), some (.inl ((k : Int)))] [] (HH gk)) fun r6 h5 => (if zw r6 = 0 then zx zblk xs 38 250 [some (.inr (.inr (some pM))), none, some (.inl ((n : Int))), some (.inl ((swK L j f k s).2)), some (.inl (((11 * j + f : Nat) : Int))), some (.inl ((j : Int))), some (.inl ((f : Int))), some (.inl ((k : Int)))] [] h5 else zx zblk xs 38 251 [some (.inr (.inr (some pM))), none, some (.inl ((n : Int))), some (.inl ((swK L j f k s).2)), some (.inl (((11 * j + f : Nat) : Int))), some (.inl ((j : Int))), some (.inl ((f : Int))), some (.inl ((k : Int)))] [.inl 1] h5)) := by
      have ak := (hall k (by omega)).1
      have lk := (hr k (by omega)).1
      rw [e_M_twiceOf_202, if_neg (by rw [zw_id (by omega) (by omega), zw_id (by omega) (by omega)]; omega), pM_r_ahead, pM_a_ahead xs _ (by omega) (by omega), show ((11 * j + f : Nat) : Int) = 11 * (j : Int) + f by omega, hah, show zw 1000000 = 1000000 from rfl, zw_id (a := (swK L j f k s).1.1 j f) (by omega) (by omega), pM_r_plains, pM_a_plains xs _ (by omega) (by omega), ak, zw_id (a := ((L k).length : Int)) (by omega) (by omega)]
    have e283 : ∀ (w : Int) (h : zH), (w = 0 ∨ w = 1) → zx zblk xs 38 283 [some (.inr (.inr (some pM))), none, some (.inl ((n : Int))), some (.inl ((swK L j f k s).2)), some (.inl (((11 * j + f : Nat) : Int))), some (.inl ((j : Int))), some (.inl ((f : Int))), some (.inl ((k : Int)))] [.inl w] h = zx zblk xs 38 202 [some (.inr (.inr (some pM))), none, some (.inl ((n : Int))), some (.inl (if w = 0 then (swK L j f k s).2 else 1)), some (.inl (((11 * j + f : Nat) : Int))), some (.inl ((j : Int))), some (.inl ((f : Int))), some (.inl (((k + 1 : Nat) : Int)))] [] h := fun w h hw => by
      rw [e_M_twiceOf_283]
      rcases fl with z | z
      · rw [z, if_neg (by decide)]
        rcases hw with rfl | rfl
        · rw [if_pos (show zw 0 = 0 from rfl), e_M_twiceOf_298, e_M_twiceOf_299, if_pos rfl, Int.natCast_succ]
        · rw [if_neg (by decide), e_M_twiceOf_294, e_M_twiceOf_299, if_neg (by decide), Int.natCast_succ]
      · rw [z, if_pos (by decide), e_M_twiceOf_294, e_M_twiceOf_299, Int.natCast_succ]
        congr 4
        rcases hw with rfl | rfl <;> rfl
    by_cases c : (swK L j f k s).1.1 j f < 1000000
    · have hrch := hv.2.2 c
      obtain ⟨t, ht⟩ := id hrch
      obtain ⟨r1, r2, r3, r4⟩ := Rch_rg ht
      have hsw : swK L j f (k + 1) s = ((mtF L (swK L j f k s).1 j f k ((swK L j f k s).1.1 j f)).1, if (mtF L (swK L j f k s).1 j f k ((swK L j f k s).1.1 j f)).2 = 0 then (swK L j f k s).2 else 1) := by rw [swK, if_pos c]
      obtain ⟨m1, m2, m3, m4, m5⟩ := mtF_ok i1.1 (j := j) (f := f) (k := k) (by omega) hrch
      rw [hst, if_neg (by omega)]
      have e250 : ¬ (0 < (L k).length ∧ agr L j f k) → ∃ g1, zx zblk xs 38 250 [some (.inr (.inr (some pM))), none, some (.inl ((n : Int))), some (.inl ((swK L j f k s).2)), some (.inl (((11 * j + f : Nat) : Int))), some (.inl ((j : Int))), some (.inl ((f : Int))), some (.inl ((k : Int)))] [] (HH gk) = zx zblk xs 38 306 [some (.inr (.inr (some pM))), none, some (.inl ((n : Int))), some (.inl ((swK L j f n s).2)), some (.inl (((11 * j + f : Nat) : Int)))] [] (HH g1) ∧ RpM g1 (swK L j f n s).1 ∧ zFr scT gk g1 := fun no => by
        have hm : mtF L (swK L j f k s).1 j f k ((swK L j f k s).1.1 j f) = ((swK L j f k s).1, 0) := by
          unfold mtF
          exact @if_neg _ (zdc _) no _ _ _
        rw [hm] at hsw
        obtain ⟨g1, q1, q2, q3⟩ := ih (k + 1) gk (by omega) hR (by rw [hsw]; exact hs)
        refine ⟨g1, ?_, q2, q3⟩
        rw [hsw] at q1
        rw [e_M_twiceOf_250, e_M_twiceOf_251, if_pos (show zw 0 = 0 from rfl), e_M_twiceOf_282, e283 0 _ (Or.inl rfl)]
        exact q1
      by_cases d : 0 < (L k).length
      · have hda := agD L j f k
        rw [if_neg (by omega), pM_ck, M_goesOn xs hR r1 (by omega) (by omega), zci_ok, zb_zw]
        by_cases e : agr L j f k
        · obtain ⟨g2, p1, p2, p3⟩ := M_reachBy xs hR r1 (k := k) (by omega) r3 hs i1.1 d e (v := (swK L j f k s).1.1 j f) (by omega)
          obtain ⟨g1, q1, q2, q3⟩ := ih (k + 1) g2 (by omega) (rdy_T hR p3) (by rw [hsw]; exact p2)
          refine ⟨g1, ?_, q2, p3.tr q3⟩
          rw [hsw] at q1
          have hx : zx zblk xs 38 251 [some (.inr (.inr (some pM))), none, some (.inl ((n : Int))), some (.inl ((swK L j f k s).2)), some (.inl (((11 * j + f : Nat) : Int))), some (.inl ((j : Int))), some (.inl ((f : Int))), some (.inl ((k : Int)))] [.inl 1] (HH gk) = zx zblk xs 38 283 [some (.inr (.inr (some pM))), none, some (.inl ((n : Int))), some (.inl ((swK L j f k s).2)), some (.inl (((11 * j + f : Nat) : Int))), some (.inl ((j : Int))), some (.inl ((f : Int))), some (.inl ((k : Int)))] [.inl (mtF L (swK L j f k s).1 j f k ((swK L j f k s).1.1 j f)).2] (HH g2) := by
            rw [e_M_twiceOf_251, if_neg (by decide), pM_r_ahead, pM_a_ahead xs _ (by omega) (by omega), show ((11 * j + f : Nat) : Int) = 11 * (j : Int) + f by omega, hah, pM_ck, p1, zci_ok]
            rcases m2 with z | z
            · rw [z, if_pos (show zw 0 = 0 from rfl), e_M_twiceOf_282]
            · rw [z, if_neg (by decide)]
          rw [zb_t e, if_neg (by decide), hx, e283 _ _ m2]
          exact q1
        · rw [zb_f e, if_pos rfl]
          exact e250 (fun z => e z.2)
      · rw [if_pos (by omega)]
        exact e250 (fun z => d z.1)
    · have hstop := swK_stop (r := r + 1) c
      rw [hk] at hstop
      refine ⟨gk, ?_, by rw [hstop]; exact hs, zFr.rf⟩
      rw [hst, if_pos (by omega), hstop]
theorem M_swT (xs : List Int) {L : Nat → List Int} {n : Nat} {s : zFd} (hok : okF L n s) : ∀ (r t : Nat) (gk : Nat → Int → Int), t + r = 88 → rdy gk L n → RpM gk (swT L n 11 t (s, 0)).1 → ∃ g1, zx zblk xs 38 178 [some (.inr (.inr (some pM))), none, some (.inl ((n : Int))), some (.inl ((swT L n 11 t (s, 0)).2)), some (.inl ((t : Int)))] [] (HH gk) = zx zblk xs 38 169 [some (.inr (.inr (some pM))), none, some (.inl ((n : Int))), some (.inl ((swT L n 11 88 (s, 0)).2))] [] (HH g1) ∧ RpM g1 (swT L n 11 88 (s, 0)).1 ∧ zFr scT gk g1 := by
  intro r
  induction r with
  | zero =>
    intro t gk ht hR hs
    have : t = 88 := by omega
    subst this
    refine ⟨gk, ?_, hs, zFr.rf⟩
    rw [e_M_twiceOf_178, if_pos (by decide), e_M_twiceOf_312]
  | succ r ih =>
    intro t gk ht hR hs
    obtain ⟨i1, i2, -, -⟩ := swT_ok (L := L) (n := n) (m := 11) (s := (s, 0)) (by omega) hok t
    obtain ⟨fl, -⟩ := i2 (Or.inl rfl)
    obtain ⟨g2, p1, p2, p3⟩ := M_swK xs (L := L) (n := n) (j := t / 11) (f := t % 11) (by omega) (by omega) i1.1 fl n 0 gk (by omega) hR hs
    obtain ⟨g1, q1, q2, q3⟩ := ih (t + 1) g2 (by omega) (rdy_T hR p3) p2
    refine ⟨g1, ?_, q2, p3.tr q3⟩
    have hdm : 11 * (t / 11) + t % 11 = t := by omega
    rw [hdm, z0N] at p1
    have hdv : (t : Int).tdiv 11 = ((t / 11 : Nat) : Int) := rfl
    have hmd : (t : Int).tmod 11 = ((t % 11 : Nat) : Int) := rfl
    rw [e_M_twiceOf_178, show zw 88 = 88 from rfl, show zw 11 = 11 from rfl, zw_id (a := (t : Int)) (by omega) (by omega), if_neg (by omega), if_neg (by decide), if_neg (by decide), hdv, hmd]
    refine Eq.trans p1 ?_
    rw [e_M_twiceOf_306, ← Int.natCast_succ]
    exact q1
theorem M_sweeps (xs : List Int) {L : Nat → List Int} {n : Nat} (hn : n ≤ 8) (hL : ∀ i, i < n → (L i).length ≤ 10) : ∀ (N : Nat) (s : zFd) (gk : Nat → Int → Int), leS L n s ≤ N → okF L n s → stC L n s → rdy gk L n → RpM gk s → ∃ g1 b, zx zblk xs 38 169 [some (.inr (.inr (some pM))), none, some (.inl ((n : Int))), some (.inl (1))] [] (HH gk) = zx zblk xs 38 315 [some (.inr (.inr (some pM)))] [] (HH g1) ∧ g1 pM 16 = b ∧ bF L n b ∧ zFr scT gk g1 := by
  intro N
  induction N with
  | zero =>
    intro s gk hN hok hst hR hs
    have sw := sweep hL hn (m := 11) (by omega) hok hst
    rw [show 8 * 11 = 88 from rfl] at sw
    obtain ⟨s1, s2, s3, s4, s5, s6, s7⟩ := sw
    obtain ⟨g1, q1, q2, q3⟩ := M_swT xs hok 88 0 gk (by omega) hR hs
    have h0 : leS L n s = 0 := by have := (leS_rg L n s).1; omega
    have hfl : (swT L n 11 88 (s, 0)).2 = 0 := Classical.byContradiction (fun z => s7 z h0)
    refine ⟨g1, (swT L n 11 88 (s, 0)).1.2, ?_, q2.2, bF_of s1 (s4 hfl), q3⟩
    rw [z0N] at q1
    rw [e_M_twiceOf_169, if_neg (by decide)]
    refine Eq.trans q1 ?_
    rw [hfl, e_M_twiceOf_169, if_pos (show zw 0 = 0 from rfl)]
  | succ N ih =>
    intro s gk hN hok hst hR hs
    have sw := sweep hL hn (m := 11) (by omega) hok hst
    rw [show 8 * 11 = 88 from rfl] at sw
    obtain ⟨s1, s2, s3, s4, s5, s6, s7⟩ := sw
    obtain ⟨g2, p1, p2, p3⟩ := M_swT xs hok 88 0 gk (by omega) hR hs
    rw [z0N] at p1
    by_cases c : (swT L n 11 88 (s, 0)).2 = 0
    · refine ⟨g2, (swT L n 11 88 (s, 0)).1.2, ?_, p2.2, bF_of s1 (s4 c), p3⟩
      rw [e_M_twiceOf_169, if_neg (by decide)]
      refine Eq.trans p1 ?_
      rw [c, e_M_twiceOf_169, if_pos (show zw 0 = 0 from rfl)]
    · have hlt := s6 (s7 c)
      obtain ⟨g1, b, q1, q2, q3, q4⟩ := ih (swT L n 11 88 (s, 0)).1 g2 (by omega) s1 s2 (rdy_T hR p3) p2
      refine ⟨g1, b, ?_, q2, q3, p3.tr q4⟩
      have h1 : (swT L n 11 88 (s, 0)).2 = 1 := by
        rcases s3 with z | z
        · exact absurd z c
        · exact z
      rw [e_M_twiceOf_169, if_neg (by decide)]
      refine Eq.trans p1 ?_
      rw [h1]
      exact q1
