/-! ===== twice: sweeps ===== -/
section TW3
variable (xs : List Int) {G : Nat → Int → Int} {L : Nat → List Int} {n : Nat}
theorem W3 (hL : ∀ s : Nat, plS G 0 0 s = L s) (hn' : nS G 0 = n) {j f : Nat} (hj : j < n) (hf : f < (L j).length) {ln : Int} (hR : Rch L n j f ln) (hln : ln < 999) : ∀ (r i : Nat) (g : Nat → Int → Int) (s : zFd) (y : Int), i + r = n → LwS G g → TwA g → RpL g s → okL L n s → (y = 0 ∨ y = 1) → pRow g 276 (L j) → ∃ g1 s1 y1, zx zblk xs 91 376 [some (.inr (.inr (some pX))), some (.inr (.inr (some 265))), some (.inr (.inr (some 266))), some (.inr (.inr (some 275))), some (.inr (.inr (some 276))), some (.inr (.inr (some 277))), some (.inr (.inr (some 278))), some (.inl (s.2)), some (.inl (y)), some (.inl ((j : Int))), some (.inl ((f : Int))), some (.inl (ln)), some (.inl ((i : Int)))] [] (HH g) = zx zblk xs 91 672 [some (.inr (.inr (some pX))), some (.inr (.inr (some 265))), some (.inr (.inr (some 266))), some (.inr (.inr (some 275))), some (.inr (.inr (some 276))), some (.inr (.inr (some 277))), some (.inr (.inr (some 278))), some (.inl (s1.2)), some (.inl (y1)), some (.inl ((j : Int))), some (.inl ((f : Int)))] [] (HH g1) ∧ RpL g1 s1 ∧ onL L n s s1 ∧ Fl s y s1 y1 ∧ (∀ k, i ≤ k → k < n → rlxd L n s1 ln j f k) ∧ zFr scT g g1 := by
  intro r
  induction r with
  | zero =>
    intro i g s y hi h hT hs hok hy hrow
    have hn := h.n
    rw [hn'] at hn
    have : i = n := by omega
    subst this
    refine ⟨g, s, y, ?_, hs, onL_rf hok, Fl_rf hy, fun k h1 h2 => by omega, zFr.rf⟩
    rw [e_L_twice_376, HF_ai h.2.2.2.2.1 (by omega) (by omega), h.2.2.2.2.2.1, hn', if_pos (Int.le_refl _)]
  | succ r ih =>
    intro i g s y hi h hT hs hok hy hrow
    obtain ⟨g1, s1, y1, a1, a2, a3, a4, a5, a6⟩ := W2 xs h hT hL hn' hs hok hy hj (i := i) (by omega) hf hR hln hrow
    have fT : zFr scT g g1 := a6.mono (fun q j z => by simp only [scT]; omega)
    obtain ⟨g2, s2, y2, b1, b2, b3, b4, b5, b6⟩ := ih (i + 1) g1 s1 y1 (by omega) (LS_T h fT) (TwA_T hT fT) a2 a3.1 a4.1 (pRow_fr hrow (a6.at (fun j => by omega)))
    refine ⟨g2, s2, y2, ?_, b2, onL_tr a3 b3, Fl_tr a4 b4 a3 b3, fun k h1 h2 => ?_, fT.tr b6⟩
    · rw [a1, ← b1, Int.natCast_succ]
    · by_cases e : k = i
      · rw [e]; exact rlxd_on a5 b3
      · exact b5 k (by omega) h2
/-- a tail -/
theorem W4 (hL : ∀ s : Nat, plS G 0 0 s = L s) (hn' : nS G 0 = n) {j f : Nat} (hj : j < n) (hL10 : ∀ i, i < n → (L i).length ≤ 10) (hf : 1 ≤ f ∧ f ≤ 10) {g : Nat → Int → Int} {s : zFd} {y : Int} (h : LwS G g) (hT : TwA g) (hs : RpL g s) (hok : okL L n s) (hy : y = 0 ∨ y = 1) : ∃ g1 s1 y1, zx zblk xs 91 309 [some (.inr (.inr (some pX))), some (.inr (.inr (some 265))), some (.inr (.inr (some 266))), some (.inr (.inr (some 275))), some (.inr (.inr (some 276))), some (.inr (.inr (some 277))), some (.inr (.inr (some 278))), some (.inl (s.2)), some (.inl (y)), some (.inl ((j : Int))), some (.inl ((f : Int)))] [] (HH g) = zx zblk xs 91 309 [some (.inr (.inr (some pX))), some (.inr (.inr (some 265))), some (.inr (.inr (some 266))), some (.inr (.inr (some 275))), some (.inr (.inr (some 276))), some (.inr (.inr (some 277))), some (.inr (.inr (some 278))), some (.inl (s1.2)), some (.inl (y1)), some (.inl ((j : Int))), some (.inl ((f : Int) + 1))] [] (HH g1) ∧ RpL g1 s1 ∧ onL L n s s1 ∧ Fl s y s1 y1 ∧ (s.1 j f < s.2 → ∀ k, k < n → rlxd L n s1 (s.1 j f) j f k) ∧ zFr scT g g1 := by
  have hn := h.n
  rw [hn'] at hn
  have h0 := hok.1 j f
  have b2s := hok.2
  have e351 : zx zblk xs 91 309 [some (.inr (.inr (some pX))), some (.inr (.inr (some 265))), some (.inr (.inr (some 266))), some (.inr (.inr (some 275))), some (.inr (.inr (some 276))), some (.inr (.inr (some 277))), some (.inr (.inr (some 278))), some (.inl (s.2)), some (.inl (y)), some (.inl ((j : Int))), some (.inl ((f : Int)))] [] (HH g) = zx zblk xs 91 351 [some (.inr (.inr (some pX))), some (.inr (.inr (some 265))), some (.inr (.inr (some 266))), some (.inr (.inr (some 275))), some (.inr (.inr (some 276))), some (.inr (.inr (some 277))), some (.inr (.inr (some 278))), some (.inl (s.2)), some (.inl (y)), some (.inl ((j : Int))), some (.inl ((f : Int)))] [.inl (s.1 j f)] (HH g) := by
    rw [e_L_twice_309, show zw 11 = 11 from rfl, show zw 8 = 8 from rfl, zw_id (a := (f : Int)) (by omega) (by omega), if_neg (by omega)]
    exact tb_rd xs hT hs (by omega) hf (fun a1 => zx zblk xs 91 351 [some (.inr (.inr (some pX))), some (.inr (.inr (some 265))), some (.inr (.inr (some 266))), some (.inr (.inr (some 275))), some (.inr (.inr (some 276))), some (.inr (.inr (some 277))), some (.inr (.inr (some 278))), some (.inl (s.2)), some (.inl (y)), some (.inl ((j : Int))), some (.inl ((f : Int)))] [.inl a1] (HH g)) _ (fun _ => by rw [e_L_twice_337])
  have e672 : ∀ (b yy : Int) (gx : Nat → Int → Int), zx zblk xs 91 672 [some (.inr (.inr (some pX))), some (.inr (.inr (some 265))), some (.inr (.inr (some 266))), some (.inr (.inr (some 275))), some (.inr (.inr (some 276))), some (.inr (.inr (some 277))), some (.inr (.inr (some 278))), some (.inl (b)), some (.inl (yy)), some (.inl ((j : Int))), some (.inl ((f : Int)))] [] (HH gx) = zx zblk xs 91 309 [some (.inr (.inr (some pX))), some (.inr (.inr (some 265))), some (.inr (.inr (some 266))), some (.inr (.inr (some 275))), some (.inr (.inr (some 276))), some (.inr (.inr (some 277))), some (.inr (.inr (some 278))), some (.inl (b)), some (.inl (yy)), some (.inl ((j : Int))), some (.inl ((f : Int) + 1))] [] (HH gx) := fun b yy gx => by rw [e_L_twice_672]
  rw [e351, e_L_twice_351, zw_id (a := s.1 j f) (by omega) (by omega), zw_id (a := s.2) (by omega) (by omega)]
  by_cases c : s.1 j f < s.2
  · have hR := h0.2.2 (by omega)
    obtain ⟨t, ht⟩ := id hR
    obtain ⟨q1, q2, q3, q4⟩ := Rch_rg ht
    obtain ⟨ga, a1, a2, a3⟩ := L_speech xs h (i := j) (by omega) hT.q (by omega) (by omega) (st := 0) (by omega)
    rw [hL] at a2
    have fa : zFr scT g ga := a3.mono (fun q j z => Or.inr (Or.inl z))
    have hsa : RpL ga s := RpL_fr hs (a3.at (fun j => by omega)) (a3.at (fun j => by omega))
    obtain ⟨g1, s1, y1, b1, b2, b3, b4, b5, b6⟩ := W3 xs hL hn' hj q3 hR (by omega) n 0 ga s y (by omega) (LS_T h fa) (TwA_T hT fa) hsa hok hy a2
    rw [z0N] at b1
    refine ⟨g1, s1, y1, ?_, b2, b3, b4, fun _ k hk => b5 k (by omega) hk, fa.tr b6⟩
    rw [if_pos c, e_L_twice_363, a1, zcv_ok, b1, e672]
  · exact ⟨g, s, y, by rw [if_neg c, e672], hs, onL_rf hok, Fl_rf hy, fun z => absurd z c, zFr.rf⟩
/-- so far of a sweep that began at s0: where nothing is lessened, all is as it should be -/
def Swp (L : Nat → List Int) (n : Nat) (s0 s : zFd) (y : Int) (D : Nat → Nat → Prop) : Prop := onL L n s0 s ∧ Fl s0 0 s y ∧ (y = 0 → ∀ j f, j < n → 1 ≤ f → f ≤ 10 → D j f → s0.1 j f < s0.2 → ∀ k, k < n → rlxd L n s0 (s0.1 j f) j f k)
theorem Swp_s {L : Nat → List Int} {n : Nat} {s0 s s1 : zFd} {y y1 : Int} {D D' : Nat → Nat → Prop} (h : Swp L n s0 s y D) (o : onL L n s s1) (fl : Fl s y s1 y1) {j f : Nat} (hr : s.1 j f < s.2 → ∀ k, k < n → rlxd L n s1 (s.1 j f) j f k) (hD : ∀ a b, b ≤ 10 → D' a b → D a b ∨ (a = j ∧ b = f)) : Swp L n s0 s1 y1 D' := by
  obtain ⟨h1, h2, h3⟩ := h
  refine ⟨onL_tr h1 o, Fl_tr h2 fl h1 o, fun e a b ha hb hb2 hd hlt k hk => ?_⟩
  obtain ⟨e1, e2⟩ := fl.2.1 e
  obtain ⟨-, e3⟩ := h2.2.1 e1
  rcases hD a b hb2 hd with z | ⟨rfl, rfl⟩
  · exact h3 e1 a b ha hb hb2 z hlt k hk
  · have hr' := hr (by rw [e3]; exact hlt) k hk
    rw [e2, e3] at hr'
    exact hr'
theorem W5 (hL : ∀ s : Nat, plS G 0 0 s = L s) (hn' : nS G 0 = n) {s0 : zFd} {j : Nat} (hj : j < n) (hL10 : ∀ i, i < n → (L i).length ≤ 10) : ∀ (r f : Nat) (g : Nat → Int → Int) (s : zFd) (y : Int), f + r = 11 → 1 ≤ f → LwS G g → TwA g → RpL g s → Swp L n s0 s y (fun a b => a < j ∨ (a = j ∧ b < f)) → ∃ g1 s1 y1, zx zblk xs 91 309 [some (.inr (.inr (some pX))), some (.inr (.inr (some 265))), some (.inr (.inr (some 266))), some (.inr (.inr (some 275))), some (.inr (.inr (some 276))), some (.inr (.inr (some 277))), some (.inr (.inr (some 278))), some (.inl (s.2)), some (.inl (y)), some (.inl ((j : Int))), some (.inl ((f : Int)))] [] (HH g) = zx zblk xs 91 298 [some (.inr (.inr (some pX))), some (.inr (.inr (some 265))), some (.inr (.inr (some 266))), some (.inr (.inr (some 275))), some (.inr (.inr (some 276))), some (.inr (.inr (some 277))), some (.inr (.inr (some 278))), some (.inl (s1.2)), some (.inl (y1)), some (.inl ((j : Int) + 1))] [] (HH g1) ∧ RpL g1 s1 ∧ Swp L n s0 s1 y1 (fun a _ => a < j + 1) ∧ zFr scT g g1 := by
  intro r
  induction r with
  | zero =>
    intro f g s y hf hf1 h hT hs hw
    have hn := h.n
    rw [hn'] at hn
    have : f = 11 := by omega
    subst this
    refine ⟨g, s, y, ?_, hs, ⟨hw.1, hw.2.1, fun e a b ha hb hb2 hd => hw.2.2 e a b ha hb hb2 (by omega)⟩, zFr.rf⟩
    rw [e_L_twice_309, if_pos (by decide), e_L_twice_678]
  | succ r ih =>
    intro f g s y hf hf1 h hT hs hw
    obtain ⟨g1, s1, y1, a1, a2, a3, a4, a5, a6⟩ := W4 xs hL hn' hj hL10 (f := f) (by omega) h hT hs hw.1.1 hw.2.1.1
    obtain ⟨g2, s2, y2, b1, b2, b3, b4⟩ := ih (f + 1) g1 s1 y1 (by omega) (by omega) (LS_T h a6) (TwA_T hT a6) a2 (Swp_s hw a3 a4 a5 (fun a b _ hd => by omega))
    refine ⟨g2, s2, y2, ?_, b2, b3, a6.tr b4⟩
    rw [a1, ← b1, Int.natCast_succ]
theorem W6 (hL : ∀ s : Nat, plS G 0 0 s = L s) (hn' : nS G 0 = n) {s0 : zFd} (hL10 : ∀ i, i < n → (L i).length ≤ 10) : ∀ (r j : Nat) (g : Nat → Int → Int) (s : zFd) (y : Int), j + r = n → LwS G g → TwA g → RpL g s → Swp L n s0 s y (fun a _ => a < j) → ∃ g1 s1 y1, zx zblk xs 91 298 [some (.inr (.inr (some pX))), some (.inr (.inr (some 265))), some (.inr (.inr (some 266))), some (.inr (.inr (some 275))), some (.inr (.inr (some 276))), some (.inr (.inr (some 277))), some (.inr (.inr (some 278))), some (.inl (s.2)), some (.inl (y)), some (.inl ((j : Int)))] [] (HH g) = zx zblk xs 91 287 [some (.inr (.inr (some pX))), some (.inr (.inr (some 265))), some (.inr (.inr (some 266))), some (.inr (.inr (some 275))), some (.inr (.inr (some 276))), some (.inr (.inr (some 277))), some (.inr (.inr (some 278))), some (.inl (s1.2)), some (.inl (y1))] [] (HH g1) ∧ RpL g1 s1 ∧ Swp L n s0 s1 y1 (fun a _ => a < n) ∧ zFr scT g g1 := by
  intro r
  induction r with
  | zero =>
    intro j g s y hj h hT hs hw
    have hn := h.n
    rw [hn'] at hn
    have : j = n := by omega
    subst this
    refine ⟨g, s, y, ?_, hs, hw, zFr.rf⟩
    rw [e_L_twice_298, HF_ai h.2.2.2.2.1 (by omega) (by omega), h.2.2.2.2.2.1, hn', if_pos (Int.le_refl _), e_L_twice_684]
  | succ r ih =>
    intro j g s y hj h hT hs hw
    have hn := h.n
    rw [hn'] at hn
    obtain ⟨g1, s1, y1, a1, a2, a3, a4⟩ := W5 xs hL hn' (j := j) (by omega) hL10 10 1 g s y (by omega) (by omega) h hT hs ⟨hw.1, hw.2.1, fun e a b ha hb hb2 hd => hw.2.2 e a b ha hb hb2 (by omega)⟩
    obtain ⟨g2, s2, y2, b1, b2, b3, b4⟩ := ih (j + 1) g1 s1 y1 (by omega) (LS_T h a4) (TwA_T hT a4) a2 a3
    refine ⟨g2, s2, y2, ?_, b2, b3, a4.tr b4⟩
    have a1' : zx zblk xs 91 309 [some (.inr (.inr (some pX))), some (.inr (.inr (some 265))), some (.inr (.inr (some 266))), some (.inr (.inr (some 275))), some (.inr (.inr (some 276))), some (.inr (.inr (some 277))), some (.inr (.inr (some 278))), some (.inl (s.2)), some (.inl (y)), some (.inl ((j : Int))), some (.inl (1))] [] (HH g) = zx zblk xs 91 298 [some (.inr (.inr (some pX))), some (.inr (.inr (some 265))), some (.inr (.inr (some 266))), some (.inr (.inr (some 275))), some (.inr (.inr (some 276))), some (.inr (.inr (some 277))), some (.inr (.inr (some 278))), some (.inl (s1.2)), some (.inl (y1)), some (.inl ((j : Int) + 1))] [] (HH g1) := a1
    rw [e_L_twice_298, HF_ai h.2.2.2.2.1 (by omega) (by omega), h.2.2.2.2.2.1, hn', if_neg (by rw [zw_id (by omega) (by omega), zw_id (by omega) (by omega)]; omega), a1', ← b1, Int.natCast_succ]
theorem W7 (hL : ∀ s : Nat, plS G 0 0 s = L s) (hn' : nS G 0 = n) (hL10 : ∀ i, i < n → (L i).length ≤ 10) : ∀ (N : Nat) (g : Nat → Int → Int) (s : zFd), msr s ≤ N → LwS G g → TwA g → RpL g s → okL L n s → stC L n s → ∃ g1 b, zx zblk xs 91 287 [some (.inr (.inr (some pX))), some (.inr (.inr (some 265))), some (.inr (.inr (some 266))), some (.inr (.inr (some 275))), some (.inr (.inr (some 276))), some (.inr (.inr (some 277))), some (.inr (.inr (some 278))), some (.inl (s.2)), some (.inl (1))] [] (HH g) = zx zblk xs 91 687 [some (.inr (.inr (some pX))), none, none, none, none, none, none, some (.inl (b))] [] (HH g1) ∧ 0 ≤ b ∧ b ≤ 999 ∧ bF L n (if b = 999 then 1000000 else b) ∧ zFr scT g g1 := by
  intro N
  induction N using Nat.strongRecOn with
  | _ N ih =>
    intro g s hN h hT hs hok hst
    have hn := h.n
    rw [hn'] at hn
    obtain ⟨g1, s1, y1, a1, a2, a3, a4⟩ := W6 xs hL hn' (s0 := s) hL10 n 0 g s 0 (by omega) h hT hs ⟨onL_rf hok, Fl_rf (Or.inl rfl), fun e a b ha hb hb2 hd => by omega⟩
    rw [z0N] at a1
    have hst1 : stC L n s1 := ⟨fun j f len r => Int.le_trans (a3.1.2.1 j f) (hst.1 j f len r), fun i j r e => Int.le_trans a3.1.2.2 (hst.2 i j r e)⟩
    have e0 : zx zblk xs 91 287 [some (.inr (.inr (some pX))), some (.inr (.inr (some 265))), some (.inr (.inr (some 266))), some (.inr (.inr (some 275))), some (.inr (.inr (some 276))), some (.inr (.inr (some 277))), some (.inr (.inr (some 278))), some (.inl (s.2)), some (.inl (1))] [] (HH g) = zx zblk xs 91 287 [some (.inr (.inr (some pX))), some (.inr (.inr (some 265))), some (.inr (.inr (some 266))), some (.inr (.inr (some 275))), some (.inr (.inr (some 276))), some (.inr (.inr (some 277))), some (.inr (.inr (some 278))), some (.inl (s1.2)), some (.inl (y1))] [] (HH g1) := by rw [e_L_twice_287, if_neg (by decide), a1]
    rw [e0]
    rcases a3.2.1.1 with z | z
    · obtain ⟨-, e2⟩ := a3.2.1.2.1 z
      have hb := hok.2
      refine ⟨g1, s1.2, ?_, by rw [e2]; exact hb.1, by rw [e2]; exact hb.2.1, ?_, a4⟩
      · rw [z, e_L_twice_287, if_pos (show zw 0 = 0 from rfl)]
      · rw [e2]
        refine fin_L hn.2.1 hL10 hok hst (fun j f hj hf hf2 hlt k => ?_)
        by_cases hk : k < n
        · exact a3.2.2 z j f hj hf hf2 hj hlt k hk
        · exact ⟨fun x fx w e => absurd e.1 hk, fun e => absurd e.1 hk⟩
    · rw [z]
      rcases a3.2.1.2.2 (by rw [z]; decide) with z2 | z2
      · exact absurd rfl z2
      · have hlt := msr_lt a3.1 z2
        have hnn := msr_nn a3.1.1
        obtain ⟨g2, b, b1, b2, b3, b4, b5⟩ := ih (msr s1).toNat (by omega) g1 s1 (by omega) (LS_T h a4) (TwA_T hT a4) a2 a3.1.1 hst1
        exact ⟨g2, b, b1, b2, b3, b4, a4.tr b5⟩
end TW3
theorem L_twice (xs : List Int) {G g : Nat → Int → Int} (h : LwS G g) (hN : g 0 0 = (10 : Nat)) : ∃ g1, zx zblk xs 91 0 [some (.inr (.inr (some pX))), some (.inr (.inr (some 265))), some (.inr (.inr (some 266)))] [] (HH g) = some (some (.inl 1), HH g1) ∧ LwS G g1 ∧ g1 0 0 = (14 : Nat) ∧ zFr (fun q _ => scX q 0 ∨ 275 ≤ q ∨ q = 0) g g1 := by
  have a1 := LS_gnw h hN (n := 12) rfl (by omega)
  have a2 := LS_gnw a1 gnw_0 (n := 12) rfl (by omega)
  have a3 := LS_gnw a2 gnw_0 (n := 64) rfl (by omega)
  have a4 := LS_gnw a3 gnw_0 (n := 32) rfl (by omega)
  have hn := h.n
  have hT0 : TwA (gnw (gnw (gnw (gnw g 10) 11) 12) 13) := gnw_0
  have f0 : zFr (fun q _ => scX q 0 ∨ 275 ≤ q ∨ q = 0) g (gnw (gnw (gnw (gnw g 10) 11) 12) 13) := fun q j hq => by
    rw [gnw_q (by omega) (by omega), gnw_q (by omega) (by omega), gnw_q (by omega) (by omega), gnw_q (by omega) (by omega)]
  obtain ⟨gb, b1, b2, b3⟩ := W0 xs hT0
  have hb := LS_T a4 b3
  have hTb := TwA_T hT0 b3
  have ok0 : okL (fun s : Nat => plS G 0 0 s) (nS G 0) (fun _ _ => 999, 999) := ⟨fun j f => ⟨show (0 : Int) ≤ 999 by decide, Int.le_refl _, fun z => absurd z (show ¬ (999 : Int) < 999 by decide)⟩, show (0 : Int) ≤ 999 by decide, Int.le_refl _, fun z => absurd z (show ¬ (999 : Int) < 999 by decide)⟩
  obtain ⟨gc, sc, c1, c2, c3, c4, c5⟩ := W1i xs (G := G) (nS G 0) 0 gb (fun _ _ => 999, 999) (by omega) hb hTb b2 ok0 (fun a b hab st => by omega)
  rw [z0N] at c1
  have hc := LS_T hb c5
  have hTc := TwA_T hTb c5
  obtain ⟨gd, b, d1, d2, d3, d4, d5⟩ := W7 xs (G := G) (L := fun s : Nat => plS G 0 0 s) (n := nS G 0) (fun _ => rfl) rfl (fun i hi => (h.pl hi 0).1) (msr sc).toNat gc sc (by have := msr_nn c3; omega) hc hTc c2 c3 c4
  have hd := LS_T hc d5
  have hTd := TwA_T hTc d5
  obtain ⟨ge, x1, x2⟩ := X_twice xs hd.1 hd.2.1 (c := 0) rfl
  have hv : twS G 0 = if b = 999 then -1 else b := by
    unfold twS
    rw [if_pos hd.c1]
    unfold twO
    rw [bV_eq d4]
    by_cases e : b = 999
    · rw [if_pos e, if_pos e, if_neg (by decide)]
    · rw [if_neg e, if_neg e, if_pos (by omega)]
  refine ⟨ge, ?_, LS_scX hd x2, ?_, ?_⟩
  · rw [e_L_twice_0, zna_at (m := 12) (n := 12) rfl hN rfl (by omega), zna_at (m := 12) (N := 11) (n := 12) rfl gnw_0 rfl (by omega), zna_at (m := 64) (N := 12) (n := 64) rfl gnw_0 rfl (by omega), zna_at (m := 32) (N := 13) (n := 32) rfl gnw_0 rfl (by omega)]
    refine b1.trans (Eq.trans c1 (Eq.trans d1 ?_))
    rw [e_L_twice_687, pX_ck, x1, zci_ok, hv, zw_id (a := b) (by omega) (by omega), show zw 999 = 999 from rfl]
    by_cases e : b = 999
    · rw [if_neg (fun z => z e), if_pos e, e_L_twice_706, if_neg (fun z => z rfl), e_L_twice_714, if_pos (Or.inr rfl)]
    · rw [if_pos e, if_neg e, e_L_twice_704, e_L_twice_706, if_neg (fun z => z rfl), e_L_twice_714, if_pos (Or.inr rfl)]
  · rw [x2 0 0 (by simp only [scX, pX, pX_signals, pX_weights, pX_codes, pX_page, pX_notes, pX_keptWeights, pX_keptNotes, pX_said, pX_heard, pX_pool, pX_struck, pX_readings, pM, pM_page, pM_readRows, pM_speeches, pM_rows, pM_signalRows, pM_weights, pM_plain, pM_plains, pM_ahead, pM_heap, pM_noteRows, pM_ways, pM_before, pM_keptWeights, pM_keptRows]; omega)]
    exact hTd
  · have fT : ∀ {a b : Nat → Int → Int}, zFr scT a b → zFr (fun q _ => scX q 0 ∨ 275 ≤ q ∨ q = 0) a b := fun hh => hh.mono (fun q j z => by simp only [scT] at z; omega)
    exact (((f0.tr (fT b3)).tr (fT c5)).tr (fT d5)).tr (x2.mono (fun q j z => Or.inl z))
