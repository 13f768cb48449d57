/-- all speeches looked at -/
theorem T3 (xs : List Int) {G : Nat → Int → Int} (th : Int) {i : Nat} : ∀ (r j : Nat) (g : Nat → Int → Int) (ap f1 f2 o1 o2 : Int), j + r = nS G 0 → i < nS G 0 → LwS G g → zAr g 269 12 → zAr g 270 12 → pRow g 269 (plS G 0 0 i) → Trk (fun s => plS G 0 0 s) (nS G 0) i j ap f1 f2 o1 o2 → ∃ g1 ap' f1' f2' o1' o2', zx zblk xs 0 359 [some (.inr (.inr (some 0))), some (.inr (.inr (some pX))), some (.inr (.inr (some 265))), some (.inr (.inr (some 266))), none, none, some (.inl (th)), some (.inr (.inr (some 268))), some (.inr (.inr (some 269))), some (.inr (.inr (some 270))), some (.inl (ap)), some (.inl (f1)), some (.inl (f2)), some (.inl (o1)), some (.inl (o2)), some (.inl ((i : Int))), some (.inl ((j : Int)))] [] (HH g) = zx zblk xs 0 170 [some (.inr (.inr (some 0))), some (.inr (.inr (some pX))), some (.inr (.inr (some 265))), some (.inr (.inr (some 266))), none, none, some (.inl (th)), some (.inr (.inr (some 268))), some (.inr (.inr (some 269))), some (.inr (.inr (some 270))), some (.inl (ap')), some (.inl (f1')), some (.inl (f2')), some (.inl (o1')), some (.inl (o2')), some (.inl ((i : Int) + 1))] [] (HH g1) ∧ Trk (fun s => plS G 0 0 s) (nS G 0) (i + 1) 0 ap' f1' f2' o1' o2' ∧ zFr (fun q _ => q = 270) g g1 := by
  intro r
  induction r with
  | zero =>
    intro j g ap f1 f2 o1 o2 hj hi h hp hq hrow hT
    have hn := h.n
    have : j = nS G 0 := by omega
    subst this
    refine ⟨g, ap, f1, f2, o1, o2, ?_, ⟨ApT_row hT.1, Fst_row hT.2.1, Fst_row hT.2.2⟩, zFr.rf⟩
    rw [e_L_law_359, HF_ai h.2.2.2.2.1 (by omega) (by omega), h.2.2.2.2.2.1, if_pos (Int.le_refl _), e_L_law_554]
  | succ r ih =>
    intro j g ap f1 f2 o1 o2 hj hi h hp hq hrow hT
    have hn := h.n
    obtain ⟨g1, ap1, f11, f21, o11, o21, s1, s2, s3⟩ := T2 xs h hp hq hi (by omega) hrow th hT
    have hfr : ∀ q, q ≠ 270 → g1 q = g q := fun q hq => s3.at (fun j => hq)
    obtain ⟨g2, ap2, f12, f22, o12, o22, u1, u2, u3⟩ := ih (j + 1) g1 ap1 f11 f21 o11 o21 (by omega) hi (LS_fr h (fun q a b => hfr q (by omega))) (zAr_cg hp (by rw [hfr 0 (by omega)])) (zAr_cg hq (by rw [hfr 0 (by omega)])) (pRow_fr hrow (hfr 269 (by omega))) s2
    refine ⟨g2, ap2, f12, f22, o12, o22, ?_, u2, s3.tr u3⟩
    rw [s1, ← u1, Int.natCast_succ]
theorem T4 (xs : List Int) {G : Nat → Int → Int} (th : Int) : ∀ (r i : Nat) (g : Nat → Int → Int) (ap f1 f2 o1 o2 : Int), i + r = nS G 0 → LwS G g → zAr g 269 12 → zAr g 270 12 → Trk (fun s => plS G 0 0 s) (nS G 0) i 0 ap f1 f2 o1 o2 → ∃ g1 ap' f1' f2' o1' o2', zx zblk xs 0 170 [some (.inr (.inr (some 0))), some (.inr (.inr (some pX))), some (.inr (.inr (some 265))), some (.inr (.inr (some 266))), none, none, some (.inl (th)), some (.inr (.inr (some 268))), some (.inr (.inr (some 269))), some (.inr (.inr (some 270))), some (.inl (ap)), some (.inl (f1)), some (.inl (f2)), some (.inl (o1)), some (.inl (o2)), some (.inl ((i : Int)))] [] (HH g) = zx zblk xs 0 560 [some (.inr (.inr (some 0))), some (.inr (.inr (some pX))), some (.inr (.inr (some 265))), some (.inr (.inr (some 266))), none, none, some (.inl (th)), some (.inr (.inr (some 268))), none, none, some (.inl (ap')), some (.inl (f1')), some (.inl (f2')), some (.inl (o1')), some (.inl (o2'))] [] (HH g1) ∧ Trk (fun s => plS G 0 0 s) (nS G 0) (nS G 0) 0 ap' f1' f2' o1' o2' ∧ zFr (fun q _ => q = 269 ∨ q = 270) g g1 := by
  intro r
  induction r with
  | zero =>
    intro i g ap f1 f2 o1 o2 hi h hp hq hT
    have hn := h.n
    have : i = nS G 0 := by omega
    subst this
    refine ⟨g, ap, f1, f2, o1, o2, ?_, hT, zFr.rf⟩
    rw [e_L_law_170, HF_ai h.2.2.2.2.1 (by omega) (by omega), h.2.2.2.2.2.1, if_pos (Int.le_refl _)]
  | succ r ih =>
    intro i g ap f1 f2 o1 o2 hi h hp hq hT
    have hn := h.n
    obtain ⟨g1, s1, s2, s3⟩ := T1 xs h hp (i := i) (by omega) th ap f1 f2 o1 o2
    have hfr : ∀ q, q ≠ 269 → g1 q = g q := fun q hq => s3.at (fun j => hq)
    obtain ⟨g2, ap2, f12, f22, o12, o22, u1, u2, u3⟩ := T3 xs th (nS G 0) 0 g1 ap f1 f2 o1 o2 (by omega) (by omega) (LS_fr h (fun q a b => hfr q (by omega))) (zAr_cg hp (by rw [hfr 0 (by omega)])) (zAr_cg hq (by rw [hfr 0 (by omega)])) s2 hT
    have hfr2 : ∀ q, q ≠ 269 → q ≠ 270 → g2 q = g q := fun q h1 h2 => (u3.at (fun j => h2)).trans (hfr q h1)
    obtain ⟨g3, ap3, f13, f23, o13, o23, v1, v2, v3⟩ := ih (i + 1) g2 ap2 f12 f22 o12 o22 (by omega) (LS_fr h (fun q a b => hfr2 q (by omega) (by omega))) (zAr_cg hp (by rw [hfr2 0 (by omega) (by omega)])) (zAr_cg hq (by rw [hfr2 0 (by omega) (by omega)])) u2
    refine ⟨g3, ap3, f13, f23, o13, o23, ?_, v2, ((s3.mono (fun q j z => Or.inl z)).tr (u3.mono (fun q j z => Or.inr z))).tr v3⟩
    rw [z0N] at u1
    rw [s1, u1, ← v1, Int.natCast_succ]
theorem T5 (xs : List Int) {G g : Nat → Int → Int} (h : LwS G g) {ap f1 f2 o1 o2 : Int} (th : Int) (hT : Trk (fun s => plS G 0 0 s) (nS G 0) (nS G 0) 0 ap f1 f2 o1 o2) : zx zblk xs 0 560 [some (.inr (.inr (some 0))), some (.inr (.inr (some pX))), some (.inr (.inr (some 265))), some (.inr (.inr (some 266))), none, none, some (.inl (th)), some (.inr (.inr (some 268))), none, none, some (.inl (ap)), some (.inl (f1)), some (.inl (f2)), some (.inl (o1)), some (.inl (o2))] [] (HH g) = zx zblk xs 0 646 [some (.inr (.inr (some 0))), some (.inr (.inr (some pX))), some (.inr (.inr (some 265))), some (.inr (.inr (some 266))), none, none, some (.inl (th)), some (.inr (.inr (some 268)))] [] (HH g) := by
  have hn := h.n
  obtain ⟨t1, t2, t3⟩ := hT
  have hcl : ∀ w : Int, zw w = w → zx zblk xs 51 0 [some (.inr (.inr (some pX))), some (.inl (0)), some (.inl (w))] [] (HH g) = some (some (.inl (clS G 0 w)), HH g) := fun w hw => X_clear xs h.1 h.2.1 rfl hw
  have hsr : ∀ w : Int, zw w = w → zx zblk xs 52 0 [some (.inr (.inr (some pX))), some (.inl (0)), some (.inl (w))] [] (HH g) = some (some (.inl (srS G 0 w)), HH g) := fun w hw => X_starts xs h.1 h.2.1 rfl hw
  have hap : apS G 0 = if ap = 99 then -1 else ap := by
    unfold apS
    rw [if_pos h.c1]
    exact apV_eq (ApT_end t1)
  have aprg := ApT_rg t1
  have f1rg := Fst_rg t2 (by omega) (by omega)
  have o1rg := Fst_rg t3 (by omega) (by omega)
  have hal : (f1 = -1 ∧ f2 = -1 ∧ alS G 0 = -1) ∨ ∃ a b : Nat, f1 = a ∧ f2 = b ∧ a < nS G 0 ∧ b < nS G 0 ∧ alS G 0 = 8 * (a : Int) + b := Fst_zfo (Q := fun i j => plS G 0 0 i = plS G 0 0 j) (s := fun i => i + 1) (m := fun i => nS G 0 - (i + 1)) (by omega) (fun i j hj hP => by unfold PLk at hP; omega) (fun i hi => by omega) (fun i j hi h1 h2 => by unfold PLk; exact ⟨fun z => ⟨by omega, z⟩, fun z => z.2⟩) t2
  have hst : (o1 = -1 ∧ o2 = -1 ∧ stS G 0 = -1) ∨ ∃ a b : Nat, o1 = a ∧ o2 = b ∧ a < nS G 0 ∧ b < nS G 0 ∧ stS G 0 = 8 * (a : Int) + b := Fst_zfo (Q := fun i j => (plS G 0 0 i).length < (plS G 0 0 j).length ∧ plS G 0 0 i = (plS G 0 0 j).take (plS G 0 0 i).length) (s := fun _ => 0) (m := fun _ => nS G 0) (by omega) (fun i j hj hP => by omega) (fun i hi => by omega) (fun i j hi h1 h2 => Iff.rfl) t3
  have c0 : clS G 0 0 = if f1 < 0 then 1 else 0 := by
    unfold clS
    rw [if_pos h.c1, if_pos (by omega), if_pos rfl]
    rcases hal with ⟨e1, e2, e3⟩ | ⟨a, b, e1, e2, e3, e4, e5⟩
    · rw [if_pos e3, if_pos (by omega)]
    · rw [if_neg (by omega), if_neg (by omega)]
  have c1 : clS G 0 1 = f1 := by
    unfold clS
    rw [if_pos h.c1, if_pos (by omega), if_neg (by omega)]
    rcases hal with ⟨e1, e2, e3⟩ | ⟨a, b, e1, e2, e3, e4, e5⟩
    · rw [if_pos e3, e1]
    · rw [if_neg (by omega), if_pos rfl, e5, e1, Int.tdiv_eq_ediv_of_nonneg (by omega)]
      omega
  have c2 : clS G 0 2 = f2 := by
    unfold clS
    rw [if_pos h.c1, if_pos (by omega), if_neg (by omega)]
    rcases hal with ⟨e1, e2, e3⟩ | ⟨a, b, e1, e2, e3, e4, e5⟩
    · rw [if_pos e3, e2]
    · rw [if_neg (by omega), if_neg (by omega), e5, e2, Int.tmod_eq_emod_of_nonneg (by omega)]
      omega
  have s0 : srS G 0 0 = o1 := by
    unfold srS
    rw [if_pos h.c1, if_pos (by omega)]
    rcases hst with ⟨e1, e2, e3⟩ | ⟨a, b, e1, e2, e3, e4, e5⟩
    · rw [if_pos e3, e1]
    · rw [if_neg (by omega), if_pos rfl, e5, e1, Int.tdiv_eq_ediv_of_nonneg (by omega)]
      omega
  have s1 : srS G 0 1 = o2 := by
    unfold srS
    rw [if_pos h.c1, if_pos (by omega)]
    rcases hst with ⟨e1, e2, e3⟩ | ⟨a, b, e1, e2, e3, e4, e5⟩
    · rw [if_pos e3, e2]
    · rw [if_neg (by omega), if_neg (by omega), e5, e2, Int.tmod_eq_emod_of_nonneg (by omega)]
      omega
  have e576 : zx zblk xs 0 576 [some (.inr (.inr (some 0))), some (.inr (.inr (some pX))), some (.inr (.inr (some 265))), some (.inr (.inr (some 266))), none, none, some (.inl (th)), some (.inr (.inr (some 268))), none, none, some (.inl (ap)), some (.inl (f1)), some (.inl (f2)), some (.inl (o1)), some (.inl (o2))] [.inl (clS G 0 0), .inl (clS G 0 0)] (HH g) = zx zblk xs 0 646 [some (.inr (.inr (some 0))), some (.inr (.inr (some pX))), some (.inr (.inr (some 265))), some (.inr (.inr (some 266))), none, none, some (.inl (th)), some (.inr (.inr (some 268)))] [] (HH g) := by
    rw [e_L_law_576, if_neg (fun z => z rfl), pX_ck, hcl 1 rfl, zci_ok, c1, if_neg (fun z => z rfl), pX_ck, hcl 2 rfl, zci_ok, c2, if_neg (fun z => z rfl), pX_ck, hsr 0 rfl, zci_ok, s0, if_neg (fun z => z rfl), pX_ck, hsr 1 rfl, zci_ok, s1, if_neg (fun z => z rfl), pX_ck, X_apart xs h.1 h.2.1 rfl, zci_ok, hap, zw_id (a := ap) (by omega) (by omega), show zw 99 = 99 from rfl]
    by_cases a : ap = 99
    · rw [if_neg (fun z => z a), if_pos a, e_L_law_641, if_pos rfl]
    · rw [if_pos a, if_neg a, e_L_law_639, e_L_law_641, if_pos rfl]
  rw [← e576, e_L_law_560, pX_ck, hcl 0 rfl, zci_ok, zw_id (a := f1) (by omega) (by omega), c0]
  by_cases a : f1 < 0
  · rw [if_neg (by omega), if_pos a]
  · rw [if_pos (by omega), if_neg a, e_L_law_575]
