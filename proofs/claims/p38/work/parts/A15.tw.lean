/-! ===== twice: the law's tables filled ===== -/
theorem zand_z1 (P : Prop) [Decidable P] : zand (zb P) 1 = zb P := by
  by_cases h : P
  · rw [zb_t h]; decide
  · rw [zb_f h]; decide
theorem zand_z0 (P : Prop) [Decidable P] : zand (zb P) 0 = 0 := by
  by_cases h : P
  · rw [zb_t h]; decide
  · rw [zb_f h]; decide
def TwA (g : Nat → Int → Int) : Prop := g 0 0 = (14 : Nat)
theorem TwA.p {g : Nat → Int → Int} (h : TwA g) : zAr g 275 12 := zAr_law (k := 10) (N := 14) h rfl (by omega) (by omega)
theorem TwA.q {g : Nat → Int → Int} (h : TwA g) : zAr g 276 12 := zAr_law (k := 11) (N := 14) h rfl (by omega) (by omega)
theorem TwA.far {g : Nat → Int → Int} (h : TwA g) : zAr g 277 64 := zAr_law (k := 12) (N := 14) h rfl (by omega) (by omega)
theorem TwA.more {g : Nat → Int → Int} (h : TwA g) : zAr g 278 32 := zAr_law (k := 13) (N := 14) h rfl (by omega) (by omega)
def scT (q : Nat) (_ : Int) : Prop := q = 275 ∨ q = 276 ∨ q = 277 ∨ q = 278
theorem LS_T {G g g1 : Nat → Int → Int} (h : LwS G g) (hf : zFr scT g g1) : LwS G g1 := LS_fr h (fun q a b => hf.at (fun j => by simp only [scT]; omega))
theorem TwA_T {g g1 : Nat → Int → Int} (h : TwA g) (hf : zFr scT g g1) : TwA g1 := by
  unfold TwA at *
  rw [hf 0 0 (by simp only [scT]; omega)]
  exact h
section TW
variable (xs : List Int)
/-- filled with 999 -/
theorem W0 {g : Nat → Int → Int} (h : TwA g) : ∃ g1, zx zblk xs 91 26 [some (.inr (.inr (some pX))), some (.inr (.inr (some 265))), some (.inr (.inr (some 266))), some (.inr (.inr (some 275))), some (.inr (.inr (some 276))), some (.inr (.inr (some 277))), some (.inr (.inr (some 278))), some (.inl (0))] [] (HH g) = zx zblk xs 91 79 [some (.inr (.inr (some pX))), some (.inr (.inr (some 265))), some (.inr (.inr (some 266))), some (.inr (.inr (some 275))), some (.inr (.inr (some 276))), some (.inr (.inr (some 277))), some (.inr (.inr (some 278))), some (.inl (999)), some (.inl (0))] [] (HH g1) ∧ RpL g1 (fun _ _ => 999, 999) ∧ zFr scT g g1 := by
  have far : ∀ (r k : Nat) (gk : Nat → Int → Int), k + r = 64 → (∀ j : Nat, j < k → gk 277 (j : Int) = 999) → zFr scT g gk → ∃ g1, zx zblk xs 91 26 [some (.inr (.inr (some pX))), some (.inr (.inr (some 265))), some (.inr (.inr (some 266))), some (.inr (.inr (some 275))), some (.inr (.inr (some 276))), some (.inr (.inr (some 277))), some (.inr (.inr (some 278))), some (.inl ((k : Int)))] [] (HH gk) = zx zblk xs 91 50 [some (.inr (.inr (some pX))), some (.inr (.inr (some 265))), some (.inr (.inr (some 266))), some (.inr (.inr (some 275))), some (.inr (.inr (some 276))), some (.inr (.inr (some 277))), some (.inr (.inr (some 278))), some (.inl (0))] [] (HH g1) ∧ (∀ j : Nat, j < 64 → g1 277 (j : Int) = 999) ∧ zFr scT g g1 := by
    intro r
    induction r with
    | zero =>
      intro k gk hk hj hf
      refine ⟨gk, ?_, fun j hj' => hj j (by omega), hf⟩
      rw [e_L_twice_26, if_pos (by rw [show zw 64 = 64 from rfl, zw_id (by omega) (by omega)]; omega), e_L_twice_47]
    | succ r ih =>
      intro k gk hk hj hf
      obtain ⟨g1, s1, s2, s3⟩ := ih (k + 1) (up gk 277 k 999) (by omega) (fun j hj' => by
        by_cases e : j = k
        · subst e; exact up_same _ _ _ _
        · rw [up_ne _ _ (by omega)]; exact hj j (by omega)) (hf.up (q := 277) (Or.inr (Or.inr (Or.inl rfl))))
      refine ⟨g1, ?_, s2, s3⟩
      rw [e_L_twice_26, if_neg (by rw [show zw 64 = 64 from rfl, zw_id (by omega) (by omega)]; omega), HF_st (TwA_T h hf).far (by omega) (by omega), ← s1, Int.natCast_succ]
  have more : ∀ (r k : Nat) (gk : Nat → Int → Int), k + r = 32 → (∀ j : Nat, j < 64 → gk 277 (j : Int) = 999) → (∀ j : Nat, j < k → gk 278 (j : Int) = 999) → zFr scT g gk → ∃ g1, zx zblk xs 91 50 [some (.inr (.inr (some pX))), some (.inr (.inr (some 265))), some (.inr (.inr (some 266))), some (.inr (.inr (some 275))), some (.inr (.inr (some 276))), some (.inr (.inr (some 277))), some (.inr (.inr (some 278))), some (.inl ((k : Int)))] [] (HH gk) = zx zblk xs 91 79 [some (.inr (.inr (some pX))), some (.inr (.inr (some 265))), some (.inr (.inr (some 266))), some (.inr (.inr (some 275))), some (.inr (.inr (some 276))), some (.inr (.inr (some 277))), some (.inr (.inr (some 278))), some (.inl (999)), some (.inl (0))] [] (HH g1) ∧ (∀ j : Nat, j < 64 → g1 277 (j : Int) = 999) ∧ (∀ j : Nat, j < 32 → g1 278 (j : Int) = 999) ∧ zFr scT g g1 := by
    intro r
    induction r with
    | zero =>
      intro k gk hk h7 hj hf
      refine ⟨gk, ?_, h7, fun j hj' => hj j (by omega), hf⟩
      rw [e_L_twice_50, if_pos (by rw [show zw 32 = 32 from rfl, zw_id (by omega) (by omega)]; omega), e_L_twice_71]
    | succ r ih =>
      intro k gk hk h7 hj hf
      obtain ⟨g1, s1, s2, s3⟩ := ih (k + 1) (up gk 278 k 999) (by omega) (fun j hj' => by rw [up_p _ _ _ (by omega)]; exact h7 j hj') (fun j hj' => by
        by_cases e : j = k
        · subst e; exact up_same _ _ _ _
        · rw [up_ne _ _ (by omega)]; exact hj j (by omega)) (hf.up (q := 278) (Or.inr (Or.inr (Or.inr rfl))))
      refine ⟨g1, ?_, s2, s3⟩
      rw [e_L_twice_50, if_neg (by rw [show zw 32 = 32 from rfl, zw_id (by omega) (by omega)]; omega), HF_st (TwA_T h hf).more (by omega) (by omega), ← s1, Int.natCast_succ]
  obtain ⟨ga, a1, a2, a3⟩ := far 64 0 g (by omega) (fun j hj => by omega) zFr.rf
  obtain ⟨gb, b1, b2, b3, b4⟩ := more 32 0 ga (by omega) a2 (fun j hj => by omega) a3
  rw [z0N] at a1 b1
  refine ⟨gb, a1.trans b1, fun j f h1 h2 h3 => ?_, b4⟩
  show gb (plT f) (ixT j f) = 999
  unfold plT ixT
  by_cases c : f < 8
  · rw [if_pos c, if_pos c, show 8 * (f : Int) + j = ((8 * f + j : Nat) : Int) by omega]
    exact b2 _ (by omega)
  · rw [if_neg c, if_neg c, show 8 * (f : Int) - 64 + j = ((8 * f - 64 + j : Nat) : Int) by omega]
    exact b3 _ (by omega)
theorem W1cmp {g : Nat → Int → Int} {p q : List Int} (hT : TwA g) (h1 : pRow g 275 p) (h2 : pRow g 276 q) (l1 : p.length ≤ 10) (l2 : q.length ≤ 10) (hl : p.length ≤ q.length) (r1 : isR7 p) (r2 : isR7 q) (b i j : Int) : ∀ (r k : Nat), k + r = p.length → zx zblk xs 91 149 [some (.inr (.inr (some pX))), some (.inr (.inr (some 265))), some (.inr (.inr (some 266))), some (.inr (.inr (some 275))), some (.inr (.inr (some 276))), some (.inr (.inr (some 277))), some (.inr (.inr (some 278))), some (.inl (b)), some (.inl (i)), some (.inl (j)), some (.inl (zb (p.take k = q.take k))), some (.inl ((k : Int) + 1))] [] (HH g) = zx zblk xs 91 185 [some (.inr (.inr (some pX))), some (.inr (.inr (some 265))), some (.inr (.inr (some 266))), some (.inr (.inr (some 275))), some (.inr (.inr (some 276))), some (.inr (.inr (some 277))), some (.inr (.inr (some 278))), some (.inl (b)), some (.inl (i)), some (.inl (j)), some (.inl (zb (p = q.take p.length)))] [] (HH g) := by
  have hp := hT.p
  have hq := hT.q
  intro r
  induction r with
  | zero =>
    intro k hk
    have : k = p.length := by omega
    subst this
    rw [e_L_twice_149, HF_ai hp (by omega) (by omega), h1.1, if_pos (by rw [zw_id (by omega) (by omega), zw_id (by omega) (by omega)]; omega), List.take_length]
  | succ r ih =>
    intro k hk
    have b1 := isR7_get r1 (k := k) (by omega)
    have b2 := isR7_get r2 (k := k) (by omega)
    have hts := take_succ_eq (A := p) (B := q) (k := k) (by omega) (by omega)
    have goal := ih (k + 1) (by omega)
    rw [Int.natCast_succ] at goal
    rw [e_L_twice_149, HF_ai hp (by omega) (by omega), h1.1, if_neg (by rw [zw_id (by omega) (by omega), zw_id (by omega) (by omega)]; omega), HF_ai hp (by omega) (by omega), h1.2 k (by omega), HF_ai hq (by omega) (by omega), h2.2 k (by omega), zw_id (by omega) (by omega), zw_id (by omega) (by omega)]
    by_cases e : p[k] = q[k]
    · have ez : zb (p.take k = q.take k) = zb (p.take (k + 1) = q.take (k + 1)) := by
        unfold zb
        congr 1
        rw [hts]
        simp [e]
      rw [if_neg (fun z => z e), e_L_twice_176, zand_z1, ez]
      exact goal
    · rw [if_pos e, e_L_twice_175, e_L_twice_176, zand_z0]
      rw [zb_f (fun z => e (hts.mp z).2)] at goal
      exact goal
set_option maxRecDepth 100000 in
/-- a pair looked at: where rows may begin -/
theorem W1 {G g : Nat → Int → Int} (h : LwS G g) (hT : TwA g) {s : zFd} (hs : RpL g s) (hok : okL (fun s : Nat => plS G 0 0 s) (nS G 0) s) {i j : Nat} (hi : i < nS G 0) (hj : j < nS G 0) : ∃ g1 s1, zx zblk xs 91 90 [some (.inr (.inr (some pX))), some (.inr (.inr (some 265))), some (.inr (.inr (some 266))), some (.inr (.inr (some 275))), some (.inr (.inr (some 276))), some (.inr (.inr (some 277))), some (.inr (.inr (some 278))), some (.inl (s.2)), some (.inl ((i : Int))), some (.inl ((j : Int)))] [] (HH g) = zx zblk xs 91 90 [some (.inr (.inr (some pX))), some (.inr (.inr (some 265))), some (.inr (.inr (some 266))), some (.inr (.inr (some 275))), some (.inr (.inr (some 276))), some (.inr (.inr (some 277))), some (.inr (.inr (some 278))), some (.inl (s1.2)), some (.inl ((i : Int))), some (.inl ((j : Int) + 1))] [] (HH g1) ∧ RpL g1 s1 ∧ onL (fun s : Nat => plS G 0 0 s) (nS G 0) s s1 ∧ prS (fun s : Nat => plS G 0 0 s) (nS G 0) (fun a b => a = i ∧ b = j) s1 ∧ zFr scT g g1 := by
  have hn := h.n
  obtain ⟨l1, r1⟩ := h.pl hi 0
  obtain ⟨l2, r2⟩ := h.pl hj 0
  obtain ⟨ga, a1, a2, a3⟩ := L_speech xs h hi hT.p (by omega) (by omega) (st := 0) (by omega)
  have fa : zFr scT g ga := a3.mono (fun q j z => Or.inl z)
  have ha := LS_T h fa
  have hTa := TwA_T hT fa
  obtain ⟨gb, b1, b2, b3⟩ := L_speech xs ha hj hTa.q (by omega) (by omega) (st := 0) (by omega)
  have fb : zFr scT ga gb := b3.mono (fun q j z => Or.inr (Or.inl z))
  have hTb := TwA_T hTa fb
  have rowp : pRow gb 275 (plS G 0 0 i) := pRow_fr a2 (b3.at (fun j => by omega))
  have hsb : RpL gb s := RpL_fr hs (by rw [b3.at (fun j => by omega), a3.at (fun j => by omega)]) (by rw [b3.at (fun j => by omega), a3.at (fun j => by omega)])
  have fab := fa.tr fb
  have hc0 := h.2.2.2.2.1
  have e272 : ∀ (b : Int) (gx : Nat → Int → Int), zx zblk xs 91 272 [some (.inr (.inr (some pX))), some (.inr (.inr (some 265))), some (.inr (.inr (some 266))), some (.inr (.inr (some 275))), some (.inr (.inr (some 276))), some (.inr (.inr (some 277))), some (.inr (.inr (some 278))), some (.inl (b)), some (.inl ((i : Int))), some (.inl ((j : Int)))] [] (HH gx) = zx zblk xs 91 90 [some (.inr (.inr (some pX))), some (.inr (.inr (some 265))), some (.inr (.inr (some 266))), some (.inr (.inr (some 275))), some (.inr (.inr (some 276))), some (.inr (.inr (some 277))), some (.inr (.inr (some 278))), some (.inl (b)), some (.inl ((i : Int))), some (.inl ((j : Int) + 1))] [] (HH gx) := fun b gx => e_L_twice_272 xs _ _ _ _ _ _ _ _ _ _ _
  have b2s := hok.2
  generalize hL : (fun s : Nat => plS G 0 0 s) = L at hok ⊢
  have eLi : plS G 0 0 i = L i := by rw [← hL]
  have eLj : plS G 0 0 j = L j := by rw [← hL]
  rw [eLi] at l1 r1 rowp
  rw [eLj] at l2 r2 b2
  have e0 : zx zblk xs 91 90 [some (.inr (.inr (some pX))), some (.inr (.inr (some 265))), some (.inr (.inr (some 266))), some (.inr (.inr (some 275))), some (.inr (.inr (some 276))), some (.inr (.inr (some 277))), some (.inr (.inr (some 278))), some (.inl (s.2)), some (.inl ((i : Int))), some (.inl ((j : Int)))] [] (HH g) = if i = j then zx zblk xs 91 272 [some (.inr (.inr (some pX))), some (.inr (.inr (some 265))), some (.inr (.inr (some 266))), some (.inr (.inr (some 275))), some (.inr (.inr (some 276))), some (.inr (.inr (some 277))), some (.inr (.inr (some 278))), some (.inl (s.2)), some (.inl ((i : Int))), some (.inl ((j : Int)))] [] (HH gb) else if (L i).length = 0 then zx zblk xs 91 272 [some (.inr (.inr (some pX))), some (.inr (.inr (some 265))), some (.inr (.inr (some 266))), some (.inr (.inr (some 275))), some (.inr (.inr (some 276))), some (.inr (.inr (some 277))), some (.inr (.inr (some 278))), some (.inl (s.2)), some (.inl ((i : Int))), some (.inl ((j : Int)))] [] (HH gb) else if (L i).length ≤ (L j).length then zx zblk xs 91 143 [some (.inr (.inr (some pX))), some (.inr (.inr (some 265))), some (.inr (.inr (some 266))), some (.inr (.inr (some 275))), some (.inr (.inr (some 276))), some (.inr (.inr (some 277))), some (.inr (.inr (some 278))), some (.inl (s.2)), some (.inl ((i : Int))), some (.inl ((j : Int)))] [] (HH gb) else zx zblk xs 91 272 [some (.inr (.inr (some pX))), some (.inr (.inr (some 265))), some (.inr (.inr (some 266))), some (.inr (.inr (some 275))), some (.inr (.inr (some 276))), some (.inr (.inr (some 277))), some (.inr (.inr (some 278))), some (.inl (s.2)), some (.inl ((i : Int))), some (.inl ((j : Int)))] [] (HH gb) := by
    rw [e_L_twice_90, HF_ai hc0 (by omega) (by omega), h.2.2.2.2.2.1, if_neg (by rw [zw_id (by omega) (by omega), zw_id (by omega) (by omega)]; omega), a1, zcv_ok, b1, zcv_ok, zw_id (a := (i : Int)) (by omega) (by omega), zw_id (a := (j : Int)) (by omega) (by omega)]
    by_cases c1 : i = j
    · rw [if_pos (by omega), if_pos c1]
    · rw [if_neg (by omega), if_neg c1, HF_ai hTb.p (by omega) (by omega), rowp.1, zw_id (a := ((L i).length : Int)) (by omega) (by omega)]
      by_cases c2 : (L i).length = 0
      · rw [if_pos (by omega), if_pos c2]
      · rw [if_neg (by omega), if_neg c2, HF_ai hTb.p (by omega) (by omega), rowp.1, HF_ai hTb.q (by omega) (by omega), b2.1, zw_id (a := ((L i).length : Int)) (by omega) (by omega), zw_id (a := ((L j).length : Int)) (by omega) (by omega)]
        by_cases c3 : (L i).length ≤ (L j).length
        · rw [if_pos (by omega), if_pos c3]
        · rw [if_neg (by omega), if_neg c3]
  have none' : (¬ stt L (nS G 0) i j) → prS L (nS G 0) (fun a b => a = i ∧ b = j) s := fun hne a b hab st => by
    rw [hab.1, hab.2] at st
    exact absurd st hne
  rw [e0]
  by_cases c1 : i = j
  · exact ⟨gb, s, by rw [if_pos c1, e272], hsb, onL_rf hok, none' (fun z => z.2.2.1 c1), fab⟩
  · by_cases c2 : (L i).length = 0
    · exact ⟨gb, s, by rw [if_neg c1, if_pos c2, e272], hsb, onL_rf hok, none' (fun z => by have := z.2.2.2.1; omega), fab⟩
    · by_cases c3 : (L i).length ≤ (L j).length
      · have cm := W1cmp xs hTb rowp b2 l1 l2 c3 r1 r2 s.2 i j (L i).length 0 (by omega)
        have z0 : zb ((L i).take 0 = (L j).take 0) = 1 := zb_t (by rw [List.take_zero, List.take_zero])
        rw [z0, z0N, Int.zero_add] at cm
        have hag : L i = (L j).take (L i).length ↔ agr L j 0 i := by
          unfold agr
          rw [List.drop_zero, Nat.sub_zero, List.take_of_length_le (l := L i) c3]
          exact eq_comm
        by_cases c4 : L i = (L j).take (L i).length
        · have st : stt L (nS G 0) i j := ⟨hi, hj, c1, by omega, c3, hag.mp c4⟩
          have e193 : zx zblk xs 91 143 [some (.inr (.inr (some pX))), some (.inr (.inr (some 265))), some (.inr (.inr (some 266))), some (.inr (.inr (some 275))), some (.inr (.inr (some 276))), some (.inr (.inr (some 277))), some (.inr (.inr (some 278))), some (.inl (s.2)), some (.inl ((i : Int))), some (.inl ((j : Int)))] [] (HH gb) = zx zblk xs 91 193 [some (.inr (.inr (some pX))), some (.inr (.inr (some 265))), some (.inr (.inr (some 266))), some (.inr (.inr (some 275))), some (.inr (.inr (some 276))), some (.inr (.inr (some 277))), some (.inr (.inr (some 278))), some (.inl (s.2)), some (.inl ((i : Int))), some (.inl ((j : Int)))] [] (HH gb) := by
            rw [e_L_twice_143, cm, zb_t c4, e_L_twice_185, if_pos (by decide)]
          rw [if_neg c1, if_neg c2, if_pos c3, e193, e_L_twice_193, HF_ai hTb.p (by omega) (by omega), rowp.1, HF_ai hTb.q (by omega) (by omega), b2.1, zw_id (a := ((L i).length : Int)) (by omega) (by omega), zw_id (a := ((L j).length : Int)) (by omega) (by omega)]
          by_cases c5 : (L i).length = (L j).length
          · rw [if_neg (fun z => z (by omega)), HF_ai hTb.q (by omega) (by omega), b2.1, zw_id (a := s.2) (by omega) (by omega), zw_id (a := ((L j).length : Int)) (by omega) (by omega)]
            by_cases c6 : s.2 ≤ (L j).length
            · refine ⟨gb, s, by rw [if_pos c6, e_L_twice_219, e_L_twice_221, e272], hsb, onL_rf hok, fun a b hab _ => ?_, fab⟩
              rw [hab.1, hab.2]
              exact ⟨fun z => by omega, fun _ => c6⟩
            · refine ⟨gb, bsL s (L j).length, ?_, RpL_bs hsb, bsL_on hok (Or.inl ⟨i, j, st, c5, rfl⟩) (by omega) (by omega), fun a b hab _ => ?_, fab⟩
              · rw [if_neg c6, HF_ai hTb.q (by omega) (by omega), b2.1, e_L_twice_221, e272]
                rfl
              · rw [hab.1, hab.2]
                exact ⟨fun z => by omega, fun _ => Int.le_refl _⟩
          · have c6 : (L i).length < (L j).length := by omega
            have hR : Rch L (nS G 0) j (L i).length (L j).length := ⟨0, i, st, c6, rfl, rfl⟩
            have hle : ((L j).length : Int) ≤ s.1 j (L i).length := by
              have h0 := hok.1 j (L i).length
              by_cases c7 : s.1 j (L i).length < 999
              · obtain ⟨t, ht⟩ := h0.2.2 c7
                exact Rch_ge ht
              · omega
            have hst := RpL_st hsb (j := j) (f := (L i).length) (by omega) (by omega) ((L j).length : Int)
            refine ⟨up gb (plT (L i).length) (ixT j (L i).length) (L j).length, stL s j (L i).length (L j).length, ?_, hst, stL_on hok hR hle, fun a b hab _ => ?_, fab.up (by unfold plT; simp only [scT]; split <;> omega)⟩
            · rw [if_pos (by omega), e_L_twice_226, HF_ai hTb.p (by omega) (by omega), rowp.1, show zw 8 = 8 from rfl, zw_id (a := ((L i).length : Int)) (by omega) (by omega)]
              unfold plT ixT
              by_cases c7 : (L i).length < 8
              · rw [if_neg (by omega), if_pos c7, if_pos c7, HF_ai hTb.p (by omega) (by omega), rowp.1, HF_ai hTb.q (by omega) (by omega), b2.1, HF_st hTb.far (by omega) (by omega), e272]
                rfl
              · rw [if_pos (by omega), if_neg c7, if_neg c7, e_L_twice_253, HF_ai hTb.p (by omega) (by omega), rowp.1, HF_ai hTb.q (by omega) (by omega), b2.1, HF_st hTb.more (by omega) (by omega), e272]
                rfl
            · rw [hab.1, hab.2]
              exact ⟨fun _ => by rw [stL_at]; exact Int.le_refl _, fun z => by omega⟩
        · have e193 : zx zblk xs 91 143 [some (.inr (.inr (some pX))), some (.inr (.inr (some 265))), some (.inr (.inr (some 266))), some (.inr (.inr (some 275))), some (.inr (.inr (some 276))), some (.inr (.inr (some 277))), some (.inr (.inr (some 278))), some (.inl (s.2)), some (.inl ((i : Int))), some (.inl ((j : Int)))] [] (HH gb) = zx zblk xs 91 272 [some (.inr (.inr (some pX))), some (.inr (.inr (some 265))), some (.inr (.inr (some 266))), some (.inr (.inr (some 275))), some (.inr (.inr (some 276))), some (.inr (.inr (some 277))), some (.inr (.inr (some 278))), some (.inl (s.2)), some (.inl ((i : Int))), some (.inl ((j : Int)))] [] (HH gb) := by
            rw [e_L_twice_143, cm, zb_f c4, e_L_twice_185, if_neg (by decide)]
          exact ⟨gb, s, by rw [if_neg c1, if_neg c2, if_pos c3, e193, e272], hsb, onL_rf hok, none' (fun z => c4 (hag.mpr z.2.2.2.2.2)), fab⟩
      · exact ⟨gb, s, by rw [if_neg c1, if_neg c2, if_neg c3, e272], hsb, onL_rf hok, none' (fun z => by have := z.2.2.2.2.1; omega), fab⟩
theorem prS_onL {L : Nat → List Int} {n : Nat} {D : Nat → Nat → Prop} {s s' : zFd} (h : prS L n D s) (o : onL L n s s') : prS L n D s' := fun i j d st => ⟨fun z => Int.le_trans (o.2.1 _ _) ((h i j d st).1 z), fun z => Int.le_trans o.2.2 ((h i j d st).2 z)⟩
theorem W1j {G : Nat → Int → Int} {i : Nat} (hi : i < nS G 0) : ∀ (r j : Nat) (g : Nat → Int → Int) (s : zFd), j + r = nS G 0 → LwS G g → TwA g → RpL g s → okL (fun s : Nat => plS G 0 0 s) (nS G 0) s → prS (fun s : Nat => plS G 0 0 s) (nS G 0) (fun a b => a < i ∨ (a = i ∧ b < j)) s → ∃ g1 s1, zx zblk xs 91 90 [some (.inr (.inr (some pX))), some (.inr (.inr (some 265))), some (.inr (.inr (some 266))), some (.inr (.inr (some 275))), some (.inr (.inr (some 276))), some (.inr (.inr (some 277))), some (.inr (.inr (some 278))), some (.inl (s.2)), some (.inl ((i : Int))), some (.inl ((j : Int)))] [] (HH g) = zx zblk xs 91 79 [some (.inr (.inr (some pX))), some (.inr (.inr (some 265))), some (.inr (.inr (some 266))), some (.inr (.inr (some 275))), some (.inr (.inr (some 276))), some (.inr (.inr (some 277))), some (.inr (.inr (some 278))), some (.inl (s1.2)), some (.inl ((i : Int) + 1))] [] (HH g1) ∧ RpL g1 s1 ∧ onL (fun s : Nat => plS G 0 0 s) (nS G 0) s s1 ∧ prS (fun s : Nat => plS G 0 0 s) (nS G 0) (fun a _ => a < i + 1) s1 ∧ zFr scT g g1 := by
  intro r
  induction r with
  | zero =>
    intro j g s hj h hT hs hok hp
    have hn := h.n
    have : j = nS G 0 := by omega
    subst this
    refine ⟨g, s, ?_, hs, onL_rf hok, fun a b hab st => hp a b ?_ st, zFr.rf⟩
    · rw [e_L_twice_90, HF_ai h.2.2.2.2.1 (by omega) (by omega), h.2.2.2.2.2.1, if_pos (Int.le_refl _), e_L_twice_278]
    · have := st.2.1
      omega
  | succ r ih =>
    intro j g s hj h hT hs hok hp
    obtain ⟨g1, s1, a1, a2, a3, a4, a5⟩ := W1 xs h hT hs hok hi (j := j) (by omega)
    obtain ⟨g2, s2, b1, b2, b3, b4, b5⟩ := ih (j + 1) g1 s1 (by omega) (LS_T h a5) (TwA_T hT a5) a2 a3.1 (fun a b hab st => by
      by_cases e : a = i ∧ b = j
      · exact a4 a b e st
      · exact prS_onL hp a3 a b (by omega) st)
    refine ⟨g2, s2, ?_, b2, onL_tr a3 b3, b4, a5.tr b5⟩
    rw [a1, ← b1, Int.natCast_succ]
theorem W1i {G : Nat → Int → Int} : ∀ (r i : Nat) (g : Nat → Int → Int) (s : zFd), i + r = nS G 0 → LwS G g → TwA g → RpL g s → okL (fun s : Nat => plS G 0 0 s) (nS G 0) s → prS (fun s : Nat => plS G 0 0 s) (nS G 0) (fun a _ => a < i) s → ∃ g1 s1, zx zblk xs 91 79 [some (.inr (.inr (some pX))), some (.inr (.inr (some 265))), some (.inr (.inr (some 266))), some (.inr (.inr (some 275))), some (.inr (.inr (some 276))), some (.inr (.inr (some 277))), some (.inr (.inr (some 278))), some (.inl (s.2)), some (.inl ((i : Int)))] [] (HH g) = zx zblk xs 91 287 [some (.inr (.inr (some pX))), some (.inr (.inr (some 265))), some (.inr (.inr (some 266))), some (.inr (.inr (some 275))), some (.inr (.inr (some 276))), some (.inr (.inr (some 277))), some (.inr (.inr (some 278))), some (.inl (s1.2)), some (.inl (1))] [] (HH g1) ∧ RpL g1 s1 ∧ okL (fun s : Nat => plS G 0 0 s) (nS G 0) s1 ∧ stC (fun s : Nat => plS G 0 0 s) (nS G 0) s1 ∧ zFr scT g g1 := by
  intro r
  induction r with
  | zero =>
    intro i g s hi h hT hs hok hp
    have hn := h.n
    have : i = nS G 0 := by omega
    subst this
    refine ⟨g, s, ?_, hs, hok, prS_all hp (fun a b st => st.1), zFr.rf⟩
    rw [e_L_twice_79, HF_ai h.2.2.2.2.1 (by omega) (by omega), h.2.2.2.2.2.1, if_pos (Int.le_refl _), e_L_twice_284]
  | succ r ih =>
    intro i g s hi h hT hs hok hp
    have hn := h.n
    obtain ⟨g1, s1, a1, a2, a3, a4, a5⟩ := W1j xs (i := i) (by omega) (nS G 0) 0 g s (by omega) h hT hs hok (fun a b hab st => hp a b (by omega) st)
    rw [z0N] at a1
    obtain ⟨g2, s2, b1, b2, b3, b4, b5⟩ := ih (i + 1) g1 s1 (by omega) (LS_T h a5) (TwA_T hT a5) a2 a3.1 a4
    refine ⟨g2, s2, ?_, b2, b3, b4, a5.tr b5⟩
    rw [e_L_twice_79, HF_ai h.2.2.2.2.1 (by omega) (by omega), h.2.2.2.2.2.1, if_neg (by rw [zw_id (by omega) (by omega), zw_id (by omega) (by omega)]; omega), a1, ← b1, Int.natCast_succ]
end TW
