/-! ===== twice: tails against speeches ===== -/
theorem zor01 : zor 0 0 = 0 ∧ zor 1 0 = 1 ∧ zor 0 1 = 1 ∧ zor 1 1 = 1 := by decide +kernel
section TW2
variable (xs : List Int)
theorem W2cmp {g : Nat → Int → Int} {p q : List Int} (hT : TwA g) (h1 : pRow g 275 p) (h2 : pRow g 276 q) (l1 : p.length ≤ 10) (l2 : q.length ≤ 10) {f : Nat} (hf : f < q.length) (r1 : isR7 p) (r2 : isR7 q) (b y j ln i : Int) : ∀ (r k : Nat), k + r = min (q.length - f) p.length → zx zblk xs 91 417 [some (.inr (.inr (some pX))), some (.inr (.inr (some 265))), some (.inr (.inr (some 266))), some (.inr (.inr (some 275))), some (.inr (.inr (some 276))), some (.inr (.inr (some 277))), some (.inr (.inr (some 278))), some (.inl (b)), some (.inl (y)), some (.inl (j)), some (.inl ((f : Int))), some (.inl (ln)), some (.inl (i)), some (.inl (((q.length - f : Nat) : Int))), some (.inl (zb (p.take k = (q.drop f).take k))), some (.inl ((k : Int) + 1))] [] (HH g) = zx zblk xs 91 463 [some (.inr (.inr (some pX))), some (.inr (.inr (some 265))), some (.inr (.inr (some 266))), some (.inr (.inr (some 275))), some (.inr (.inr (some 276))), some (.inr (.inr (some 277))), some (.inr (.inr (some 278))), some (.inl (b)), some (.inl (y)), some (.inl (j)), some (.inl ((f : Int))), some (.inl (ln)), some (.inl (i)), some (.inl (((q.length - f : Nat) : Int))), some (.inl (zb (p.take (min (q.length - f) p.length) = (q.drop f).take (min (q.length - f) p.length))))] [] (HH g) := by
  have hp := hT.p
  have hq := hT.q
  have hdl : (q.drop f).length = q.length - f := List.length_drop
  intro r
  induction r with
  | zero =>
    intro k hk
    rw [e_L_twice_417, HF_ai hp (by omega) (by omega), h1.1, show min (q.length - f) p.length = k by omega]
    by_cases a : p.length < k + 1
    · rw [if_pos (by rw [zw_id (by omega) (by omega), zw_id (by omega) (by omega)]; omega)]
    · rw [if_neg (by rw [zw_id (by omega) (by omega), zw_id (by omega) (by omega)]; omega), if_pos (by rw [zw_id (by omega) (by omega), zw_id (by omega) (by omega)]; omega)]
  | succ r ih =>
    intro k hk
    have b1 := isR7_get r1 (k := k) (by omega)
    have b2 := isR7_get r2 (k := f + k) (by omega)
    have hts := take_succ_eq (A := p) (B := q.drop f) (k := k) (by omega) (by omega)
    have hd : (q.drop f)[k]'(by omega) = q[f + k] := List.getElem_drop
    have goal := ih (k + 1) (by omega)
    rw [Int.natCast_succ] at goal
    have hqk : g 276 ((f : Int) + ((k : Int) + 1)) = q[f + k] := by
      rw [← h2.2 (f + k) (by omega), show (f : Int) + ((k : Int) + 1) = ((f + k : Nat) : Int) + 1 by omega]
    rw [e_L_twice_417, HF_ai hp (by omega) (by omega), h1.1, if_neg (by rw [zw_id (by omega) (by omega), zw_id (by omega) (by omega)]; omega), if_neg (by rw [zw_id (by omega) (by omega), zw_id (by omega) (by omega)]; omega), HF_ai hp (by omega) (by omega), h1.2 k (by omega), HF_ai hq (by omega) (by omega), hqk, zw_id (by omega) (by omega), zw_id (by omega) (by omega)]
    rw [hd] at hts
    by_cases e : p[k] = q[f + k]
    · have ez : zb (p.take k = (q.drop f).take k) = zb (p.take (k + 1) = (q.drop f).take (k + 1)) := by
        unfold zb
        congr 1
        rw [hts]
        simp [e]
      rw [if_neg (fun z => z e), e_L_twice_454, zand_z1, ez]
      exact goal
    · rw [if_pos e, e_L_twice_453, e_L_twice_454, zand_z0]
      rw [zb_f (fun z => e (hts.mp z).2)] at goal
      exact goal
/-- a tail's place read -/
theorem tb_rd {g : Nat → Int → Int} (hT : TwA g) {s : zFd} (hs : RpL g s) {j f : Nat} (hj : j < 8) (hf : 1 ≤ f ∧ f ≤ 10) (k : Int → Option zR) (v : Option zR) (h8 : 8 ≤ f → v = zai xs (HH g) (some 278) (8 * (f : Int) - 64 + j) k) : (if (8 : Int) ≤ (f : Int) then v else zai xs (HH g) (some 277) (8 * (f : Int) + j) k) = k (s.1 j f) := by
  have h0 := hs j f hj hf.1 hf.2
  unfold plT ixT at h0
  by_cases c : f < 8
  · rw [if_pos c, if_pos c] at h0
    rw [if_neg (by omega), HF_ai hT.far (by omega) (by omega), h0]
  · rw [if_neg c, if_neg c] at h0
    rw [if_pos (by omega), h8 (by omega), HF_ai hT.more (by omega) (by omega), h0]
theorem tb_wr {g : Nat → Int → Int} (hT : TwA g) {j f : Nat} (hj : j < 8) (hf : 1 ≤ f ∧ f ≤ 10) (x : Int) (k : zH → Option zR) (v : Option zR) (h8 : 8 ≤ f → v = zst (HH g) (some 278) 100 (8 * (f : Int) - 64 + j) (.inl x) k) : (if (8 : Int) ≤ (f : Int) then v else zst (HH g) (some 277) 100 (8 * (f : Int) + j) (.inl x) k) = k (HH (up g (plT f) (ixT j f) x)) := by
  unfold plT ixT
  by_cases c : f < 8
  · rw [if_neg (by omega), if_pos c, if_pos c, HF_st hT.far (by omega) (by omega)]
  · rw [if_pos (by omega), if_neg c, if_neg c, h8 (by omega), HF_st hT.more (by omega) (by omega)]
/-- a tail is come to by a row that long -/
theorem W2to {g : Nat → Int → Int} (hT : TwA g) {L : Nat → List Int} {n : Nat} {s : zFd} (hs : RpL g s) (hok : okL L n s) {y : Int} (hy : y = 0 ∨ y = 1) {to who : Nat} (hw : who < 8) (ht : 1 ≤ to ∧ to ≤ 10) {v : Int} (hv : Rch L n who to v) (hv2 : v ≤ 2000) (j f ln i : Int) : ∃ g1 s1 y1, zx zblk xs 91 575 [some (.inr (.inr (some pX))), some (.inr (.inr (some 265))), some (.inr (.inr (some 266))), some (.inr (.inr (some 275))), some (.inr (.inr (some 276))), some (.inr (.inr (some 277))), some (.inr (.inr (some 278))), some (.inl (s.2)), some (.inl (y)), some (.inl (j)), some (.inl (f)), some (.inl (ln)), some (.inl (i)), none, none, some (.inl ((to : Int))), some (.inl ((who : Int)))] [.inl v] (HH g) = zx zblk xs 91 666 [some (.inr (.inr (some pX))), some (.inr (.inr (some 265))), some (.inr (.inr (some 266))), some (.inr (.inr (some 275))), some (.inr (.inr (some 276))), some (.inr (.inr (some 277))), some (.inr (.inr (some 278))), some (.inl (s1.2)), some (.inl (y1)), some (.inl (j)), some (.inl (f)), some (.inl (ln)), some (.inl (i))] [] (HH g1) ∧ RpL g1 s1 ∧ onL L n s s1 ∧ Fl s y s1 y1 ∧ s1.1 who to ≤ v ∧ zFr (fun q _ => q = 277 ∨ q = 278) g g1 := by
  obtain ⟨t, htt⟩ := id hv
  have hr := (Rch_rg htt).2.2.2
  have h0 := hok.1 who to
  have e575 : zx zblk xs 91 575 [some (.inr (.inr (some pX))), some (.inr (.inr (some 265))), some (.inr (.inr (some 266))), some (.inr (.inr (some 275))), some (.inr (.inr (some 276))), some (.inr (.inr (some 277))), some (.inr (.inr (some 278))), some (.inl (s.2)), some (.inl (y)), some (.inl (j)), some (.inl (f)), some (.inl (ln)), some (.inl (i)), none, none, some (.inl ((to : Int))), some (.inl ((who : Int)))] [.inl v] (HH g) = zx zblk xs 91 612 [some (.inr (.inr (some pX))), some (.inr (.inr (some 265))), some (.inr (.inr (some 266))), some (.inr (.inr (some 275))), some (.inr (.inr (some 276))), some (.inr (.inr (some 277))), some (.inr (.inr (some 278))), some (.inl (s.2)), some (.inl (y)), some (.inl (j)), some (.inl (f)), some (.inl (ln)), some (.inl (i)), none, none, some (.inl ((to : Int))), some (.inl ((who : Int))), some (.inl (v))] [.inl (s.1 who to)] (HH g) := by
    rw [e_L_twice_575, show zw 8 = 8 from rfl, zw_id (a := (to : Int)) (by omega) (by omega)]
    exact tb_rd xs hT hs hw ht (fun a1 => zx zblk xs 91 612 [some (.inr (.inr (some pX))), some (.inr (.inr (some 265))), some (.inr (.inr (some 266))), some (.inr (.inr (some 275))), some (.inr (.inr (some 276))), some (.inr (.inr (some 277))), some (.inr (.inr (some 278))), some (.inl (s.2)), some (.inl (y)), some (.inl (j)), some (.inl (f)), some (.inl (ln)), some (.inl (i)), none, none, some (.inl ((to : Int))), some (.inl ((who : Int))), some (.inl (v))] [.inl a1] (HH g)) _ (fun _ => by rw [e_L_twice_598])
  rw [e575, e_L_twice_612, zw_id (a := v) (by omega) (by omega), zw_id (a := s.1 who to) (by omega) (by omega)]
  by_cases c : v < s.1 who to
  · have hst := RpL_st hs hw ht v
    refine ⟨up g (plT to) (ixT who to) v, stL s who to v, 1, ?_, hst, stL_on hok hv (by omega), ⟨Or.inr rfl, fun z => absurd z (by decide), fun _ => Or.inr (Or.inl ⟨who, to, hw, ht.1, ht.2, by rw [stL_at]; exact c⟩)⟩, by rw [stL_at]; exact Int.le_refl _, zFr.rf.up (by unfold plT; split <;> omega)⟩
    rw [if_pos c, e_L_twice_624, show zw 8 = 8 from rfl, zw_id (a := (to : Int)) (by omega) (by omega)]
    refine (tb_wr hT hw ht v (fun h1 => zx zblk xs 91 663 [some (.inr (.inr (some pX))), some (.inr (.inr (some 265))), some (.inr (.inr (some 266))), some (.inr (.inr (some 275))), some (.inr (.inr (some 276))), some (.inr (.inr (some 277))), some (.inr (.inr (some 278))), some (.inl (s.2)), none, some (.inl (j)), some (.inl (f)), some (.inl (ln)), some (.inl (i))] [] h1) _ (fun _ => by rw [e_L_twice_647])).trans ?_
    show zx zblk xs 91 663 [some (.inr (.inr (some pX))), some (.inr (.inr (some 265))), some (.inr (.inr (some 266))), some (.inr (.inr (some 275))), some (.inr (.inr (some 276))), some (.inr (.inr (some 277))), some (.inr (.inr (some 278))), some (.inl (s.2)), none, some (.inl (j)), some (.inl (f)), some (.inl (ln)), some (.inl (i))] [] (HH (up g (plT to) (ixT who to) v)) = _
    rw [e_L_twice_663]
    rfl
  · exact ⟨g, s, y, by rw [if_neg c], hs, onL_rf hok, Fl_rf hy, by omega, zFr.rf⟩
/-- a speech against a tail -/
theorem W2 {G g : Nat → Int → Int} (h : LwS G g) (hT : TwA g) {L : Nat → List Int} {n : Nat} (hL : ∀ s : Nat, plS G 0 0 s = L s) (hn' : nS G 0 = n) {s : zFd} (hs : RpL g s) (hok : okL L n s) {y : Int} (hy : y = 0 ∨ y = 1) {j f i : Nat} (hj : j < n) (hi : i < n) (hf : f < (L j).length) {ln : Int} (hR : Rch L n j f ln) (hln : ln < 999) (hrow : pRow g 276 (L j)) : ∃ g1 s1 y1, zx zblk xs 91 376 [some (.inr (.inr (some pX))), some (.inr (.inr (some 265))), some (.inr (.inr (some 266))), some (.inr (.inr (some 275))), some (.inr (.inr (some 276))), some (.inr (.inr (some 277))), some (.inr (.inr (some 278))), some (.inl (s.2)), some (.inl (y)), some (.inl ((j : Int))), some (.inl ((f : Int))), some (.inl (ln)), some (.inl ((i : Int)))] [] (HH g) = zx zblk xs 91 376 [some (.inr (.inr (some pX))), some (.inr (.inr (some 265))), some (.inr (.inr (some 266))), some (.inr (.inr (some 275))), some (.inr (.inr (some 276))), some (.inr (.inr (some 277))), some (.inr (.inr (some 278))), some (.inl (s1.2)), some (.inl (y1)), some (.inl ((j : Int))), some (.inl ((f : Int))), some (.inl (ln)), some (.inl ((i : Int) + 1))] [] (HH g1) ∧ RpL g1 s1 ∧ onL L n s s1 ∧ Fl s y s1 y1 ∧ rlxd L n s1 ln j f i ∧ zFr (fun q _ => q = 275 ∨ q = 277 ∨ q = 278) g g1 := by
  have hn := h.n
  rw [hn'] at hn
  obtain ⟨l1, r1⟩ := h.pl (i := i) (by omega) 0
  obtain ⟨l2, r2⟩ := h.pl (i := j) (by omega) 0
  obtain ⟨ga, a1, a2, a3⟩ := L_speech xs h (i := i) (by omega) hT.p (by omega) (by omega) (st := 0) (by omega)
  have hTa : TwA ga := TwA_T hT (a3.mono (fun q j z => Or.inl z))
  have rowq : pRow ga 276 (L j) := pRow_fr hrow (a3.at (fun j => by omega))
  have hsa : RpL ga s := RpL_fr hs (a3.at (fun j => by omega)) (a3.at (fun j => by omega))
  rw [hL] at l1 r1 a2 l2 r2
  obtain ⟨t, ht⟩ := id hR
  obtain ⟨q1, q2, q3, q4⟩ := Rch_rg ht
  have b2s := hok.2
  have e666 : ∀ (b yy : Int) (gx : Nat → Int → Int), zx zblk xs 91 666 [some (.inr (.inr (some pX))), some (.inr (.inr (some 265))), some (.inr (.inr (some 266))), some (.inr (.inr (some 275))), some (.inr (.inr (some 276))), some (.inr (.inr (some 277))), some (.inr (.inr (some 278))), some (.inl (b)), some (.inl (yy)), some (.inl ((j : Int))), some (.inl ((f : Int))), some (.inl (ln)), some (.inl ((i : Int)))] [] (HH gx) = zx zblk xs 91 376 [some (.inr (.inr (some pX))), some (.inr (.inr (some 265))), some (.inr (.inr (some 266))), some (.inr (.inr (some 275))), some (.inr (.inr (some 276))), some (.inr (.inr (some 277))), some (.inr (.inr (some 278))), some (.inl (b)), some (.inl (yy)), some (.inl ((j : Int))), some (.inl ((f : Int))), some (.inl (ln)), some (.inl ((i : Int) + 1))] [] (HH gx) := fun b yy gx => by rw [e_L_twice_666]
  have fa : zFr (fun q _ => q = 275 ∨ q = 277 ∨ q = 278) g ga := a3.mono (fun q j z => Or.inl z)
  have hsub : ((L j).length : Int) - f = (((L j).length - f : Nat) : Int) := by omega
  have e0 : zx zblk xs 91 376 [some (.inr (.inr (some pX))), some (.inr (.inr (some 265))), some (.inr (.inr (some 266))), some (.inr (.inr (some 275))), some (.inr (.inr (some 276))), some (.inr (.inr (some 277))), some (.inr (.inr (some 278))), some (.inl (s.2)), some (.inl (y)), some (.inl ((j : Int))), some (.inl ((f : Int))), some (.inl (ln)), some (.inl ((i : Int)))] [] (HH g) = if (L i).length ≠ 0 then zx zblk xs 91 411 [some (.inr (.inr (some pX))), some (.inr (.inr (some 265))), some (.inr (.inr (some 266))), some (.inr (.inr (some 275))), some (.inr (.inr (some 276))), some (.inr (.inr (some 277))), some (.inr (.inr (some 278))), some (.inl (s.2)), some (.inl (y)), some (.inl ((j : Int))), some (.inl ((f : Int))), some (.inl (ln)), some (.inl ((i : Int))), some (.inl ((((L j).length - f : Nat) : Int)))] [] (HH ga) else zx zblk xs 91 666 [some (.inr (.inr (some pX))), some (.inr (.inr (some 265))), some (.inr (.inr (some 266))), some (.inr (.inr (some 275))), some (.inr (.inr (some 276))), some (.inr (.inr (some 277))), some (.inr (.inr (some 278))), some (.inl (s.2)), some (.inl (y)), some (.inl ((j : Int))), some (.inl ((f : Int))), some (.inl (ln)), some (.inl ((i : Int)))] [] (HH ga) := by
    rw [e_L_twice_376, HF_ai h.2.2.2.2.1 (by omega) (by omega), h.2.2.2.2.2.1, hn', if_neg (by rw [zw_id (by omega) (by omega), zw_id (by omega) (by omega)]; omega), a1, zcv_ok, HF_ai hTa.q (by omega) (by omega), rowq.1, HF_ai hTa.p (by omega) (by omega), a2.1, zw_id (a := ((L i).length : Int)) (by omega) (by omega), hsub]
    by_cases c : (L i).length = 0
    · rw [if_neg (fun z => z (by omega)), if_neg (fun z => z c)]
    · rw [if_pos (by omega), if_pos c]
  rw [e0]
  by_cases c : (L i).length = 0
  · refine ⟨ga, s, y, by rw [if_neg (fun z => z c), e666], hsa, onL_rf hok, Fl_rf hy, ⟨fun x fx w e => ?_, fun e => ?_⟩, fa⟩
    · have := e.2.1; omega
    · have := e.2.1; omega
  · have cm := W2cmp xs hTa a2 rowq l1 l2 hf r1 r2 s.2 y j ln i (min ((L j).length - f) (L i).length) 0 (by omega)
    have z0 : zb ((L i).take 0 = ((L j).drop f).take 0) = 1 := zb_t (by rw [List.take_zero, List.take_zero])
    rw [z0, z0N, Int.zero_add] at cm
    rw [if_pos c, e_L_twice_411, cm, e_L_twice_463, zb_zw]
    by_cases ag : (L i).take (min ((L j).length - f) (L i).length) = ((L j).drop f).take (min ((L j).length - f) (L i).length)
    · have hag : agr L j f i := agr_iff.mpr ag.symm
      rw [zb_t ag, if_pos (by decide), e_L_twice_471, HF_ai hTa.p (by omega) (by omega), a2.1, zw_id (a := ((L i).length : Int)) (by omega) (by omega), zw_id (a := (((L j).length - f : Nat) : Int)) (by omega) (by omega)]
      by_cases d : (L i).length = (L j).length - f
      · have fne : fnE L n j f i := ⟨hi, by omega, hag, d⟩
        rw [if_neg (fun z => z (by omega)), zw_id (a := s.2) (by omega) (by omega), zw_id (a := ln) (by omega) (by omega)]
        have nog : ∀ (s1 : zFd) x fx w, edg L n j f i x fx w → s1.1 x fx ≤ ln + w := fun s1 x fx w e => by
          obtain ⟨-, -, -, e4⟩ := e
          omega
        by_cases b : s.2 ≤ ln
        · refine ⟨ga, s, y, ?_, hsa, onL_rf hok, Fl_rf hy, ⟨nog s, fun _ => b⟩, fa⟩
          have yy : zor y 0 = y := by rcases hy with z | z <;> rw [z]; exact zor01.1; exact zor01.2.1
          rw [if_pos b, e_L_twice_492, e_L_twice_493, zw_id (a := s.2) (by omega) (by omega), zw_id (a := ln) (by omega) (by omega), if_pos b, e_L_twice_508, e_L_twice_510, yy, e666]
        · refine ⟨ga, bsL s ln, 1, ?_, RpL_bs hsa, bsL_on hok (Or.inr ⟨j, f, i, hR, fne⟩) q4 (by omega), ⟨Or.inr rfl, fun z => absurd z (by decide), fun _ => Or.inr (Or.inr (by show ln < s.2; omega))⟩, ⟨nog _, fun _ => Int.le_refl _⟩, fa⟩
          have yy : zor y 1 = 1 := by rcases hy with z | z <;> rw [z]; exact zor01.2.2.1; exact zor01.2.2.2
          rw [if_neg b, e_L_twice_493, zw_id (a := s.2) (by omega) (by omega), zw_id (a := ln) (by omega) (by omega), if_neg b, e_L_twice_510, yy, e666]
          rfl
      · rw [if_pos (by omega), e_L_twice_515, HF_ai hTa.p (by omega) (by omega), a2.1, zw_id (a := ((L i).length : Int)) (by omega) (by omega), zw_id (a := (((L j).length - f : Nat) : Int)) (by omega) (by omega)]
        by_cases e : (L j).length - f ≤ (L i).length
        · have he : edg L n j f i i ((L j).length - f) ((L i).length - ((L j).length - f : Nat)) := ⟨hi, by omega, hag, Or.inr ⟨by omega, rfl, rfl, rfl⟩⟩
          have hv := Rch_s hR he
          rw [← Int.add_sub_assoc] at hv
          obtain ⟨g1, s1, y1, w1, w2, w3, w4, w5, w6⟩ := W2to xs hTa hsa hok hy (to := (L j).length - f) (who := i) (by omega) (by omega) hv (by omega) j f ln i
          refine ⟨g1, s1, y1, ?_, w2, w3, w4, ⟨fun x fx w e' => ?_, fun e' => absurd e'.2.2.2 d⟩, fa.tr ?_⟩
          · rw [if_pos (by omega), e_L_twice_532, e_L_twice_534, HF_ai hTa.p (by omega) (by omega), a2.1, zw_id (a := ((L i).length : Int)) (by omega) (by omega), zw_id (a := (((L j).length - f : Nat) : Int)) (by omega) (by omega), if_pos (by omega), e_L_twice_549, e_L_twice_551, HF_ai hTa.p (by omega) (by omega), a2.1, zw_id (a := ((L i).length : Int)) (by omega) (by omega), zw_id (a := (((L j).length - f : Nat) : Int)) (by omega) (by omega), if_pos (by omega), e_L_twice_566, HF_ai hTa.p (by omega) (by omega), a2.1, w1, e666]
          · obtain ⟨-, -, -, e4⟩ := e'
            rcases e4 with ⟨e4, -⟩ | ⟨-, rfl, rfl, rfl⟩
            · omega
            · omega
          · exact w6.mono (fun q j z => Or.inr z)
        · have he : edg L n j f i j (f + (L i).length) 0 := ⟨hi, by omega, hag, Or.inl ⟨by omega, rfl, rfl, rfl⟩⟩
          have hv := Rch_s hR he
          rw [Int.add_zero] at hv
          obtain ⟨g1, s1, y1, w1, w2, w3, w4, w5, w6⟩ := W2to xs hTa hsa hok hy (to := f + (L i).length) (who := j) (by omega) (by omega) hv (by omega) j f ln i
          refine ⟨g1, s1, y1, ?_, w2, w3, w4, ⟨fun x fx w e' => ?_, fun e' => absurd e'.2.2.2 d⟩, fa.tr (w6.mono (fun q j z => Or.inr z))⟩
          · rw [if_neg (by omega), HF_ai hTa.p (by omega) (by omega), a2.1, e_L_twice_534, HF_ai hTa.p (by omega) (by omega), a2.1, zw_id (a := ((L i).length : Int)) (by omega) (by omega), zw_id (a := (((L j).length - f : Nat) : Int)) (by omega) (by omega), if_neg (by omega), e_L_twice_551, HF_ai hTa.p (by omega) (by omega), a2.1, zw_id (a := ((L i).length : Int)) (by omega) (by omega), zw_id (a := (((L j).length - f : Nat) : Int)) (by omega) (by omega), if_neg (by omega), ← Int.natCast_add, w1, e666]
          · obtain ⟨-, -, -, e4⟩ := e'
            rcases e4 with ⟨-, rfl, rfl, rfl⟩ | ⟨e4, -⟩
            · omega
            · omega
    · rw [zb_f ag, if_neg (by decide)]
      refine ⟨ga, s, y, by rw [e666], hsa, onL_rf hok, Fl_rf hy, ⟨fun x fx w e => ?_, fun e => ?_⟩, fa⟩
      · exact absurd (agr_iff.mp e.2.2.1).symm ag
      · exact absurd (agr_iff.mp e.2.2.1).symm ag
end TW2
