/-! ===== the law's own loops over the speeches ===== -/
theorem LwS.c1 {G g : Nat → Int → Int} (h : LwS G g) : (0 : Int) ≤ 0 ∧ (0 : Int) < G pM 5 := ⟨by omega, by rw [h.2.2.2.1]; omega⟩
theorem sp_in {G g : Nat → Int → Int} (h : LwS G g) {i : Nat} (hi : i < nS G 0) (w : Int) : spS G 0 i w = spO G 0 i w := by
  have hn := h.n
  unfold spS
  rw [if_pos h.c1, if_pos ⟨by omega, by omega⟩]
theorem sp_0 {G g : Nat → Int → Int} (h : LwS G g) {i : Nat} (hi : i < nS G 0) : spS G 0 i 0 = (lenS G 0 i : Int) := by
  have hn := h.n
  have hl := lenS_rg h.1.2.2.1 (s := (i : Int)) h.c1 ⟨by omega, by omega⟩
  rw [sp_in h hi]
  unfold spO
  rw [if_pos (by omega), if_pos (by omega), Int.add_zero, hl.2.2.1]
theorem sp_k {G g : Nat → Int → Int} (h : LwS G g) {i : Nat} (hi : i < nS G 0) {k : Nat} (hk : k < 5) : spS G 0 i ((k : Int) + 1) = if k < lenS G 0 i then rowS G 0 i k else -1 := by
  have hn := h.n
  have hl := lenS_rg h.1.2.2.1 (s := (i : Int)) h.c1 ⟨by omega, by omega⟩
  rw [sp_in h hi]
  unfold spO
  rw [if_pos (by omega), hl.2.2.1]
  by_cases a : k < lenS G 0 i
  · rw [if_pos (by omega), if_pos a]
    unfold rowS
    congr 1
    omega
  · rw [if_neg (by omega), if_neg a]
theorem sp_10 {G g : Nat → Int → Int} (h : LwS G g) {i : Nat} (hi : i < nS G 0) : spS G 0 i 10 = ((plS G 0 0 i).length : Int) := by
  rw [sp_in h hi]
  unfold spO
  rw [if_neg (by omega), if_neg (by omega), if_pos rfl]
theorem sp_1k {G g : Nat → Int → Int} (h : LwS G g) {i : Nat} (hi : i < nS G 0) {k : Nat} (hk : k < 10) : spS G 0 i (10 + ((k : Int) + 1)) = zat (plS G 0 0 i) k := by
  rw [sp_in h hi]
  unfold spO
  rw [if_neg (by omega), if_pos (by omega)]
  congr 1
  omega
theorem sp_30 {G g : Nat → Int → Int} (h : LwS G g) {i : Nat} (hi : i < nS G 0) : spS G 0 i 30 = longS G 0 i := by
  rw [sp_in h hi]
  unfold spO
  rw [if_neg (by omega), if_neg (by omega), if_neg (by omega), if_pos rfl]
/-- a speech looked at -/
theorem T1 (xs : List Int) {G g : Nat → Int → Int} (h : LwS G g) (hp : zAr g 269 12) {i : Nat} (hi : i < nS G 0) (th ap f1 f2 o1 o2 : Int) : ∃ g1, zx zblk xs 0 170 [some (.inr (.inr (some 0))), some (.inr (.inr (some pX))), some (.inr (.inr (some 265))), some (.inr (.inr (some 266))), none, none, some (.inl (th)), some (.inr (.inr (some 268))), some (.inr (.inr (some 269))), some (.inr (.inr (some 270))), some (.inl (ap)), some (.inl (f1)), some (.inl (f2)), some (.inl (o1)), some (.inl (o2)), some (.inl ((i : Int)))] [] (HH g) = zx zblk xs 0 359 [some (.inr (.inr (some 0))), some (.inr (.inr (some pX))), some (.inr (.inr (some 265))), some (.inr (.inr (some 266))), none, none, some (.inl (th)), some (.inr (.inr (some 268))), some (.inr (.inr (some 269))), some (.inr (.inr (some 270))), some (.inl (ap)), some (.inl (f1)), some (.inl (f2)), some (.inl (o1)), some (.inl (o2)), some (.inl ((i : Int))), some (.inl (0))] [] (HH g1) ∧ pRow g1 269 (plS G 0 0 i) ∧ zFr (fun q _ => q = 269) g g1 := by
  have hn := h.n
  obtain ⟨l1, l2, l3⟩ := h.len hi
  obtain ⟨p1, p2⟩ := h.pl hi 0
  obtain ⟨g1, q1, q2, q3⟩ := L_speech xs h hi hp (by omega) (by omega) (st := 0) (by omega)
  have h1 : LwS G g1 := LS_fr h (fun q a b => q3.at (fun j => by omega))
  have hp1 : zAr g1 269 12 := zAr_cg hp (q3 0 0 (by omega))
  refine ⟨g1, ?_, q2, q3⟩
  have hlg := longS_rg h1.1 h1.c1 (s := (i : Int)) ⟨by omega, by omega⟩
  have hX : ∀ w : Int, zw w = w → zx zblk xs 49 0 [some (.inr (.inr (some pX))), some (.inl (0)), some (.inl ((i : Int))), some (.inl (w))] [] (HH g1) = some (some (.inl (spS G 0 i w)), HH g1) := fun w hw => X_speech xs h1.1 h1.2.1 rfl (zw_id (by omega) (by omega)) hw
  have hc := (h1.2.2.2.2.2.2 i hi).1
  have hck := (h1.2.2.2.2.2.2 i hi).2
  have h5 := h1.2.2.2.2.1
  have e1 : zx zblk xs 0 170 [some (.inr (.inr (some 0))), some (.inr (.inr (some pX))), some (.inr (.inr (some 265))), some (.inr (.inr (some 266))), none, none, some (.inl (th)), some (.inr (.inr (some 268))), some (.inr (.inr (some 269))), some (.inr (.inr (some 270))), some (.inl (ap)), some (.inl (f1)), some (.inl (f2)), some (.inl (o1)), some (.inl (o2)), some (.inl ((i : Int)))] [] (HH g) = zx zblk xs 0 245 [some (.inr (.inr (some 0))), some (.inr (.inr (some pX))), some (.inr (.inr (some 265))), some (.inr (.inr (some 266))), none, none, some (.inl (th)), some (.inr (.inr (some 268))), some (.inr (.inr (some 269))), some (.inr (.inr (some 270))), some (.inl (ap)), some (.inl (f1)), some (.inl (f2)), some (.inl (o1)), some (.inl (o2)), some (.inl ((i : Int)))] [] (HH g1) := by
    rw [e_L_law_170, HF_ai h.2.2.2.2.1 (by omega) (by omega), h.2.2.2.2.2.1, if_neg (by rw [zw_id (by omega) (by omega), zw_id (by omega) (by omega)]; omega), q1, zcv_ok, pX_ck, hX 0 rfl, zci_ok, sp_0 h1 hi, HF_ai h5 (by omega) (by omega), hc, if_neg (by omega), pX_ck, hX 10 rfl, zci_ok, sp_10 h1 hi, HF_ai hp1 (by omega) (by omega), q2.1, if_neg (by omega), pX_ck, hX 30 rfl, zci_ok, sp_30 h1 hi, L_long0 xs h1 hi, zci_ok, if_pos rfl]
  have e2 := zloop (fun k : Nat => zx zblk xs 0 248 [some (.inr (.inr (some 0))), some (.inr (.inr (some pX))), some (.inr (.inr (some 265))), some (.inr (.inr (some 266))), none, none, some (.inl (th)), some (.inr (.inr (some 268))), some (.inr (.inr (some 269))), some (.inr (.inr (some 270))), some (.inl (ap)), some (.inl (f1)), some (.inl (f2)), some (.inl (o1)), some (.inl (o2)), some (.inl ((i : Int))), some (.inl ((k : Int) + 1))] [] (HH g1)) 5 (fun k hk => by
    have hr3 := l3 k
    rw [e_L_law_248, if_neg (by rw [zw_id (by omega) (by omega), zw_id (by omega) (by omega)]; omega), pX_ck, hX _ (zw_id (by omega) (by omega)), zci_ok, sp_k h1 hi hk, HF_ai h5 (by omega) (by omega), hc, zw_id (by omega) (by omega), zw_id (by omega) (by omega)]
    by_cases a : k < lenS G 0 i
    · rw [if_neg (by omega), HF_ai h5 (by omega) (by omega), show (1 + 6 * (i : Int) + (k + 1)) = 2 + 6 * i + k by omega, hck k a, if_pos a, e_L_law_294, if_pos rfl, e_L_law_299, Int.natCast_succ]
    · rw [if_pos (by omega), if_neg a, e_L_law_293, e_L_law_294, if_pos rfl, e_L_law_299, Int.natCast_succ])
  have e3 := zloop (fun k : Nat => zx zblk xs 0 308 [some (.inr (.inr (some 0))), some (.inr (.inr (some pX))), some (.inr (.inr (some 265))), some (.inr (.inr (some 266))), none, none, some (.inl (th)), some (.inr (.inr (some 268))), some (.inr (.inr (some 269))), some (.inr (.inr (some 270))), some (.inl (ap)), some (.inl (f1)), some (.inl (f2)), some (.inl (o1)), some (.inl (o2)), some (.inl ((i : Int))), some (.inl ((k : Int) + 1))] [] (HH g1)) 10 (fun k hk => by
    rw [e_L_law_308, if_neg (by rw [zw_id (by omega) (by omega), zw_id (by omega) (by omega)]; omega), pX_ck, hX _ (zw_id (by omega) (by omega)), zci_ok, sp_1k h1 hi hk, HF_ai hp1 (by omega) (by omega), q2.1, zw_id (by omega) (by omega), zw_id (by omega) (by omega)]
    by_cases a : k < (plS G 0 0 i).length
    · rw [if_neg (by omega), HF_ai hp1 (by omega) (by omega), q2.2 k a, zat_in a, e_L_law_345, if_pos rfl, e_L_law_350, Int.natCast_succ]
    · rw [if_pos (by omega), e_L_law_344, zat_out (Or.inr (by omega)), e_L_law_345, if_pos rfl, e_L_law_350, Int.natCast_succ])
  rw [e1, e_L_law_245]
  refine Eq.trans ?_ (e2.trans ?_)
  · rfl
  · rw [e_L_law_248, if_pos (by decide), e_L_law_305]
    refine Eq.trans ?_ (e3.trans ?_)
    · rfl
    · rw [e_L_law_308, if_pos (by decide), e_L_law_356]
def PSt (L : Nat → List Int) (a b : Nat) : Prop := (L a).length < (L b).length ∧ L a = (L b).take (L a).length
def PLk (L : Nat → List Int) (a b : Nat) : Prop := a < b ∧ L a = L b
def Trk (L : Nat → List Int) (n i j : Nat) (ap f1 f2 o1 o2 : Int) : Prop := ApT L n i j ap ∧ Fst (PLk L) n i j f1 f2 ∧ Fst (PSt L) n i j o1 o2
/-- in how many places of both two rows differ -/
def offV (p q : List Int) (k : Nat) : Int := zsum (fun k => if p.getD k 0 = q.getD k 0 then 0 else 1) k
theorem offV_rg (p q : List Int) (k : Nat) : 0 ≤ offV p q k ∧ offV p q k ≤ k := by
  have := zsum_rg (a := 0) (b := 1) (n := k) (f := fun k => if p.getD k 0 = q.getD k 0 then 0 else 1) (fun k _ => by split <;> omega)
  unfold offV
  omega
/-- two speeches compared place by place -/
theorem T2cmp (xs : List Int) {g : Nat → Int → Int} {p q : List Int} (hp : zAr g 269 12) (hq : zAr g 270 12) (h1 : pRow g 269 p) (h2 : pRow g 270 q) (l1 : p.length ≤ 10) (l2 : q.length ≤ 10) (r1 : isR7 p) (r2 : isR7 q) (th ap f1 f2 o1 o2 i j : Int) : ∀ (r k : Nat), k + r = min p.length q.length → zx zblk xs 0 401 [some (.inr (.inr (some 0))), some (.inr (.inr (some pX))), some (.inr (.inr (some 265))), some (.inr (.inr (some 266))), none, none, some (.inl (th)), some (.inr (.inr (some 268))), some (.inr (.inr (some 269))), some (.inr (.inr (some 270))), some (.inl (ap)), some (.inl (f1)), some (.inl (f2)), some (.inl (o1)), some (.inl (o2)), some (.inl (i)), some (.inl (j)), some (.inl (zb (p.length < q.length ∧ p.take k = q.take k))), some (.inl (offV p q k)), some (.inl ((k : Int) + 1))] [] (HH g) = zx zblk xs 0 464 [some (.inr (.inr (some 0))), some (.inr (.inr (some pX))), some (.inr (.inr (some 265))), some (.inr (.inr (some 266))), none, none, some (.inl (th)), some (.inr (.inr (some 268))), some (.inr (.inr (some 269))), some (.inr (.inr (some 270))), some (.inl (ap)), some (.inl (f1)), some (.inl (f2)), some (.inl (o1)), some (.inl (o2)), some (.inl (i)), some (.inl (j)), some (.inl (zb (p.length < q.length ∧ p = q.take p.length))), some (.inl (offV p q (min p.length q.length)))] [] (HH g) := by
  intro r
  induction r with
  | zero =>
    intro k hk
    have e0 : zb (p.length < q.length ∧ p.take k = q.take k) = zb (p.length < q.length ∧ p = q.take p.length) := by
      unfold zb
      congr 1
      apply propext
      constructor
      · rintro ⟨a, b⟩
        have : k = p.length := by omega
        subst this
        rw [List.take_length] at b
        exact ⟨a, b⟩
      · rintro ⟨a, b⟩
        have : k = p.length := by omega
        subst this
        rw [List.take_length]
        exact ⟨a, b⟩
    rw [e_L_law_401, HF_ai hp (by omega) (by omega), h1.1, e0, show min p.length q.length = k by omega]
    by_cases a : p.length < k + 1
    · rw [if_pos (by rw [zw_id (by omega) (by omega), zw_id (by omega) (by omega)]; omega)]
    · rw [if_neg (by rw [zw_id (by omega) (by omega), zw_id (by omega) (by omega)]; omega), HF_ai hq (by omega) (by omega), h2.1, if_pos (by rw [zw_id (by omega) (by omega), zw_id (by omega) (by omega)]; omega)]
  | succ r ih =>
    intro k hk
    have b1 := isR7_get r1 (k := k) (by omega)
    have b2 := isR7_get r2 (k := k) (by omega)
    have hts := take_succ_eq (A := p) (B := q) (k := k) (by omega) (by omega)
    have d1 : p.getD k 0 = p[k] := by simp [List.getD, show k < p.length by omega]
    have d2 : q.getD k 0 = q[k] := by simp [List.getD, show k < q.length by omega]
    have hof : offV p q (k + 1) = offV p q k + (if p[k] = q[k] then 0 else 1) := by
      unfold offV
      rw [zsum, d1, d2]
    have goal := ih (k + 1) (by omega)
    rw [hof, Int.natCast_succ] at goal
    rw [e_L_law_401, HF_ai hp (by omega) (by omega), h1.1, if_neg (by rw [zw_id (by omega) (by omega), zw_id (by omega) (by omega)]; omega), HF_ai hq (by omega) (by omega), h2.1, if_neg (by rw [zw_id (by omega) (by omega), zw_id (by omega) (by omega)]; omega), HF_ai hp (by omega) (by omega), h1.2 k (by omega), HF_ai hq (by omega) (by omega), h2.2 k (by omega), zw_id (by omega) (by omega), zw_id (by omega) (by omega)]
    by_cases e : p[k] = q[k]
    · rw [if_pos e, e_L_law_435, HF_ai hp (by omega) (by omega), h1.2 k (by omega), HF_ai hq (by omega) (by omega), h2.2 k (by omega), if_neg (by rw [e]; exact fun z => z rfl), e_L_law_455]
      rw [if_pos e] at goal
      have ez : zb (p.length < q.length ∧ p.take k = q.take k) = zb (p.length < q.length ∧ p.take (k + 1) = q.take (k + 1)) := by
        unfold zb
        congr 1
        rw [hts]
        simp [e]
      rw [ez]
      exact goal
    · rw [if_neg e, e_L_law_435, HF_ai hp (by omega) (by omega), h1.2 k (by omega), HF_ai hq (by omega) (by omega), h2.2 k (by omega), if_pos (by rw [zw_id (by omega) (by omega), zw_id (by omega) (by omega)]; exact e), e_L_law_454, e_L_law_455]
      rw [if_neg e, zb_f (fun z => e (hts.mp z.2).2)] at goal
      exact goal
/-- a pair of speeches looked at -/
theorem T2 (xs : List Int) {G g : Nat → Int → Int} (h : LwS G g) (hp : zAr g 269 12) (hq : zAr g 270 12) {i j : Nat} (hi : i < nS G 0) (hj : j < nS G 0) (hrow : pRow g 269 (plS G 0 0 i)) {ap f1 f2 o1 o2 : Int} (th : Int) (hT : Trk (fun s => plS G 0 0 s) (nS G 0) i j ap f1 f2 o1 o2) : ∃ g1 ap' f1' f2' o1' o2', zx zblk xs 0 359 [some (.inr (.inr (some 0))), some (.inr (.inr (some pX))), some (.inr (.inr (some 265))), some (.inr (.inr (some 266))), none, none, some (.inl (th)), some (.inr (.inr (some 268))), some (.inr (.inr (some 269))), some (.inr (.inr (some 270))), some (.inl (ap)), some (.inl (f1)), some (.inl (f2)), some (.inl (o1)), some (.inl (o2)), some (.inl ((i : Int))), some (.inl ((j : Int)))] [] (HH g) = zx zblk xs 0 359 [some (.inr (.inr (some 0))), some (.inr (.inr (some pX))), some (.inr (.inr (some 265))), some (.inr (.inr (some 266))), none, none, some (.inl (th)), some (.inr (.inr (some 268))), some (.inr (.inr (some 269))), some (.inr (.inr (some 270))), some (.inl (ap')), some (.inl (f1')), some (.inl (f2')), some (.inl (o1')), some (.inl (o2')), some (.inl ((i : Int))), some (.inl ((j : Int) + 1))] [] (HH g1) ∧ Trk (fun s => plS G 0 0 s) (nS G 0) i (j + 1) ap' f1' f2' o1' o2' ∧ zFr (fun q _ => q = 270) g g1 := by
  have hn := h.n
  obtain ⟨t1, t2, t3⟩ := hT
  obtain ⟨l1, r1⟩ := h.pl hi 0
  obtain ⟨l2, r2⟩ := h.pl hj 0
  obtain ⟨g1, q1, q2, q3⟩ := L_speech xs h hj hq (by omega) (by omega) (st := 0) (by omega)
  have h1 : LwS G g1 := LS_fr h (fun q a b => q3.at (fun j => by omega))
  have hp1 : zAr g1 269 12 := zAr_cg hp (q3 0 0 (by omega))
  have hq1 : zAr g1 270 12 := zAr_cg hq (q3 0 0 (by omega))
  have hrow1 : pRow g1 269 (plS G 0 0 i) := pRow_fr hrow (q3.at (fun j => by omega))
  have aprg := ApT_rg t1
  have f1rg := Fst_rg t2 (by omega) (by omega)
  have o1rg := Fst_rg t3 (by omega) (by omega)
  generalize hL : (fun s : Nat => plS G 0 0 s) = L at t1 t2 t3
  have eLi : plS G 0 0 i = L i := by rw [← hL]
  have eLj : plS G 0 0 j = L j := by rw [← hL]
  rw [eLi] at l1 r1 hrow1
  rw [eLj] at l2 r2 q2
  have hof := offV_rg (L i) (L j) (min (L i).length (L j).length)
  -- up to 464
  have e1 : zx zblk xs 0 359 [some (.inr (.inr (some 0))), some (.inr (.inr (some pX))), some (.inr (.inr (some 265))), some (.inr (.inr (some 266))), none, none, some (.inl (th)), some (.inr (.inr (some 268))), some (.inr (.inr (some 269))), some (.inr (.inr (some 270))), some (.inl (ap)), some (.inl (f1)), some (.inl (f2)), some (.inl (o1)), some (.inl (o2)), some (.inl ((i : Int))), some (.inl ((j : Int)))] [] (HH g) = zx zblk xs 0 464 [some (.inr (.inr (some 0))), some (.inr (.inr (some pX))), some (.inr (.inr (some 265))), some (.inr (.inr (some 266))), none, none, some (.inl (th)), some (.inr (.inr (some 268))), some (.inr (.inr (some 269))), some (.inr (.inr (some 270))), some (.inl (ap)), some (.inl (f1)), some (.inl (f2)), some (.inl (o1)), some (.inl (o2)), some (.inl ((i : Int))), some (.inl ((j : Int))), some (.inl (zb ((L i).length < (L j).length ∧ L i = (L j).take (L i).length))), some (.inl (offV (L i) (L j) (min (L i).length (L j).length)))] [] (HH g1) := by
    have c := T2cmp xs hp1 hq1 hrow1 q2 l1 l2 r1 r2 th ap f1 f2 o1 o2 i j (min (L i).length (L j).length) 0 (by omega)
    have c0 : zb ((L i).length < (L j).length ∧ (L i).take 0 = (L j).take 0) = zb ((L i).length < (L j).length) := by
      unfold zb
      congr 1
      simp
    have c1 : offV (L i) (L j) 0 = 0 := rfl
    rw [c0, c1, z0N, Int.zero_add] at c
    rw [← c, e_L_law_359, HF_ai h.2.2.2.2.1 (by omega) (by omega), h.2.2.2.2.2.1, if_neg (by rw [zw_id (by omega) (by omega), zw_id (by omega) (by omega)]; omega), q1, zcv_ok, HF_ai hp1 (by omega) (by omega), hrow1.1, HF_ai hq1 (by omega) (by omega), q2.1, zw_id (by omega) (by omega), zw_id (by omega) (by omega)]
    by_cases a : (L i).length < (L j).length
    · rw [if_neg (by omega), e_L_law_393, zb_t a]
    · rw [if_pos (by omega), e_L_law_392, e_L_law_393, zb_f a]
  -- the start
  have e2 : ∃ o1' o2', zx zblk xs 0 359 [some (.inr (.inr (some 0))), some (.inr (.inr (some pX))), some (.inr (.inr (some 265))), some (.inr (.inr (some 266))), none, none, some (.inl (th)), some (.inr (.inr (some 268))), some (.inr (.inr (some 269))), some (.inr (.inr (some 270))), some (.inl (ap)), some (.inl (f1)), some (.inl (f2)), some (.inl (o1)), some (.inl (o2)), some (.inl ((i : Int))), some (.inl ((j : Int)))] [] (HH g) = zx zblk xs 0 482 [some (.inr (.inr (some 0))), some (.inr (.inr (some pX))), some (.inr (.inr (some 265))), some (.inr (.inr (some 266))), none, none, some (.inl (th)), some (.inr (.inr (some 268))), some (.inr (.inr (some 269))), some (.inr (.inr (some 270))), some (.inl (ap)), some (.inl (f1)), some (.inl (f2)), some (.inl (o1')), some (.inl (o2')), some (.inl ((i : Int))), some (.inl ((j : Int))), none, some (.inl (offV (L i) (L j) (min (L i).length (L j).length)))] [] (HH g1) ∧ Fst (PSt L) (nS G 0) i (j + 1) o1' o2' := by
    rw [e1, e_L_law_464, zb_zw, zw_id (a := o1) (by omega) (by omega)]
    by_cases a : (L i).length < (L j).length ∧ L i = (L j).take (L i).length
    · rw [zb_t a, if_neg (by decide)]
      by_cases b : 0 ≤ o1
      · exact ⟨o1, o2, by rw [if_pos b], Fst_no t3 (Or.inr b)⟩
      · exact ⟨i, j, by rw [if_neg b], Fst_yes t3 (by omega) a hj⟩
    · exact ⟨o1, o2, by rw [zb_f a, if_pos rfl], Fst_no t3 (Or.inl a)⟩
  obtain ⟨o1', o2', e2, t3'⟩ := e2
  rw [e2, e_L_law_482, zw_id (by omega) (by omega), zw_id (by omega) (by omega)]
  by_cases a : i < j
  · rw [if_pos (by omega)]
    have e3 : ∃ f1' f2', zx zblk xs 0 492 [some (.inr (.inr (some 0))), some (.inr (.inr (some pX))), some (.inr (.inr (some 265))), some (.inr (.inr (some 266))), none, none, some (.inl (th)), some (.inr (.inr (some 268))), some (.inr (.inr (some 269))), some (.inr (.inr (some 270))), some (.inl (ap)), some (.inl (f1)), some (.inl (f2)), some (.inl (o1')), some (.inl (o2')), some (.inl ((i : Int))), some (.inl ((j : Int))), none, some (.inl (offV (L i) (L j) (min (L i).length (L j).length)))] [] (HH g1) = zx zblk xs 0 515 [some (.inr (.inr (some 0))), some (.inr (.inr (some pX))), some (.inr (.inr (some 265))), some (.inr (.inr (some 266))), none, none, some (.inl (th)), some (.inr (.inr (some 268))), some (.inr (.inr (some 269))), some (.inr (.inr (some 270))), some (.inl (ap)), some (.inl (f1')), some (.inl (f2')), some (.inl (o1')), some (.inl (o2')), some (.inl ((i : Int))), some (.inl ((j : Int))), none, some (.inl (offV (L i) (L j) (min (L i).length (L j).length)))] [] (HH g1) ∧ Fst (PLk L) (nS G 0) i (j + 1) f1' f2' := by
      rw [e_L_law_492, L_like xs hp1 hq1 hrow1 q2 (by omega) (by omega) r1 r2, zci_ok, zb_zw, zw_id (a := f1) (by omega) (by omega)]
      by_cases b : L i = L j
      · rw [zb_t b, if_neg (by decide)]
        by_cases c : 0 ≤ f1
        · exact ⟨f1, f2, by rw [if_pos c], Fst_no t2 (Or.inr c)⟩
        · exact ⟨i, j, by rw [if_neg c], Fst_yes t2 (by omega) ⟨a, b⟩ hj⟩
      · exact ⟨f1, f2, by rw [zb_f b, if_pos rfl], Fst_no t2 (Or.inl (fun z => b z.2))⟩
    obtain ⟨f1', f2', e3, t2'⟩ := e3
    rw [e3, e_L_law_515, HF_ai hp1 (by omega) (by omega), hrow1.1, HF_ai hq1 (by omega) (by omega), q2.1, zw_id (by omega) (by omega), zw_id (by omega) (by omega)]
    by_cases b : (L i).length = (L j).length
    · have hd : offV (L i) (L j) (min (L i).length (L j).length) = dif (L i) (L j) := by
        unfold dif offV
        rw [if_pos b, show min (L i).length (L j).length = (L j).length by omega]
      rw [hd] at hof
      rw [if_pos (by omega), e_L_law_532, hd, zw_id (a := ap) (by omega) (by omega), zw_id (a := dif (L i) (L j)) (by omega) (by omega)]
      by_cases c : ap < 0
      · exact ⟨g1, ap, f1', f2', o1', o2', by rw [if_pos c, e_L_law_548], ⟨ApT_m1 t1 c, t2', t3'⟩, q3⟩
      · by_cases d : ap ≤ dif (L i) (L j)
        · exact ⟨g1, ap, f1', f2', o1', o2', by rw [if_neg c, if_pos d, e_L_law_548], ⟨ApT_keep t1 (by omega) b (by omega) d, t2', t3'⟩, q3⟩
        · exact ⟨g1, _, f1', f2', o1', o2', by rw [if_neg c, if_neg d, e_L_law_548], ⟨ApT_less t1 (by omega) a hj b (by omega) (by omega), t2', t3'⟩, q3⟩
    · exact ⟨g1, -1, f1', f2', o1', o2', by rw [if_neg (by omega), e_L_law_548], ⟨ApT_far a hj b, t2', t3'⟩, q3⟩
  · exact ⟨g1, ap, f1, f2, o1', o2', by rw [if_neg (by omega), e_L_law_548], ⟨ApT_le t1 (by omega), Fst_no t2 (Or.inl (fun z => a z.1)), t3'⟩, q3⟩
