/-! ===== twice: so many rounds are enough ===== -/
def cmF (L : Nat → List Int) (n : Nat) (s : zFd) (j f : Nat) : Prop := ∀ len, Rch L n j f len → s.1 j f ≤ len
def stC (L : Nat → List Int) (n : Nat) (s : zFd) : Prop := (∀ j f len, RcN L n 0 j f len → s.1 j f ≤ len) ∧ (∀ i j, stt L n i j → (L i).length = (L j).length → s.2 ≤ (L j).length)
def bC (L : Nat → List Int) (n : Nat) (s : zFd) : Prop := ∀ len, FnR L n len → s.2 ≤ len
theorem stC_on {L : Nat → List Int} {n : Nat} {s s' : zFd} (h : stC L n s) (o : onF L n s s') : stC L n s' := ⟨fun j f len r => Int.le_trans (o.2.1 j f) (h.1 j f len r), fun i j r e => Int.le_trans o.2.2 (h.2 i j r e)⟩
/-- what a sweep does for the edges -/
def edC (L : Nat → List Int) (n : Nat) (s s' : zFd) : Prop := (∀ j f k x fx w, j < n → f < (L j).length → edg L n j f k x fx w → s'.1 x fx ≤ s.1 j f + w) ∧ (∀ j f k, j < n → f < (L j).length → fnE L n j f k → s'.2 ≤ s.1 j f)
theorem bC_same {L : Nat → List Int} {n : Nat} {s s' : zFd} (hst : stC L n s) (o : onF L n s s') (e : edC L n s s') (hd : s'.1 = s.1) : bC L n s' := by
  have hc : ∀ t j f len, RcN L n t j f len → s.1 j f ≤ len := by
    intro t
    induction t with
    | zero => exact hst.1
    | succ t ih =>
      rintro j f len ⟨j0, f0, k, len0, w, h, ee, rfl⟩
      obtain ⟨r1, r2, r3, r4⟩ := Rch_rg h
      have h1 := e.1 j0 f0 k j f w r1 r3 ee
      have h2 := ih j0 f0 len0 h
      rw [hd] at h1
      omega
  intro len hf
  rcases hf with ⟨i, j, h, a, b⟩ | ⟨j, f, k, ⟨t, h⟩, ee⟩
  · subst b
    exact Int.le_trans o.2.2 (hst.2 i j h a)
  · obtain ⟨r1, r2, r3, r4⟩ := Rch_rg h
    exact Int.le_trans (e.2 j f k r1 r3 ee) (hc t j f len h)
theorem bC_all {L : Nat → List Int} {n : Nat} {s s' : zFd} (hst : stC L n s) (o : onF L n s s') (e : edC L n s s') (hc : ∀ j f, j < n → f < (L j).length → cmF L n s j f) : bC L n s' := by
  intro len hf
  rcases hf with ⟨i, j, h, a, b⟩ | ⟨j, f, k, ⟨t, h⟩, ee⟩
  · subst b
    exact Int.le_trans o.2.2 (hst.2 i j h a)
  · obtain ⟨r1, r2, r3, r4⟩ := Rch_rg h
    exact Int.le_trans (e.2 j f k r1 r3 ee) (hc j f r1 r3 len ⟨t, h⟩)
theorem prog {L : Nat → List Int} {n : Nat} (hL : ∀ i, i < n → (L i).length ≤ 10) {s s' : zFd} (hst : stC L n s) (o : onF L n s s') (e : edC L n s s') : ∀ (N : Nat) (j f : Nat) (len : Int), len.toNat * 16 + f = N → Rch L n j f len → len < s.1 j f → ∃ j f, j < n ∧ f < (L j).length ∧ ¬ cmF L n s j f ∧ cmF L n s' j f := by
  intro N
  induction N using Nat.strongRecOn with
  | _ N ih =>
    intro j f len hN hR hlt
    by_cases hx : ∃ j' f' len', len'.toNat * 16 + f' < N ∧ Rch L n j' f' len' ∧ len' < s.1 j' f'
    · obtain ⟨j', f', len', h1, h2, h3⟩ := hx
      exact ih _ h1 j' f' len' rfl h2 h3
    · obtain ⟨t, ht⟩ := id hR
      obtain ⟨r1, r2, r3, r4⟩ := Rch_rg ht
      have hn : ∀ j' f' len', len'.toNat * 16 + f' < N → Rch L n j' f' len' → s.1 j' f' ≤ len' := fun j' f' len' h1 h2 => by
        refine Int.not_lt.mp (fun z => hx ⟨j', f', len', h1, h2, z⟩)
      refine ⟨j, f, r1, r3, fun z => by have := z len hR; omega, ?_⟩
      have hnew : s'.1 j f ≤ len := by
        cases t with
        | zero =>
          have := hst.1 j f len ht
          omega
        | succ t =>
          obtain ⟨j0, f0, k, len0, w, h, ee, e2⟩ := ht
          obtain ⟨q1, q2, q3, q4⟩ := Rch_rg h
          have hl0 := hL j0 q1
          have hw := edg_w ee
          have h0 : s.1 j0 f0 ≤ len0 := hn j0 f0 len0 (by
            by_cases c : w = 0
            · have := (hw.2 c).2
              have e3 : len = len0 := by omega
              rw [e3] at hN
              omega
            · have : len0.toNat + 1 ≤ len.toNat := by omega
              omega) ⟨t, h⟩
          have := e.1 j0 f0 k j f w q1 q3 ee
          omega
      intro len' hR'
      by_cases c : len ≤ len'
      · omega
      · obtain ⟨t', ht'⟩ := id hR'
        have q4 := (Rch_rg ht').2.2.2
        have := hn j f len' (by omega) hR'
        omega
noncomputable def leS (L : Nat → List Int) (n : Nat) (s : zFd) : Int := zsum (fun t => zite (cmF L n s (t / 10) (t % 10)) 0 1) 80
theorem zite_01 (P : Prop) : zite P 0 1 = 0 ∨ zite P 0 1 = 1 := by
  by_cases h : P
  · exact Or.inl (zite_t h _ _)
  · exact Or.inr (zite_f h _ _)
theorem leS_rg (L : Nat → List Int) (n : Nat) (s : zFd) : 0 ≤ leS L n s ∧ leS L n s ≤ 80 := by
  have := zsum_rg (a := 0) (b := 1) (n := 80) (f := fun t => zite (cmF L n s (t / 10) (t % 10)) 0 1) (fun k _ => by
    rcases zite_01 (cmF L n s (k / 10) (k % 10)) with h | h <;> rw [h] <;> decide)
  unfold leS
  omega
theorem leS_0 {L : Nat → List Int} {n : Nat} (hL : ∀ i, i < n → (L i).length ≤ 10) (hn : n ≤ 8) {s : zFd} (h : leS L n s = 0) : ∀ j f, j < n → f < (L j).length → cmF L n s j f := by
  intro j f hj hf
  have hl := hL j hj
  have h0 := (zsum_zero (f := fun t => zite (cmF L n s (t / 10) (t % 10)) 0 1) (fun k => by
    rcases zite_01 (cmF L n s (k / 10) (k % 10)) with h | h <;> rw [h] <;> decide) (n := 80)).mp h (10 * j + f) (by omega)
  rw [show (10 * j + f) / 10 = j by omega, show (10 * j + f) % 10 = f by omega] at h0
  refine Classical.byContradiction (fun c => ?_)
  rw [zite_f c] at h0
  exact absurd h0 (by decide)
theorem leS_lt {L : Nat → List Int} {n : Nat} (hL : ∀ i, i < n → (L i).length ≤ 10) (hn : n ≤ 8) {s s' : zFd} (hst : stC L n s) (o : onF L n s s') (e : edC L n s s') (hx : ¬ ∀ j f, j < n → f < (L j).length → cmF L n s j f) : leS L n s' < leS L n s := by
  have : ∃ j f len, Rch L n j f len ∧ len < s.1 j f := Classical.byContradiction (fun c => hx (fun j f _ _ len hr => Int.not_lt.mp (fun z => c ⟨j, f, len, hr, z⟩)))
  obtain ⟨j0, f0, len, h1, h2⟩ := this
  obtain ⟨j, f, a, b, c, d⟩ := prog hL hst o e _ j0 f0 len rfl h1 h2
  have hl := hL j a
  refine zsum_lt (j := 10 * j + f) (fun t _ => ?_) (by omega) ?_
  · by_cases c : cmF L n s (t / 10) (t % 10)
    · rw [zite_t c, zite_t (show cmF L n s' (t / 10) (t % 10) from fun len h => Int.le_trans (o.2.1 _ _) (c len h))]
      exact Int.le_refl _
    · rw [zite_f c]
      rcases zite_01 (cmF L n s' (t / 10) (t % 10)) with h | h <;> rw [h] <;> decide
  · show zite (cmF L n s' ((10 * j + f) / 10) ((10 * j + f) % 10)) 0 1 < zite (cmF L n s ((10 * j + f) / 10) ((10 * j + f) % 10)) 0 1
    rw [show (10 * j + f) / 10 = j by omega, show (10 * j + f) % 10 = f by omega, zite_f c, zite_t d]
    decide
theorem rlx_lw {s : zFd} {j f : Nat} {v : Int} (h : zb (v < s.1 j f) ≠ 0) : (rlx s j f v).1 j f < s.1 j f := by
  have c : v < s.1 j f := Classical.byContradiction (fun z => h (zb_f z))
  show (if j = j ∧ f = f ∧ v < s.1 j f then v else s.1 j f) < _
  rw [if_pos ⟨rfl, rfl, c⟩]
  exact c
theorem mtF_lw {L : Nat → List Int} {s : zFd} {j f k : Nat} {v : Int} (h : (mtF L s j f k v).2 ≠ 0) : ∃ x fx, (mtF L s j f k v).1.1 x fx < s.1 x fx := by
  unfold mtF at h ⊢
  by_cases c : 0 < (L k).length ∧ agr L j f k
  · simp only [@if_pos _ (zdc _) c] at h ⊢
    by_cases d : (L k).length = (L j).length - f
    · simp only [if_pos d] at h
      exact absurd rfl h
    · simp only [if_neg d] at h ⊢
      by_cases g : (L k).length < (L j).length - f
      · simp only [if_pos g] at h ⊢
        exact ⟨_, _, rlx_lw h⟩
      · simp only [if_neg g] at h ⊢
        exact ⟨_, _, rlx_lw h⟩
  · simp only [@if_neg _ (zdc _) c] at h
    exact absurd rfl h
theorem swK_lw {L : Nat → List Int} {n j f : Nat} {s : zFd × Int} (hs : okF L n s.1) (h0 : s.2 = 0) : ∀ k, k ≤ n → (swK L j f k s).2 ≠ 0 → ∃ x fx, (swK L j f k s).1.1 x fx < s.1.1 x fx
  | 0, _, h => absurd h0 h
  | k + 1, hk, h => by
    obtain ⟨i1, i2, i3, i4⟩ := swK_ok hs (j := j) (f := f) k (by omega)
    rw [swK] at h ⊢
    by_cases c : (swK L j f k s).1.1 j f < 1000000
    · simp only [if_pos c] at h ⊢
      obtain ⟨m1, m2, m3, m4, m5⟩ := mtF_ok i1.1 (j := j) (f := f) (k := k) (by omega) ((i1.1.1 j f).2.2 c)
      by_cases d : (mtF L (swK L j f k s).1 j f k ((swK L j f k s).1.1 j f)).2 = 0
      · simp only [if_pos d] at h
        obtain ⟨x, fx, hx⟩ := swK_lw hs h0 k (by omega) h
        exact ⟨x, fx, Int.lt_of_le_of_lt (m1.2.1 x fx) hx⟩
      · obtain ⟨x, fx, hx⟩ := mtF_lw d
        exact ⟨x, fx, Int.lt_of_lt_of_le hx (i1.2.1 x fx)⟩
    · simp only [if_neg c] at h ⊢
      exact swK_lw hs h0 k (by omega) h
theorem swT_lw {L : Nat → List Int} {n m : Nat} (hm : 0 < m) {s : zFd × Int} (hs : okF L n s.1) (h0 : s.2 = 0) : ∀ t, (swT L n m t s).2 ≠ 0 → ∃ x fx, (swT L n m t s).1.1 x fx < s.1.1 x fx
  | 0, h => absurd h0 h
  | t + 1, h => by
    obtain ⟨i1, i2, i3, i4⟩ := swT_ok hm hs t
    rw [swT] at h ⊢
    obtain ⟨k1, k2, k3, k4⟩ := swK_ok (L := L) (n := n) (j := t / m) (f := t % m) i1.1 n (Nat.le_refl _)
    by_cases c : (swT L n m t s).2 = 0
    · obtain ⟨x, fx, hx⟩ := swK_lw i1.1 c n (Nat.le_refl _) h
      exact ⟨x, fx, Int.lt_of_lt_of_le hx (i1.2.1 x fx)⟩
    · obtain ⟨x, fx, hx⟩ := swT_lw hm hs h0 t c
      exact ⟨x, fx, Int.lt_of_le_of_lt (k1.2.1 x fx) hx⟩
/-- one sweep -/
theorem sweep {L : Nat → List Int} {n m : Nat} (hL : ∀ i, i < n → (L i).length ≤ 10) (hn : n ≤ 8) (hm : 10 ≤ m) {s : zFd} (hs : okF L n s) (hst : stC L n s) : okF L n (swT L n m (8 * m) (s, 0)).1 ∧ stC L n (swT L n m (8 * m) (s, 0)).1 ∧ ((swT L n m (8 * m) (s, 0)).2 = 0 ∨ (swT L n m (8 * m) (s, 0)).2 = 1) ∧ ((swT L n m (8 * m) (s, 0)).2 = 0 → bC L n (swT L n m (8 * m) (s, 0)).1) ∧ (leS L n s = 0 → bC L n (swT L n m (8 * m) (s, 0)).1) ∧ (leS L n s ≠ 0 → leS L n (swT L n m (8 * m) (s, 0)).1 < leS L n s) ∧ ((swT L n m (8 * m) (s, 0)).2 ≠ 0 → leS L n s ≠ 0) := by
  obtain ⟨h1, h2, h3, h4⟩ := swT_ok (L := L) (n := n) (m := m) (s := (s, 0)) (by omega) hs (8 * m)
  have hmul : ∀ j f, j < n → f < (L j).length → f < m ∧ m * j + f < 8 * m := fun j f hj hf => by
    have h5 := hL j hj
    have h6 := Nat.mul_le_mul_left m (show j + 1 ≤ 8 by omega)
    rw [Nat.mul_succ] at h6
    omega
  have he : edC L n s (swT L n m (8 * m) (s, 0)).1 := ⟨fun j f k x fx w hj hf e => h3 j f k x fx w (hmul j f hj hf).1 (hmul j f hj hf).2 e, fun j f k hj hf e => h4 j f k (hmul j f hj hf).1 (hmul j f hj hf).2 e⟩
  obtain ⟨f1, f2⟩ := h2 (Or.inl rfl)
  refine ⟨h1.1, stC_on hst h1, f1, fun z => bC_same hst h1 he (f2 z).2, fun z => bC_all hst h1 he (leS_0 hL hn z), fun z => leS_lt hL hn hst h1 he (fun c => z ?_), fun z c => ?_⟩
  · unfold leS
    rw [zsum_cg (f' := fun _ => 0) (fun t ht => ?_), zsum_nought]
    refine zite_t (fun len hr => ?_) _ _
    obtain ⟨t', ht'⟩ := id hr
    obtain ⟨r1, r2, r3, r4⟩ := Rch_rg ht'
    exact c _ _ r1 r3 len hr
  · obtain ⟨x, fx, hx⟩ := swT_lw (by omega) (s := (s, 0)) hs rfl (8 * m) z
    have hx' : (swT L n m (8 * m) (s, 0)).1.1 x fx < s.1 x fx := hx
    have hsx := hs.1 x fx
    have hr := (h1.1.1 x fx).2.2 (by omega)
    obtain ⟨t', ht'⟩ := id hr
    obtain ⟨r1, r2, r3, r4⟩ := Rch_rg ht'
    have := leS_0 hL hn c x fx r1 r3 _ hr
    omega
/-- the best row -/
def bF (L : Nat → List Int) (n : Nat) (b : Int) : Prop := 0 ≤ b ∧ b ≤ 1000000 ∧ (b < 1000000 → FnR L n b) ∧ ∀ len, FnR L n len → b ≤ len
theorem bF_of {L : Nat → List Int} {n : Nat} {s : zFd} (h : okF L n s) (hb : bC L n s) : bF L n s.2 := ⟨h.2.1, h.2.2.1, h.2.2.2, hb⟩
theorem bF_eq {L : Nat → List Int} {n : Nat} {a b : Int} (ha : bF L n a) (hb : bF L n b) : a = b := by
  obtain ⟨a0, a1, a2, a3⟩ := ha
  obtain ⟨b0, b1, b2, b3⟩ := hb
  by_cases c : a < 1000000
  · have h1 := b3 a (a2 c)
    have h2 := a3 b (b2 (by omega))
    omega
  · by_cases d : b < 1000000
    · have := a3 b (b2 d)
      omega
    · omega
noncomputable def bV (L : Nat → List Int) (n : Nat) : Int := Classical.epsilon (bF L n)
theorem bV_eq {L : Nat → List Int} {n : Nat} {a : Int} (ha : bF L n a) : bV L n = a := bF_eq (Classical.epsilon_spec ⟨a, ha⟩) ha

