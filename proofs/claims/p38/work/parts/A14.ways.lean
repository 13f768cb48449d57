/-! ===== twice: the law's own tables, cut off at 999 ===== -/
def okL (L : Nat → List Int) (n : Nat) (s : zFd) : Prop := (∀ j f, 0 ≤ s.1 j f ∧ s.1 j f ≤ 999 ∧ (s.1 j f < 999 → Rch L n j f (s.1 j f))) ∧ 0 ≤ s.2 ∧ s.2 ≤ 999 ∧ (s.2 < 999 → FnR L n s.2)
def onL (L : Nat → List Int) (n : Nat) (s s' : zFd) : Prop := okL L n s' ∧ (∀ j f, s'.1 j f ≤ s.1 j f) ∧ s'.2 ≤ s.2
theorem onL_rf {L : Nat → List Int} {n : Nat} {s : zFd} (h : okL L n s) : onL L n s s := ⟨h, fun _ _ => Int.le_refl _, Int.le_refl _⟩
theorem onL_tr {L : Nat → List Int} {n : Nat} {a b c : zFd} (h1 : onL L n a b) (h2 : onL L n b c) : onL L n a c := ⟨h2.1, fun j f => Int.le_trans (h2.2.1 j f) (h1.2.1 j f), Int.le_trans h2.2.2 h1.2.2⟩
def stL (s : zFd) (j f : Nat) (v : Int) : zFd := (fun j' f' => if j' = j ∧ f' = f then v else s.1 j' f', s.2)
theorem stL_at (s : zFd) (j f : Nat) (v : Int) : (stL s j f v).1 j f = v := if_pos ⟨rfl, rfl⟩
theorem stL_on {L : Nat → List Int} {n : Nat} {s : zFd} (h : okL L n s) {j f : Nat} {v : Int} (hv : Rch L n j f v) (hle : v ≤ s.1 j f) : onL L n s (stL s j f v) := by
  have h0 := h.1 j f
  obtain ⟨t, ht⟩ := id hv
  have h2 := Rch_rg ht
  refine ⟨⟨fun j' f' => ?_, h.2⟩, fun j' f' => ?_, Int.le_refl _⟩
  · show 0 ≤ (if j' = j ∧ f' = f then v else s.1 j' f') ∧ _
    unfold stL
    by_cases c : j' = j ∧ f' = f
    · simp only [if_pos c]
      refine ⟨h2.2.2.2, by omega, fun _ => ?_⟩
      rw [c.1, c.2]
      exact hv
    · simp only [if_neg c]
      exact h.1 j' f'
  · show (if j' = j ∧ f' = f then v else s.1 j' f') ≤ _
    by_cases c : j' = j ∧ f' = f
    · rw [if_pos c, c.1, c.2]; exact hle
    · rw [if_neg c]; exact Int.le_refl _
def bsL (s : zFd) (v : Int) : zFd := (s.1, v)
theorem bsL_on {L : Nat → List Int} {n : Nat} {s : zFd} (h : okL L n s) {v : Int} (hv : FnR L n v) (h0 : 0 ≤ v) (hle : v ≤ s.2) : onL L n s (bsL s v) := by
  have := h.2
  exact ⟨⟨h.1, h0, by show v ≤ 999; omega, fun _ => hv⟩, fun _ _ => Int.le_refl _, hle⟩
def Lss (s s' : zFd) : Prop := (∃ j f, j < 8 ∧ 1 ≤ f ∧ f ≤ 10 ∧ s'.1 j f < s.1 j f) ∨ s'.2 < s.2
theorem Lss_l {L : Nat → List Int} {n : Nat} {a b c : zFd} (h : Lss a b) (o : onL L n b c) : Lss a c := by
  rcases h with ⟨j, f, h1, h2, h3, h4⟩ | h
  · exact Or.inl ⟨j, f, h1, h2, h3, Int.lt_of_le_of_lt (o.2.1 j f) h4⟩
  · exact Or.inr (Int.lt_of_le_of_lt o.2.2 h)
theorem Lss_r {L : Nat → List Int} {n : Nat} {a b c : zFd} (o : onL L n a b) (h : Lss b c) : Lss a c := by
  rcases h with ⟨j, f, h1, h2, h3, h4⟩ | h
  · exact Or.inl ⟨j, f, h1, h2, h3, Int.lt_of_lt_of_le h4 (o.2.1 j f)⟩
  · exact Or.inr (Int.lt_of_lt_of_le h o.2.2)
def Fl (s : zFd) (y : Int) (s' : zFd) (y' : Int) : Prop := (y' = 0 ∨ y' = 1) ∧ (y' = 0 → y = 0 ∧ s' = s) ∧ (y' ≠ 0 → y ≠ 0 ∨ Lss s s')
theorem Fl_rf {s : zFd} {y : Int} (h : y = 0 ∨ y = 1) : Fl s y s y := ⟨h, fun z => ⟨z, rfl⟩, fun z => Or.inl z⟩
theorem Fl_tr {L : Nat → List Int} {n : Nat} {a b c : zFd} {x y z : Int} (h1 : Fl a x b y) (h2 : Fl b y c z) (o1 : onL L n a b) (o2 : onL L n b c) : Fl a x c z := by
  refine ⟨h2.1, fun e => ?_, fun e => ?_⟩
  · obtain ⟨e1, e2⟩ := h2.2.1 e
    obtain ⟨e3, e4⟩ := h1.2.1 e1
    exact ⟨e3, e2.trans e4⟩
  · rcases h2.2.2 e with e1 | e1
    · rcases h1.2.2 e1 with e2 | e2
      · exact Or.inl e2
      · exact Or.inr (Lss_l e2 o2)
    · exact Or.inr (Lss_r o1 e1)
def rlxd (L : Nat → List Int) (n : Nat) (s : zFd) (ln : Int) (j f k : Nat) : Prop := (∀ x fx w, edg L n j f k x fx w → s.1 x fx ≤ ln + w) ∧ (fnE L n j f k → s.2 ≤ ln)
theorem rlxd_on {L : Nat → List Int} {n : Nat} {s s' : zFd} {ln : Int} {j f k : Nat} (h : rlxd L n s ln j f k) (o : onL L n s s') : rlxd L n s' ln j f k := ⟨fun x fx w e => Int.le_trans (o.2.1 x fx) (h.1 x fx w e), fun e => Int.le_trans o.2.2 (h.2 e)⟩
/-- a way to a tail is no shorter than its speech -/
theorem Rch_ge {L : Nat → List Int} {n : Nat} : ∀ {t j f : Nat} {len : Int}, RcN L n t j f len → ((L j).length : Int) ≤ len
  | 0, j, f, len, ⟨i, h1, h2, h3, h4⟩ => by omega
  | t + 1, j, f, len, ⟨j0, f0, k, len0, w, h, e, c⟩ => by
    have r0 := Rch_ge h
    obtain ⟨r1, r2, r3, r4⟩ := Rch_rg h
    obtain ⟨e1, e2, e3, e4⟩ := e
    rcases e4 with ⟨a, b, d, g⟩ | ⟨a, b, d, g⟩
    · subst b; omega
    · subst b; omega
/-- how many tails are come to by rows no longer -/
noncomputable def cnS (L : Nat → List Int) (n : Nat) (v : Int) : Int := zsum (fun t => zite (∃ len, Rch L n (t / 10) (t % 10) len ∧ len ≤ v) 1 0) 80
theorem zite_10 (P : Prop) : 0 ≤ zite P 1 0 ∧ zite P 1 0 ≤ 1 := by
  by_cases h : P
  · rw [zite_t h]; decide
  · rw [zite_f h]; decide
theorem cnS_rg (L : Nat → List Int) (n : Nat) (v : Int) : 0 ≤ cnS L n v ∧ cnS L n v ≤ 80 := by
  have := zsum_rg (a := 0) (b := 1) (n := 80) (f := fun t => zite (∃ len, Rch L n (t / 10) (t % 10) len ∧ len ≤ v) 1 0) (fun k _ => zite_10 _)
  unfold cnS
  omega
theorem cnS_lt {L : Nat → List Int} {n : Nat} {v v' : Int} (hv : v' ≤ v) {j f : Nat} (hj : j < 8) (hf : f < 10) (h1 : ∃ len, Rch L n j f len ∧ len ≤ v) (h2 : ¬ ∃ len, Rch L n j f len ∧ len ≤ v') : cnS L n v' < cnS L n v := by
  unfold cnS
  refine zsum_lt (j := 10 * j + f) (fun t _ => ?_) (by omega) ?_
  · by_cases c : ∃ len, Rch L n (t / 10) (t % 10) len ∧ len ≤ v'
    · have c' : ∃ len, Rch L n (t / 10) (t % 10) len ∧ len ≤ v := by
        obtain ⟨len, a, b⟩ := c
        exact ⟨len, a, by omega⟩
      rw [zite_t c, zite_t c']
      exact Int.le_refl _
    · rw [zite_f c]
      exact (zite_10 _).1
  · rw [show (10 * j + f) / 10 = j by omega, show (10 * j + f) % 10 = f by omega, zite_f h2, zite_t h1]
    decide
theorem short_R {L : Nat → List Int} {n : Nat} (hn : n ≤ 8) (hL : ∀ i, i < n → (L i).length ≤ 10) : ∀ (N j f : Nat) (len : Int), len.toNat * 16 + f = N → Rch L n j f len → ∃ len', len' ≤ len ∧ Rch L n j f len' ∧ len' ≤ 10 * cnS L n len' := by
  intro N
  induction N using Nat.strongRecOn with
  | _ N ih =>
    intro j f len hN hR
    obtain ⟨t, ht⟩ := id hR
    obtain ⟨r1, r2, r3, r4⟩ := Rch_rg ht
    have hlj := hL j r1
    by_cases hx : ∃ len'', len'' < len ∧ Rch L n j f len''
    · obtain ⟨len'', h1, h2⟩ := hx
      obtain ⟨t2, ht2⟩ := id h2
      have q4 := (Rch_rg ht2).2.2.2
      obtain ⟨len', a, b, c⟩ := ih (len''.toNat * 16 + f) (by omega) j f len'' rfl h2
      exact ⟨len', by omega, b, c⟩
    · have hmin : ∀ l, Rch L n j f l → len ≤ l := fun l hl => Int.not_lt.mp (fun z => hx ⟨l, z, hl⟩)
      refine ⟨len, Int.le_refl _, hR, ?_⟩
      have hself : ∃ l, Rch L n j f l ∧ l ≤ len := ⟨len, hR, Int.le_refl _⟩
      cases t with
      | zero =>
        obtain ⟨i, h1, h2, h3, h4⟩ := ht
        have := cnS_lt (L := L) (n := n) (v := len) (v' := -1) (by omega) (j := j) (f := f) (by omega) (by omega) hself (fun ⟨l, a, b⟩ => by have := hmin l a; omega)
        have := (cnS_rg L n (-1)).1
        omega
      | succ t =>
        obtain ⟨j0, f0, k, len0, w, h, e, e2⟩ := ht
        obtain ⟨q1, q2, q3, q4⟩ := Rch_rg h
        have hl0 := hL j0 q1
        have hw := edg_w e
        have hw10 : w ≤ 10 := by
          obtain ⟨a1, a2, a3, a4⟩ := e
          have := hL k a1
          rcases a4 with ⟨-, -, -, z⟩ | ⟨-, -, -, z⟩ <;> omega
        obtain ⟨len', a, b, c⟩ := ih (len0.toNat * 16 + f0) (by
          by_cases z : w = 0
          · have := (hw.2 z).2
            have : len = len0 := by omega
            rw [this] at hN
            omega
          · have : len0.toNat + 1 ≤ len.toNat := by omega
            omega) j0 f0 len0 rfl ⟨t, h⟩
        have hm := hmin _ (Rch_s b e)
        by_cases z : w = 0
        · have : len' = len := by omega
          rw [this] at c
          exact c
        · have := cnS_lt (L := L) (n := n) (v := len) (v' := len') (by omega) (j := j) (f := f) (by omega) (by omega) hself (fun ⟨l, a1, b1⟩ => by have := hmin l a1; omega)
          omega
theorem short_F {L : Nat → List Int} {n : Nat} (hn : n ≤ 8) (hL : ∀ i, i < n → (L i).length ≤ 10) {len : Int} (h : FnR L n len) : ∃ len', FnR L n len' ∧ len' ≤ 800 := by
  rcases h with ⟨i, j, h1, h2, h3⟩ | ⟨j, f, k, h1, h2⟩
  · have := hL j h1.2.1
    exact ⟨len, Or.inl ⟨i, j, h1, h2, h3⟩, by omega⟩
  · obtain ⟨len', a, b, c⟩ := short_R hn hL _ j f len rfl h1
    have := cnS_rg L n len'
    exact ⟨len', Or.inr ⟨j, f, k, b, h2⟩, by omega⟩
/-- nothing is left to be found -/
theorem fin_L {L : Nat → List Int} {n : Nat} (hn : n ≤ 8) (hL : ∀ i, i < n → (L i).length ≤ 10) {s : zFd} (h : okL L n s) (hst : stC L n s) (hd : ∀ j f, j < n → 1 ≤ f → f ≤ 10 → s.1 j f < s.2 → ∀ k, rlxd L n s (s.1 j f) j f k) : bF L n (if s.2 = 999 then 1000000 else s.2) := by
  have key : ∀ t j f len, RcN L n t j f len → s.1 j f ≤ len ∨ s.2 ≤ len := by
    intro t
    induction t with
    | zero => exact fun j f len r => Or.inl (hst.1 j f len r)
    | succ t ih =>
      rintro j f len ⟨j0, f0, k, len0, w, r, e, rfl⟩
      obtain ⟨r1, r2, r3, r4⟩ := Rch_rg r
      have hl := hL j0 r1
      have hw := edg_w e
      rcases ih j0 f0 len0 r with z | z
      · by_cases c : s.1 j0 f0 < s.2
        · have := (hd j0 f0 r1 (by omega) (by omega) c k).1 j f w e
          exact Or.inl (by omega)
        · exact Or.inr (by omega)
      · exact Or.inr (by omega)
  have hb : ∀ len, FnR L n len → s.2 ≤ len := by
    intro len hf
    rcases hf with ⟨i, j, st, a, b⟩ | ⟨j, f, k, ⟨t, r⟩, e⟩
    · rw [b]
      exact hst.2 i j st a
    · obtain ⟨r1, r2, r3, r4⟩ := Rch_rg r
      have hl := hL j r1
      rcases key t j f len r with z | z
      · by_cases c : s.1 j f < s.2
        · have := (hd j f r1 (by omega) (by omega) c k).2 e
          omega
        · omega
      · exact z
  by_cases c : s.2 = 999
  · rw [if_pos c]
    refine ⟨by decide, by decide, fun z => absurd z (by decide), fun len hf => ?_⟩
    obtain ⟨len', a, b⟩ := short_F hn hL hf
    have := hb len' a
    omega
  · rw [if_neg c]
    have h2 := h.2
    exact ⟨h2.1, by omega, fun _ => h2.2.2 (by omega), hb⟩
/-- how much there is to be lessened -/
def msr (s : zFd) : Int := zsum (fun t => s.1 (t / 10) (t % 10 + 1)) 80 + s.2
theorem msr_nn {L : Nat → List Int} {n : Nat} {s : zFd} (h : okL L n s) : 0 ≤ msr s := by
  have := zsum_nn (f := fun t => s.1 (t / 10) (t % 10 + 1)) (fun k => (h.1 _ _).1) (n := 80)
  have := h.2.1
  unfold msr
  omega
theorem msr_lt {L : Nat → List Int} {n : Nat} {s s' : zFd} (o : onL L n s s') (h : Lss s s') : msr s' < msr s := by
  have h1 : zsum (fun t => s'.1 (t / 10) (t % 10 + 1)) 80 ≤ zsum (fun t => s.1 (t / 10) (t % 10 + 1)) 80 := zsum_le (fun t _ => o.2.1 _ _)
  have h2 := o.2.2
  unfold msr
  rcases h with ⟨j, f, a, b, c, d⟩ | h
  · have := zsum_lt (f := fun t => s'.1 (t / 10) (t % 10 + 1)) (f' := fun t => s.1 (t / 10) (t % 10 + 1)) (j := 10 * j + (f - 1)) (n := 80) (fun t _ => o.2.1 _ _) (by omega) (by
      show s'.1 ((10 * j + (f - 1)) / 10) ((10 * j + (f - 1)) % 10 + 1) < s.1 ((10 * j + (f - 1)) / 10) ((10 * j + (f - 1)) % 10 + 1)
      rw [show (10 * j + (f - 1)) / 10 = j by omega, show (10 * j + (f - 1)) % 10 + 1 = f by omega]
      exact d)
    omega
  · omega
/-- where a tail's number stands in the law's tables -/
def plT (f : Nat) : Nat := if f < 8 then 277 else 278
def ixT (j f : Nat) : Int := if f < 8 then 8 * (f : Int) + j else 8 * f - 64 + j
def RpL (g : Nat → Int → Int) (s : zFd) : Prop := ∀ j f, j < 8 → 1 ≤ f → f ≤ 10 → g (plT f) (ixT j f) = s.1 j f
theorem RpL_fr {g g1 : Nat → Int → Int} {s : zFd} (h : RpL g s) (e1 : g1 277 = g 277) (e2 : g1 278 = g 278) : RpL g1 s := fun j f h1 h2 h3 => by
  have := h j f h1 h2 h3
  unfold plT at *
  by_cases c : f < 8
  · rw [if_pos c] at this ⊢; rw [e1]; exact this
  · rw [if_neg c] at this ⊢; rw [e2]; exact this
theorem RpL_bs {g : Nat → Int → Int} {s : zFd} {v : Int} (h : RpL g s) : RpL g (bsL s v) := h
theorem RpL_st {g : Nat → Int → Int} {s : zFd} (h : RpL g s) {j f : Nat} (hj : j < 8) (hf : 1 ≤ f ∧ f ≤ 10) (v : Int) : RpL (up g (plT f) (ixT j f) v) (stL s j f v) := fun j' f' h1 h2 h3 => by
  have h0 := h j' f' h1 h2 h3
  show _ = (if j' = j ∧ f' = f then v else s.1 j' f')
  by_cases c : j' = j ∧ f' = f
  · rw [if_pos c, c.1, c.2, up_same]
  · rw [if_neg c, up_ne]
    · exact h0
    · rintro ⟨z1, z2⟩
      unfold plT at z1
      unfold ixT at z2
      by_cases c1 : f' < 8 <;> by_cases c2 : f < 8
      · rw [if_pos c1, if_pos c2] at z2; omega
      · rw [if_pos c1, if_neg c2] at z1; omega
      · rw [if_neg c1, if_pos c2] at z1; omega
      · rw [if_neg c1, if_neg c2] at z2; omega
