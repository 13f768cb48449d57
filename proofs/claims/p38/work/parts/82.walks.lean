/-! ===== twice: ways of reading, and what is found of them ===== -/
/-- what is left of a speech from a place on begins as another one, as far as both go -/
def agr (L : Nat → List Int) (j f k : Nat) : Prop := ((L j).drop f).take (L k).length = (L k).take ((L j).length - f)
/-- from a tail to a tail by a speech -/
def edg (L : Nat → List Int) (n j f k x fx : Nat) (w : Int) : Prop := k < n ∧ 0 < (L k).length ∧ agr L j f k ∧ (((L k).length < (L j).length - f ∧ x = j ∧ fx = f + (L k).length ∧ w = 0) ∨ ((L j).length - f < (L k).length ∧ x = k ∧ fx = (L j).length - f ∧ w = (L k).length - ((L j).length - f : Nat)))
def fnE (L : Nat → List Int) (n j f k : Nat) : Prop := k < n ∧ 0 < (L k).length ∧ agr L j f k ∧ (L k).length = (L j).length - f
def stt (L : Nat → List Int) (n i j : Nat) : Prop := i < n ∧ j < n ∧ i ≠ j ∧ 0 < (L i).length ∧ (L i).length ≤ (L j).length ∧ agr L j 0 i
/-- a tail is come to in so many steps by a row so long -/
def RcN (L : Nat → List Int) (n : Nat) : Nat → Nat → Nat → Int → Prop
  | 0, j, f, len => ∃ i, stt L n i j ∧ (L i).length < (L j).length ∧ f = (L i).length ∧ len = (L j).length
  | t + 1, j, f, len => ∃ j0 f0 k len0 w, RcN L n t j0 f0 len0 ∧ edg L n j0 f0 k j f w ∧ len = len0 + w
def Rch (L : Nat → List Int) (n j f : Nat) (len : Int) : Prop := ∃ t, RcN L n t j f len
def FnR (L : Nat → List Int) (n : Nat) (len : Int) : Prop := (∃ i j, stt L n i j ∧ (L i).length = (L j).length ∧ len = (L j).length) ∨ ∃ j f k, Rch L n j f len ∧ fnE L n j f k
theorem edg_w {L : Nat → List Int} {n j f k x fx : Nat} {w : Int} (h : edg L n j f k x fx w) : 0 ≤ w ∧ (w = 0 → x = j ∧ f < fx) := by
  obtain ⟨h1, h2, h3, h4⟩ := h
  rcases h4 with ⟨a, b, c, d⟩ | ⟨a, b, c, d⟩
  · exact ⟨by omega, fun _ => ⟨b, by omega⟩⟩
  · exact ⟨by omega, fun z => by omega⟩
theorem Rch_rg {L : Nat → List Int} {n : Nat} : ∀ {t j f : Nat} {len : Int}, RcN L n t j f len → j < n ∧ 0 < f ∧ f < (L j).length ∧ 0 ≤ len
  | 0, j, f, len, ⟨i, ⟨h1, h2, h3, h4, h5, h6⟩, a, b, c⟩ => ⟨h2, by omega, by omega, by omega⟩
  | t + 1, j, f, len, ⟨j0, f0, k, len0, w, h, e, c⟩ => by
    obtain ⟨r1, r2, r3, r4⟩ := Rch_rg h
    have hw := edg_w e
    obtain ⟨e1, e2, e3, e4⟩ := e
    rcases e4 with ⟨a, b, d, g⟩ | ⟨a, b, d, g⟩
    · subst b
      exact ⟨r1, by omega, by omega, by omega⟩
    · subst b
      exact ⟨e1, by omega, by omega, by omega⟩
theorem Rch_s {L : Nat → List Int} {n j f k x fx : Nat} {len w : Int} (h : Rch L n j f len) (e : edg L n j f k x fx w) : Rch L n x fx (len + w) := by
  obtain ⟨t, h⟩ := h
  exact ⟨t + 1, j, f, k, len, w, h, e, rfl⟩
/-- what is found so far: the ways to tails, the best row -/
abbrev zFd := (Nat → Nat → Int) × Int
def okF (L : Nat → List Int) (n : Nat) (s : zFd) : Prop := (∀ j f, 0 ≤ s.1 j f ∧ s.1 j f ≤ 1000000 ∧ (s.1 j f < 1000000 → Rch L n j f (s.1 j f))) ∧ 0 ≤ s.2 ∧ s.2 ≤ 1000000 ∧ (s.2 < 1000000 → FnR L n s.2)
def rlx (s : zFd) (j f : Nat) (v : Int) : zFd := (fun j' f' => if j' = j ∧ f' = f ∧ v < s.1 j f then v else s.1 j' f', s.2)
theorem rlx_le (s : zFd) (j f : Nat) (v : Int) : (∀ j' f', (rlx s j f v).1 j' f' ≤ s.1 j' f') ∧ (rlx s j f v).1 j f ≤ v := by
  unfold rlx
  constructor
  · intro j' f'
    show (if j' = j ∧ f' = f ∧ v < s.1 j f then v else s.1 j' f') ≤ _
    by_cases c : j' = j ∧ f' = f ∧ v < s.1 j f
    · rw [if_pos c, c.1, c.2.1]; omega
    · rw [if_neg c]; exact Int.le_refl _
  · show (if j = j ∧ f = f ∧ v < s.1 j f then v else s.1 j f) ≤ _
    by_cases c : v < s.1 j f
    · rw [if_pos ⟨rfl, rfl, c⟩]; exact Int.le_refl _
    · rw [if_neg (fun z => c z.2.2)]; omega
theorem rlx_ok {L : Nat → List Int} {n : Nat} {s : zFd} (h : okF L n s) {j f : Nat} {v : Int} (hv : Rch L n j f v) : okF L n (rlx s j f v) := by
  refine ⟨fun j' f' => ?_, h.2⟩
  unfold rlx
  show 0 ≤ (if j' = j ∧ f' = f ∧ v < s.1 j f then v else s.1 j' f') ∧ _
  by_cases c : j' = j ∧ f' = f ∧ v < s.1 j f
  · have h1 := h.1 j f
    obtain ⟨t, ht⟩ := id hv
    have h2 := Rch_rg ht
    simp only [if_pos c]
    refine ⟨h2.2.2.2, by omega, fun _ => ?_⟩
    rw [c.1, c.2.1]
    exact hv
  · simp only [if_neg c]
    exact h.1 j' f'
/-- a speech against a tail: what is found then, whether a tail is come to sooner -/
noncomputable def mtF (L : Nat → List Int) (s : zFd) (j f k : Nat) (v : Int) : zFd × Int :=
  @ite _ (0 < (L k).length ∧ agr L j f k) (zdc _) (if (L k).length = (L j).length - f then ((s.1, if v < s.2 then v else s.2), 0) else if (L k).length < (L j).length - f then (rlx s j (f + (L k).length) v, zb (v < s.1 j (f + (L k).length))) else (rlx s k ((L j).length - f) (v + (L k).length - ((L j).length - f : Nat)), zb (v + (L k).length - ((L j).length - f : Nat) < s.1 k ((L j).length - f)))) (s, 0)
/-- what follows on: no more than before, what is found is right -/
def onF (L : Nat → List Int) (n : Nat) (s s' : zFd) : Prop := okF L n s' ∧ (∀ j f, s'.1 j f ≤ s.1 j f) ∧ s'.2 ≤ s.2
theorem onF_rf {L : Nat → List Int} {n : Nat} {s : zFd} (h : okF L n s) : onF L n s s := ⟨h, fun _ _ => Int.le_refl _, Int.le_refl _⟩
theorem onF_tr {L : Nat → List Int} {n : Nat} {a b c : zFd} (h1 : onF L n a b) (h2 : onF L n b c) : onF L n a c := ⟨h2.1, fun j f => Int.le_trans (h2.2.1 j f) (h1.2.1 j f), Int.le_trans h2.2.2 h1.2.2⟩
theorem rlx_same {s : zFd} {j f : Nat} {v : Int} (h : zb (v < s.1 j f) = 0) : (rlx s j f v).1 = s.1 := by
  have := (zb_eq0 _).mp h
  funext j' f'
  unfold rlx
  show (if j' = j ∧ f' = f ∧ v < s.1 j f then v else s.1 j' f') = _
  rw [if_neg (fun z => this z.2.2)]
theorem mtF_ok {L : Nat → List Int} {n : Nat} {s : zFd} (h : okF L n s) {j f k : Nat} (hk : k < n) {v : Int} (hv : Rch L n j f v) : onF L n s (mtF L s j f k v).1 ∧ ((mtF L s j f k v).2 = 0 ∨ (mtF L s j f k v).2 = 1) ∧ ((mtF L s j f k v).2 = 0 → (mtF L s j f k v).1.1 = s.1) ∧ (∀ x fx w, edg L n j f k x fx w → (mtF L s j f k v).1.1 x fx ≤ v + w) ∧ (fnE L n j f k → (mtF L s j f k v).1.2 ≤ v) := by
  obtain ⟨t, ht⟩ := id hv
  have hr := Rch_rg ht
  unfold mtF
  by_cases c : 0 < (L k).length ∧ agr L j f k
  · simp only [@if_pos _ (zdc _) c]
    by_cases d : (L k).length = (L j).length - f
    · simp only [if_pos d]
      refine ⟨⟨⟨h.1, ?_⟩, fun _ _ => Int.le_refl _, ?_⟩, Or.inl trivial, fun _ => trivial, fun x fx w e => ?_, fun _ => ?_⟩
      · show 0 ≤ (if v < s.2 then v else s.2) ∧ (if v < s.2 then v else s.2) ≤ 1000000 ∧ ((if v < s.2 then v else s.2) < 1000000 → FnR L n (if v < s.2 then v else s.2))
        have := h.2
        by_cases e : v < s.2
        · rw [if_pos e]
          exact ⟨hr.2.2.2, by omega, fun _ => Or.inr ⟨j, f, k, hv, hk, c.1, c.2, d⟩⟩
        · rw [if_neg e]
          exact h.2
      · show (if v < s.2 then v else s.2) ≤ s.2
        split <;> omega
      · obtain ⟨-, -, -, e4⟩ := e
        omega
      · show (if v < s.2 then v else s.2) ≤ v
        split <;> omega
    · simp only [if_neg d]
      by_cases g : (L k).length < (L j).length - f
      · simp only [if_pos g]
        have he : edg L n j f k j (f + (L k).length) 0 := ⟨hk, c.1, c.2, Or.inl ⟨g, rfl, rfl, rfl⟩⟩
        have hv2 := Rch_s hv he
        rw [Int.add_zero] at hv2
        have hle := rlx_le s j (f + (L k).length) v
        refine ⟨⟨rlx_ok h hv2, hle.1, Int.le_refl _⟩, zb_01 _, rlx_same, fun x fx w e => ?_, fun e => absurd e.2.2.2 d⟩
        obtain ⟨-, -, -, e4⟩ := e
        rcases e4 with ⟨-, rfl, rfl, rfl⟩ | ⟨e4, -⟩
        · have := hle.2
          omega
        · omega
      · simp only [if_neg g]
        have he : edg L n j f k k ((L j).length - f) ((L k).length - ((L j).length - f : Nat)) := ⟨hk, c.1, c.2, Or.inr ⟨by omega, rfl, rfl, rfl⟩⟩
        have hv2 := Rch_s hv he
        rw [← Int.add_sub_assoc] at hv2
        have hle := rlx_le s k ((L j).length - f) (v + (L k).length - ((L j).length - f : Nat))
        refine ⟨⟨rlx_ok h hv2, hle.1, Int.le_refl _⟩, zb_01 _, rlx_same, fun x fx w e => ?_, fun e => absurd e.2.2.2 d⟩
        obtain ⟨-, -, -, e4⟩ := e
        rcases e4 with ⟨e4, -⟩ | ⟨-, rfl, rfl, rfl⟩
        · omega
        · have := hle.2
          omega
  · simp only [@if_neg _ (zdc _) c]
    refine ⟨onF_rf h, Or.inl trivial, fun _ => trivial, fun x fx w e => absurd ⟨e.2.1, e.2.2.1⟩ c, fun e => absurd ⟨e.2.1, e.2.2.1⟩ c⟩
/-- the first k speeches against a tail -/
noncomputable def swK (L : Nat → List Int) (j f : Nat) : Nat → zFd × Int → zFd × Int
  | 0, s => s
  | k + 1, s => if (swK L j f k s).1.1 j f < 1000000 then ((mtF L (swK L j f k s).1 j f k ((swK L j f k s).1.1 j f)).1, if (mtF L (swK L j f k s).1 j f k ((swK L j f k s).1.1 j f)).2 = 0 then (swK L j f k s).2 else 1) else swK L j f k s
/-- the first t tails, m to a speech -/
noncomputable def swT (L : Nat → List Int) (n m : Nat) : Nat → zFd × Int → zFd × Int
  | 0, s => s
  | t + 1, s => swK L (t / m) (t % m) n (swT L n m t s)
def fl01 (s s' : zFd × Int) : Prop := (s.2 = 0 ∨ s.2 = 1) → (s'.2 = 0 ∨ s'.2 = 1) ∧ (s'.2 = 0 → s.2 = 0 ∧ s'.1.1 = s.1.1)
theorem swK_ok {L : Nat → List Int} {n j f : Nat} {s : zFd × Int} (h : okF L n s.1) : ∀ k, k ≤ n → onF L n s.1 (swK L j f k s).1 ∧ fl01 s (swK L j f k s) ∧ (∀ k' x fx w, k' < k → edg L n j f k' x fx w → (swK L j f k s).1.1 x fx ≤ s.1.1 j f + w) ∧ (∀ k', k' < k → fnE L n j f k' → (swK L j f k s).1.2 ≤ s.1.1 j f)
  | 0, _ => ⟨onF_rf h, fun h01 => ⟨h01, fun h0 => ⟨h0, rfl⟩⟩, fun k' x fx w hk => by omega, fun k' hk => by omega⟩
  | k + 1, hk => by
    obtain ⟨i1, i2, i3, i4⟩ := swK_ok h (j := j) (f := f) k (by omega)
    rw [swK]
    by_cases c : (swK L j f k s).1.1 j f < 1000000
    · simp only [if_pos c]
      obtain ⟨m1, m2, m3, m4, m5⟩ := mtF_ok i1.1 (j := j) (f := f) (k := k) (by omega) ((i1.1.1 j f).2.2 c)
      have hle := i1.2.1 j f
      refine ⟨onF_tr i1 m1, fun h01 => ?_, fun k' x fx w hk' e => ?_, fun k' hk' e => ?_⟩
      · obtain ⟨a1, a2⟩ := i2 h01
        by_cases d : (mtF L (swK L j f k s).1 j f k ((swK L j f k s).1.1 j f)).2 = 0
        · simp only [if_pos d]
          exact ⟨a1, fun z => ⟨(a2 z).1, by rw [m3 d]; exact (a2 z).2⟩⟩
        · simp only [if_neg d]
          exact ⟨Or.inr trivial, fun z => absurd z (by decide)⟩
      · by_cases e2 : k' = k
        · subst e2
          have := m4 x fx w e
          exact Int.le_trans this (by omega)
        · exact Int.le_trans (m1.2.1 x fx) (i3 k' x fx w (by omega) e)
      · by_cases e2 : k' = k
        · subst e2
          exact Int.le_trans (m5 e) hle
        · exact Int.le_trans m1.2.2 (i4 k' (by omega) e)
    · simp only [if_neg c]
      have h1 := (h.1 j f).2.1
      have hle := i1.2.1 j f
      refine ⟨i1, i2, fun k' x fx w hk' e => ?_, fun k' hk' e => ?_⟩
      · have h2 := (i1.1.1 x fx).2.1
        have h3 := (edg_w e).1
        omega
      · have h2 := i1.1.2.2.1
        omega
theorem swT_ok {L : Nat → List Int} {n m : Nat} (hm : 0 < m) {s : zFd × Int} (h : okF L n s.1) : ∀ t, onF L n s.1 (swT L n m t s).1 ∧ fl01 s (swT L n m t s) ∧ (∀ j f k x fx w, f < m → m * j + f < t → edg L n j f k x fx w → (swT L n m t s).1.1 x fx ≤ s.1.1 j f + w) ∧ (∀ j f k, f < m → m * j + f < t → fnE L n j f k → (swT L n m t s).1.2 ≤ s.1.1 j f)
  | 0 => ⟨onF_rf h, fun h01 => ⟨h01, fun h0 => ⟨h0, rfl⟩⟩, fun j f k x fx w _ hk => by omega, fun j f k _ hk => by omega⟩
  | t + 1 => by
    obtain ⟨i1, i2, i3, i4⟩ := swT_ok hm h t
    obtain ⟨k1, k2, k3, k4⟩ := swK_ok (L := L) (n := n) (j := t / m) (f := t % m) i1.1 n (Nat.le_refl _)
    rw [swT]
    have hjf : ∀ j f, f < m → m * j + f = t → j = t / m ∧ f = t % m := fun j f hf e => by
      rw [← e, Nat.mul_add_mod, Nat.mod_eq_of_lt hf, Nat.mul_add_div hm, Nat.div_eq_of_lt hf]
      exact ⟨rfl, rfl⟩
    refine ⟨onF_tr i1 k1, fun h01 => ?_, fun j f k x fx w hf hk e => ?_, fun j f k hf hk e => ?_⟩
    · obtain ⟨a1, a2⟩ := i2 h01
      obtain ⟨b1, b2⟩ := k2 a1
      exact ⟨b1, fun z => ⟨(a2 (b2 z).1).1, (b2 z).2.trans (a2 (b2 z).1).2⟩⟩
    · by_cases e2 : m * j + f = t
      · obtain ⟨rfl, rfl⟩ := hjf j f hf e2
        have := k3 k x fx w e.1 e
        have := i1.2.1 (t / m) (t % m)
        omega
      · exact Int.le_trans (k1.2.1 x fx) (i3 j f k x fx w hf (by omega) e)
    · by_cases e2 : m * j + f = t
      · obtain ⟨rfl, rfl⟩ := hjf j f hf e2
        have := k4 k e.1 e
        have := i1.2.1 (t / m) (t % m)
        omega
      · exact Int.le_trans k1.2.2 (i4 j f k hf (by omega) e)

