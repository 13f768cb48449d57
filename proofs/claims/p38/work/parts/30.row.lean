/-! ===== the class: rows ===== -/
def zRw (p n : Nat) : Prop := p ≠ 0 ∧ n ≤ 1000 ∧ zsh[p - 1]? = some (3, [p + 1 + 3, 0]) ∧ zsh[p + 1 - 1]? = some (100, List.replicate n 0)
def zRow (g : Nat → Int → Int) (p : Nat) (l : List Int) : Prop := g p 1 = l.length ∧ zPre (g (p + 1)) l
def scR (p : Nat) (q : Nat) (_ : Int) : Prop := q = p ∨ q = p + 1
theorem zRow_fr {g g1 : Nat → Int → Int} {p : Nat} {l : List Int} (h : zRow g p l) (e1 : g1 p = g p) (e2 : g1 (p + 1) = g (p + 1)) : zRow g1 p l := by
  unfold zRow
  rw [e1, e2]
  exact h
section ROWS
variable {p n : Nat} {g : Nat → Int → Int}
theorem Rw_ck (h : zRw p n) (o : Option zR) : zck (HH g) (some p) 3 o = o := HH_ck h.2.2.1 h.1 rfl o
theorem Rw_g (h : zRw p n) (f : Int → Option zR) : zgi (HH g) (some p) 3 1 f = f (g p 1) := HH_gi (j := 1) h.2.2.1 h.1 rfl rfl f
theorem Rw_p (h : zRw p n) (v : Int) (f : zH → Option zR) : zpf (HH g) (some p) 3 1 (.inl v) f = f (HH (up g p 1 v)) := HH_pf (j := 1) h.2.2.1 h.1 rfl rfl f
theorem Rw_r (h : zRw p n) (f : Option Nat → Option zR) : zgr (HH g) (some p) 3 0 f = f (some (p + 1)) := HH_gr (j := 0) h.2.2.1 h.1 rfl rfl f
theorem Rw_ln (h : zRw p n) (xs : List Int) (f : Int → Option zR) : zln xs (HH g) (some (p + 1)) f = f n := by
  rw [HH_ln h.2.2.2 (by omega) (by show 100 ≤ 100; omega), List.length_replicate]
theorem Rw_a (h : zRw p n) (xs : List Int) {i : Int} (h0 : 0 ≤ i) (h1 : i < n) (f : Int → Option zR) : zai xs (HH g) (some (p + 1)) i f = f (g (p + 1) i) := HH_ai h.2.2.2 (by omega) h.2.1 h0 h1 f
theorem Rw_s (h : zRw p n) {i : Int} (v : Int) (h0 : 0 ≤ i) (h1 : i < n) (f : zH → Option zR) : zst (HH g) (some (p + 1)) 100 i (.inl v) f = f (HH (up g (p + 1) i v)) := HH_st h.2.2.2 (by omega) h.2.1 h0 h1 f
end ROWS
/-- a row's number at a place, -1 beyond it -/
def zat (l : List Int) (i : Int) : Int := if 0 ≤ i ∧ i < l.length then l.getD i.toNat 0 else -1
theorem zat_in {l : List Int} {k : Nat} (hk : k < l.length) : zat l (k : Int) = l[k] := by
  unfold zat
  rw [if_pos (by omega)]
  simp [List.getD, hk]
theorem zat_out {l : List Int} {i : Int} (h : i < 0 ∨ (l.length : Int) ≤ i) : zat l i = -1 := if_neg (by omega)
theorem Row_size (xs : List Int) {p n : Nat} {g : Nat → Int → Int} {l : List Int} (h : zRw p n) (hl : zRow g p l) : zx zblk xs 19 0 [some (.inr (.inr (some p)))] [] (HH g) = some (some (.inl (l.length : Int)), HH g) := by
  rw [e_Row_size_0, Rw_g h, hl.1]
theorem Row_at (xs : List Int) {p n : Nat} {g : Nat → Int → Int} {l : List Int} (h : zRw p n) (hl : zRow g p l) (hn : l.length ≤ n) (i : Int) (hi : zw i = i) : zx zblk xs 20 0 [some (.inr (.inr (some p))), some (.inl (i))] [] (HH g) = some (some (.inl (zat l i)), HH g) := by
  have hn0 := h.2.1
  have e30 : zx zblk xs 20 30 [] [] (HH g) = some (some (.inl (-1)), HH g) := by rw [e_Row_at_30, e_Row_at_31]
  rw [e_Row_at_0, hi]
  by_cases h0 : i < 0
  · rw [if_pos h0, e30, zat_out (Or.inl h0)]
  · rw [if_neg h0, Rw_g h, hl.1, zw_id (by omega) (by omega)]
    by_cases h1 : (l.length : Int) ≤ i
    · rw [if_pos h1, e30, zat_out (Or.inr h1)]
    · rw [if_neg h1, Rw_r h, Rw_ln h, zw_id (by omega) (by omega), if_neg (by omega), Rw_r h, Rw_a h xs (by omega) (by omega), e_Row_at_31]
      obtain ⟨k, rfl⟩ : ∃ k : Nat, i = k := ⟨i.toNat, by omega⟩
      rw [zPre_get hl.2 (by omega), zat_in (by omega)]
theorem Row_set (xs : List Int) {p n : Nat} {g : Nat → Int → Int} {l : List Int} (h : zRw p n) (hl : zRow g p l) (hn : l.length ≤ n) (k : Nat) (v : Int) (hk : k < l.length) : zx zblk xs 21 0 [some (.inr (.inr (some p))), some (.inl ((k : Int))), some (.inl (v))] [] (HH g) = some (none, HH (up g (p + 1) k v)) ∧ zRow (up g (p + 1) k v) p (l.set k v) := by
  have hn0 := h.2.1
  refine ⟨?_, ?_, ?_⟩
  · rw [e_Row_set_0, zw_id (by omega) (by omega), if_neg (by omega), Rw_g h, hl.1, zw_id (by omega) (by omega), if_neg (by omega), Rw_r h, Rw_ln h, zw_id (by omega) (by omega), if_neg (by omega), Rw_r h, Rw_s h v (by omega) (by omega), e_Row_set_28]
  · rw [up_q (by omega), List.length_set]; exact hl.1
  · intro j w hj
    by_cases hjk : j = k
    · subst hjk
      rw [List.getElem?_set_self hk] at hj
      cases hj
      exact up_same _ _ _ _
    · rw [List.getElem?_set_ne (Ne.symm hjk)] at hj
      rw [up_ne _ _ (by omega)]
      exact hl.2 j w hj
theorem Row_add (xs : List Int) {p n : Nat} {g : Nat → Int → Int} {l : List Int} (h : zRw p n) (hl : zRow g p l) (hn : l.length < n) (v : Int) : ∃ g1, zx zblk xs 22 0 [some (.inr (.inr (some p))), some (.inl (v))] [] (HH g) = some (none, HH g1) ∧ zRow g1 p (l ++ [v]) ∧ zFr (scR p) g g1 := by
  have hn0 := h.2.1
  have hne : p ≠ p + 1 := by omega
  refine ⟨up (up g (p + 1) l.length v) p 1 (l.length + 1), ?_, ⟨?_, ?_⟩, (zFr.rf.up (Or.inr rfl)).up (Or.inl rfl)⟩
  · have e1 : up g (p + 1) (l.length : Int) v p 1 = l.length := by rw [up_q hne]; exact hl.1
    rw [e_Row_add_0, Rw_g h, hl.1, zw_id (by omega) (by omega), if_neg (by omega), Rw_g h, hl.1, Rw_r h, Rw_ln h, zw_id (by omega) (by omega), zw_id (by omega) (by omega), if_neg (by omega), Rw_r h, Rw_g h, hl.1, Rw_s h v (by omega) (by omega), Rw_g h, e1, Rw_p h, e_Row_add_39]
  · rw [up_same]; simp
  · rw [up_p _ _ _ (Ne.symm hne)]
    exact zPre_snoc hl.2 (up_same _ _ _ _) (fun j h0 h1 => up_ne _ _ (by omega))
theorem Row_dropLast (xs : List Int) {p n : Nat} {g : Nat → Int → Int} {l : List Int} (h : zRw p n) (hl : zRow g p l) (hn : l.length ≤ n) : ∃ g1, zx zblk xs 23 0 [some (.inr (.inr (some p)))] [] (HH g) = some (none, HH g1) ∧ zRow g1 p l.dropLast ∧ zFr (scR p) g g1 := by
  have hn0 := h.2.1
  by_cases h0 : l.length = 0
  · refine ⟨g, ?_, ⟨?_, zPre_drop hl.2⟩, zFr.rf⟩
    · rw [e_Row_dropLast_0, Rw_g h, hl.1, zw_id (by omega) (by omega), if_pos (by omega), e_Row_dropLast_17]
    · rw [hl.1]; simp; omega
  · refine ⟨up g p 1 (l.length - 1), ?_, ⟨?_, ?_⟩, zFr.rf.up (Or.inl rfl)⟩
    · rw [e_Row_dropLast_0, Rw_g h, hl.1, zw_id (by omega) (by omega), if_neg (by omega), Rw_g h, hl.1, Rw_p h, e_Row_dropLast_17]
    · rw [up_same]; simp; omega
    · rw [up_p _ _ _ (by omega)]; exact zPre_drop hl.2
theorem Row_wipe (xs : List Int) {p n : Nat} {g : Nat → Int → Int} (h : zRw p n) : zx zblk xs 24 0 [some (.inr (.inr (some p)))] [] (HH g) = some (none, HH (up g p 1 0)) ∧ zRow (up g p 1 0) p [] ∧ zFr (scR p) g (up g p 1 0) := by
  refine ⟨?_, ⟨?_, zPre_nil _⟩, zFr.rf.up (Or.inl rfl)⟩
  · rw [e_Row_wipe_0, Rw_p h]
  · rw [up_same]; rfl
/-- numbers of a machine's size -/
def zInt (l : List Int) : Prop := ∀ v ∈ l, zw v = v
theorem zInt_get {l : List Int} (h : zInt l) {k : Nat} (hk : k < l.length) : zw l[k] = l[k] := h _ (List.getElem_mem hk)
theorem isR7_int {l : List Int} (h : isR7 l) : zInt l := fun v hv => by have := h v hv; exact zw_id (by omega) (by omega)
/-- a is the start of b -/
def isPfx (a b : List Int) : Prop := a.length ≤ b.length ∧ a = b.take a.length
theorem Row_isStartOf (xs : List Int) {p n p2 n2 : Nat} {g : Nat → Int → Int} {l l2 : List Int} (h : zRw p n) (h2 : zRw p2 n2) (hl : zRow g p l) (hl2 : zRow g p2 l2) (hn : l.length ≤ n) (hn2 : l2.length ≤ n2) (hr : isR7 l) (hr2 : isR7 l2) [Decidable (isPfx l l2)] : zx zblk xs 26 0 [some (.inr (.inr (some p))), some (.inr (.inr (some p2)))] [] (HH g) = some (some (.inl (zb (isPfx l l2))), HH g) := by
  have hn0 := h.2.1
  have loop : ∀ (r k : Nat), k + r = l.length → k ≤ l2.length → l.take k = l2.take k → zx zblk xs 26 2 [some (.inr (.inr (some p))), some (.inr (.inr (some p2))), some (.inl ((k : Int)))] [] (HH g) = some (some (.inl (zb (isPfx l l2))), HH g) := by
    intro r
    induction r with
    | zero =>
      intro k hk hk2 ht
      have hkl : k = l.length := by omega
      subst hkl
      rw [List.take_length] at ht
      rw [e_Row_isStartOf_2, Rw_g h, hl.1, if_pos (by omega), e_Row_isStartOf_31, if_pos (Or.inr rfl), zb_t ⟨hk2, ht⟩]
    | succ r ih =>
      intro k hk hk2 ht
      have b1 := isR7_get hr (k := k) (by omega)
      rw [e_Row_isStartOf_2, Rw_g h, hl.1, if_neg (by rw [zw_id (by omega) (by omega), zw_id (by omega) (by omega)]; omega), Rw_ck h, Row_at xs h hl hn k (zw_id (by omega) (by omega)), zci_ok, Rw_ck h2, Row_at xs h2 hl2 hn2 k (zw_id (by omega) (by omega)), zci_ok, zat_in (by omega), zw_id (a := l[k]) (by omega) (by omega)]
      by_cases hk3 : k < l2.length
      · have b2 := isR7_get hr2 (k := k) hk3
        have hts := take_succ_eq (A := l) (B := l2) (k := k) (by omega) hk3
        rw [zat_in hk3, zw_id (by omega) (by omega)]
        by_cases he : l[k] = l2[k]
        · rw [if_pos he, e_Row_isStartOf_25, ← Int.natCast_succ]
          exact ih (k + 1) (by omega) (by omega) (hts.mpr ⟨ht, he⟩)
        · rw [if_neg he, if_pos (Or.inl rfl), zb_f]
          rintro ⟨z1, z2⟩
          refine he (hts.mp ?_).2
          rw [z2, List.take_take, Nat.min_eq_left (by omega)]
      · rw [zat_out (Or.inr (by omega)), if_neg (by rw [show zw (-1) = -1 from rfl]; omega), if_pos (Or.inl rfl), zb_f]
        rintro ⟨z1, -⟩
        omega
  have := loop l.length 0 (by omega) (by omega) rfl
  rw [z0N] at this
  rw [e_Row_isStartOf_0]
  exact this
noncomputable def zdc (P : Prop) : Decidable P := Classical.propDecidable P
theorem Row_isLike (xs : List Int) {p n p2 n2 : Nat} {g : Nat → Int → Int} {l l2 : List Int} (h : zRw p n) (h2 : zRw p2 n2) (hl : zRow g p l) (hl2 : zRow g p2 l2) (hn : l.length ≤ n) (hn2 : l2.length ≤ n2) (hr : isR7 l) (hr2 : isR7 l2) : zx zblk xs 25 0 [some (.inr (.inr (some p))), some (.inr (.inr (some p2)))] [] (HH g) = some (some (.inl (zb (l = l2))), HH g) := by
  have hn0 := h.2.1
  have hn20 := h2.2.1
  have e23 : zx zblk xs 25 23 [] [] (HH g) = some (some (.inl 0), HH g) := by rw [e_Row_isLike_23, e_Row_isLike_24, if_pos (Or.inl rfl)]
  rw [e_Row_isLike_0, Rw_g h, hl.1, Rw_ck h2, Row_size xs h2 hl2, zci_ok, zw_id (by omega) (by omega), zw_id (by omega) (by omega)]
  by_cases he : l.length = l2.length
  · have hd := zdc (isPfx l l2)
    have hs := @Row_isStartOf xs p n p2 n2 g l l2 h h2 hl hl2 hn hn2 hr hr2 hd
    have hiff : isPfx l l2 ↔ l = l2 := by
      unfold isPfx
      rw [he, List.take_length]
      simp
    rw [if_neg (by omega), Rw_ck h, hs, zci_ok, zb_zw]
    by_cases h3 : l = l2
    · rw [zb_t (hiff.mpr h3), if_neg (by decide), e_Row_isLike_24, if_pos (Or.inr rfl), zb_t h3]
    · rw [zb_f (fun z => h3 (hiff.mp z)), if_pos rfl, e23, zb_f h3]
  · rw [if_pos (by omega), e23, zb_f (fun z => he (by rw [z]))]
theorem Row_placesApart (xs : List Int) {p n p2 n2 : Nat} {g : Nat → Int → Int} {l l2 : List Int} (h : zRw p n) (h2 : zRw p2 n2) (hl : zRow g p l) (hl2 : zRow g p2 l2) (hn : l.length ≤ n) (hn2 : l2.length ≤ n2) (hr : isR7 l) (hr2 : isR7 l2) (he : l.length = l2.length) : zx zblk xs 27 0 [some (.inr (.inr (some p))), some (.inr (.inr (some p2)))] [] (HH g) = some (some (.inl (dif l l2)), HH g) := by
  have hn0 := h.2.1
  have hh := zloop (fun k : Nat => zx zblk xs 27 4 [some (.inr (.inr (some p))), some (.inr (.inr (some p2))), some (.inl (zsum (fun k => if l.getD k 0 = l2.getD k 0 then 0 else 1) k)), some (.inl ((k : Int)))] [] (HH g)) l2.length (fun k hk => by
    have b1 := isR7_get hr (k := k) (by omega)
    have b2 := isR7_get hr2 (k := k) hk
    have d1 : l.getD k 0 = l[k] := by simp [List.getD, show k < l.length by omega]
    have d2 : l2.getD k 0 = l2[k] := by simp [List.getD, hk]
    rw [e_Row_placesApart_4, Rw_g h, hl.1, if_neg (by rw [zw_id (by omega) (by omega), zw_id (by omega) (by omega)]; omega), Rw_ck h, Row_at xs h hl hn k (zw_id (by omega) (by omega)), zci_ok, Rw_ck h2, Row_at xs h2 hl2 hn2 k (zw_id (by omega) (by omega)), zci_ok, zat_in (by omega), zat_in hk, zw_id (by omega) (by omega), zw_id (by omega) (by omega), zsum, d1, d2, Int.natCast_succ]
    by_cases he : l[k] = l2[k]
    · rw [if_pos he, e_Row_placesApart_28, if_pos he, Int.add_zero]
    · rw [if_neg he, e_Row_placesApart_28, if_neg he])
  unfold dif
  rw [if_pos he, e_Row_placesApart_0]
  refine Eq.trans ?_ (hh.trans ?_)
  · rfl
  · rw [e_Row_placesApart_4, Rw_g h, hl.1, if_pos (by rw [he]; omega), e_Row_placesApart_34]
theorem Row_sumOf (xs : List Int) {p n : Nat} {g : Nat → Int → Int} {l : List Int} (h : zRw p n) (hl : zRow g p l) (hn : l.length ≤ n) (m : Nat) (hm : m ≤ l.length) : zx zblk xs 28 0 [some (.inr (.inr (some p))), some (.inl ((m : Int)))] [] (HH g) = some (some (.inl (zsum (fun k => l.getD k 0) m)), HH g) := by
  have hn0 := h.2.1
  have hh := zloop (fun k : Nat => zx zblk xs 28 4 [some (.inr (.inr (some p))), some (.inl ((m : Int))), some (.inl (zsum (fun k => l.getD k 0) k)), some (.inl ((k : Int)))] [] (HH g)) m (fun k hk => by
    have d1 : l.getD k 0 = l[k] := by simp [List.getD, show k < l.length by omega]
    rw [e_Row_sumOf_4, if_neg (by rw [zw_id (by omega) (by omega), zw_id (by omega) (by omega)]; omega), Rw_g h, hl.1, if_neg (by rw [zw_id (by omega) (by omega), zw_id (by omega) (by omega)]; omega), Rw_ck h, Row_at xs h hl hn k (zw_id (by omega) (by omega)), zci_ok, zat_in (by omega), zsum, d1, Int.natCast_succ])
  rw [e_Row_sumOf_0]
  refine Eq.trans ?_ (hh.trans ?_)
  · rfl
  · rw [e_Row_sumOf_4, if_pos (by omega), e_Row_sumOf_31]

