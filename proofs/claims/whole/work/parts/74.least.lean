/-! ===== the least ones are taken: lists ===== -/
def mnL : List Int → Int
  | [] => 0
  | a :: l => if l = [] then a else if a ≤ mnL l then a else mnL l
theorem mnL_le : ∀ {l : List Int} {v : Int}, v ∈ l → mnL l ≤ v
  | [], v, h => by simp at h
  | a :: l, v, h => by
    rw [mnL]
    rcases List.mem_cons.mp h with h | h
    · subst h
      split
      · omega
      · split <;> omega
    · have := mnL_le h
      split
      next e => subst e; simp at h
      next => split <;> omega
theorem mnL_mem : ∀ {l : List Int}, l ≠ [] → mnL l ∈ l
  | [], h => absurd rfl h
  | a :: l, _ => by
    rw [mnL]
    split
    · exact List.mem_cons_self
    next e =>
      split
      · exact List.mem_cons_self
      · exact List.mem_cons_of_mem _ (mnL_mem e)
theorem mnL_eq {l : List Int} {v : Int} (h : v ∈ l) (hl : ∀ w ∈ l, v ≤ w) : mnL l = v := by
  have h1 := mnL_le h
  have h2 := hl _ (mnL_mem (fun z => by rw [z] at h; simp at h))
  omega
theorem mnL_perm {A B : List Int} (h : A.Perm B) : mnL A = mnL B := by
  by_cases e : B = []
  · subst e
    rw [h.eq_nil]
  · exact mnL_eq (h.mem_iff.mpr (mnL_mem e)) (fun w hw => mnL_le (h.mem_iff.mp hw))
def lsum : List Int → Int
  | [] => 0
  | a :: l => a + lsum l
theorem lsum_perm {A B : List Int} (h : A.Perm B) : lsum A = lsum B := by
  induction h with
  | nil => rfl
  | cons x _ ih => rw [lsum, lsum, ih]
  | swap x y l => simp only [lsum]; omega
  | trans _ _ ih1 ih2 => exact ih1.trans ih2
theorem lsum_app : ∀ (A B : List Int), lsum (A ++ B) = lsum A + lsum B
  | [], B => by simp [lsum]
  | a :: A, B => by rw [List.cons_append, lsum, lsum, lsum_app A B]; omega
theorem lsum_nn : ∀ {l : List Int}, (∀ v ∈ l, 0 ≤ v) → 0 ≤ lsum l
  | [], _ => by simp [lsum]
  | a :: l, h => by
    have := h a List.mem_cons_self
    have := lsum_nn (l := l) (fun v hv => h v (List.mem_cons_of_mem _ hv))
    rw [lsum]; omega
theorem lsum_ge : ∀ {l : List Int}, (∀ v ∈ l, 0 ≤ v) → ∀ v ∈ l, v ≤ lsum l
  | [], _, v, hv => by simp at hv
  | a :: l, h, v, hv => by
    have h1 := h a List.mem_cons_self
    have h2 := lsum_nn (l := l) (fun v hv => h v (List.mem_cons_of_mem _ hv))
    rw [lsum]
    rcases List.mem_cons.mp hv with e | e
    · omega
    · have := lsum_ge (l := l) (fun v hv => h v (List.mem_cons_of_mem _ hv)) v e
      omega
/-- so many of the least are taken: their sum, and what is left -/
def tkS : Nat → List Int → Int × List Int
  | 0, l => (0, l)
  | k + 1, l => ((tkS k l).1 + mnL (tkS k l).2, (tkS k l).2.erase (mnL (tkS k l).2))
theorem tkS_perm {A B : List Int} (h : A.Perm B) : ∀ k, (tkS k A).1 = (tkS k B).1 ∧ (tkS k A).2.Perm (tkS k B).2
  | 0 => ⟨rfl, h⟩
  | k + 1 => by
    obtain ⟨h1, h2⟩ := tkS_perm h k
    simp only [tkS]
    rw [h1, mnL_perm h2]
    exact ⟨rfl, h2.erase _⟩
theorem tkS_add (l : List Int) (p : Nat) : ∀ t, tkS (p + t) l = ((tkS p l).1 + (tkS t (tkS p l).2).1, (tkS t (tkS p l).2).2)
  | 0 => by simp [tkS]
  | t + 1 => by
    rw [show p + (t + 1) = (p + t) + 1 by omega, tkS, tkS_add l p t]
    simp only [tkS]
    rw [Int.add_assoc]
theorem tk_next {P P2 : List Int} {l : List Int} {k : Nat} (h : P.Perm (tkS k l).2) (h2 : (P = [] ∧ P2 = []) ∨ (mnL P :: P2).Perm P) : P2.Perm (tkS (k + 1) l).2 ∧ (tkS (k + 1) l).1 = (tkS k l).1 + mnL P := by
  rw [tkS]
  refine ⟨?_, by show _ = _; rw [mnL_perm h]⟩
  rcases h2 with ⟨rfl, rfl⟩ | h2
  · have := h.symm.eq_nil
    show List.Perm [] ((tkS k l).2.erase _)
    rw [this]
    exact List.Perm.nil
  · show List.Perm P2 ((tkS k l).2.erase _)
    rw [← mnL_perm h]
    have h3 := (h2.trans h).erase (mnL P)
    rw [List.erase_cons_head] at h3
    exact h3
def okL (l : List Int) : Prop := (∀ v ∈ l, 0 ≤ v) ∧ lsum l ≤ 800
theorem okL_perm {A B : List Int} (h : A.Perm B) (hb : okL B) : okL A := ⟨fun v hv => hb.1 v (h.mem_iff.mp hv), by rw [lsum_perm h]; exact hb.2⟩
theorem tkS_ok {l : List Int} (h : okL l) : ∀ k, okL (tkS k l).2 ∧ (tkS k l).1 + lsum (tkS k l).2 = lsum l ∧ 0 ≤ (tkS k l).1 ∧ (tkS k l).2.length = l.length - k
  | 0 => ⟨h, by simp [tkS], by simp [tkS], rfl⟩
  | k + 1 => by
    obtain ⟨h1, h2, h3, h4⟩ := tkS_ok h k
    rw [tkS]
    by_cases e : (tkS k l).2 = []
    · rw [e] at h2 h4 ⊢
      simp only [mnL, List.erase_nil, Int.add_zero]
      exact ⟨⟨fun v hv => by simp at hv, by simp [lsum]⟩, h2, h3, by simp at h4 ⊢; omega⟩
    · have hm := mnL_mem e
      have hp := List.perm_cons_erase hm
      have hs := lsum_perm hp
      rw [lsum] at hs
      have hn := h1.1 _ hm
      have h12 := h1.2
      refine ⟨⟨fun v hv => h1.1 v (List.mem_of_mem_erase hv), ?_⟩, ?_, ?_, ?_⟩
      · show lsum ((tkS k l).2.erase _) ≤ 800
        omega
      · show (tkS k l).1 + mnL (tkS k l).2 + lsum ((tkS k l).2.erase _) = _
        omega
      · show 0 ≤ (tkS k l).1 + mnL (tkS k l).2
        omega
      · show ((tkS k l).2.erase _).length = _
        rw [List.length_erase_of_mem hm, h4]
        omega
theorem join_ok {l : List Int} (h : okL l) (k : Nat) : okL ((tkS k l).2 ++ [(tkS k l).1]) := by
  obtain ⟨h1, h2, h3, h4⟩ := tkS_ok h k
  refine ⟨fun v hv => ?_, ?_⟩
  · rcases List.mem_append.mp hv with hv | hv
    · exact h1.1 v hv
    · rw [List.mem_singleton.mp hv]; exact h3
  · rw [lsum_app]
    simp only [lsum]
    have := h.2
    omega
/-- the least ones put together until one is left: what was put together -/
def hfS (r : Nat) : Nat → Nat → List Int → Int
  | 0, _, _ => 0
  | f + 1, t, l => if l.length ≤ 1 then 0 else (tkS t l).1 + hfS r f r ((tkS t l).2 ++ [(tkS t l).1])
theorem hfS_perm (r : Nat) : ∀ (f t : Nat) {A B : List Int}, A.Perm B → hfS r f t A = hfS r f t B
  | 0, _, _, _, _ => rfl
  | f + 1, t, A, B, h => by
    obtain ⟨h1, h2⟩ := tkS_perm h t
    rw [hfS, hfS, h.length_eq, h1, hfS_perm r f r (h2.append_right [(tkS t B).1])]
theorem hfS_rg (r : Nat) : ∀ (f t : Nat) {l : List Int}, okL l → 0 ≤ hfS r f t l ∧ hfS r f t l ≤ 800 * f
  | 0, _, _, _ => by simp [hfS]
  | f + 1, t, l, h => by
    obtain ⟨h1, h2, h3, h4⟩ := tkS_ok h t
    have ih := hfS_rg r f r (join_ok h t)
    have := lsum_nn h1.1
    have := h.2
    rw [hfS]
    split <;> omega
theorem tkS_zeros {l : List Int} (h : ∀ v ∈ l, 0 < v) (p : Nat) : ∀ j, j ≤ p → tkS j (List.replicate p 0 ++ l) = (0, List.replicate (p - j) 0 ++ l)
  | 0, _ => rfl
  | j + 1, hj => by
    have ih := tkS_zeros h p j (by omega)
    rw [tkS, ih, show p - j = (p - (j + 1)) + 1 by omega, List.replicate_succ, List.cons_append]
    have hm : mnL (0 :: (List.replicate (p - (j + 1)) 0 ++ l)) = 0 := mnL_eq List.mem_cons_self (fun w hw => by
      rcases List.mem_cons.mp hw with e | e
      · omega
      · rcases List.mem_append.mp e with e | e
        · rw [List.eq_of_mem_replicate e]; exact Int.le_refl _
        · have := h w e; omega)
    simp only [hm, List.erase_cons_head, Int.add_zero]
theorem hfS_pad {r : Nat} {l : List Int} (h : ∀ v ∈ l, 0 < v) {p : Nat} (hl : 2 ≤ l.length) (hp : p ≤ r) (f : Nat) : hfS r f r (List.replicate p 0 ++ l) = hfS r f (r - p) l := by
  cases f with
  | zero => rfl
  | succ f =>
    rw [hfS, hfS, if_neg (by rw [List.length_append]; omega), if_neg (by omega)]
    have := tkS_add (List.replicate p 0 ++ l) p (r - p)
    rw [show p + (r - p) = r by omega, tkS_zeros h p p (Nat.le_refl _), Nat.sub_self] at this
    simp only [List.replicate_zero, List.nil_append, Int.zero_add] at this
    rw [this]
theorem set_drop_perm {x : Int} : ∀ {a : List Int} {q : Nat} (hq : q < a.length), (a[q] :: a.set q x).Perm (a ++ [x])
  | [], q, hq => by simp at hq
  | b :: a, 0, _ => by
    show (b :: x :: a).Perm (b :: (a ++ [x]))
    exact (List.perm_append_singleton x a).symm.cons b
  | b :: a, q + 1, hq => by
    have ih := set_drop_perm (x := x) (a := a) (q := q) (by simp at hq; omega)
    show (a[q]'(by simp at hq; omega) :: b :: a.set q x).Perm (b :: (a ++ [x]))
    exact (List.Perm.swap b _ _).trans (ih.cons b)
theorem set_last_perm {l : List Int} {q : Nat} (hq : q < l.length) : (l[q] :: (l.set q (l[l.length - 1]'(by omega))).dropLast).Perm l := by
  rcases List.eq_nil_or_concat l with e | ⟨a, x, e'⟩
  · subst e; simp at hq
  · have e : l = a ++ [x] := by simpa using e'
    clear e'
    subst e
    rw [List.length_append, List.length_singleton] at hq
    have hx : ((a ++ [x])[(a ++ [x]).length - 1]'(by simp)) = x := by simp
    rw [hx]
    by_cases c : q < a.length
    · rw [List.set_append_left _ _ c, List.dropLast_concat, List.getElem_append_left c]
      exact set_drop_perm c
    · have e : q = a.length := by omega
      subst e
      have h1 : (a ++ [x]).set a.length x = a ++ [x] := by rw [List.set_append_right _ _ (Nat.le_refl _)]; simp
      rw [h1, List.dropLast_concat, List.getElem_append_right (Nat.le_refl _)]
      simp only [Nat.sub_self, List.getElem_singleton]
      exact (List.perm_append_singleton x a).symm
