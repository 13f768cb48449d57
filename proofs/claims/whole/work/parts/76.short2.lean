/-! ===== shortest: the reference ===== -/
/-- what is not gone -/
def AL (f : Int → Int) (m : Nat) : List Int := (zLi (fun k => f k) m).filter (fun v => decide (0 ≤ v))
theorem AL_s (f : Int → Int) (m : Nat) : AL f (m + 1) = AL f m ++ (if 0 ≤ f m then [f m] else []) := by
  unfold AL
  rw [zLi_snoc, List.filter_append]
  congr 1
  by_cases h : 0 ≤ f m
  · simp [h]
  · simp [h]
theorem AL_cg {f f' : Int → Int} {m : Nat} (h : ∀ j : Nat, j < m → f' j = f j) : AL f' m = AL f m := by
  unfold AL
  rw [zLi_cg (f := fun k : Nat => f' k) (f' := fun k : Nat => f k) (fun k hk => h k hk)]
theorem AL_mem {f : Int → Int} {m : Nat} {v : Int} : v ∈ AL f m ↔ ∃ j : Nat, j < m ∧ f j = v ∧ 0 ≤ v := by
  unfold AL zLi
  simp only [List.mem_filter, List.mem_map, List.mem_range, decide_eq_true_eq]
  constructor
  · rintro ⟨⟨j, hj, e⟩, h0⟩
    exact ⟨j, hj, e, h0⟩
  · rintro ⟨j, hj, e, h0⟩
    exact ⟨⟨j, hj, e⟩, h0⟩
theorem AL_mark {f f' : Int → Int} {q : Nat} (h0 : 0 ≤ f q) (h1 : f' q < 0) (he : ∀ j : Nat, j ≠ q → f' j = f j) : ∀ m : Nat, q < m → (f q :: AL f' m).Perm (AL f m)
  | 0, h => by omega
  | m + 1, h => by
    rw [AL_s, AL_s]
    by_cases e : q = m
    · subst e
      rw [AL_cg (fun j hj => he j (by omega)), if_neg (by omega), if_pos h0, List.append_nil]
      exact (List.perm_append_singleton _ _).symm
    · rw [he m (fun z => e z.symm), ← List.cons_append]
      exact (AL_mark h0 h1 he m (by omega)).append_right _
theorem AL_full {f : Int → Int} : ∀ {m : Nat}, (∀ j : Nat, j < m → 0 ≤ f j) → (AL f m).length = m
  | 0, _ => rfl
  | m + 1, h => by
    rw [AL_s, List.length_append, AL_full (fun j hj => h j (by omega)), if_pos (h m (by omega))]
    rfl
def hpR (g : Nat → Int → Int) (m : Nat) : Prop := ∀ j : Nat, j < m → -1 ≤ g pM_heap j ∧ g pM_heap j ≤ 800
theorem M_takeLeast (xs : List Int) {g : Nat → Int → Int} {m : Nat} (hm : m ≤ 16) (hr : hpR g m) (hne : AL (g pM_heap) m ≠ []) : ∃ g1, zx zblk xs 51 0 [some (.inr (.inr (some pM))), some (.inl ((m : Int)))] [] (HH g) = some (some (.inl (mnL (AL (g pM_heap) m))), HH g1) ∧ (mnL (AL (g pM_heap) m) :: AL (g1 pM_heap) m).Perm (AL (g pM_heap) m) ∧ hpR g1 m ∧ zFr (fun q _ => q = pM_heap) g g1 := by
  have loop : ∀ (s k : Nat) (b : Int), k + s = m → ((b = -1 ∧ ∀ j : Nat, j < k → g pM_heap j < 0) ∨ (∃ q : Nat, b = q ∧ q < k ∧ 0 ≤ g pM_heap q ∧ ∀ j : Nat, j < k → 0 ≤ g pM_heap j → g pM_heap q ≤ g pM_heap j)) → ∃ q : Nat, q < m ∧ 0 ≤ g pM_heap q ∧ (∀ j : Nat, j < m → 0 ≤ g pM_heap j → g pM_heap q ≤ g pM_heap j) ∧ zx zblk xs 51 4 [some (.inr (.inr (some pM))), some (.inl ((m : Int))), some (.inl (b)), some (.inl ((k : Int)))] [] (HH g) = zx zblk xs 51 50 [some (.inr (.inr (some pM))), none, some (.inl ((q : Int)))] [] (HH g) := by
    intro s
    induction s with
    | zero =>
      intro k b hk hb
      have : k = m := by omega
      subst this
      rcases hb with ⟨-, h⟩ | ⟨q, rfl, h1, h2, h3⟩
      · exfalso
        apply hne
        cases e : AL (g pM_heap) k with
        | nil => rfl
        | cons a l =>
          obtain ⟨j, hj, e1, e2⟩ := AL_mem.mp (show a ∈ AL (g pM_heap) k by rw [e]; exact List.mem_cons_self)
          have := h j hj
          omega
      · refine ⟨q, h1, h2, h3, ?_⟩
        rw [e_M_takeLeast_4, if_pos (Int.le_refl _)]
    | succ s ih =>
      intro k b hk hb
      have hv := hr k (by omega)
      rw [e_M_takeLeast_4, if_neg (by rw [zw_id (by omega) (by omega), zw_id (by omega) (by omega)]; omega), pM_r_heap, pM_a_heap xs _ (by omega) (by omega), zw_id (a := g pM_heap k) (by omega) (by omega)]
      by_cases c : g pM_heap k < 0
      · obtain ⟨q, q1, q2, q3, q4⟩ := ih (k + 1) b (by omega) (by
          rcases hb with ⟨h1, h2⟩ | ⟨q, h0, h1, h2, h3⟩
          · exact Or.inl ⟨h1, fun j hj => by
              by_cases e : j = k
              · subst e; exact c
              · exact h2 j (by omega)⟩
          · exact Or.inr ⟨q, h0, by omega, h2, fun j hj hj0 => by
              by_cases e : j = k
              · subst e; omega
              · exact h3 j (by omega) hj0⟩)
        refine ⟨q, q1, q2, q3, ?_⟩
        rw [if_pos c, e_M_takeLeast_42, e_M_takeLeast_43, ← Int.natCast_succ]
        exact q4
      · have e38 : ∀ R, (zx zblk xs 51 4 [some (.inr (.inr (some pM))), some (.inl ((m : Int))), some (.inl ((k : Int))), some (.inl (((k + 1 : Nat) : Int)))] [] (HH g) = R) → zx zblk xs 51 38 [some (.inr (.inr (some pM))), some (.inl ((m : Int))), none, some (.inl ((k : Int)))] [] (HH g) = R := fun R h => by
          rw [e_M_takeLeast_38, e_M_takeLeast_43, ← Int.natCast_succ]
          exact h
        rw [if_neg c]
        rcases hb with ⟨h1, h2⟩ | ⟨q, h0, h1, h2, h3⟩
        · subst h1
          obtain ⟨q, q1, q2, q3, q4⟩ := ih (k + 1) k (by omega) (Or.inr ⟨k, rfl, by omega, by omega, fun j hj hj0 => by
            by_cases e : j = k
            · subst e; exact Int.le_refl _
            · have := h2 j (by omega); omega⟩)
          refine ⟨q, q1, q2, q3, ?_⟩
          rw [if_pos rfl]
          exact e38 _ q4
        · subst h0
          have hv2 := hr q (by omega)
          rw [if_neg (by rw [zw_id (by omega) (by omega), show zw (-1) = -1 from rfl]; omega), pM_r_heap, pM_a_heap xs _ (by omega) (by omega), pM_r_heap, pM_a_heap xs _ (by omega) (by omega), zw_id (a := g pM_heap k) (by omega) (by omega), zw_id (a := g pM_heap q) (by omega) (by omega)]
          by_cases d : g pM_heap q ≤ g pM_heap k
          · obtain ⟨q', q1, q2, q3, q4⟩ := ih (k + 1) q (by omega) (Or.inr ⟨q, rfl, by omega, h2, fun j hj hj0 => by
              by_cases e : j = k
              · subst e; exact d
              · exact h3 j (by omega) hj0⟩)
            refine ⟨q', q1, q2, q3, ?_⟩
            rw [if_pos d, e_M_takeLeast_42, e_M_takeLeast_43, ← Int.natCast_succ]
            exact q4
          · obtain ⟨q', q1, q2, q3, q4⟩ := ih (k + 1) k (by omega) (Or.inr ⟨k, rfl, by omega, by omega, fun j hj hj0 => by
              by_cases e : j = k
              · subst e; exact Int.le_refl _
              · have := h3 j (by omega) hj0; omega⟩)
            refine ⟨q', q1, q2, q3, ?_⟩
            rw [if_neg d]
            exact e38 _ q4
  obtain ⟨q, q1, q2, q3, q4⟩ := loop m 0 (-1) (by omega) (Or.inl ⟨rfl, fun j hj => by omega⟩)
  have hmn : mnL (AL (g pM_heap) m) = g pM_heap q := mnL_eq (AL_mem.mpr ⟨q, q1, rfl, q2⟩) (fun w hw => by
    obtain ⟨j, hj, e1, e2⟩ := AL_mem.mp hw
    rw [← e1]
    exact q3 j hj (by omega))
  have e1 : up g pM_heap q (-1) pM_heap q = -1 := up_same _ _ _ _
  have e2 : ∀ j : Int, j ≠ q → up g pM_heap q (-1) pM_heap j = g pM_heap j := fun j hj => up_ne _ _ (fun z => hj z.2)
  refine ⟨up g pM_heap q (-1), ?_, ?_, fun j hj => ?_, zFr.rf.up rfl⟩
  · rw [z0N] at q4
    rw [e_M_takeLeast_0]
    refine Eq.trans q4 ?_
    rw [e_M_takeLeast_50, pM_r_heap, pM_a_heap xs _ (by omega) (by omega), pM_r_heap, pM_s_heap _ _ (by omega) (by omega), hmn]
  · rw [hmn]
    exact AL_mark q2 (by rw [e1]; decide) (fun j hj => e2 j (by omega)) m q1
  · by_cases e : j = q
    · subst e; rw [e1]; omega
    · rw [e2 j (by omega)]; exact hr j hj
theorem M_short_take (xs : List Int) {m : Nat} (hm : m ≤ 16) (v3 v4 : Int) {l : List Int} {r : Nat} (hr8 : r ≤ 8) (hrl : r ≤ l.length) (hok : okL l) : ∀ (s k : Nat) (gk : Nat → Int → Int), k + s = r → hpR gk m → (AL (gk pM_heap) m).Perm (tkS k l).2 → ∃ g1, zx zblk xs 52 75 [some (.inr (.inr (some pM))), some (.inl ((r : Int))), some (.inl ((m : Int))), some (.inl (v3)), some (.inl (v4)), some (.inl ((tkS k l).1)), some (.inl ((k : Int)))] [] (HH gk) = zx zblk xs 52 97 [some (.inr (.inr (some pM))), some (.inl ((r : Int))), some (.inl ((m : Int))), some (.inl (v3)), some (.inl (v4)), some (.inl ((tkS r l).1))] [] (HH g1) ∧ hpR g1 m ∧ (AL (g1 pM_heap) m).Perm (tkS r l).2 ∧ zFr (fun q _ => q = pM_heap) gk g1 := by
  intro s
  induction s with
  | zero =>
    intro k gk hk hh hp
    have : k = r := by omega
    subst this
    refine ⟨gk, ?_, hh, hp, zFr.rf⟩
    rw [e_M_shortNow_75, if_pos (Int.le_refl _)]
  | succ s ih =>
    intro k gk hk hh hp
    have hne : AL (gk pM_heap) m ≠ [] := fun z => by
      have h1 := hp.length_eq
      rw [(tkS_ok hok k).2.2.2, z] at h1
      simp at h1
      omega
    obtain ⟨g2, a1, a2, a3, a4⟩ := M_takeLeast xs hm hh hne
    obtain ⟨n1, n2⟩ := tk_next hp (Or.inr a2)
    obtain ⟨g1, q1, q2, q3, q4⟩ := ih (k + 1) g2 (by omega) a3 n1
    refine ⟨g1, ?_, q2, q3, a4.tr q4⟩
    rw [n2] at q1
    rw [e_M_shortNow_75, if_neg (by rw [zw_id (by omega) (by omega), zw_id (by omega) (by omega)]; omega), pM_ck, a1, zci_ok, ← Int.natCast_succ]
    exact q1
theorem M_short_at (xs : List Int) {m : Nat} (hm : m ≤ 16) (r v3 v4 v5 : Int) {g : Nat → Int → Int} (hh : hpR g m) (hx : (AL (g pM_heap) m).length < m) : ∃ q : Nat, q < m ∧ g pM_heap q < 0 ∧ zx zblk xs 52 97 [some (.inr (.inr (some pM))), some (.inl (r)), some (.inl ((m : Int))), some (.inl (v3)), some (.inl (v4)), some (.inl (v5))] [] (HH g) = zx zblk xs 52 116 [some (.inr (.inr (some pM))), some (.inl (r)), some (.inl ((m : Int))), some (.inl (v3)), some (.inl (v4)), some (.inl (v5)), some (.inl ((q : Int)))] [] (HH g) := by
  have loop : ∀ (s k : Nat), k + s = m → (∀ j : Nat, j < k → 0 ≤ g pM_heap j) → ∃ q : Nat, q < m ∧ g pM_heap q < 0 ∧ zx zblk xs 52 100 [some (.inr (.inr (some pM))), some (.inl (r)), some (.inl ((m : Int))), some (.inl (v3)), some (.inl (v4)), some (.inl (v5)), some (.inl ((k : Int)))] [] (HH g) = zx zblk xs 52 116 [some (.inr (.inr (some pM))), some (.inl (r)), some (.inl ((m : Int))), some (.inl (v3)), some (.inl (v4)), some (.inl (v5)), some (.inl ((q : Int)))] [] (HH g) := by
    intro s
    induction s with
    | zero =>
      intro k hk hj
      have : k = m := by omega
      subst this
      have := AL_full hj
      omega
    | succ s ih =>
      intro k hk hj
      have hv := hh k (by omega)
      have hst : zx zblk xs 52 100 [some (.inr (.inr (some pM))), some (.inl (r)), some (.inl ((m : Int))), some (.inl (v3)), some (.inl (v4)), some (.inl (v5)), some (.inl ((k : Int)))] [] (HH g) = if g pM_heap k < 0 then zx zblk xs 52 116 [some (.inr (.inr (some pM))), some (.inl (r)), some (.inl ((m : Int))), some (.inl (v3)), some (.inl (v4)), some (.inl (v5)), some (.inl ((k : Int)))] [] (HH g) else zx zblk xs 52 100 [some (.inr (.inr (some pM))), some (.inl (r)), some (.inl ((m : Int))), some (.inl (v3)), some (.inl (v4)), some (.inl (v5)), some (.inl (((k + 1 : Nat) : Int)))] [] (HH g) := by
        rw [e_M_shortNow_100, pM_r_heap, pM_a_heap xs _ (by omega) (by omega), zw_id (by omega) (by omega), Int.natCast_succ]
      by_cases c : g pM_heap k < 0
      · exact ⟨k, by omega, c, by rw [hst, if_pos c]⟩
      · obtain ⟨q, q1, q2, q3⟩ := ih (k + 1) (by omega) (fun j hj' => by
          by_cases e : j = k
          · subst e; omega
          · exact hj j (by omega))
        exact ⟨q, q1, q2, by rw [hst, if_neg c]; exact q3⟩
  obtain ⟨q, q1, q2, q3⟩ := loop m 0 (by omega) (fun j hj => by omega)
  rw [z0N] at q3
  exact ⟨q, q1, q2, by rw [e_M_shortNow_97]; exact q3⟩
theorem M_short_loop (xs : List Int) {m r : Nat} (hm : m ≤ 16) (hr : 2 ≤ r) (hr8 : r ≤ 8) : ∀ (q f : Nat) (gk : Nat → Int → Int) (l : List Int) (sm : Int), q ≤ f → hpR gk m → (AL (gk pM_heap) m).Perm l → okL l → l.length = 1 + (r - 1) * q → l.length ≤ m → ∃ g1, zx zblk xs 52 63 [some (.inr (.inr (some pM))), some (.inl ((r : Int))), some (.inl ((m : Int))), some (.inl (sm)), some (.inl ((l.length : Int)))] [] (HH gk) = some (some (.inl (sm + hfS r f r l)), HH g1) ∧ zFr (fun q _ => q = pM_heap) gk g1 := by
  intro q
  induction q with
  | zero =>
    intro f gk l sm hf hh hp hok hl hlm
    have h0 : hfS r f r l = 0 := by
      cases f with
      | zero => rfl
      | succ f => rw [hfS, if_pos (by omega)]
    refine ⟨gk, ?_, zFr.rf⟩
    rw [e_M_shortNow_63, if_pos (by rw [show zw 1 = 1 from rfl, zw_id (by omega) (by omega)]; omega), e_M_shortNow_141, h0, Int.add_zero]
  | succ q ih =>
    intro f gk l sm hf hh hp hok hl hlm
    rw [Nat.mul_succ] at hl
    obtain ⟨f, rfl⟩ : ∃ f', f = f' + 1 := ⟨f - 1, by omega⟩
    obtain ⟨h1, h2, h3, h4⟩ := tkS_ok hok r
    have h5 := lsum_nn h1.1
    have h6 := hok.2
    obtain ⟨g1, a1, a2, a3, a4⟩ := M_short_take xs hm sm (l.length : Int) hr8 (show r ≤ l.length by omega) hok r 0 gk (by omega) hh hp
    have hx : (AL (g1 pM_heap) m).length < m := by rw [a3.length_eq, h4]; omega
    obtain ⟨i, i1, i2, i3⟩ := M_short_at xs hm (r : Int) sm (l.length : Int) (tkS r l).1 a2 hx
    have e1 : up g1 pM_heap i (tkS r l).1 pM_heap i = (tkS r l).1 := up_same _ _ _ _
    have e2 : ∀ j : Int, j ≠ i → up g1 pM_heap i (tkS r l).1 pM_heap j = g1 pM_heap j := fun j hj => up_ne _ _ (fun z => hj z.2)
    have hpm := AL_mark (f := up g1 pM_heap i (tkS r l).1 pM_heap) (f' := g1 pM_heap) (q := i) (by rw [e1]; exact h3) i2 (fun j hj => (e2 j (by omega)).symm) m i1
    rw [e1] at hpm
    obtain ⟨g2, q1, q2⟩ := ih f (up g1 pM_heap i (tkS r l).1) ((tkS r l).2 ++ [(tkS r l).1]) (sm + (tkS r l).1) (by omega) (fun j hj => by
      by_cases e : j = i
      · subst e; rw [e1]; omega
      · rw [e2 j (by omega)]; exact a2 j hj) (hpm.symm.trans ((a3.cons _).trans (List.perm_append_singleton _ _).symm)) (join_ok hok r) (by rw [List.length_append, List.length_singleton, h4]; omega) (by rw [List.length_append, List.length_singleton, h4]; omega)
    refine ⟨g2, ?_, (a4.up rfl).tr q2⟩
    rw [z0N] at a1
    rw [e_M_shortNow_63, if_neg (by rw [show zw 1 = 1 from rfl, zw_id (by omega) (by omega)]; omega)]
    refine Eq.trans a1 ?_
    rw [i3, e_M_shortNow_116, pM_r_heap, pM_s_heap _ _ (by omega) (by omega), hfS, if_neg (by omega)]
    rw [List.length_append, List.length_singleton, h4, show ((l.length - r + 1 : Nat) : Int) = (l.length : Int) - ((r : Int) - 1) by omega, Int.add_assoc] at q1
    exact q1
