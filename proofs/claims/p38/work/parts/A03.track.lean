/-! ===== trackers: the first pair of a kind, the least distance so far ===== -/
def bef (a b i j : Nat) : Prop := a < i ∨ (a = i ∧ b < j)
def Fst (P : Nat → Nat → Prop) (n i j : Nat) (u v : Int) : Prop := (u = -1 ∧ v = -1 ∧ ∀ a b, b < n → bef a b i j → ¬ P a b) ∨ ∃ a b : Nat, u = a ∧ v = b ∧ b < n ∧ bef a b i j ∧ P a b ∧ ∀ a' b', b' < n → bef a' b' a b → ¬ P a' b'
theorem Fst_0 (P : Nat → Nat → Prop) (n : Nat) : Fst P n 0 0 (-1) (-1) := Or.inl ⟨rfl, rfl, fun a b _ h => by unfold bef at h; omega⟩
theorem Fst_no {P : Nat → Nat → Prop} {n i j : Nat} {u v : Int} (h : Fst P n i j u v) (hn : ¬ P i j ∨ 0 ≤ u) : Fst P n i (j + 1) u v := by
  rcases h with ⟨h1, h2, h3⟩ | ⟨a, b, h1, h2, h3, h4, h5, h6⟩
  · refine Or.inl ⟨h1, h2, fun a b hb hbe => ?_⟩
    by_cases e : a = i ∧ b = j
    · obtain ⟨rfl, rfl⟩ := e
      rcases hn with z | z
      · exact z
      · omega
    · exact h3 a b hb (by unfold bef at *; omega)
  · exact Or.inr ⟨a, b, h1, h2, h3, by unfold bef at *; omega, h5, h6⟩
theorem Fst_yes {P : Nat → Nat → Prop} {n i j : Nat} {u v : Int} (h : Fst P n i j u v) (hu : u < 0) (hp : P i j) (hj : j < n) : Fst P n i (j + 1) i j := by
  rcases h with ⟨h1, h2, h3⟩ | ⟨a, b, h1, h2, h3, h4, h5, h6⟩
  · exact Or.inr ⟨i, j, rfl, rfl, hj, by unfold bef; omega, hp, h3⟩
  · omega
theorem Fst_row {P : Nat → Nat → Prop} {n i : Nat} {u v : Int} (h : Fst P n i n u v) : Fst P n (i + 1) 0 u v := by
  rcases h with ⟨h1, h2, h3⟩ | ⟨a, b, h1, h2, h3, h4, h5, h6⟩
  · exact Or.inl ⟨h1, h2, fun a b hb hbe => h3 a b hb (by unfold bef at *; omega)⟩
  · exact Or.inr ⟨a, b, h1, h2, h3, by unfold bef at *; omega, h5, h6⟩
theorem Fst_rg {P : Nat → Nat → Prop} {n i j : Nat} {u v : Int} (h : Fst P n i j u v) (hi : i ≤ 8) (hn : n ≤ 8) : -1 ≤ u ∧ u ≤ 8 ∧ -1 ≤ v ∧ v ≤ 8 := by
  rcases h with ⟨h1, h2, h3⟩ | ⟨a, b, h1, h2, h3, h4, h5, h6⟩
  · omega
  · unfold bef at h4; omega
theorem Fst_zfo {P Q : Nat → Nat → Prop} [∀ i j, Decidable (Q i j)] {n : Nat} {s m : Nat → Nat} (hn : n ≤ 8) (hs : ∀ i j, j < n → P i j → s i ≤ j ∧ j < s i + m i) (hm : ∀ i, i < n → s i + m i ≤ n) (hQ : ∀ i j, i < n → s i ≤ j → j < s i + m i → (Q i j ↔ P i j)) {u v : Int} (h : Fst P n n 0 u v) : (u = -1 ∧ v = -1 ∧ zfo (fun i => zfo (fun j => if Q i j then 8 * (i : Int) + j else -1) (m i) (s i)) n 0 = -1) ∨ ∃ a b : Nat, u = a ∧ v = b ∧ a < n ∧ b < n ∧ zfo (fun i => zfo (fun j => if Q i j then 8 * (i : Int) + j else -1) (m i) (s i)) n 0 = 8 * (a : Int) + b := by
  rcases h with ⟨h1, h2, h3⟩ | ⟨a, b, h1, h2, h3, h4, h5, h6⟩
  · refine Or.inl ⟨h1, h2, zfo_no (fun i _ hi => zfo_no (fun j hj1 hj2 => ?_))⟩
    have := hm i (by omega)
    rw [if_neg]
    rw [hQ i j (by omega) hj1 hj2]
    exact h3 i j (by omega) (by unfold bef; omega)
  · have han : a < n := by unfold bef at h4; omega
    refine Or.inr ⟨a, b, h1, h2, han, h3, ?_⟩
    obtain ⟨s1, s2⟩ := hs a b h3 h5
    have hin : zfo (fun j => if Q a j then 8 * (a : Int) + j else -1) (m a) (s a) = 8 * (a : Int) + b := by
      have e := zfo_at (f := fun j : Nat => if Q a j then 8 * (a : Int) + j else -1) (n := m a) (i := s a) (j := b) (fun k k1 k2 => by
        show (if Q a k then 8 * (a : Int) + k else -1) = -1
        rw [if_neg]
        rw [hQ a k han k1 (by omega)]
        exact h6 a k (by omega) (by unfold bef; omega)) (by
        show (if Q a b then 8 * (a : Int) + b else -1) ≠ -1
        rw [if_pos ((hQ a b han s1 s2).mpr h5)]
        omega) s1 s2
      rw [e]
      exact if_pos ((hQ a b han s1 s2).mpr h5)
    have e := zfo_at (f := fun i : Nat => zfo (fun j => if Q i j then 8 * (i : Int) + j else -1) (m i) (s i)) (n := n) (i := 0) (j := a) (fun k _ k2 => zfo_no (fun j hj1 hj2 => by
      have := hm k (by omega)
      show (if Q k j then 8 * (k : Int) + j else -1) = -1
      rw [if_neg]
      rw [hQ k j (by omega) hj1 hj2]
      exact h6 k j (by omega) (by unfold bef; omega))) (by
      show zfo (fun j => if Q a j then 8 * (a : Int) + j else -1) (m a) (s a) ≠ -1
      rw [hin]
      omega) (by omega) (by omega)
    rw [e]
    exact hin
/-- the pairs looked at -/
def Sps (n i j a b : Nat) : Prop := a < b ∧ b < n ∧ bef a b i j
def ApT (L : Nat → List Int) (n i j : Nat) (v : Int) : Prop := (v = 99 ∧ ∀ a b, ¬ Sps n i j a b) ∨ (v = -1 ∧ ∃ a b, Sps n i j a b ∧ (L a).length ≠ (L b).length) ∨ (0 ≤ v ∧ v ≤ 10 ∧ (∃ a b, Sps n i j a b ∧ dif (L a) (L b) = v) ∧ ∀ a b, Sps n i j a b → (L a).length = (L b).length ∧ v ≤ dif (L a) (L b))
theorem ApT_0 (L : Nat → List Int) (n : Nat) : ApT L n 0 0 99 := Or.inl ⟨rfl, fun a b h => by unfold Sps bef at h; omega⟩
theorem ApT_cg {L : Nat → List Int} {n i j i' j' : Nat} {v : Int} (h : ApT L n i j v) (e : ∀ a b, Sps n i' j' a b ↔ Sps n i j a b) : ApT L n i' j' v := by
  unfold ApT at *
  simp only [e]
  exact h
theorem ApT_le {L : Nat → List Int} {n i j : Nat} {v : Int} (h : ApT L n i j v) (hji : j ≤ i) : ApT L n i (j + 1) v := ApT_cg h (fun a b => by unfold Sps bef; omega)
theorem ApT_row {L : Nat → List Int} {n i : Nat} {v : Int} (h : ApT L n i n v) : ApT L n (i + 1) 0 v := ApT_cg h (fun a b => by unfold Sps bef; omega)
theorem ApT_rg {L : Nat → List Int} {n i j : Nat} {v : Int} (h : ApT L n i j v) : -1 ≤ v ∧ v ≤ 99 := by
  rcases h with h | h | h <;> omega
theorem ApT_far {L : Nat → List Int} {n i j : Nat} (hij : i < j) (hj : j < n) (hl : (L i).length ≠ (L j).length) : ApT L n i (j + 1) (-1) := Or.inr (Or.inl ⟨rfl, i, j, ⟨hij, hj, by unfold bef; omega⟩, hl⟩)
theorem Sps_s {n i j a b : Nat} : Sps n i (j + 1) a b → Sps n i j a b ∨ (a = i ∧ b = j) := by unfold Sps bef; omega
theorem Sps_m {n i j a b : Nat} (h : Sps n i j a b) : Sps n i (j + 1) a b := by unfold Sps bef at *; omega
theorem ApT_m1 {L : Nat → List Int} {n i j : Nat} {v : Int} (h : ApT L n i j v) (hv : v < 0) : ApT L n i (j + 1) v := by
  rcases h with h | ⟨h, a, b, h1, h2⟩ | h
  · omega
  · exact Or.inr (Or.inl ⟨h, a, b, Sps_m h1, h2⟩)
  · omega
theorem ApT_keep {L : Nat → List Int} {n i j : Nat} {v : Int} (h : ApT L n i j v) (hv : 0 ≤ v) (hl : (L i).length = (L j).length) (hd : dif (L i) (L j) ≤ 10) (hle : v ≤ dif (L i) (L j)) : ApT L n i (j + 1) v := by
  rcases h with h | ⟨h, -⟩ | ⟨h1, h2, ⟨a, b, h3, h4⟩, h5⟩
  · omega
  · omega
  · refine Or.inr (Or.inr ⟨h1, h2, ⟨a, b, Sps_m h3, h4⟩, fun a b hab => ?_⟩)
    rcases Sps_s hab with z | ⟨rfl, rfl⟩
    · exact h5 a b z
    · exact ⟨hl, hle⟩
theorem ApT_less {L : Nat → List Int} {n i j : Nat} {v : Int} (h : ApT L n i j v) (hv : 0 ≤ v) (hij : i < j) (hj : j < n) (hl : (L i).length = (L j).length) (hd : 0 ≤ dif (L i) (L j) ∧ dif (L i) (L j) ≤ 10) (hle : dif (L i) (L j) < v) : ApT L n i (j + 1) (dif (L i) (L j)) := by
  refine Or.inr (Or.inr ⟨hd.1, hd.2, ⟨i, j, ⟨hij, hj, by unfold bef; omega⟩, rfl⟩, fun a b hab => ?_⟩)
  rcases Sps_s hab with z | ⟨rfl, rfl⟩
  · rcases h with ⟨h, h'⟩ | ⟨h, -⟩ | ⟨h1, h2, -, h5⟩
    · exact absurd z (h' a b)
    · omega
    · have := h5 a b z
      omega
  · exact ⟨hl, Int.le_refl _⟩
theorem ApT_end {L : Nat → List Int} {n : Nat} {v : Int} (h : ApT L n n 0 v) : isAp L n (if v = 99 then -1 else v) := by
  have hall : ∀ a b, Sps n n 0 a b ↔ (a < b ∧ b < n) := fun a b => by unfold Sps bef; omega
  unfold isAp
  rcases h with ⟨rfl, h⟩ | ⟨rfl, a, b, h1, h2⟩ | ⟨h1, h2, ⟨a, b, h3, h4⟩, h5⟩
  · rw [if_pos rfl]
    refine ⟨fun _ => rfl, fun h2 => ?_⟩
    exact absurd ((hall 0 1).mpr ⟨by omega, by omega⟩) (h 0 1)
  · rw [if_neg (by decide)]
    rw [hall] at h1
    refine ⟨fun _ => rfl, fun _ hl => ?_⟩
    exact absurd ((hl a (by omega)).trans (hl b (by omega)).symm) h2
  · rw [if_neg (by omega)]
    rw [hall] at h3
    refine ⟨fun z => ?_, fun _ hl => ⟨⟨a, b, h3.1, h3.2, h4⟩, fun i j hi hj => (h5 i j ((hall i j).mpr ⟨hi, hj⟩)).2⟩⟩
    rcases z with z | ⟨i, hi, hne⟩
    · omega
    · by_cases e : i = 0
      · subst e; exact absurd rfl hne
      · exact absurd (h5 0 i ((hall 0 i).mpr ⟨by omega, hi⟩)).1.symm hne
