/-! ===== how a state of the reading lies in the machine ===== -/
/-- places to addresses -/
def zcR (ads : List Nat) : zV → Value → Prop
  | .inl x, V => V = .int (Int32.ofInt x)
  | .inr (.inl x), V => V = .long (Int64.ofInt x)
  | .inr (.inr none), V => V = .null
  | .inr (.inr (some p)), V => ∃ a, ads[p]? = some a ∧ V = .ref a
def zpre (ads ads' : List Nat) : Prop := ∀ (i a : Nat), ads[i]? = some a → ads'[i]? = some a
theorem zpre_rf (ads : List Nat) : zpre ads ads := fun _ _ h => h
theorem zpre_tr {a b c : List Nat} (h1 : zpre a b) (h2 : zpre b c) : zpre a c := fun i x h => h2 i x (h1 i x h)
theorem zpre_app (a b : List Nat) : zpre a (a ++ b) := fun i x h => by
  rw [List.getElem?_append_left (List.getElem?_eq_some_iff.mp h).1]; exact h
theorem zcR_pre {ads ads' : List Nat} (hp : zpre ads ads') : ∀ {v : zV} {V : Value}, zcR ads v V → zcR ads' v V
  | .inl _, _, h => h
  | .inr (.inl _), _, h => h
  | .inr (.inr none), _, h => h
  | .inr (.inr (some _)), _, ⟨a, h1, h2⟩ => ⟨a, hp _ _ h1, h2⟩
theorem zcR_cat {ads : List Nat} : ∀ {v : zV} {V : Value}, zcR ads v V → V.category = zcat v
  | .inl _, _, h => by cases h; rfl
  | .inr (.inl _), _, h => by cases h; rfl
  | .inr (.inr none), _, h => by cases h; rfl
  | .inr (.inr (some _)), _, ⟨_, _, h⟩ => by cases h; rfl
def zSt (ads : List Nat) : List zV → List Value → Prop
  | [], [] => True
  | v :: t, V :: T => zcR ads v V ∧ zSt ads t T
  | _, _ => False
theorem zSt_pre {ads ads' : List Nat} (hp : zpre ads ads') : ∀ {t : List zV} {T : List Value}, zSt ads t T → zSt ads' t T
  | [], [], _ => trivial
  | _ :: _, _ :: _, h => ⟨zcR_pre hp h.1, zSt_pre hp h.2⟩
  | [], _ :: _, h => h.elim
  | _ :: _, [], h => h.elim
theorem zSt_len {ads : List Nat} : ∀ {t : List zV} {T : List Value}, zSt ads t T → T.length = t.length
  | [], [], _ => rfl
  | _ :: _, _ :: _, h => by simp [zSt_len h.2]
  | [], _ :: _, h => h.elim
  | _ :: _, [], h => h.elim
theorem zSt_get {ads : List Nat} : ∀ {t : List zV} {T : List Value} {k : Nat} {v : zV}, zSt ads t T → t[k]? = some v → ∃ V, T[k]? = some V ∧ zcR ads v V
  | [], [], k, v, _, h => by simp at h
  | w :: t, W :: T, 0, v, h, q => by
    simp at q
    subst q
    exact ⟨W, by simp, h.1⟩
  | w :: t, W :: T, k + 1, v, h, q => by
    simp at q
    obtain ⟨V, h1, h2⟩ := zSt_get h.2 q
    exact ⟨V, by simpa using h1, h2⟩
  | [], _ :: _, _, _, h, _ => h.elim
  | _ :: _, [], _, _, h, _ => h.elim
theorem zSt_set {ads : List Nat} : ∀ {t : List zV} {T : List Value} (k : Nat) {v : zV} {V : Value}, zSt ads t T → zcR ads v V → zSt ads (t.set k v) (T.set k V)
  | [], [], _, _, _, _, _ => trivial
  | _ :: _, _ :: _, 0, _, _, h, q => ⟨q, h.2⟩
  | _ :: _, _ :: _, k + 1, _, _, h, q => ⟨h.1, zSt_set k h.2 q⟩
  | [], _ :: _, _, _, _, h, _ => h.elim
  | _ :: _, [], _, _, _, h, _ => h.elim
theorem zSt_take {ads : List Nat} : ∀ (n : Nat) {t : List zV} {T : List Value}, zSt ads t T → zSt ads (t.take n) (T.take n) ∧ zSt ads (t.drop n) (T.drop n)
  | 0, t, T, h => ⟨trivial, h⟩
  | n + 1, [], [], _ => ⟨trivial, trivial⟩
  | n + 1, _ :: _, _ :: _, h => ⟨⟨h.1, (zSt_take n h.2).1⟩, (zSt_take n h.2).2⟩
  | n + 1, [], _ :: _, h => h.elim
  | n + 1, _ :: _, [], h => h.elim
theorem zSt_app {ads : List Nat} : ∀ {t : List zV} {T : List Value} {t2 : List zV} {T2 : List Value}, zSt ads t T → zSt ads t2 T2 → zSt ads (t ++ t2) (T ++ T2)
  | [], [], _, _, _, h2 => h2
  | _ :: _, _ :: _, _, _, h, h2 => ⟨h.1, zSt_app h.2 h2⟩
  | [], _ :: _, _, _, h, _ => h.elim
  | _ :: _, [], _, _, h, _ => h.elim
theorem zSt_rev {ads : List Nat} : ∀ {t : List zV} {T : List Value}, zSt ads t T → zSt ads t.reverse T.reverse
  | [], [], _ => trivial
  | _ :: _, _ :: _, h => by
    rw [List.reverse_cons, List.reverse_cons]
    exact zSt_app (zSt_rev h.2) ⟨h.1, trivial⟩
  | [], _ :: _, h => h.elim
  | _ :: _, [], h => h.elim
theorem zSt_cat {ads : List Nat} : ∀ {t : List zV} {T : List Value}, zSt ads t T → (T.map fun v => v.category).sum ≤ 2 * t.length
  | [], [], _ => by simp
  | v :: t, V :: T, h => by
    have h1 := zSt_cat h.2
    have h2 := zcR_cat h.1
    have h3 : zcat v ≤ 2 := by rcases v with v | v | v <;> simp [zcat]
    simp only [List.map_cons, List.sum_cons, List.length_cons]
    omega
  | [], _ :: _, h => h.elim
  | _ :: _, [], h => h.elim
/-- the locals -/
def zLo (ads : List Nat) (nL : Nat) (L : zL) (ls : Array Slot) : Prop := ls.size = nL ∧ lv_wf ls ∧ ∀ (i : Nat) (v : zV), L[i]? = some (some v) → ∃ V, ls[i]? = some (.val V) ∧ zcR ads v V
theorem zLo_pre {ads ads' : List Nat} (hp : zpre ads ads') {nL : Nat} {L : zL} {ls : Array Slot} (h : zLo ads nL L ls) : zLo ads' nL L ls := ⟨h.1, h.2.1, fun i v q => by
  obtain ⟨V, h1, h2⟩ := h.2.2 i v q
  exact ⟨V, h1, zcR_pre hp h2⟩⟩
theorem zLo_ld {ads : List Nat} {nL : Nat} {L : zL} {ls : Array Slot} (h : zLo ads nL L ls) {i : Nat} {v : zV} (q : zld L i = some v) : ∃ V, ls[i]? = some (.val V) ∧ zcR ads v V := by
  unfold zld at q
  split at q
  next w hw => cases q; exact h.2.2 i v hw
  next => cases q
theorem zkeep_get : ∀ (m : List Nat) (L : zL) (i : Nat) (v : zV), (zkeep m L)[i]? = some (some v) → L[i]? = some (some v)
  | [], L, i, v, h => by simp [zkeep] at h
  | a :: m, [], i, v, h => by simp [zkeep] at h
  | 0 :: m, w :: t, 0, v, h => by simp [zkeep] at h
  | 0 :: m, w :: t, i + 1, v, h => by simp [zkeep] at h ⊢; exact zkeep_get m t i v h
  | (_ + 1) :: m, w :: t, 0, v, h => by simpa [zkeep] using h
  | (_ + 1) :: m, w :: t, i + 1, v, h => by simp [zkeep] at h ⊢; exact zkeep_get m t i v h
theorem zLo_keep {ads : List Nat} {nL : Nat} {L : zL} {ls : Array Slot} (h : zLo ads nL L ls) (m : List Nat) : zLo ads nL (zkeep m L) ls := ⟨h.1, h.2.1, fun i v q => h.2.2 i v (zkeep_get m L i v q)⟩
/-- what stands in L after a store, stood there before or is the stored one -/
theorem zset1_get : ∀ (L : zL) (i : Nat) (w : Option zV) (j : Nat) (v : zV), (zset1 L i w)[j]? = some (some v) → (j = i ∧ w = some v) ∨ (j ≠ i ∧ L[j]? = some (some v) ∧ ¬ (j + 1 = i ∧ zcat v = 2))
  | [], 0, w, 0, v, h => by simp [zset1] at h; exact Or.inl ⟨rfl, h⟩
  | [], 0, w, j + 1, v, h => by simp [zset1] at h
  | [], i + 1, w, 0, v, h => by simp [zset1] at h
  | [], i + 1, w, j + 1, v, h => by
    simp [zset1] at h
    rcases zset1_get [] i w j v h with ⟨h1, h2⟩ | ⟨h1, h2, h3⟩
    · exact Or.inl ⟨by omega, h2⟩
    · simp at h2
  | a :: t, 0, w, 0, v, h => by simp [zset1] at h; exact Or.inl ⟨rfl, h⟩
  | a :: t, 0, w, j + 1, v, h => by simp [zset1] at h; exact Or.inr ⟨by omega, by simpa using h, by omega⟩
  | a :: t, i + 1, w, 0, v, h => by
    have key : ∀ b : Option zV, b = some v → b = a → (0 = i + 1 ∧ w = some v) ∨ (0 ≠ i + 1 ∧ (a :: t)[0]? = some (some v) ∧ ¬ (0 + 1 = i + 1 ∧ zcat v = 2)) ∨ (i = 0 ∧ zcat v = 2) := by
      intro b h1 h2
      subst h2
      by_cases hi : i = 0 ∧ zcat v = 2
      · exact Or.inr (Or.inr hi)
      · refine Or.inr (Or.inl ⟨by omega, by simp [h1], ?_⟩)
        intro q; exact hi ⟨by omega, q.2⟩
    rcases a with _ | a | a | a
    · simp [zset1] at h
    · simp [zset1] at h
      rcases key _ (by simp [h]) rfl with q | q | ⟨q1, q2⟩
      · exact Or.inl q
      · exact Or.inr q
      · subst h; simp [zcat] at q2
    · rcases i with _ | i
      · simp [zset1] at h
      · simp [zset1] at h
        rcases key _ (by simp [h]) rfl with q | q | ⟨q1, q2⟩
        · exact Or.inl q
        · exact Or.inr q
        · omega
    · simp [zset1] at h
      rcases key _ (by simp [h]) rfl with q | q | ⟨q1, q2⟩
      · exact Or.inl q
      · exact Or.inr q
      · subst h; simp [zcat] at q2
  | a :: t, i + 1, w, j + 1, v, h => by
    have h' : (zset1 t i w)[j]? = some (some v) := by
      rcases a with _ | a | a | a
      · simpa [zset1] using h
      · simpa [zset1] using h
      · rcases i with _ | i <;> simpa [zset1] using h
      · simpa [zset1] using h
    rcases zset1_get t i w j v h' with ⟨h1, h2⟩ | ⟨h1, h2, h3⟩
    · exact Or.inl ⟨by omega, h2⟩
    · exact Or.inr ⟨by omega, by simpa using h2, by omega⟩
theorem zset2_get : ∀ (L : zL) (i : Nat) (w : Option zV) (j : Nat) (v : zV), (zset2 L i w)[j]? = some (some v) → (j = i ∧ w = some v) ∨ (j ≠ i ∧ j ≠ i + 1 ∧ L[j]? = some (some v) ∧ ¬ (j + 1 = i ∧ zcat v = 2))
  | [], 0, w, 0, v, h => by simp [zset2] at h; exact Or.inl ⟨rfl, h⟩
  | [], 0, w, 1, v, h => by simp [zset2] at h
  | [], 0, w, j + 2, v, h => by simp [zset2] at h
  | [], i + 1, w, 0, v, h => by simp [zset2] at h
  | [], i + 1, w, j + 1, v, h => by
    simp [zset2] at h
    rcases zset2_get [] i w j v h with ⟨h1, h2⟩ | ⟨h1, h2, h3, h4⟩
    · exact Or.inl ⟨by omega, h2⟩
    · simp at h3
  | [a], 0, w, 0, v, h => by simp [zset2] at h; exact Or.inl ⟨rfl, h⟩
  | [a], 0, w, 1, v, h => by simp [zset2] at h
  | [a], 0, w, j + 2, v, h => by simp [zset2] at h
  | a :: b :: t, 0, w, 0, v, h => by simp [zset2] at h; exact Or.inl ⟨rfl, h⟩
  | a :: b :: t, 0, w, 1, v, h => by simp [zset2] at h
  | a :: b :: t, 0, w, j + 2, v, h => by simp [zset2] at h; exact Or.inr ⟨by omega, by omega, by simpa using h, by omega⟩
  | a :: t, i + 1, w, 0, v, h => by
    have key : ∀ b : Option zV, b = some v → b = a → (0 = i + 1 ∧ w = some v) ∨ (0 ≠ i + 1 ∧ 0 ≠ i + 1 + 1 ∧ (a :: t)[0]? = some (some v) ∧ ¬ (0 + 1 = i + 1 ∧ zcat v = 2)) ∨ (i = 0 ∧ zcat v = 2) := by
      intro b h1 h2
      subst h2
      by_cases hi : i = 0 ∧ zcat v = 2
      · exact Or.inr (Or.inr hi)
      · refine Or.inr (Or.inl ⟨by omega, by omega, by simp [h1], ?_⟩)
        intro q; exact hi ⟨by omega, q.2⟩
    have fin : zcat v ≠ 2 ∨ i ≠ 0 → a = some v → (0 = i + 1 ∧ w = some v) ∨ (0 ≠ i + 1 ∧ 0 ≠ i + 1 + 1 ∧ (a :: t)[0]? = some (some v) ∧ ¬ (0 + 1 = i + 1 ∧ zcat v = 2)) := by
      intro hn ha
      rcases key _ ha rfl with q | q | ⟨q1, q2⟩
      · exact Or.inl q
      · exact Or.inr q
      · omega
    rcases a with _ | a | a | a
    · rcases t with _ | ⟨b, t⟩ <;> simp [zset2] at h
    · have ha : some (Sum.inl a) = some v := by rcases t with _ | ⟨b, t⟩ <;> simpa [zset2] using h
      exact fin (Or.inl (by cases ha; simp [zcat])) ha
    · rcases i with _ | i
      · rcases t with _ | ⟨b, t⟩ <;> simp [zset2] at h
      · have ha : some (Sum.inr (Sum.inl a)) = some v := by rcases t with _ | ⟨b, t⟩ <;> simpa [zset2] using h
        exact fin (Or.inr (by omega)) ha
    · have ha : some (Sum.inr (Sum.inr a)) = some v := by rcases t with _ | ⟨b, t⟩ <;> simpa [zset2] using h
      exact fin (Or.inl (by cases ha; simp [zcat])) ha
  | a :: t, i + 1, w, j + 1, v, h => by
    have h' : (zset2 t i w)[j]? = some (some v) := by
      rcases a with _ | a | a | a
      · rcases t with _ | ⟨b, t⟩ <;> simpa [zset2] using h
      · rcases t with _ | ⟨b, t⟩ <;> simpa [zset2] using h
      · rcases i with _ | i <;> rcases t with _ | ⟨b, t⟩ <;> simpa [zset2] using h
      · rcases t with _ | ⟨b, t⟩ <;> simpa [zset2] using h
    rcases zset2_get t i w j v h' with ⟨h1, h2⟩ | ⟨h1, h2, h3, h4⟩
    · exact Or.inl ⟨by omega, h2⟩
    · exact Or.inr ⟨by omega, by omega, by simpa using h3, by omega⟩
