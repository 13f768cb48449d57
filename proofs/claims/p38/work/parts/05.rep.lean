/-! ===== how a state of the reading lies in the machine ===== -/
/-- places to addresses -/
def zcR (ads : List Nat) : zV → Value → Prop
  | .inl x, V => V = .int (Int32.ofInt x)
  | .inr (.inl x), V => V = .long (Int64.ofInt x)
  | .inr (.inr none), V => V = .null
  | .inr (.inr (some p)), V => ∃ a, ads[p]? = some a ∧ V = .ref a
def zpre (ads ads' : List Nat) : Prop := ∀ (i a : Nat), ads[i]? = some a → ads'[i]? = some a
theorem zpre_rf (ads : List Nat) : zpre ads ads := fun _ _ h => h
theorem zpre_tr {a b c : List Nat} (h1 : zpre a b) (h2 : zpre b c) : zpre a c := fun i x h => h2 i x (h1 i x h)
theorem zpre_app (a b : List Nat) : zpre a (a ++ b) := fun i x h => by
  rw [List.getElem?_append_left (List.getElem?_eq_some_iff.mp h).1]; exact h
theorem zcR_pre {ads ads' : List Nat} (hp : zpre ads ads') : ∀ {v : zV} {V : Value}, zcR ads v V → zcR ads' v V
  | .inl _, _, h => h
  | .inr (.inl _), _, h => h
  | .inr (.inr none), _, h => h
  | .inr (.inr (some _)), _, ⟨a, h1, h2⟩ => ⟨a, hp _ _ h1, h2⟩
theorem zcR_cat {ads : List Nat} : ∀ {v : zV} {V : Value}, zcR ads v V → V.category = zcat v
  | .inl _, _, h => by cases h; rfl
  | .inr (.inl _), _, h => by cases h; rfl
  | .inr (.inr none), _, h => by cases h; rfl
  | .inr (.inr (some _)), _, ⟨_, _, h⟩ => by cases h; rfl
def zSt (ads : List Nat) : List zV → List Value → Prop
  | [], [] => True
  | v :: t, V :: T => zcR ads v V ∧ zSt ads t T
  | _, _ => False
theorem zSt_pre {ads ads' : List Nat} (hp : zpre ads ads') : ∀ {t : List zV} {T : List Value}, zSt ads t T → zSt ads' t T
  | [], [], _ => trivial
  | _ :: _, _ :: _, h => ⟨zcR_pre hp h.1, zSt_pre hp h.2⟩
  | [], _ :: _, h => h.elim
  | _ :: _, [], h => h.elim
theorem zSt_len {ads : List Nat} : ∀ {t : List zV} {T : List Value}, zSt ads t T → T.length = t.length
  | [], [], _ => rfl
  | _ :: _, _ :: _, h => by simp [zSt_len h.2]
  | [], _ :: _, h => h.elim
  | _ :: _, [], h => h.elim
theorem zSt_get {ads : List Nat} : ∀ {t : List zV} {T : List Value} {k : Nat} {v : zV}, zSt ads t T → t[k]? = some v → ∃ V, T[k]? = some V ∧ zcR ads v V
  | [], [], k, v, _, h => by simp at h
  | w :: t, W :: T, 0, v, h, q => by
    simp at q
    subst q
    exact ⟨W, by simp, h.1⟩
  | w :: t, W :: T, k + 1, v, h, q => by
    simp at q
    obtain ⟨V, h1, h2⟩ := zSt_get h.2 q
    exact ⟨V, by simpa using h1, h2⟩
  | [], _ :: _, _, _, h, _ => h.elim
  | _ :: _, [], _, _, h, _ => h.elim
theorem zSt_set {ads : List Nat} : ∀ {t : List zV} {T : List Value} (k : Nat) {v : zV} {V : Value}, zSt ads t T → zcR ads v V → zSt ads (t.set k v) (T.set k V)
  | [], [], _, _, _, _, _ => trivial
  | _ :: _, _ :: _, 0, _, _, h, q => ⟨q, h.2⟩
  | _ :: _, _ :: _, k + 1, _, _, h, q => ⟨h.1, zSt_set k h.2 q⟩
  | [], _ :: _, _, _, _, h, _ => h.elim
  | _ :: _, [], _, _, _, h, _ => h.elim
theorem zSt_take {ads : List Nat} : ∀ (n : Nat) {t : List zV} {T : List Value}, zSt ads t T → zSt ads (t.take n) (T.take n) ∧ zSt ads (t.drop n) (T.drop n)
  | 0, t, T, h => ⟨trivial, h⟩
  | n + 1, [], [], _ => ⟨trivial, trivial⟩
  | n + 1, _ :: _, _ :: _, h => ⟨⟨h.1, (zSt_take n h.2).1⟩, (zSt_take n h.2).2⟩
  | n + 1, [], _ :: _, h => h.elim
  | n + 1, _ :: _, [], h => h.elim
theorem zSt_app {ads : List Nat} : ∀ {t : List zV} {T : List Value} {t2 : List zV} {T2 : List Value}, zSt ads t T → zSt ads t2 T2 → zSt ads (t ++ t2) (T ++ T2)
  | [], [], _, _, _, h2 => h2
  | _ :: _, _ :: _, _, _, h, h2 => ⟨h.1, zSt_app h.2 h2⟩
  | [], _ :: _, _, _, h, _ => h.elim
  | _ :: _, [], _, _, h, _ => h.elim
theorem zSt_rev {ads : List Nat} : ∀ {t : List zV} {T : List Value}, zSt ads t T → zSt ads t.reverse T.reverse
  | [], [], _ => trivial
  | _ :: _, _ :: _, h => by
    rw [List.reverse_cons, List.reverse_cons]
    exact zSt_app (zSt_rev h.2) ⟨h.1, trivial⟩
  | [], _ :: _, h => h.elim
  | _ :: _, [], h => h.elim
theorem zSt_cat {ads : List Nat} : ∀ {t : List zV} {T : List Value}, zSt ads t T → (T.map fun v => v.category).sum = zcs t
  | [], [], _ => rfl
  | v :: t, V :: T, h => by
    have h1 := zSt_cat h.2
    have h2 := zcR_cat h.1
    simp only [List.map_cons, List.sum_cons, zcs]
    omega
  | [], _ :: _, h => h.elim
  | _ :: _, [], h => h.elim
/-- the locals -/
def zLo (ads : List Nat) (nL : Nat) (L : zL) (ls : Array Slot) : Prop := ls.size = nL ∧ lv_wf ls ∧ ∀ (i : Nat) (v : zV), L[i]? = some (some v) → ∃ V, ls[i]? = some (.val V) ∧ zcR ads v V
theorem zLo_pre {ads ads' : List Nat} (hp : zpre ads ads') {nL : Nat} {L : zL} {ls : Array Slot} (h : zLo ads nL L ls) : zLo ads' nL L ls := ⟨h.1, h.2.1, fun i v q => by
  obtain ⟨V, h1, h2⟩ := h.2.2 i v q
  exact ⟨V, h1, zcR_pre hp h2⟩⟩
theorem zLo_ld {ads : List Nat} {nL : Nat} {L : zL} {ls : Array Slot} (h : zLo ads nL L ls) {i : Nat} {v : zV} (q : zld L i = some v) : ∃ V, ls[i]? = some (.val V) ∧ zcR ads v V := by
  unfold zld at q
  split at q
  next w hw => cases q; exact h.2.2 i v hw
  next => cases q
theorem zkeep_get : ∀ (m : List Nat) (L : zL) (i : Nat) (v : zV), (zkeep m L)[i]? = some (some v) → L[i]? = some (some v)
  | [], L, i, v, h => by simp [zkeep] at h
  | a :: m, [], i, v, h => by simp [zkeep] at h
  | 0 :: m, w :: t, 0, v, h => by simp [zkeep] at h
  | 0 :: m, w :: t, i + 1, v, h => by simp [zkeep] at h ⊢; exact zkeep_get m t i v h
  | (_ + 1) :: m, w :: t, 0, v, h => by simpa [zkeep] using h
  | (_ + 1) :: m, w :: t, i + 1, v, h => by simp [zkeep] at h ⊢; exact zkeep_get m t i v h
theorem zLo_keep {ads : List Nat} {nL : Nat} {L : zL} {ls : Array Slot} (h : zLo ads nL L ls) (m : List Nat) : zLo ads nL (zkeep m L) ls := ⟨h.1, h.2.1, fun i v q => h.2.2 i v (zkeep_get m L i v q)⟩
/-- what stands in L after a store, stood there before or is the stored one -/
theorem zset1_get : ∀ (L : zL) (i : Nat) (w : Option zV) (j : Nat) (v : zV), (zset1 L i w)[j]? = some (some v) → (j = i ∧ w = some v) ∨ (j ≠ i ∧ L[j]? = some (some v) ∧ ¬ (j + 1 = i ∧ zcat v = 2))
  | [], 0, w, 0, v, h => by simp [zset1] at h; exact Or.inl ⟨rfl, h⟩
  | [], 0, w, j + 1, v, h => by simp [zset1] at h
  | [], i + 1, w, 0, v, h => by simp [zset1] at h
  | [], i + 1, w, j + 1, v, h => by
    simp [zset1] at h
    rcases zset1_get [] i w j v h with ⟨h1, h2⟩ | ⟨h1, h2, h3⟩
    · exact Or.inl ⟨by omega, h2⟩
    · simp at h2
  | a :: t, 0, w, 0, v, h => by simp [zset1] at h; exact Or.inl ⟨rfl, h⟩
  | a :: t, 0, w, j + 1, v, h => by simp [zset1] at h; exact Or.inr ⟨by omega, by simpa using h, by omega⟩
  | a :: t, i + 1, w, 0, v, h => by
    have key : ∀ b : Option zV, b = some v → b = a → (0 = i + 1 ∧ w = some v) ∨ (0 ≠ i + 1 ∧ (a :: t)[0]? = some (some v) ∧ ¬ (0 + 1 = i + 1 ∧ zcat v = 2)) ∨ (i = 0 ∧ zcat v = 2) := by
      intro b h1 h2
      subst h2
      by_cases hi : i = 0 ∧ zcat v = 2
      · exact Or.inr (Or.inr hi)
      · refine Or.inr (Or.inl ⟨by omega, by simp [h1], ?_⟩)
        intro q; exact hi ⟨by omega, q.2⟩
    rcases a with _ | a | a | a
    · simp [zset1] at h
    · simp [zset1] at h
      rcases key _ (by simp [h]) rfl with q | q | ⟨q1, q2⟩
      · exact Or.inl q
      · exact Or.inr q
      · subst h; simp [zcat] at q2
    · rcases i with _ | i
      · simp [zset1] at h
      · simp [zset1] at h
        rcases key _ (by simp [h]) rfl with q | q | ⟨q1, q2⟩
        · exact Or.inl q
        · exact Or.inr q
        · omega
    · simp [zset1] at h
      rcases key _ (by simp [h]) rfl with q | q | ⟨q1, q2⟩
      · exact Or.inl q
      · exact Or.inr q
      · subst h; simp [zcat] at q2
  | a :: t, i + 1, w, j + 1, v, h => by
    have h' : (zset1 t i w)[j]? = some (some v) := by
      rcases a with _ | a | a | a
      · simpa [zset1] using h
      · simpa [zset1] using h
      · rcases i with _ | i <;> simpa [zset1] using h
      · simpa [zset1] using h
    rcases zset1_get t i w j v h' with ⟨h1, h2⟩ | ⟨h1, h2, h3⟩
    · exact Or.inl ⟨by omega, h2⟩
    · exact Or.inr ⟨by omega, by simpa using h2, by omega⟩
theorem zset2_get : ∀ (L : zL) (i : Nat) (w : Option zV) (j : Nat) (v : zV), (zset2 L i w)[j]? = some (some v) → (j = i ∧ w = some v) ∨ (j ≠ i ∧ j ≠ i + 1 ∧ L[j]? = some (some v) ∧ ¬ (j + 1 = i ∧ zcat v = 2))
  | [], 0, w, 0, v, h => by simp [zset2] at h; exact Or.inl ⟨rfl, h⟩
  | [], 0, w, 1, v, h => by simp [zset2] at h
  | [], 0, w, j + 2, v, h => by simp [zset2] at h
  | [], i + 1, w, 0, v, h => by simp [zset2] at h
  | [], i + 1, w, j + 1, v, h => by
    simp [zset2] at h
    rcases zset2_get [] i w j v h with ⟨h1, h2⟩ | ⟨h1, h2, h3, h4⟩
    · exact Or.inl ⟨by omega, h2⟩
    · simp at h3
  | [a], 0, w, 0, v, h => by simp [zset2] at h; exact Or.inl ⟨rfl, h⟩
  | [a], 0, w, 1, v, h => by simp [zset2] at h
  | [a], 0, w, j + 2, v, h => by simp [zset2] at h
  | a :: b :: t, 0, w, 0, v, h => by simp [zset2] at h; exact Or.inl ⟨rfl, h⟩
  | a :: b :: t, 0, w, 1, v, h => by simp [zset2] at h
  | a :: b :: t, 0, w, j + 2, v, h => by simp [zset2] at h; exact Or.inr ⟨by omega, by omega, by simpa using h, by omega⟩
  | a :: t, i + 1, w, 0, v, h => by
    have key : ∀ b : Option zV, b = some v → b = a → (0 = i + 1 ∧ w = some v) ∨ (0 ≠ i + 1 ∧ 0 ≠ i + 1 + 1 ∧ (a :: t)[0]? = some (some v) ∧ ¬ (0 + 1 = i + 1 ∧ zcat v = 2)) ∨ (i = 0 ∧ zcat v = 2) := by
      intro b h1 h2
      subst h2
      by_cases hi : i = 0 ∧ zcat v = 2
      · exact Or.inr (Or.inr hi)
      · refine Or.inr (Or.inl ⟨by omega, by omega, by simp [h1], ?_⟩)
        intro q; exact hi ⟨by omega, q.2⟩
    have fin : zcat v ≠ 2 ∨ i ≠ 0 → a = some v → (0 = i + 1 ∧ w = some v) ∨ (0 ≠ i + 1 ∧ 0 ≠ i + 1 + 1 ∧ (a :: t)[0]? = some (some v) ∧ ¬ (0 + 1 = i + 1 ∧ zcat v = 2)) := by
      intro hn ha
      rcases key _ ha rfl with q | q | ⟨q1, q2⟩
      · exact Or.inl q
      · exact Or.inr q
      · omega
    rcases a with _ | a | a | a
    · rcases t with _ | ⟨b, t⟩ <;> simp [zset2] at h
    · have ha : some (Sum.inl a) = some v := by rcases t with _ | ⟨b, t⟩ <;> simpa [zset2] using h
      exact fin (Or.inl (by cases ha; simp [zcat])) ha
    · rcases i with _ | i
      · rcases t with _ | ⟨b, t⟩ <;> simp [zset2] at h
      · have ha : some (Sum.inr (Sum.inl a)) = some v := by rcases t with _ | ⟨b, t⟩ <;> simpa [zset2] using h
        exact fin (Or.inr (by omega)) ha
    · have ha : some (Sum.inr (Sum.inr a)) = some v := by rcases t with _ | ⟨b, t⟩ <;> simpa [zset2] using h
      exact fin (Or.inl (by cases ha; simp [zcat])) ha
  | a :: t, i + 1, w, j + 1, v, h => by
    have h' : (zset2 t i w)[j]? = some (some v) := by
      rcases a with _ | a | a | a
      · rcases t with _ | ⟨b, t⟩ <;> simpa [zset2] using h
      · rcases t with _ | ⟨b, t⟩ <;> simpa [zset2] using h
      · rcases i with _ | i <;> rcases t with _ | ⟨b, t⟩ <;> simpa [zset2] using h
      · rcases t with _ | ⟨b, t⟩ <;> simpa [zset2] using h
    rcases zset2_get t i w j v h' with ⟨h1, h2⟩ | ⟨h1, h2, h3, h4⟩
    · exact Or.inl ⟨by omega, h2⟩
    · exact Or.inr ⟨by omega, by omega, by simpa using h3, by omega⟩
theorem zLo_lv {ads : List Nat} {nL : Nat} {L : zL} {ls : Array Slot} (h : zLo ads nL L ls) : ∃ lv : List (Nat × Value), lv_has ls nL lv ∧ ∀ (i : Nat) (v : zV), L[i]? = some (some v) → ∃ V, (i, V) ∈ lv ∧ zcR ads v V := by
  have key : ∀ (L : zL) (k : Nat), (∀ (i : Nat) (v : zV), L[i]? = some (some v) → ∃ V, ls[k + i]? = some (.val V) ∧ zcR ads v V) → ∃ lv : List (Nat × Value), (∀ q ∈ lv, ls[q.1]? = some (.val q.2)) ∧ ∀ (i : Nat) (v : zV), L[i]? = some (some v) → ∃ V, (k + i, V) ∈ lv ∧ zcR ads v V := by
    intro L
    induction L with
    | nil => exact fun k _ => ⟨[], fun q hq => by simp at hq, fun i v hv => by simp at hv⟩
    | cons a t ih =>
      intro k hk
      obtain ⟨lv, h1, h2⟩ := ih (k + 1) (fun i v hv => by
        obtain ⟨V, e1, e2⟩ := hk (i + 1) v (by simpa using hv)
        exact ⟨V, by rw [show k + 1 + i = k + (i + 1) by omega]; exact e1, e2⟩)
      cases a with
      | none =>
        refine ⟨lv, h1, fun i v hv => ?_⟩
        cases i with
        | zero => simp at hv
        | succ i =>
          obtain ⟨V, e1, e2⟩ := h2 i v (by simpa using hv)
          exact ⟨V, by rw [show k + (i + 1) = k + 1 + i by omega]; exact e1, e2⟩
      | some w =>
        obtain ⟨W, e1, e2⟩ := hk 0 w (by simp)
        refine ⟨(k, W) :: lv, fun q hq => ?_, fun i v hv => ?_⟩
        · rcases List.mem_cons.mp hq with rfl | hq
          · simpa using e1
          · exact h1 q hq
        · cases i with
          | zero =>
            simp at hv
            subst hv
            exact ⟨W, by simp, e2⟩
          | succ i =>
            obtain ⟨V, e3, e4⟩ := h2 i v (by simpa using hv)
            exact ⟨V, by rw [show k + (i + 1) = k + 1 + i by omega]; exact List.mem_cons_of_mem _ e3, e4⟩
  obtain ⟨lv, h1, h2⟩ := key L 0 (fun i v hv => by
    obtain ⟨V, e1, e2⟩ := h.2.2 i v hv
    exact ⟨V, by rw [Nat.zero_add]; exact e1, e2⟩)
  exact ⟨lv, ⟨h.1, h.2.1, h1⟩, fun i v hv => by
    obtain ⟨V, e1, e2⟩ := h2 i v hv
    exact ⟨V, by rw [Nat.zero_add] at e1; exact e1, e2⟩⟩
theorem zLo_s1 {ads : List Nat} {nL i : Nat} {L : zL} {ls' : Array Slot} {lv : List (Nat × Value)} {v0 : zV} {V0 : Value} (hc : ∀ (i : Nat) (v : zV), L[i]? = some (some v) → ∃ V, (i, V) ∈ lv ∧ zcR ads v V) (h0 : zcR ads v0 V0)
    (h : lv_has ls' nL ((i, V0) :: lv.filter (fun q => !(q.1 == i) && !(q.1 + 1 == i && q.2.category == 2)))) : zLo ads nL (zset1 L i (some v0)) ls' := by
  refine ⟨h.1, h.2.1, fun j v hv => ?_⟩
  rcases zset1_get L i _ j v hv with ⟨rfl, e⟩ | ⟨h1, h2, h3⟩
  · cases e
    exact ⟨V0, h.2.2 (j, V0) List.mem_cons_self, h0⟩
  · obtain ⟨V, e1, e2⟩ := hc j v h2
    refine ⟨V, h.2.2 (j, V) (List.mem_cons_of_mem _ (List.mem_filter.mpr ⟨e1, ?_⟩)), e2⟩
    have hcat := zcR_cat e2
    simp only [Bool.and_eq_true, Bool.not_eq_true', beq_eq_false_iff_ne, ne_eq, Bool.and_eq_false_iff]
    refine ⟨h1, ?_⟩
    by_cases q : j + 1 = i
    · right; intro z; exact h3 ⟨q, by rw [← hcat]; exact z⟩
    · left; exact q
theorem zLo_s2 {ads : List Nat} {nL i : Nat} {L : zL} {ls' : Array Slot} {lv : List (Nat × Value)} {v0 : zV} {V0 : Value} (hc : ∀ (i : Nat) (v : zV), L[i]? = some (some v) → ∃ V, (i, V) ∈ lv ∧ zcR ads v V) (h0 : zcR ads v0 V0)
    (h : lv_has ls' nL ((i, V0) :: lv.filter (fun q => !(q.1 == i) && (!(q.1 == i + 1) && !(q.1 + 1 == i && q.2.category == 2))))) : zLo ads nL (zset2 L i (some v0)) ls' := by
  refine ⟨h.1, h.2.1, fun j v hv => ?_⟩
  rcases zset2_get L i _ j v hv with ⟨rfl, e⟩ | ⟨h1, h2, h3, h4⟩
  · cases e
    exact ⟨V0, h.2.2 (j, V0) List.mem_cons_self, h0⟩
  · obtain ⟨V, e1, e2⟩ := hc j v h3
    refine ⟨V, h.2.2 (j, V) (List.mem_cons_of_mem _ (List.mem_filter.mpr ⟨e1, ?_⟩)), e2⟩
    have hcat := zcR_cat e2
    simp only [Bool.and_eq_true, Bool.not_eq_true', beq_eq_false_iff_ne, ne_eq, Bool.and_eq_false_iff]
    refine ⟨h1, h2, ?_⟩
    by_cases q : j + 1 = i
    · right; intro z; exact h4 ⟨q, by rw [← hcat]; exact z⟩
    · left; exact q
/-- stacks by their top -/
theorem zSt_i {ads : List Nat} {x : Int} {t : List zV} {T : List Value} (h : zSt ads (.inl x :: t) T) : ∃ T', T = .int (Int32.ofInt x) :: T' ∧ zSt ads t T' := by
  rcases T with _ | ⟨V, T⟩
  · exact h.elim
  · obtain ⟨h1, h2⟩ := h
    cases h1
    exact ⟨T, rfl, h2⟩
theorem zSt_l {ads : List Nat} {x : Int} {t : List zV} {T : List Value} (h : zSt ads (.inr (.inl x) :: t) T) : ∃ T', T = .long (Int64.ofInt x) :: T' ∧ zSt ads t T' := by
  rcases T with _ | ⟨V, T⟩
  · exact h.elim
  · obtain ⟨h1, h2⟩ := h
    cases h1
    exact ⟨T, rfl, h2⟩
theorem zSt_r {ads : List Nat} {x : Option Nat} {t : List zV} {T : List Value} (h : zSt ads (.inr (.inr x) :: t) T) : ∃ V T', T = V :: T' ∧ zcR ads (.inr (.inr x)) V ∧ zSt ads t T' := by
  rcases T with _ | ⟨V, T⟩
  · exact h.elim
  · exact ⟨V, T, rfl, h.1, h.2⟩
/-- cells -/
def zCe (cl : List vw_C) (ads : List Nat) (tys : List (ClassId × FieldType)) (c : Nat × List zV) (e : va_E) : Prop :=
  (c.1 < 100 ∧ ∃ fs, e = .inr (c.1, fs) ∧ zSt ads c.2 fs) ∨
  (c.1 = 100 ∧ ∃ (cA : ClassId) (f : Nat → Int32), e = .inl (cA, c.2.length, .inl f) ∧ (cA, FieldType.int) ∈ tys ∧ ∀ (j : Nat) (v : zV), c.2[j]? = some v → ∃ x, v = .inl x ∧ f j = Int32.ofInt x) ∨
  (c.1 = 101 ∧ ∃ (cA : ClassId) (f : Nat → Int64), e = .inl (cA, c.2.length, .inr (.inl f)) ∧ (cA, FieldType.long) ∈ tys ∧ ∀ (j : Nat) (v : zV), c.2[j]? = some v → ∃ x, v = .inr (.inl x) ∧ f j = Int64.ofInt x) ∨
  (102 ≤ c.1 ∧ ∃ (cA : ClassId) (f : Nat → Option Nat) (r : vw_C), e = .inl (cA, c.2.length, .inr (.inr (.inr (.inr f)))) ∧ cl[c.1 - 102]? = some r ∧ (cA, FieldType.object r.1) ∈ tys ∧ ∀ (j : Nat) (v : zV), c.2[j]? = some v → ∃ x, v = .inr (.inr x) ∧ zcR ads (.inr (.inr x)) (va_rf (f j)))
theorem zCe_mono {cl : List vw_C} {ads ads' : List Nat} {tys tys' : List (ClassId × FieldType)} (hp : zpre ads ads') (ht : ∀ q ∈ tys, q ∈ tys') {c : Nat × List zV} {e : va_E} (h : zCe cl ads tys c e) : zCe cl ads' tys' c e := by
  rcases h with ⟨h1, fs, h2, h3⟩ | ⟨h1, cA, f, h2, h3, h4⟩ | ⟨h1, cA, f, h2, h3, h4⟩ | ⟨h1, cA, f, r, h2, h3, h4, h5⟩
  · exact Or.inl ⟨h1, fs, h2, zSt_pre hp h3⟩
  · exact Or.inr (Or.inl ⟨h1, cA, f, h2, ht _ h3, h4⟩)
  · exact Or.inr (Or.inr (Or.inl ⟨h1, cA, f, h2, ht _ h3, h4⟩))
  · refine Or.inr (Or.inr (Or.inr ⟨h1, cA, f, r, h2, h3, ht _ h4, fun j v hv => ?_⟩))
    obtain ⟨x, e1, e2⟩ := h5 j v hv
    exact ⟨x, e1, zcR_pre hp e2⟩
def zRep (cl : List vw_C) (ads : List Nat) (tys : List (ClassId × FieldType)) (ws : va_W) (h : zH) : Prop :=
  ws.length = h.length ∧ ads.length = h.length + 1 ∧ ∀ (k : Nat) (c : Nat × List zV), h[k]? = some c → ∃ a e, ads[k + 1]? = some a ∧ ws[k]? = some (a, e) ∧ zCe cl ads tys c e
theorem zRep_set {cl : List vw_C} {ads : List Nat} {tys : List (ClassId × FieldType)} {ws : va_W} {h : zH} (hR : zRep cl ads tys ws h) {p a : Nat} {c' : Nat × List zV} {e' : va_E} (ha : ads[p + 1]? = some a) (hc : zCe cl ads tys c' e') : zRep cl ads tys (ws.set p (a, e')) (h.set p c') := by
  obtain ⟨h1, h2, h3⟩ := hR
  refine ⟨by simp [h1], by simp [h2], fun k c hk => ?_⟩
  by_cases hkp : p = k
  · subst hkp
    have hl : p < h.length := by
      have := (List.getElem?_eq_some_iff.mp hk).1
      simpa using this
    rw [List.getElem?_set_self hl] at hk
    cases hk
    exact ⟨a, e', ha, by rw [List.getElem?_set_self (by omega)], hc⟩
  · rw [List.getElem?_set_ne hkp] at hk
    obtain ⟨a1, e1, q1, q2, q3⟩ := h3 k c hk
    exact ⟨a1, e1, q1, by rw [List.getElem?_set_ne hkp]; exact q2, q3⟩
theorem zRep_app {cl : List vw_C} {ads : List Nat} {tys tys' : List (ClassId × FieldType)} {ws : va_W} {h : zH} (hR : zRep cl ads tys ws h) (ht : ∀ q ∈ tys, q ∈ tys') {a : Nat} {c' : Nat × List zV} {e' : va_E} (hc : zCe cl ads tys' c' e') : zRep cl (ads ++ [a]) tys' (ws ++ [(a, e')]) (h ++ [c']) := by
  obtain ⟨h1, h2, h3⟩ := hR
  refine ⟨by simp [h1], by simp [h2], fun k c hk => ?_⟩
  by_cases hl : k < h.length
  · rw [List.getElem?_append_left hl] at hk
    obtain ⟨a1, e1, q1, q2, q3⟩ := h3 k c hk
    exact ⟨a1, e1, zpre_app _ _ _ _ q1, by rw [List.getElem?_append_left (by omega)]; exact q2, zCe_mono (zpre_app _ _) ht q3⟩
  · rw [List.getElem?_append_right (by omega)] at hk
    have hz : k - h.length < 1 := (List.getElem?_eq_some_iff.mp hk).1
    have hk0 : k = h.length := by omega
    subst hk0
    simp at hk
    subst hk
    refine ⟨a, e', ?_, ?_, zCe_mono (zpre_app _ _) (fun _ q => q) hc⟩
    · rw [List.getElem?_append_right (by omega), h2]; simp
    · rw [List.getElem?_append_right (by omega), h1]; simp
theorem zty_mem {tys : List (ClassId × FieldType)} {q : ClassId × FieldType} (h : q ∈ tys) : ∃ t0 : Nat, tys[t0]? = some q := List.getElem?_of_mem h
