/-! ===== the reference: comparing speeches, the page ===== -/
/-- numbers of signals -/
def isR7 (l : List Int) : Prop := ∀ v ∈ l, 0 ≤ v ∧ v ≤ 7
theorem isR7_get {l : List Int} (h : isR7 l) {k : Nat} (hk : k < l.length) : 0 ≤ l[k] ∧ l[k] ≤ 7 := h _ (List.getElem_mem hk)
theorem isR7_stp {g : Nat → Int → Int} (hb : bdS g) {l : List Int} (h : isR7 l) {s : Int} (hs : 0 ≤ s ∧ s ≤ 7) : isR7 (stp g l s) := by
  unfold stp
  split
  · intro v hv
    rcases List.mem_append.mp hv with hv | hv
    · exact h v hv
    · rw [List.mem_singleton.mp hv]; exact hs
  · split
    next h2 =>
      obtain ⟨h3, h4⟩ := kindS_2 h2
      have h5 := hb s h3 h4
      have h6 : kindS g s = g pM_signalRows (4 * s) := by unfold kindS; rw [if_pos ⟨h3, h4⟩]
      have h7 := h5.2.2.2.2.1 (by rw [← h6]; exact h2)
      intro v hv
      rcases List.mem_append.mp hv with hv | hv
      · rcases List.mem_append.mp hv with hv | hv
        · exact h v hv
        · rw [List.mem_singleton.mp hv]; exact ⟨h7, h5.2.2.2.1⟩
      · rw [List.mem_singleton.mp hv]; exact ⟨h7, h5.2.2.2.1⟩
    · split
      · intro v hv; exact h v (List.dropLast_subset l hv)
      · exact h
theorem isR7_pln {g : Nat → Int → Int} (hb : bdS g) (st : Int) {f : Nat → Int} : ∀ {n : Nat}, (∀ k, k < n → 0 ≤ f k ∧ f k ≤ 7) → isR7 (pln g st f n)
  | 0, _ => by intro v hv; simp [pln] at hv
  | n + 1, h => by
    have h1 := isR7_pln hb st (n := n) (fun k hk => h k (by omega))
    unfold pln
    split
    · exact h1
    · exact isR7_stp hb h1 (h n (by omega))
theorem isR7_plS {g : Nat → Int → Int} (hB : Bd g) {c s : Int} (hc : 0 ≤ c ∧ c < g pM 5) (hs : 0 ≤ s ∧ s < g pM_speeches c) (st : Int) : isR7 (plS g st c s) := isR7_pln hB.2.2.2.1 st (lenS_rg hB.2.2.1 hc hs).2.2.2
theorem isAll_get {g : Nat → Int → Int} {L : Nat → List Int} {n : Nat} (h : isAll g L n) {i : Nat} (hi : i < n) {k : Nat} (hk : k < (L i).length) : g pM_plains (11 * i + 1 + k) = (L i)[k] := zPre_get (h i hi).2 hk
theorem take_succ_eq {A B : List Int} {k : Nat} (ha : k < A.length) (hb : k < B.length) : A.take (k + 1) = B.take (k + 1) ↔ A.take k = B.take k ∧ A[k] = B[k] := by
  rw [List.take_succ_eq_append_getElem ha, List.take_succ_eq_append_getElem hb]
  constructor
  · intro h
    have := List.append_inj' h rfl
    exact ⟨this.1, by simpa using this.2⟩
  · rintro ⟨h1, h2⟩
    rw [h1, h2]
theorem take_ne {A B : List Int} {k m : Nat} (h : A.take k ≠ B.take k) (hk : k ≤ m) : A.take m ≠ B.take m := fun e => h (by
  have := congrArg (List.take k) e
  rw [List.take_take, List.take_take, Nat.min_eq_left hk] at this
  exact this)
/-- the rows of plain speeches of a code stand ready: their lists, of at most ten signals -/
def rdy (g : Nat → Int → Int) (L : Nat → List Int) (n : Nat) : Prop := isAll g L n ∧ n ≤ 8 ∧ ∀ i, i < n → (L i).length ≤ 10 ∧ isR7 (L i)
theorem M_isStart_loop (xs : List Int) (g : Nat → Int → Int) (L : Nat → List Int) (n i j m : Nat) (hR : rdy g L n) (hi : i < n) (hj : j < n) (ha : m ≤ (L i).length) (hb : m ≤ (L j).length) : ∀ (r k : Nat), k + r = m → (L i).take k = (L j).take k → zx zblk xs 26 36 [some (.inr (.inr (some pM))), some (.inl ((i : Int))), some (.inl ((j : Int))), some (.inl ((m : Int))), some (.inl (1)), some (.inl ((k : Int)))] [] (HH g) = some (some (.inl (zb ((L i).take m = (L j).take m))), HH g) := by
  obtain ⟨hall, hn, hr⟩ := hR
  have h10 := (hr i hi).1
  intro r
  induction r with
  | zero =>
    intro k hk ht
    have hkm : k = m := by omega
    subst hkm
    rw [e_M_isStart_36, if_pos (by omega), e_M_isStart_91, if_pos (by omega), zb_t ht]
  | succ r ih =>
    intro k hk ht
    have e1 := isAll_get hall hi (k := k) (by omega)
    have e2 := isAll_get hall hj (k := k) (by omega)
    have b1 := isR7_get (hr i hi).2 (k := k) (by omega)
    have b2 := isR7_get (hr j hj).2 (k := k) (by omega)
    have hts := take_succ_eq (A := L i) (B := L j) (k := k) (by omega) (by omega)
    rw [e_M_isStart_36, if_neg (by rw [zw_id (by omega) (by omega), zw_id (by omega) (by omega)]; omega), if_neg (by decide), pM_r_plains, pM_a_plains xs _ (by omega) (by omega), pM_r_plains, pM_a_plains xs _ (by omega) (by omega), e1, e2, zw_id (by omega) (by omega), zw_id (by omega) (by omega)]
    by_cases he : (L i)[k] = (L j)[k]
    · rw [if_neg (by simpa using he), e_M_isStart_83, ← Int.natCast_succ]
      exact ih (k + 1) (by omega) (hts.mpr ⟨ht, he⟩)
    · rw [if_pos he, e_M_isStart_82, e_M_isStart_83, e_M_isStart_36]
      have hne : (L i).take m ≠ (L j).take m := take_ne (k := k + 1) (fun z => he (hts.mp z).2) (by omega)
      rw [zb_f hne, e_M_isStart_91, if_pos (Or.inl rfl)]
      split
      · rfl
      · rw [if_pos (show zw 0 = 0 from rfl)]
theorem M_isStart (xs : List Int) (g : Nat → Int → Int) (L : Nat → List Int) (n i j m : Nat) (hR : rdy g L n) (hi : i < n) (hj : j < n) (hm : m ≤ 10) : zx zblk xs 26 0 [some (.inr (.inr (some pM))), some (.inl ((i : Int))), some (.inl ((j : Int))), some (.inl ((m : Int)))] [] (HH g) = some (some (.inl (zb (m ≤ (L i).length ∧ m ≤ (L j).length ∧ (L i).take m = (L j).take m))), HH g) := by
  obtain ⟨hall, hn, hr⟩ := id hR
  have a1 := (hall i hi).1
  have a2 := (hall j hj).1
  have l1 := (hr i hi).1
  have l2 := (hr j hj).1
  rw [e_M_isStart_0]
  have h30 : zx zblk xs 26 30 [some (.inr (.inr (some pM))), some (.inl ((i : Int))), some (.inl ((j : Int))), some (.inl ((m : Int)))] [] (HH g) = some (some (.inl 0), HH g) := by
    rw [e_M_isStart_30, e_M_isStart_31, e_M_isStart_36, e_M_isStart_91, if_pos (Or.inl rfl)]
    split
    · rfl
    · rw [if_pos (show zw 0 = 0 from rfl)]
  by_cases h1 : m ≤ (L i).length
  · by_cases h2 : m ≤ (L j).length
    · simp (disch := omega) only [a1, a2, e_M_isStart_31, zci_ok, zcl_ok', zcr_ok, zcv_ok, zw_id, if_pos, if_neg, ne_eq, not_true_eq_false, not_false_eq_true, if_true, if_false, pM_ck, pM_r_page, pM_a_page, pM_s_page, pM_g_pageMany, pM_p_pageMany, pM_g_readMany, pM_p_readMany, pM_g_readLetters, pM_p_readLetters, pM_r_readRows, pM_a_readRows, pM_s_readRows, pM_g_codes, pM_p_codes, pM_r_speeches, pM_a_speeches, pM_s_speeches, pM_r_rows, pM_a_rows, pM_s_rows, pM_g_signals, pM_p_signals, pM_r_signalRows, pM_a_signalRows, pM_s_signalRows, pM_g_things, pM_p_things, pM_r_weights, pM_a_weights, pM_s_weights, pM_r_plain, pM_a_plain, pM_s_plain, pM_g_plainMany, pM_p_plainMany, pM_r_plains, pM_a_plains, pM_s_plains, pM_r_ahead, pM_a_ahead, pM_s_ahead, pM_g_least, pM_p_least, pM_r_heap, pM_a_heap, pM_s_heap, pM_g_notes, pM_p_notes, pM_r_noteRows, pM_a_noteRows, pM_s_noteRows, pM_r_ways, pM_a_ways, pM_s_ways, pM_r_before, pM_a_before, pM_s_before, pM_g_keptThings, pM_p_keptThings, pM_g_keptNotes, pM_p_keptNotes, pM_r_keptWeights, pM_a_keptWeights, pM_s_keptWeights, pM_r_keptRows, pM_a_keptRows, pM_s_keptRows, pM_g_hash, pM_p_hash]
      have h := M_isStart_loop xs g L n i j m hR hi hj h1 h2 m 0 (by omega) rfl
      rw [z0N] at h
      rw [h]
      simp [zb, h1, h2]
    · rw [zb_f (fun z => h2 z.2.1)]
      simp (disch := omega) only [a1, a2, h30, zci_ok, zcl_ok', zcr_ok, zcv_ok, zw_id, if_pos, if_neg, ne_eq, not_true_eq_false, not_false_eq_true, if_true, if_false, pM_ck, pM_r_page, pM_a_page, pM_s_page, pM_g_pageMany, pM_p_pageMany, pM_g_readMany, pM_p_readMany, pM_g_readLetters, pM_p_readLetters, pM_r_readRows, pM_a_readRows, pM_s_readRows, pM_g_codes, pM_p_codes, pM_r_speeches, pM_a_speeches, pM_s_speeches, pM_r_rows, pM_a_rows, pM_s_rows, pM_g_signals, pM_p_signals, pM_r_signalRows, pM_a_signalRows, pM_s_signalRows, pM_g_things, pM_p_things, pM_r_weights, pM_a_weights, pM_s_weights, pM_r_plain, pM_a_plain, pM_s_plain, pM_g_plainMany, pM_p_plainMany, pM_r_plains, pM_a_plains, pM_s_plains, pM_r_ahead, pM_a_ahead, pM_s_ahead, pM_g_least, pM_p_least, pM_r_heap, pM_a_heap, pM_s_heap, pM_g_notes, pM_p_notes, pM_r_noteRows, pM_a_noteRows, pM_s_noteRows, pM_r_ways, pM_a_ways, pM_s_ways, pM_r_before, pM_a_before, pM_s_before, pM_g_keptThings, pM_p_keptThings, pM_g_keptNotes, pM_p_keptNotes, pM_r_keptWeights, pM_a_keptWeights, pM_s_keptWeights, pM_r_keptRows, pM_a_keptRows, pM_s_keptRows, pM_g_hash, pM_p_hash]
  · rw [zb_f (fun z => h1 z.1)]
    simp (disch := omega) only [a1, a2, h30, zci_ok, zcl_ok', zcr_ok, zcv_ok, zw_id, if_pos, if_neg, ne_eq, not_true_eq_false, not_false_eq_true, if_true, if_false, pM_ck, pM_r_page, pM_a_page, pM_s_page, pM_g_pageMany, pM_p_pageMany, pM_g_readMany, pM_p_readMany, pM_g_readLetters, pM_p_readLetters, pM_r_readRows, pM_a_readRows, pM_s_readRows, pM_g_codes, pM_p_codes, pM_r_speeches, pM_a_speeches, pM_s_speeches, pM_r_rows, pM_a_rows, pM_s_rows, pM_g_signals, pM_p_signals, pM_r_signalRows, pM_a_signalRows, pM_s_signalRows, pM_g_things, pM_p_things, pM_r_weights, pM_a_weights, pM_s_weights, pM_r_plain, pM_a_plain, pM_s_plain, pM_g_plainMany, pM_p_plainMany, pM_r_plains, pM_a_plains, pM_s_plains, pM_r_ahead, pM_a_ahead, pM_s_ahead, pM_g_least, pM_p_least, pM_r_heap, pM_a_heap, pM_s_heap, pM_g_notes, pM_p_notes, pM_r_noteRows, pM_a_noteRows, pM_s_noteRows, pM_r_ways, pM_a_ways, pM_s_ways, pM_r_before, pM_a_before, pM_s_before, pM_g_keptThings, pM_p_keptThings, pM_g_keptNotes, pM_p_keptNotes, pM_r_keptWeights, pM_a_keptWeights, pM_s_keptWeights, pM_r_keptRows, pM_a_keptRows, pM_s_keptRows, pM_g_hash, pM_p_hash]
theorem M_isAlike (xs : List Int) (g : Nat → Int → Int) (L : Nat → List Int) (n i j : Nat) (hR : rdy g L n) (hi : i < n) (hj : j < n) : zx zblk xs 27 0 [some (.inr (.inr (some pM))), some (.inl ((i : Int))), some (.inl ((j : Int)))] [] (HH g) = some (some (.inl (zb (L i = L j))), HH g) := by
  obtain ⟨hall, hn, hr⟩ := id hR
  have a1 := (hall i hi).1
  have a2 := (hall j hj).1
  have l1 := (hr i hi).1
  have l2 := (hr j hj).1
  rw [e_M_isAlike_0]
  by_cases h1 : (L i).length = (L j).length
  · have h := M_isStart xs g L n i j (L i).length hR hi hj l1
    have e : ((L i).length ≤ (L i).length ∧ (L i).length ≤ (L j).length ∧ (L i).take (L i).length = (L j).take (L i).length) ↔ L i = L j := by
      rw [List.take_length, h1, List.take_length]
      simp
    by_cases h2 : L i = L j
    · rw [zb_t h2]
      rw [zb_t (e.mpr h2)] at h
      have hz : ¬ ((L i).length : Int) ≠ (L j).length := by omega
      simp (disch := omega) only [a1, a2, h, e_M_isAlike_44, hz, zci_ok, zcl_ok', zcr_ok, zcv_ok, zw_id, if_pos, if_neg, ne_eq, not_true_eq_false, not_false_eq_true, if_true, if_false, pM_ck, pM_r_page, pM_a_page, pM_s_page, pM_g_pageMany, pM_p_pageMany, pM_g_readMany, pM_p_readMany, pM_g_readLetters, pM_p_readLetters, pM_r_readRows, pM_a_readRows, pM_s_readRows, pM_g_codes, pM_p_codes, pM_r_speeches, pM_a_speeches, pM_s_speeches, pM_r_rows, pM_a_rows, pM_s_rows, pM_g_signals, pM_p_signals, pM_r_signalRows, pM_a_signalRows, pM_s_signalRows, pM_g_things, pM_p_things, pM_r_weights, pM_a_weights, pM_s_weights, pM_r_plain, pM_a_plain, pM_s_plain, pM_g_plainMany, pM_p_plainMany, pM_r_plains, pM_a_plains, pM_s_plains, pM_r_ahead, pM_a_ahead, pM_s_ahead, pM_g_least, pM_p_least, pM_r_heap, pM_a_heap, pM_s_heap, pM_g_notes, pM_p_notes, pM_r_noteRows, pM_a_noteRows, pM_s_noteRows, pM_r_ways, pM_a_ways, pM_s_ways, pM_r_before, pM_a_before, pM_s_before, pM_g_keptThings, pM_p_keptThings, pM_g_keptNotes, pM_p_keptNotes, pM_r_keptWeights, pM_a_keptWeights, pM_s_keptWeights, pM_r_keptRows, pM_a_keptRows, pM_s_keptRows, pM_g_hash, pM_p_hash]
      simp [h1]
    · rw [zb_f h2]
      rw [zb_f (fun z => h2 (e.mp z))] at h
      simp (disch := omega) only [a1, a2, h, e_M_isAlike_43, e_M_isAlike_44, zci_ok, zcl_ok', zcr_ok, zcv_ok, zw_id, if_pos, if_neg, ne_eq, not_true_eq_false, not_false_eq_true, if_true, if_false, pM_ck, pM_r_page, pM_a_page, pM_s_page, pM_g_pageMany, pM_p_pageMany, pM_g_readMany, pM_p_readMany, pM_g_readLetters, pM_p_readLetters, pM_r_readRows, pM_a_readRows, pM_s_readRows, pM_g_codes, pM_p_codes, pM_r_speeches, pM_a_speeches, pM_s_speeches, pM_r_rows, pM_a_rows, pM_s_rows, pM_g_signals, pM_p_signals, pM_r_signalRows, pM_a_signalRows, pM_s_signalRows, pM_g_things, pM_p_things, pM_r_weights, pM_a_weights, pM_s_weights, pM_r_plain, pM_a_plain, pM_s_plain, pM_g_plainMany, pM_p_plainMany, pM_r_plains, pM_a_plains, pM_s_plains, pM_r_ahead, pM_a_ahead, pM_s_ahead, pM_g_least, pM_p_least, pM_r_heap, pM_a_heap, pM_s_heap, pM_g_notes, pM_p_notes, pM_r_noteRows, pM_a_noteRows, pM_s_noteRows, pM_r_ways, pM_a_ways, pM_s_ways, pM_r_before, pM_a_before, pM_s_before, pM_g_keptThings, pM_p_keptThings, pM_g_keptNotes, pM_p_keptNotes, pM_r_keptWeights, pM_a_keptWeights, pM_s_keptWeights, pM_r_keptRows, pM_a_keptRows, pM_s_keptRows, pM_g_hash, pM_p_hash]
      simp [h1]
  · have h2 : ¬ L i = L j := fun z => h1 (by rw [z])
    rw [zb_f h2]
    have hz : ((L i).length : Int) ≠ (L j).length := by omega
    simp (disch := omega) only [a1, a2, e_M_isAlike_43, e_M_isAlike_44, zci_ok, zcl_ok', zcr_ok, zcv_ok, zw_id, if_pos, if_neg, ne_eq, not_true_eq_false, not_false_eq_true, if_true, if_false, pM_ck, pM_r_page, pM_a_page, pM_s_page, pM_g_pageMany, pM_p_pageMany, pM_g_readMany, pM_p_readMany, pM_g_readLetters, pM_p_readLetters, pM_r_readRows, pM_a_readRows, pM_s_readRows, pM_g_codes, pM_p_codes, pM_r_speeches, pM_a_speeches, pM_s_speeches, pM_r_rows, pM_a_rows, pM_s_rows, pM_g_signals, pM_p_signals, pM_r_signalRows, pM_a_signalRows, pM_s_signalRows, pM_g_things, pM_p_things, pM_r_weights, pM_a_weights, pM_s_weights, pM_r_plain, pM_a_plain, pM_s_plain, pM_g_plainMany, pM_p_plainMany, pM_r_plains, pM_a_plains, pM_s_plains, pM_r_ahead, pM_a_ahead, pM_s_ahead, pM_g_least, pM_p_least, pM_r_heap, pM_a_heap, pM_s_heap, pM_g_notes, pM_p_notes, pM_r_noteRows, pM_a_noteRows, pM_s_noteRows, pM_r_ways, pM_a_ways, pM_s_ways, pM_r_before, pM_a_before, pM_s_before, pM_g_keptThings, pM_p_keptThings, pM_g_keptNotes, pM_p_keptNotes, pM_r_keptWeights, pM_a_keptWeights, pM_s_keptWeights, pM_r_keptRows, pM_a_keptRows, pM_s_keptRows, pM_g_hash, pM_p_hash]
    simp [h1]
/-- in how many places two rows differ; far: they are of unlike lengths -/
def dif (A B : List Int) : Int := if A.length = B.length then zsum (fun k => if A.getD k 0 = B.getD k 0 then 0 else 1) B.length else 1000000
theorem dif_rg (A B : List Int) (h : B.length ≤ 100) : 0 ≤ dif A B ∧ (dif A B ≤ 100 ∨ dif A B = 1000000) := by
  unfold dif
  split
  · have := zsum_rg (a := 0) (b := 1) (n := B.length) (f := fun k => if A.getD k 0 = B.getD k 0 then 0 else 1) (fun k _ => by split <;> omega)
    omega
  · omega
theorem M_differs (xs : List Int) (g : Nat → Int → Int) (L : Nat → List Int) (n i : Nat) (B : List Int) (hR : rdy g L n) (hi : i < n) (hB : isPl g B) (hB7 : isR7 B) (hBl : B.length ≤ 96) : zx zblk xs 29 0 [some (.inr (.inr (some pM))), some (.inl ((i : Int)))] [] (HH g) = some (some (.inl (dif (L i) B)), HH g) := by
  obtain ⟨hall, hn, hr⟩ := id hR
  have a1 := (hall i hi).1
  have l1 := (hr i hi).1
  obtain ⟨hP, hn13⟩ := hB
  rw [e_M_differs_0]
  unfold dif
  by_cases h1 : (L i).length = B.length
  · rw [if_pos h1]
    have h := zloop (fun k : Nat => zx zblk xs 29 23 [some (.inr (.inr (some pM))), some (.inl ((i : Int))), some (.inl (zsum (fun k => if (L i).getD k 0 = B.getD k 0 then 0 else 1) k)), some (.inl ((k : Int)))] [] (HH g)) B.length (fun k hk => by
      have e1 := isAll_get hall hi (k := k) (by omega)
      have e2 := zPre_get hP (k := k) hk
      have b1 := isR7_get (hr i hi).2 (k := k) (by omega)
      have b2 := isR7_get hB7 (k := k) hk
      have d1 : (L i).getD k 0 = (L i)[k] := by simp [List.getD, show k < (L i).length by omega]
      have d2 : B.getD k 0 = B[k] := by simp [List.getD, hk]
      rw [e_M_differs_23, pM_g_plainMany, hn13, if_neg (by rw [zw_id (by omega) (by omega), zw_id (by omega) (by omega)]; omega), pM_r_plains, pM_a_plains xs _ (by omega) (by omega), pM_r_plain, pM_a_plain xs _ (by omega) (by omega), e1, e2, zw_id (by omega) (by omega), zw_id (by omega) (by omega), zsum, d1, d2, Int.natCast_succ]
      by_cases he : (L i)[k] = B[k]
      · rw [if_neg (by simpa using he), e_M_differs_59, if_pos he]
      · rw [if_pos he, e_M_differs_58, e_M_differs_59, if_neg he])
    rw [pM_r_plains, pM_a_plains xs _ (by omega) (by omega), pM_g_plainMany, a1, hn13, if_pos (by rw [h1]), e_M_differs_19]
    refine Eq.trans ?_ (h.trans ?_)
    · rfl
    · rw [e_M_differs_23, pM_g_plainMany, hn13, if_pos (by omega), e_M_differs_67]
  · rw [if_neg h1, pM_r_plains, pM_a_plains xs _ (by omega) (by omega), pM_g_plainMany, a1, hn13, if_neg (by rw [zw_id (by omega) (by omega), zw_id (by omega) (by omega)]; omega)]
/-- the first of the least: its place, its value -/
def nbest (v : Nat → Int) : Nat → Int × Int
  | 0 => (-1, 1000000)
  | n + 1 => if v n < (nbest v n).2 then ((n : Int), v n) else nbest v n
theorem nbest_rg {v : Nat → Int} : ∀ {n : Nat}, (∀ k, k < n → 0 ≤ v k) → -1 ≤ (nbest v n).1 ∧ (nbest v n).1 < n ∧ 0 ≤ (nbest v n).2 ∧ (nbest v n).2 ≤ 1000000
  | 0, _ => by simp [nbest]
  | n + 1, h => by
    have h1 := nbest_rg (n := n) (fun k hk => h k (by omega))
    have h2 := h n (by omega)
    unfold nbest
    split
    · simp only; omega
    · omega
theorem M_namedNow (xs : List Int) (g : Nat → Int → Int) (L : Nat → List Int) (c : Int) (B : List Int) (hc0 : 0 ≤ c) (hc1 : c < 4) (hs0 : 0 ≤ g pM_speeches c) (hR : rdy g L (g pM_speeches c).toNat) (hB : isPl g B) (hB7 : isR7 B) (hBl : B.length ≤ 96) : zx zblk xs 30 0 [some (.inr (.inr (some pM))), some (.inl (c))] [] (HH g) = some (some (.inl (nbest (fun i => dif (L i) B) (g pM_speeches c).toNat).1), HH g) := by
  have hn := hR.2.1
  have hdr : ∀ i, 0 ≤ dif (L i) B ∧ dif (L i) B ≤ 1000000 := fun i => by have := dif_rg (L i) B (by omega); omega
  have h := zloop (fun k : Nat => zx zblk xs 30 8 [some (.inr (.inr (some pM))), some (.inl (c)), some (.inl ((nbest (fun i => dif (L i) B) k).1)), some (.inl ((nbest (fun i => dif (L i) B) k).2)), some (.inl ((k : Int)))] [] (HH g)) (g pM_speeches c).toNat (fun k hk => by
    have hd := hdr k
    have hb := nbest_rg (v := fun i => dif (L i) B) (n := k) (fun i _ => (hdr i).1)
    rw [e_M_namedNow_8, pM_r_speeches, pM_a_speeches xs _ (by omega) (by omega), if_neg (by rw [zw_id (by omega) (by omega), zw_id (by omega) (by omega)]; omega), pM_ck, M_differs xs g L _ k B hR hk hB hB7 hBl, zci_ok, Int.natCast_succ, zw_id (by omega) (by omega), zw_id (by omega) (by omega)]
    rw [nbest]
    by_cases hlt : dif (L k) B < (nbest (fun i => dif (L i) B) k).2
    · rw [if_neg (by omega), e_M_namedNow_39, zw_id (by omega) (by omega), zw_id (by omega) (by omega), if_neg (by omega), e_M_namedNow_52, if_pos hlt]
    · rw [if_pos (by omega), e_M_namedNow_38, e_M_namedNow_39, zw_id (by omega) (by omega), zw_id (by omega) (by omega), if_pos (by omega), e_M_namedNow_51, e_M_namedNow_52, if_neg hlt])
  rw [e_M_namedNow_0]
  refine Eq.trans ?_ (h.trans ?_)
  · rfl
  · rw [e_M_namedNow_8, pM_r_speeches, pM_a_speeches xs _ (by omega) (by omega), if_pos (by rw [zw_id (by omega) (by omega), zw_id (by omega) (by omega)]; omega), e_M_namedNow_59]
theorem zshr0 (x : Int) : zand (zshr 0 x) 1 = 0 := by
  have h : zshr 0 x = 0 := by
    unfold zshr
    rw [show Int32.ofInt 0 = 0 from rfl, Int32.zero_shiftRight]
    rfl
  rw [h]
  rfl
/-- the page as a row of signals, plain; what of it is a row -/
def pgOK (G : Nat → Int → Int) : Prop := ∀ k : Nat, (k : Int) < G pM 1 → 97 ≤ G pM_page k ∧ G pM_page k ≤ 104
def pgL (G : Nat → Int → Int) : List Int := pln G 0 (fun k => G pM_page k - 97) (G pM 1).toNat
theorem pgL_len {g : Nat → Int → Int} (hQ : bdQ g) : (pgL g).length ≤ 96 := by
  have := pln_len g 0 (fun k => g pM_page k - 97) (g pM 1).toNat
  obtain ⟨⟨h0, h1⟩, -⟩ := hQ
  unfold pgL
  omega
theorem pgL_R7 {g : Nat → Int → Int} (hb : bdS g) (ho : pgOK g) : isR7 (pgL g) := isR7_pln hb 0 (fun k hk => by
  have := ho k (by omega)
  omega)
theorem es_pgOK {g1 g : Nat → Int → Int} (h : es g1 = es g) : pgOK g1 = pgOK g := by
  obtain ⟨e1, -, -, -, -, -, -, -, e9, -⟩ := es_all h
  unfold pgOK
  rw [e1, e9]
theorem es_pgL {g1 g : Nat → Int → Int} (h : es g1 = es g) : pgL g1 = pgL g := by
  obtain ⟨e1, -, -, -, -, -, -, -, e9, -⟩ := es_all h
  unfold pgL
  rw [es_pln h, e1, e9]
theorem M_layPage (xs : List Int) (g : Nat → Int → Int) (hB : Bd g) : ∃ g1, zFr scP g g1 ∧ ((pgOK g ∧ zx zblk xs 28 0 [some (.inr (.inr (some pM)))] [] (HH g) = some (some (.inl 1), HH g1) ∧ isPl g1 (pgL g)) ∨ (¬ pgOK g ∧ zx zblk xs 28 0 [some (.inr (.inr (some pM)))] [] (HH g) = some (some (.inl 0), HH g1))) := by
  obtain ⟨hQ, hPg, hC, hS, -⟩ := id hB
  obtain ⟨⟨h0, h1⟩, -⟩ := id hQ
  have loop : ∀ (n k : Nat) (gk : Nat → Int → Int), (k : Int) + n = g pM 1 → (∀ j : Nat, j < k → 97 ≤ g pM_page j ∧ g pM_page j ≤ 104) → isPl gk (pln g 0 (fun k => g pM_page k - 97) k) → zFr scP g gk → ∃ g1, zFr scP g g1 ∧ ((pgOK g ∧ zx zblk xs 28 9 [some (.inr (.inr (some pM))), some (.inl (1)), some (.inl ((k : Int)))] [] (HH gk) = some (some (.inl 1), HH g1) ∧ isPl g1 (pgL g)) ∨ (¬ pgOK g ∧ zx zblk xs 28 9 [some (.inr (.inr (some pM))), some (.inl (1)), some (.inl ((k : Int)))] [] (HH gk) = some (some (.inl 0), HH g1))) := by
    intro n
    induction n with
    | zero =>
      intro k gk hk hj hl hf
      have e1 : gk pM 1 = g pM 1 := hf pM 1 (by simp [scP, scA, scM, scX, pM, pM_page, pM_readRows, pM_speeches, pM_rows, pM_signalRows, pM_weights, pM_plain, pM_plains, pM_ahead, pM_heap, pM_noteRows, pM_ways, pM_before, pM_keptWeights, pM_keptRows, pX, pX_signals, pX_weights, pX_codes, pX_page, pX_notes, pX_keptWeights, pX_keptNotes, pX_said, pX_heard, pX_pool, pX_struck, pX_readings])
      refine ⟨gk, hf, Or.inl ⟨fun j hj' => hj j (by omega), ?_, ?_⟩⟩
      · rw [e_M_layPage_9, pM_g_pageMany, e1, if_pos (by rw [zw_id (by omega) (by omega), zw_id (by omega) (by omega)]; omega), e_M_layPage_61, if_pos (Or.inr rfl)]
      · unfold pgL
        rw [show (g pM 1).toNat = k by omega]
        exact hl
    | succ n ih =>
      intro k gk hk hj hl hf
      have e1 : gk pM 1 = g pM 1 := hf pM 1 (by simp [scP, scA, scM, scX, pM, pM_page, pM_readRows, pM_speeches, pM_rows, pM_signalRows, pM_weights, pM_plain, pM_plains, pM_ahead, pM_heap, pM_noteRows, pM_ways, pM_before, pM_keptWeights, pM_keptRows, pX, pX_signals, pX_weights, pX_codes, pX_page, pX_notes, pX_keptWeights, pX_keptNotes, pX_said, pX_heard, pX_pool, pX_struck, pX_readings])
      have e2 : gk pM_page = g pM_page := hf.at (fun j => by simp [scP, scA, scM, scX, pM, pM_page, pM_readRows, pM_speeches, pM_rows, pM_signalRows, pM_weights, pM_plain, pM_plains, pM_ahead, pM_heap, pM_noteRows, pM_ways, pM_before, pM_keptWeights, pM_keptRows, pX, pX_signals, pX_weights, pX_codes, pX_page, pX_notes, pX_keptWeights, pX_keptNotes, pX_said, pX_heard, pX_pool, pX_struck, pX_readings])
      have hp := hPg k (by omega) (by omega)
      have hee := scP_es hf
      have hBk := es_Bd hee hB
      rw [e_M_layPage_9, pM_g_pageMany, e1, if_neg (by rw [zw_id (by omega) (by omega), zw_id (by omega) (by omega)]; omega), if_neg (by decide), pM_r_page, pM_a_page xs _ (by omega) (by omega), e2, zw_id (by omega) (by omega), M_in xs (g pM_page k) 97 104 (HH gk) (zwl_id (by omega) (by omega)) (by rfl) (by rfl), zci_ok, zb_zw]
      by_cases hr : 97 ≤ g pM_page k ∧ g pM_page k ≤ 104
      · obtain ⟨g2, q1, q2, q3⟩ := M_stand xs gk (g pM_page k - 97) _ (zw_id (by omega) (by omega)) hBk.1 hBk.2.2.2.1 hl (by have := pln_len g 0 (fun k => g pM_page k - 97) k; omega)
        rw [es_stp hee] at q2
        obtain ⟨g1, r1, r2⟩ := ih (k + 1) g2 (by omega) (fun j hj' => by
          by_cases hjk : j = k
          · subst hjk; exact hr
          · exact hj j (by omega)) (by
          simp only [pln, zshr0, ne_eq, not_true_eq_false, if_false]
          exact q2) (hf.tr q3)
        refine ⟨g1, r1, ?_⟩
        rw [zb_t hr, if_neg (by decide), pM_r_page, pM_a_page xs _ (by omega) (by omega), pM_ck, e2, q1, zcv_ok, e_M_layPage_55, ← Int.natCast_succ]
        exact r2
      · rw [zb_f hr, if_pos rfl, e_M_layPage_55, e_M_layPage_9, pM_g_pageMany, e1, e_M_layPage_61, if_pos (Or.inl rfl)]
        refine ⟨gk, hf, Or.inr ⟨fun z => hr (z k (by omega)), ?_⟩⟩
        split
        · rfl
        · rw [if_pos (show zw 0 = 0 from rfl)]
  obtain ⟨g1, r1, r2⟩ := loop (g pM 1).toNat 0 (up g pM 13 0) (by omega) (fun j hj => by omega) ⟨zPre_nil _, by rw [up_same]; rfl⟩ (zFr.rf.up (Or.inr ⟨rfl, rfl⟩))
  rw [z0N] at r2
  refine ⟨g1, r1, ?_⟩
  rw [e_M_layPage_0, pM_p_plainMany]
  exact r2
