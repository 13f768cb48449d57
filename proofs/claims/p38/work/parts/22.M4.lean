/-! ===== the reference: comparing speeches, the page ===== -/
/-- numbers of signals -/
def isR7 (l : List Int) : Prop := ∀ v ∈ l, 0 ≤ v ∧ v ≤ 7
theorem isR7_get {l : List Int} (h : isR7 l) {k : Nat} (hk : k < l.length) : 0 ≤ l[k] ∧ l[k] ≤ 7 := h _ (List.getElem_mem hk)
theorem isR7_stp {g : Nat → Int → Int} (hb : bdS g) {l : List Int} (h : isR7 l) {s : Int} (hs : 0 ≤ s ∧ s ≤ 7) : isR7 (stp g l s) := by
  unfold stp
  split
  · intro v hv
    rcases List.mem_append.mp hv with hv | hv
    · exact h v hv
    · rw [List.mem_singleton.mp hv]; exact hs
  · split
    next h2 =>
      obtain ⟨h3, h4⟩ := kindS_2 h2
      have h5 := hb s h3 h4
      have h6 : kindS g s = g pM_signalRows (4 * s) := by unfold kindS; rw [if_pos ⟨h3, h4⟩]
      have h7 := h5.2.2.2.2.1 (by rw [← h6]; exact h2)
      intro v hv
      rcases List.mem_append.mp hv with hv | hv
      · rcases List.mem_append.mp hv with hv | hv
        · exact h v hv
        · rw [List.mem_singleton.mp hv]; exact ⟨h7, h5.2.2.2.1⟩
      · rw [List.mem_singleton.mp hv]; exact ⟨h7, h5.2.2.2.1⟩
    · split
      · intro v hv; exact h v (List.dropLast_subset l hv)
      · exact h
theorem isR7_pln {g : Nat → Int → Int} (hb : bdS g) (st : Int) {f : Nat → Int} : ∀ {n : Nat}, (∀ k, k < n → 0 ≤ f k ∧ f k ≤ 7) → isR7 (pln g st f n)
  | 0, _ => by intro v hv; simp [pln] at hv
  | n + 1, h => by
    have h1 := isR7_pln hb st (n := n) (fun k hk => h k (by omega))
    unfold pln
    split
    · exact h1
    · exact isR7_stp hb h1 (h n (by omega))
theorem isR7_plS {g : Nat → Int → Int} (hB : Bd g) {c s : Int} (hc : 0 ≤ c ∧ c < g pM 5) (hs : 0 ≤ s ∧ s < g pM_speeches c) (st : Int) : isR7 (plS g st c s) := isR7_pln hB.2.2.2.1 st (lenS_rg hB.2.2.1 hc hs).2.2.2
theorem take_succ_eq {A B : List Int} {k : Nat} (ha : k < A.length) (hb : k < B.length) : A.take (k + 1) = B.take (k + 1) ↔ A.take k = B.take k ∧ A[k] = B[k] := by
  rw [List.take_succ_eq_append_getElem ha, List.take_succ_eq_append_getElem hb]
  constructor
  · intro h
    have := List.append_inj' h rfl
    exact ⟨this.1, by simpa using this.2⟩
  · rintro ⟨h1, h2⟩
    rw [h1, h2]
/-- in how many places two rows differ; far: they are of unlike lengths -/
def dif (A B : List Int) : Int := if A.length = B.length then zsum (fun k => if A.getD k 0 = B.getD k 0 then 0 else 1) B.length else 1000000
theorem dif_rg (A B : List Int) (h : B.length ≤ 100) : 0 ≤ dif A B ∧ (dif A B ≤ 100 ∨ dif A B = 1000000) := by
  unfold dif
  split
  · have := zsum_rg (a := 0) (b := 1) (n := B.length) (f := fun k => if A.getD k 0 = B.getD k 0 then 0 else 1) (fun k _ => by split <;> omega)
    omega
  · omega
/-- the first of the least: its place, its value -/
def nbest (v : Nat → Int) : Nat → Int × Int
  | 0 => (-1, 1000000)
  | n + 1 => if v n < (nbest v n).2 then ((n : Int), v n) else nbest v n
theorem nbest_rg {v : Nat → Int} : ∀ {n : Nat}, (∀ k, k < n → 0 ≤ v k) → -1 ≤ (nbest v n).1 ∧ (nbest v n).1 < n ∧ 0 ≤ (nbest v n).2 ∧ (nbest v n).2 ≤ 1000000
  | 0, _ => by simp [nbest]
  | n + 1, h => by
    have h1 := nbest_rg (n := n) (fun k hk => h k (by omega))
    have h2 := h n (by omega)
    unfold nbest
    split
    · simp only; omega
    · omega
/-- the page as a row of signals, plain; what of it is a row -/
def pgOK (G : Nat → Int → Int) : Prop := ∀ k : Nat, (k : Int) < G pM 1 → 97 ≤ G pM_page k ∧ G pM_page k ≤ 104
def pgL (G : Nat → Int → Int) : List Int := pln G 0 (fun k => G pM_page k - 97) (G pM 1).toNat
theorem pgL_len {g : Nat → Int → Int} (hQ : bdQ g) : (pgL g).length ≤ 96 := by
  have := pln_len g 0 (fun k => g pM_page k - 97) (g pM 1).toNat
  obtain ⟨⟨h0, h1⟩, -⟩ := hQ
  unfold pgL
  omega
theorem pgL_R7 {g : Nat → Int → Int} (hb : bdS g) (ho : pgOK g) : isR7 (pgL g) := isR7_pln hb 0 (fun k hk => by
  have := ho k (by omega)
  omega)
