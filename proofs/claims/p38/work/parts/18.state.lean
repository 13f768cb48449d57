/-! ===== the reference's memory is the abstract state: what of it counts, its bounds, what a call leaves as it was ===== -/
theorem up_q {g : Nat → Int → Int} {p q : Nat} {i j v : Int} (h : q ≠ p) : up g p i v q j = g q j := by rw [up_p g i v h]
/-- changed are at most the places of S -/
def zFr (S : Nat → Int → Prop) (g g1 : Nat → Int → Int) : Prop := ∀ q j, ¬ S q j → g1 q j = g q j
theorem zFr.rf {S : Nat → Int → Prop} {g : Nat → Int → Int} : zFr S g g := fun _ _ _ => rfl
theorem zFr.tr {S : Nat → Int → Prop} {a b c : Nat → Int → Int} (h1 : zFr S a b) (h2 : zFr S b c) : zFr S a c := fun q j h => (h2 q j h).trans (h1 q j h)
theorem zFr.mono {S S' : Nat → Int → Prop} {a b : Nat → Int → Int} (h : zFr S a b) (hs : ∀ q j, S q j → S' q j) : zFr S' a b := fun q j hn => h q j (fun z => hn (hs q j z))
theorem zFr.up {S : Nat → Int → Prop} {g g1 : Nat → Int → Int} (h : zFr S g g1) {q : Nat} {j v : Int} (hs : S q j) : zFr S g (up g1 q j v) := fun q' j' hn => by
  rw [up_ne]
  · exact h q' j' hn
  · rintro ⟨rfl, rfl⟩; exact hn hs
theorem zFr.at {S : Nat → Int → Prop} {g g1 : Nat → Int → Int} (h : zFr S g g1) {q : Nat} (hs : ∀ j, ¬ S q j) : g1 q = g q := funext fun j => h q j (hs j)
/-- the class's scratch -/
def scX (q : Nat) (_ : Int) : Prop := pX_said ≤ q ∧ q < pX_readings + 3
/-- bounds -/
def bdS (G : Nat → Int → Int) : Prop := ∀ s : Int, 0 ≤ s → s < G pM 8 → 0 ≤ G pM_signalRows (4 * s) ∧ G pM_signalRows (4 * s) ≤ 4 ∧ -1 ≤ G pM_signalRows (4 * s + 1) ∧ G pM_signalRows (4 * s + 1) ≤ 7 ∧ (G pM_signalRows (4 * s) = 2 → 0 ≤ G pM_signalRows (4 * s + 1)) ∧ 1 ≤ G pM_signalRows (4 * s + 2) ∧ G pM_signalRows (4 * s + 2) ≤ 9 ∧ 0 ≤ G pM_signalRows (4 * s + 3) ∧ G pM_signalRows (4 * s + 3) ≤ 9
def bdC (G : Nat → Int → Int) : Prop := ∀ c : Int, 0 ≤ c → c < G pM 5 → 1 ≤ G pM_speeches c ∧ G pM_speeches c ≤ 8 ∧ ∀ s : Int, 0 ≤ s → s < G pM_speeches c → 1 ≤ G pM_rows (48 * c + 6 * s) ∧ G pM_rows (48 * c + 6 * s) ≤ 5 ∧ ∀ k : Int, 1 ≤ k → k ≤ G pM_rows (48 * c + 6 * s) → 0 ≤ G pM_rows (48 * c + 6 * s + k) ∧ G pM_rows (48 * c + 6 * s + k) ≤ 7
def bdW (G : Nat → Int → Int) : Prop := ∀ t : Int, 0 ≤ t → t < G pM 10 → 1 ≤ G pM_weights t ∧ G pM_weights t ≤ 99
def bdP (G : Nat → Int → Int) : Prop := ∀ k : Int, 0 ≤ k → k < G pM 1 → 1 ≤ G pM_page k ∧ G pM_page k ≤ 126
def bdN (things notes : Int) (f : Int → Int) : Prop := ∀ n : Int, 0 ≤ n → n < notes → 0 ≤ f (10 * n) ∧ f (10 * n) < things ∧ 0 ≤ f (10 * n + 1) ∧ f (10 * n + 1) ≤ 8 ∧ ∀ k : Int, 0 ≤ k → k < f (10 * n + 1) → 0 ≤ f (10 * n + 2 + k) ∧ f (10 * n + 2 + k) ≤ 7
def bdK (G : Nat → Int → Int) : Prop := G pM 22 = -1 ∨ (0 ≤ G pM 22 ∧ G pM 22 ≤ G pM 10 ∧ 0 ≤ G pM 23 ∧ G pM 23 ≤ 10 ∧ bdN (G pM 22) (G pM 23) (G pM_keptRows) ∧ ∀ t : Int, 0 ≤ t → t < G pM 22 → 1 ≤ G pM_keptWeights t ∧ G pM_keptWeights t ≤ 99)
def bdQ (G : Nat → Int → Int) : Prop := (0 ≤ G pM 1 ∧ G pM 1 ≤ 48) ∧ (0 ≤ G pM 5 ∧ G pM 5 ≤ 4) ∧ (0 ≤ G pM 8 ∧ G pM 8 ≤ 8) ∧ (0 ≤ G pM 10 ∧ G pM 10 ≤ 8) ∧ (0 ≤ G pM 18 ∧ G pM 18 ≤ 10)
def Bd (G : Nat → Int → Int) : Prop := bdQ G ∧ bdP G ∧ bdC G ∧ bdS G ∧ bdW G ∧ bdN (G pM 10) (G pM 18) (G pM_noteRows) ∧ bdK G
/-- a row of numbers in an array -/
def zPre (f : Int → Int) (l : List Int) : Prop := ∀ (k : Nat) (v : Int), l[k]? = some v → f (k : Int) = v
theorem zPre_nil (f : Int → Int) : zPre f [] := fun k v h => by simp at h
theorem zPre_snoc {f f1 : Int → Int} {l : List Int} {v : Int} (h : zPre f l) (h1 : f1 (l.length : Int) = v) (h2 : ∀ j : Int, 0 ≤ j → j < l.length → f1 j = f j) : zPre f1 (l ++ [v]) := fun k w hk => by
  by_cases hl : k < l.length
  · rw [List.getElem?_append_left hl] at hk
    rw [h2 k (by omega) (by omega)]
    exact h k w hk
  · rw [List.getElem?_append_right (by omega)] at hk
    have hz : k - l.length < 1 := (List.getElem?_eq_some_iff.mp hk).1
    have hk0 : k = l.length := by omega
    subst hk0
    simp at hk
    subst hk
    exact h1
theorem zPre_drop {f : Int → Int} {l : List Int} (h : zPre f l) : zPre f l.dropLast := fun k v hk => by
  have hl := (List.getElem?_eq_some_iff.mp hk).1
  rw [List.length_dropLast] at hl
  rw [List.getElem?_dropLast, if_pos (by omega)] at hk
  exact h k v hk
theorem zPre_get {f : Int → Int} {l : List Int} (h : zPre f l) {k : Nat} (hk : k < l.length) : f (k : Int) = l[k] := h k _ (List.getElem?_eq_getElem hk)
/-- signals -/
def kindS (G : Nat → Int → Int) (s : Int) : Int := if 0 ≤ s ∧ s < G pM 8 then G pM_signalRows (4 * s) else 0
def secS (G : Nat → Int → Int) (s : Int) : Int := if 0 ≤ s ∧ s < G pM 8 then G pM_signalRows (4 * s + 2) else 1
def oddS (G : Nat → Int → Int) (s : Int) : Int := if 0 ≤ s ∧ s < G pM 8 then G pM_signalRows (4 * s + 3) else 0
/-- what stands, with one signal more -/
def stp (G : Nat → Int → Int) (l : List Int) (s : Int) : List Int := if kindS G s < 2 then l ++ [s] else if kindS G s = 2 then l ++ [G pM_signalRows (4 * s + 1)] ++ [G pM_signalRows (4 * s + 1)] else if kindS G s = 4 then l.dropLast else l
theorem stp_len (G : Nat → Int → Int) (l : List Int) (s : Int) : (stp G l s).length ≤ l.length + 2 := by
  unfold stp
  split
  · simp
  · split
    · simp
    · split
      · simp; omega
      · omega
/-- the first n of a row, plain, some struck out -/
def pln (G : Nat → Int → Int) (st : Int) (f : Nat → Int) : Nat → List Int
  | 0 => []
  | n + 1 => if zand (zshr st (f n)) 1 ≠ 0 then pln G st f n else stp G (pln G st f n) (f n)
theorem pln_len (G : Nat → Int → Int) (st : Int) (f : Nat → Int) : ∀ n, (pln G st f n).length ≤ 2 * n
  | 0 => by simp [pln]
  | n + 1 => by
    have h := pln_len G st f n
    unfold pln
    split
    · omega
    · have := stp_len G (pln G st f n) (f n)
      omega
/-- a loop whose step changes nothing of what comes out -/
theorem zloop {α : Type} (F : Nat → α) : ∀ (n : Nat), (∀ i, i < n → F i = F (i + 1)) → F 0 = F n
  | 0, _ => rfl
  | n + 1, h => (zloop F n (fun i hi => h i (by omega))).trans (h n (by omega))

