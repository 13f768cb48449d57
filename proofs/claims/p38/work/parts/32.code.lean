/-! ===== the class: rows of rows, codes ===== -/
def zRws (P m n : Nat) : Prop := P ≠ 0 ∧ m ≤ 100 ∧ zsh[P - 1]? = some (4, [P + 3 + 3, P + 1 + 3]) ∧ zsh[P + 3 - 1]? = some (105, (List.range m).map fun i => P + 4 + 2 * i + 3) ∧ ∀ i, i < m → zRw (P + 4 + 2 * i) n
def zrwB (p n : Nat) : Bool := decide (p ≠ 0) && decide (n ≤ 1000) && decide (zsh[p - 1]? = some (3, [p + 1 + 3, 0])) && decide (zsh[p + 1 - 1]? = some (100, List.replicate n 0))
theorem zrwB_ok {p n : Nat} (h : zrwB p n = true) : zRw p n := by
  unfold zrwB at h
  simp only [Bool.and_eq_true, decide_eq_true_eq] at h
  exact ⟨h.1.1.1, h.1.1.2, h.1.2, h.2⟩
def zrwsB (P m n : Nat) : Bool := decide (P ≠ 0) && decide (m ≤ 100) && decide (zsh[P - 1]? = some (4, [P + 3 + 3, P + 1 + 3])) && decide (zsh[P + 3 - 1]? = some (105, (List.range m).map fun i => P + 4 + 2 * i + 3)) && (List.range m).all fun i => zrwB (P + 4 + 2 * i) n
theorem zrwsB_ok {P m n : Nat} (h : zrwsB P m n = true) : zRws P m n := by
  unfold zrwsB at h
  simp only [Bool.and_eq_true, decide_eq_true_eq, List.all_eq_true, List.mem_range] at h
  exact ⟨h.1.1.1.1, h.1.1.1.2, h.1.1.2, h.1.2, fun i hi => zrwB_ok (h.2 i hi)⟩
theorem Rws_ck {P m n : Nat} (h : zRws P m n) (g : Nat → Int → Int) (o : Option zR) : zck (HH g) (some P) 4 o = o := HH_ck h.2.2.1 h.1 rfl o
theorem zif_some (p : Nat) (a b : Option zR) : zif (some p) a b = b := rfl
theorem Rows_row (xs : List Int) (g : Nat → Int → Int) {P m n : Nat} (h : zRws P m n) (i : Nat) (hi : i < m) : zx zblk xs 30 0 [some (.inr (.inr (some P))), some (.inl ((i : Int)))] [] (HH g) = some (some (.inr (.inr (some (P + 4 + 2 * i)))), HH g) := by
  obtain ⟨h0, hm, h1, h2, -⟩ := h
  have r0 : ∀ f : Option Nat → Option zR, zgr (HH g) (some P) 4 0 f = f (some (P + 3)) := fun f => HH_gr (j := 0) h1 h0 rfl rfl f
  rw [e_Rows_row_0, zw_id (by omega) (by omega), if_neg (by omega), r0, HH_ln h2 (by omega) (by show 100 ≤ 105; omega), List.length_map, List.length_range, zw_id (by omega) (by omega), if_neg (by omega), r0, HH_aa (r := P + 4 + 2 * i) (n := 0) h2 (by omega) (by omega) (by omega) (by omega) (by simp [hi]), e_Rows_row_23, zif_some, e_Rows_row_35, e_Rows_row_36]
/-- a code's place -/
def zCo (P : Nat) : Prop := P ≠ 0 ∧ zsh[P - 1]? = some (0, [P + 1 + 3, P + 21 + 3, 0]) ∧ zRws (P + 1) 8 5 ∧ zRws (P + 21) 8 10
abbrev PC (c : Nat) : Nat := 101 + 41 * c
theorem zCo_PC {c : Nat} (hc : c < 4) : zCo (PC c) := by
  have h : c = 0 ∨ c = 1 ∨ c = 2 ∨ c = 3 := by omega
  rcases h with rfl | rfl | rfl | rfl
  · exact ⟨by decide, rfl, zrwsB_ok (by decide +kernel), zrwsB_ok (by decide +kernel)⟩
  · exact ⟨by decide, rfl, zrwsB_ok (by decide +kernel), zrwsB_ok (by decide +kernel)⟩
  · exact ⟨by decide, rfl, zrwsB_ok (by decide +kernel), zrwsB_ok (by decide +kernel)⟩
  · exact ⟨by decide, rfl, zrwsB_ok (by decide +kernel), zrwsB_ok (by decide +kernel)⟩
section CODE
variable {P : Nat} {g : Nat → Int → Int}
theorem Co_ck (h : zCo P) (o : Option zR) : zck (HH g) (some P) 0 o = o := HH_ck h.2.1 h.1 rfl o
theorem Co_g (h : zCo P) (f : Int → Option zR) : zgi (HH g) (some P) 0 2 f = f (g P 2) := HH_gi (j := 2) h.2.1 h.1 rfl rfl f
theorem Co_p (h : zCo P) (v : Int) (f : zH → Option zR) : zpf (HH g) (some P) 0 2 (.inl v) f = f (HH (up g P 2 v)) := HH_pf (j := 2) h.2.1 h.1 rfl rfl f
theorem Co_s (h : zCo P) (f : Option Nat → Option zR) : zgr (HH g) (some P) 0 0 f = f (some (P + 1)) := HH_gr (j := 0) h.2.1 h.1 rfl rfl f
theorem Co_l (h : zCo P) (f : Option Nat → Option zR) : zgr (HH g) (some P) 0 1 f = f (some (P + 21)) := HH_gr (j := 1) h.2.1 h.1 rfl rfl f
theorem Code_size (xs : List Int) (h : zCo P) : zx zblk xs 2 0 [some (.inr (.inr (some P)))] [] (HH g) = some (some (.inl (g P 2)), HH g) := by rw [e_Code_size_0, Co_g h]
theorem Code_spoken (xs : List Int) (h : zCo P) (i : Nat) (hi : i < 8) : zx zblk xs 3 0 [some (.inr (.inr (some P))), some (.inl ((i : Int)))] [] (HH g) = some (some (.inr (.inr (some (P + 1 + 4 + 2 * i)))), HH g) := by
  rw [e_Code_spoken_0, Co_s h, Rws_ck h.2.2.1, Rows_row xs g h.2.2.1 i hi, zcr_ok]
theorem Code_plain (xs : List Int) (h : zCo P) (i : Nat) (hi : i < 8) : zx zblk xs 4 0 [some (.inr (.inr (some P))), some (.inl ((i : Int)))] [] (HH g) = some (some (.inr (.inr (some (P + 21 + 4 + 2 * i)))), HH g) := by
  rw [e_Code_plain_0, Co_l h, Rws_ck h.2.2.2, Rows_row xs g h.2.2.2 i hi, zcr_ok]
end CODE
/-- a code whose speeches stand plain -/
def zCd (g : Nat → Int → Int) (P n : Nat) (L : Nat → List Int) : Prop := zCo P ∧ g P 2 = n ∧ n ≤ 8 ∧ ∀ i, i < n → zRow g (P + 21 + 4 + 2 * i) (L i) ∧ (L i).length ≤ 10 ∧ isR7 (L i)
theorem zCd.rw {g : Nat → Int → Int} {P n : Nat} {L : Nat → List Int} (h : zCd g P n L) {i : Nat} (hi : i < n) : zRw (P + 21 + 4 + 2 * i) 10 := h.1.2.2.2.2.2.2.2 i (by have := h.2.2.1; omega)
theorem zCd_fr {g g1 : Nat → Int → Int} {P n : Nat} {L : Nat → List Int} (h : zCd g P n L) (e : ∀ q, P ≤ q → q ≤ P + 40 → g1 q = g q) : zCd g1 P n L := by
  obtain ⟨h1, h2, h3, h4⟩ := h
  refine ⟨h1, by rw [e P (by omega) (by omega)]; exact h2, h3, fun i hi => ⟨zRow_fr (h4 i hi).1 (e _ (by omega) (by omega)) (e _ (by omega) (by omega)), (h4 i hi).2⟩⟩
/-- the first number that is not -1 -/
def zfo (f : Nat → Int) : Nat → Nat → Int
  | 0, _ => -1
  | n + 1, i => if f i ≠ -1 then f i else zfo f n (i + 1)
theorem zfo_no {f : Nat → Int} : ∀ {n i : Nat}, (∀ k, i ≤ k → k < i + n → f k = -1) → zfo f n i = -1
  | 0, _, _ => rfl
  | n + 1, i, h => by
    rw [zfo, if_neg (by rw [h i (by omega) (by omega)]; simp)]
    exact zfo_no (fun k h0 h1 => h k (by omega) (by omega))
theorem zfo_rg {f : Nat → Int} {a b : Int} (ha : a ≤ -1) (hb : -1 ≤ b) : ∀ {n i : Nat}, (∀ k, i ≤ k → k < i + n → a ≤ f k ∧ f k ≤ b) → a ≤ zfo f n i ∧ zfo f n i ≤ b
  | 0, _, _ => ⟨ha, hb⟩
  | n + 1, i, h => by
    rw [zfo]
    split
    · exact h i (by omega) (by omega)
    · exact zfo_rg ha hb (fun k h0 h1 => h k (by omega) (by omega))
section CODE2
variable (xs : List Int) {g : Nat → Int → Int} {P n : Nat} {L : Nat → List Int}
theorem Code_meaningOf (h : zCd g P n L) {p2 n2 : Nat} {l2 : List Int} (h2 : zRw p2 n2) (hl2 : zRow g p2 l2) (hn2 : l2.length ≤ n2) (hr2 : isR7 l2) : zx zblk xs 7 0 [some (.inr (.inr (some P))), some (.inr (.inr (some p2)))] [] (HH g) = some (some (.inl (zfo (fun i => if L i = l2 then i else -1) n 0)), HH g) := by
  obtain ⟨h1, hn, hn8, hr⟩ := id h
  have loop : ∀ (r i : Nat), i + r = n → zx zblk xs 7 2 [some (.inr (.inr (some P))), some (.inr (.inr (some p2))), some (.inl ((i : Int)))] [] (HH g) = some (some (.inl (zfo (fun i => if L i = l2 then (i : Int) else -1) r i)), HH g) := by
    intro r
    induction r with
    | zero =>
      intro i hi
      rw [e_Code_meaningOf_2, Co_g h1, hn, if_pos (by rw [zw_id (by omega) (by omega), zw_id (by omega) (by omega)]; omega), e_Code_meaningOf_30, zfo]
    | succ r ih =>
      intro i hi
      have hi' : i < n := by omega
      rw [e_Code_meaningOf_2, Co_g h1, hn, if_neg (by rw [zw_id (by omega) (by omega), zw_id (by omega) (by omega)]; omega), Co_ck h1, Code_plain xs h1 i (by omega), zcr_ok, Rw_ck (h.rw hi'), Row_isLike xs (h.rw hi') h2 (hr i hi').1 hl2 (hr i hi').2.1 hn2 (hr i hi').2.2 hr2, zci_ok, zb_zw, zfo]
      by_cases he : L i = l2
      · rw [zb_t he, if_neg (by decide), if_pos he, if_pos (by omega)]
      · rw [zb_f he, if_pos rfl, if_neg he, if_neg (by simp), e_Code_meaningOf_24, ← Int.natCast_succ]
        exact ih (i + 1) (by omega)
  rw [e_Code_meaningOf_0]
  exact loop n 0 (by omega)
theorem Code_firstAlike (h : zCd g P n L) : zx zblk xs 8 0 [some (.inr (.inr (some P)))] [] (HH g) = some (some (.inl (zfo (fun i => zfo (fun j => if L i = L j then 8 * i + j else -1) (n - (i + 1)) (i + 1)) n 0)), HH g) := by
  obtain ⟨h1, hn, hn8, hr⟩ := id h
  have inner : ∀ (i : Nat), i < n → ∀ (r j : Nat), j + r = n → zx zblk xs 8 14 [some (.inr (.inr (some P))), some (.inl ((i : Int))), some (.inl ((j : Int)))] [] (HH g) = if zfo (fun j => if L i = L j then (8 * i + j : Int) else -1) r j ≠ -1 then some (some (.inl (zfo (fun j => if L i = L j then (8 * i + j : Int) else -1) r j)), HH g) else zx zblk xs 8 51 [some (.inr (.inr (some P))), some (.inl ((i : Int)))] [] (HH g) := by
    intro i hi r
    induction r with
    | zero =>
      intro j hj
      rw [e_Code_firstAlike_14, Co_g h1, hn, if_pos (by rw [zw_id (by omega) (by omega), zw_id (by omega) (by omega)]; omega), if_neg (by simp [zfo])]
    | succ r ih =>
      intro j hj
      have hj' : j < n := by omega
      rw [e_Code_firstAlike_14, Co_g h1, hn, if_neg (by rw [zw_id (by omega) (by omega), zw_id (by omega) (by omega)]; omega), Co_ck h1, Code_plain xs h1 i (by omega), zcr_ok, Co_ck h1, Code_plain xs h1 j (by omega), zcr_ok, Rw_ck (h.rw hi), Row_isLike xs (h.rw hi) (h.rw hj') (hr i hi).1 (hr j hj').1 (hr i hi).2.1 (hr j hj').2.1 (hr i hi).2.2 (hr j hj').2.2, zci_ok, zb_zw]
      have e : zfo (fun j => if L i = L j then (8 * i + j : Int) else -1) (r + 1) j = if L i = L j then (8 * i + j : Int) else zfo (fun j => if L i = L j then (8 * i + j : Int) else -1) r (j + 1) := by
        rw [zfo]
        by_cases he : L i = L j
        · rw [if_pos he, if_pos (by omega), if_pos he]
        · rw [if_neg he, if_neg (by simp), if_neg he]
      rw [e]
      by_cases he : L i = L j
      · rw [zb_t he, if_neg (by decide), if_pos he, if_pos (by omega), Int.mul_comm]
      · rw [zb_f he, if_pos rfl, if_neg he, e_Code_firstAlike_45, ← Int.natCast_succ]
        exact ih (j + 1) (by omega)
  have outer : ∀ (r i : Nat), i + r = n → zx zblk xs 8 2 [some (.inr (.inr (some P))), some (.inl ((i : Int)))] [] (HH g) = some (some (.inl (zfo (fun i => zfo (fun j => if L i = L j then (8 * i + j : Int) else -1) (n - (i + 1)) (i + 1)) r i)), HH g) := by
    intro r
    induction r with
    | zero =>
      intro i hi
      rw [e_Code_firstAlike_2, Co_g h1, hn, if_pos (by rw [zw_id (by omega) (by omega), zw_id (by omega) (by omega)]; omega), e_Code_firstAlike_57, zfo]
    | succ r ih =>
      intro i hi
      have hi' : i < n := by omega
      rw [e_Code_firstAlike_2, Co_g h1, hn, if_neg (by rw [zw_id (by omega) (by omega), zw_id (by omega) (by omega)]; omega), ← Int.natCast_succ, inner i hi' (n - (i + 1)) (i + 1) (by omega), zfo]
      split
      · rfl
      · rw [e_Code_firstAlike_51, ← Int.natCast_succ]
        exact ih (i + 1) (by omega)
  rw [e_Code_firstAlike_0]
  exact outer n 0 (by omega)
theorem Code_firstStart (h : zCd g P n L) : zx zblk xs 9 0 [some (.inr (.inr (some P)))] [] (HH g) = some (some (.inl (zfo (fun i => zfo (fun j => if (L i).length < (L j).length ∧ L i = (L j).take (L i).length then 8 * i + j else -1) n 0) n 0)), HH g) := by
  obtain ⟨h1, hn, hn8, hr⟩ := id h
  have inner : ∀ (i : Nat), i < n → ∀ (r j : Nat), j + r = n → zx zblk xs 9 12 [some (.inr (.inr (some P))), some (.inl ((i : Int))), some (.inl ((j : Int)))] [] (HH g) = if zfo (fun j => if (L i).length < (L j).length ∧ L i = (L j).take (L i).length then (8 * i + j : Int) else -1) r j ≠ -1 then some (some (.inl (zfo (fun j => if (L i).length < (L j).length ∧ L i = (L j).take (L i).length then (8 * i + j : Int) else -1) r j)), HH g) else zx zblk xs 9 68 [some (.inr (.inr (some P))), some (.inl ((i : Int)))] [] (HH g) := by
    intro i hi r
    induction r with
    | zero =>
      intro j hj
      rw [e_Code_firstStart_12, Co_g h1, hn, if_pos (by rw [zw_id (by omega) (by omega), zw_id (by omega) (by omega)]; omega), if_neg (by simp [zfo])]
    | succ r ih =>
      intro j hj
      have hj' : j < n := by omega
      have li := (hr i hi).2.1
      have lj := (hr j hj').2.1
      have e : zfo (fun j => if (L i).length < (L j).length ∧ L i = (L j).take (L i).length then (8 * i + j : Int) else -1) (r + 1) j = if (L i).length < (L j).length ∧ L i = (L j).take (L i).length then (8 * i + j : Int) else zfo (fun j => if (L i).length < (L j).length ∧ L i = (L j).take (L i).length then (8 * i + j : Int) else -1) r (j + 1) := by
        rw [zfo]
        by_cases he : (L i).length < (L j).length ∧ L i = (L j).take (L i).length
        · rw [if_pos he, if_pos (by omega), if_pos he]
        · rw [if_neg he, if_neg (by simp), if_neg he]
      rw [e_Code_firstStart_12, Co_g h1, hn, if_neg (by rw [zw_id (by omega) (by omega), zw_id (by omega) (by omega)]; omega), Co_ck h1, Code_plain xs h1 i (by omega), zcr_ok, Rw_ck (h.rw hi), Row_size xs (h.rw hi) (hr i hi).1, zci_ok, Co_ck h1, Code_plain xs h1 j (by omega), zcr_ok, Rw_ck (h.rw hj'), Row_size xs (h.rw hj') (hr j hj').1, zci_ok, zw_id (by omega) (by omega), zw_id (by omega) (by omega), e]
      by_cases hlt : (L i).length < (L j).length
      · have hd := zdc (isPfx (L i) (L j))
        have hpf : isPfx (L i) (L j) ↔ (L i).length < (L j).length ∧ L i = (L j).take (L i).length := by
          unfold isPfx
          constructor
          · rintro ⟨-, z⟩; exact ⟨hlt, z⟩
          · rintro ⟨-, z⟩; exact ⟨by omega, z⟩
        rw [if_neg (by omega), Co_ck h1, Code_plain xs h1 i (by omega), zcr_ok, Co_ck h1, Code_plain xs h1 j (by omega), zcr_ok, Rw_ck (h.rw hi), Row_isStartOf xs (h.rw hi) (h.rw hj') (hr i hi).1 (hr j hj').1 (hr i hi).2.1 (hr j hj').2.1 (hr i hi).2.2 (hr j hj').2.2, zci_ok, zb_zw]
        by_cases he : (L i).length < (L j).length ∧ L i = (L j).take (L i).length
        · rw [zb_t (hpf.mpr he), if_neg (by decide), if_pos he, if_pos (by omega), Int.mul_comm]
        · rw [zb_f (fun z => he (hpf.mp z)), if_pos rfl, if_neg he, e_Code_firstStart_62, ← Int.natCast_succ]
          exact ih (j + 1) (by omega)
      · have hne : ¬ ((L i).length < (L j).length ∧ L i = (L j).take (L i).length) := fun z => hlt z.1
        rw [if_pos (by omega), if_neg hne, e_Code_firstStart_62, ← Int.natCast_succ]
        exact ih (j + 1) (by omega)
  have outer : ∀ (r i : Nat), i + r = n → zx zblk xs 9 2 [some (.inr (.inr (some P))), some (.inl ((i : Int)))] [] (HH g) = some (some (.inl (zfo (fun i => zfo (fun j => if (L i).length < (L j).length ∧ L i = (L j).take (L i).length then (8 * i + j : Int) else -1) n 0) r i)), HH g) := by
    intro r
    induction r with
    | zero =>
      intro i hi
      rw [e_Code_firstStart_2, Co_g h1, hn, if_pos (by rw [zw_id (by omega) (by omega), zw_id (by omega) (by omega)]; omega), e_Code_firstStart_74, zfo]
    | succ r ih =>
      intro i hi
      have hi' : i < n := by omega
      have hin := inner i hi' n 0 (by omega)
      rw [z0N] at hin
      rw [e_Code_firstStart_2, Co_g h1, hn, if_neg (by rw [zw_id (by omega) (by omega), zw_id (by omega) (by omega)]; omega), hin, zfo]
      split
      · rfl
      · rw [e_Code_firstStart_68, ← Int.natCast_succ]
        exact ih (i + 1) (by omega)
  rw [e_Code_firstStart_0]
  exact outer n 0 (by omega)
theorem Code_nearestTo (h : zCd g P n L) {p2 n2 : Nat} {l2 : List Int} (h2 : zRw p2 n2) (hl2 : zRow g p2 l2) (hn2 : l2.length ≤ n2) (hr2 : isR7 l2) (hl96 : l2.length ≤ 96) : zx zblk xs 11 0 [some (.inr (.inr (some P))), some (.inr (.inr (some p2)))] [] (HH g) = some (some (.inl (nbest (fun i => dif (L i) l2) n).1), HH g) := by
  obtain ⟨h1, hn, hn8, hr⟩ := id h
  have hn20 := h2.2.1
  have loop : ∀ (r i : Nat) (w : Int), i + r = n → ((nbest (fun i => dif (L i) l2) i).1 = -1 → (nbest (fun i => dif (L i) l2) i).2 = 1000000) → ((nbest (fun i => dif (L i) l2) i).1 ≠ -1 → w = (nbest (fun i => dif (L i) l2) i).2 ∧ w ≤ 100) → zx zblk xs 11 7 [some (.inr (.inr (some P))), some (.inr (.inr (some p2))), some (.inl ((nbest (fun i => dif (L i) l2) i).1)), some (.inl (w)), some (.inl ((i : Int)))] [] (HH g) = some (some (.inl (nbest (fun i => dif (L i) l2) n).1), HH g) := by
    intro r
    induction r with
    | zero =>
      intro i w hi hw1 hw2
      have : i = n := by omega
      subst this
      rw [e_Code_nearestTo_7, Co_g h1, hn, if_pos (by omega), e_Code_nearestTo_70]
    | succ r ih =>
      intro i w hi hw1 hw2
      have hi' : i < n := by omega
      have hdr := dif_rg (L i) l2 (by omega)
      have hnr := nbest_rg (v := fun i => dif (L i) l2) (n := i) (fun k _ => (dif_rg (L k) l2 (by omega)).1)
      have e64 : ∀ (v2 v3 : Int), zx zblk xs 11 64 [some (.inr (.inr (some P))), some (.inr (.inr (some p2))), some (.inl (v2)), some (.inl (v3)), some (.inl ((i : Int)))] [] (HH g) = zx zblk xs 11 7 [some (.inr (.inr (some P))), some (.inr (.inr (some p2))), some (.inl (v2)), some (.inl (v3)), some (.inl (((i + 1 : Nat) : Int)))] [] (HH g) := fun v2 v3 => by rw [e_Code_nearestTo_64, ← Int.natCast_succ]
      rw [e_Code_nearestTo_7, Co_g h1, hn, if_neg (by rw [zw_id (by omega) (by omega), zw_id (by omega) (by omega)]; omega), Co_ck h1, Code_plain xs h1 i (by omega), zcr_ok, Rw_ck (h.rw hi'), Row_size xs (h.rw hi') (hr i hi').1, zci_ok, Rw_ck h2, Row_size xs h2 hl2, zci_ok, zw_id (a := ((L i).length : Int)) (by omega) (by have := (hr i hi').2.1; omega), zw_id (a := (l2.length : Int)) (by omega) (by omega)]
      have hnb : nbest (fun i => dif (L i) l2) (i + 1) = if dif (L i) l2 < (nbest (fun i => dif (L i) l2) i).2 then ((i : Int), dif (L i) l2) else nbest (fun i => dif (L i) l2) i := by
        rw [nbest]
      by_cases hle : (L i).length = l2.length
      · have hd100 : dif (L i) l2 ≤ 100 := by
          unfold dif
          rw [if_pos hle]
          have := zsum_rg (a := 0) (b := 1) (n := l2.length) (f := fun k => if (L i).getD k 0 = l2.getD k 0 then 0 else 1) (fun k _ => by split <;> omega)
          omega
        rw [if_pos (by omega), e_Code_nearestTo_35, Co_ck h1, Code_plain xs h1 i (by omega), zcr_ok, Rw_ck (h.rw hi'), Row_placesApart xs (h.rw hi') h2 (hr i hi').1 hl2 (hr i hi').2.1 hn2 (hr i hi').2.2 hr2 hle, zci_ok, zw_id (by omega) (by omega), show zw (-1) = -1 from rfl]
        have take : zx zblk xs 11 58 [some (.inr (.inr (some P))), some (.inr (.inr (some p2))), none, none, some (.inl ((i : Int))), some (.inl (dif (L i) l2))] [] (HH g) = zx zblk xs 11 7 [some (.inr (.inr (some P))), some (.inr (.inr (some p2))), some (.inl ((i : Int))), some (.inl (dif (L i) l2)), some (.inl (((i + 1 : Nat) : Int)))] [] (HH g) := by rw [e_Code_nearestTo_58, e64]
        by_cases hb : dif (L i) l2 < (nbest (fun i => dif (L i) l2) i).2
        · rw [if_pos hb] at hnb
          have := ih (i + 1) (dif (L i) l2) (by omega) (by rw [hnb]; simp) (by rw [hnb]; intro _; exact ⟨rfl, hd100⟩)
          rw [hnb] at this
          by_cases hm : (nbest (fun i => dif (L i) l2) i).1 = -1
          · rw [if_pos hm, take]
            exact this
          · obtain ⟨w1, w2⟩ := hw2 hm
            rw [if_neg hm, zw_id (a := w) (by omega) (by omega), zw_id (a := dif (L i) l2) (by omega) (by omega), if_neg (by omega), take]
            exact this
        · rw [if_neg hb] at hnb
          have hm : (nbest (fun i => dif (L i) l2) i).1 ≠ -1 := fun z => by have := hw1 z; omega
          obtain ⟨w1, w2⟩ := hw2 hm
          rw [if_neg hm, zw_id (a := w) (by omega) (by omega), zw_id (a := dif (L i) l2) (by omega) (by omega), if_pos (by omega), e64]
          have := ih (i + 1) w (by omega) (by rw [hnb]; exact hw1) (by rw [hnb]; exact hw2)
          rw [hnb] at this
          exact this
      · have hdf : dif (L i) l2 = 1000000 := by unfold dif; rw [if_neg hle]
        rw [hdf, if_neg (by omega)] at hnb
        rw [if_neg (by omega), e64]
        have := ih (i + 1) w (by omega) (by rw [hnb]; exact hw1) (by rw [hnb]; exact hw2)
        rw [hnb] at this
        exact this
  rw [e_Code_nearestTo_0]
  exact loop n 0 0 (by omega) (fun _ => rfl) (fun z => absurd rfl z)
end CODE2
