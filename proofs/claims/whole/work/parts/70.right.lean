/-! ===== right: the class ===== -/
/-- the k-th figure of a number -/
def dg (r h k : Nat) : Nat := h / r ^ k % r
def dgL (r h n : Nat) : List Int := zLi (fun k => (dg r h k : Int)) n
theorem dg_lt {r : Nat} (hr : 0 < r) (h k : Nat) : dg r h k < r := Nat.mod_lt _ hr
theorem dg_hi {r a b i k : Nat} (h : a / r ^ i = b / r ^ i) (hk : i ≤ k) : dg r a k = dg r b k := by
  unfold dg
  rw [show r ^ k = r ^ i * r ^ (k - i) by rw [← Nat.pow_add]; congr 1; omega, ← Nat.div_div_eq_div_mul, ← Nat.div_div_eq_div_mul, h]
theorem dg_up {r x : Nat} (hr : 0 < r) : (x % r + 1 < r → (x + 1) % r = x % r + 1 ∧ (x + 1) / r = x / r) ∧ (¬ x % r + 1 < r → (x + 1) % r = 0 ∧ (x + 1) / r = x / r + 1) := by
  have hx := Nat.div_add_mod x r
  have hl := Nat.mod_lt x hr
  constructor
  · intro h
    have e : x + 1 = r * (x / r) + (x % r + 1) := by omega
    constructor
    · rw [e, Nat.mul_add_mod, Nat.mod_eq_of_lt h]
    · rw [e, Nat.mul_add_div hr, Nat.div_eq_of_lt h, Nat.add_zero]
  · intro h
    have e : x + 1 = r * (x / r + 1) := by rw [Nat.mul_add]; omega
    constructor
    · rw [e, Nat.mul_mod_right]
    · rw [e, Nat.mul_div_cancel_left _ hr]
theorem dgL_R7 {r : Nat} (hr : 0 < r) (hr8 : r ≤ 8) (h n : Nat) : isR7 (dgL r h n) := zLi_mem (fun k _ => by have := dg_lt hr h k; omega)
theorem Row_turn (xs : List Int) {p m : Nat} (hp : zRw p m) {g : Nat → Int → Int} {r h n : Nat} (hr : 2 ≤ r) (hr8 : r ≤ 8) (hn : n ≤ m) (hl : zRow g p (dgL r h n)) : ∃ g1, zx zblk xs 119 0 [some (.inr (.inr (some p))), some (.inl ((r : Int)))] [] (HH g) = some (none, HH g1) ∧ zRow g1 p (dgL r (h + 1) n) ∧ zFr (scR p) g g1 := by
  have hm := hp.2.1
  have loop : ∀ (s i : Nat) (gk : Nat → Int → Int), i + s = n → (h + 1) / r ^ i = h / r ^ i + 1 → zRow gk p (zLi (fun k => if k < i then (dg r (h + 1) k : Int) else (dg r h k : Int)) n) → zFr (scR p) g gk → ∃ g1, zx zblk xs 119 2 [some (.inr (.inr (some p))), some (.inl ((r : Int))), some (.inl ((i : Int)))] [] (HH gk) = some (none, HH g1) ∧ zRow g1 p (dgL r (h + 1) n) ∧ zFr (scR p) g g1 := by
    intro s
    induction s with
    | zero =>
      intro i gk hi hc hrow hf
      have : i = n := by omega
      subst this
      refine ⟨gk, ?_, ?_, hf⟩
      · rw [e_Row_turn_2, Rw_g hp, hrow.1, zLi_len, if_pos (Int.le_refl _), e_Row_turn_42]
      · unfold dgL
        rw [zLi_cg (f' := fun k => if k < i then (dg r (h + 1) k : Int) else (dg r h k : Int)) (fun k hk => (if_pos hk).symm)]
        exact hrow
    | succ s ih =>
      intro i gk hi hc hrow hf
      have hd := dg_lt (r := r) (by omega) h i
      have hat : zat (zLi (fun k => if k < i then (dg r (h + 1) k : Int) else (dg r h k : Int)) n) (i : Int) = dg r h i := by
        rw [zat_Li (by omega)]
        exact if_neg (by omega)
      obtain ⟨u1, u2⟩ := dg_up (r := r) (x := h / r ^ i) (by omega)
      rw [e_Row_turn_2, Rw_g hp, hrow.1, zLi_len, if_neg (by rw [zw_id (by omega) (by omega), zw_id (by omega) (by omega)]; omega), Rw_ck hp, Row_at xs hp hrow (by rw [zLi_len]; omega) i (zw_id (by omega) (by omega)), zci_ok, hat, zw_id (by omega) (by omega), zw_id (by omega) (by omega)]
      by_cases c : h / r ^ i % r + 1 < r
      · obtain ⟨v1, v2⟩ := u1 c
        have hdi : dg r (h + 1) i = dg r h i + 1 := by unfold dg; rw [hc, v1]
        obtain ⟨p1, p2⟩ := Row_set xs hp hrow (by rw [zLi_len]; omega) i ((dg r h i : Int) + 1) (by rw [zLi_len]; omega)
        refine ⟨up gk (p + 1) i ((dg r h i : Int) + 1), ?_, ?_, hf.up (Or.inr rfl)⟩
        · rw [if_neg (by unfold dg; omega), Rw_ck hp, p1, zcv_ok]
        · rw [zLi_set] at p2
          unfold dgL
          rw [zLi_cg (f' := fun j => if j = i then (dg r h i : Int) + 1 else if j < i then (dg r (h + 1) j : Int) else (dg r h j : Int)) (fun k hk => by
            by_cases e : k = i
            · rw [if_pos e, e, hdi]; rfl
            · rw [if_neg e]
              by_cases e2 : k < i
              · rw [if_pos e2]
              · rw [if_neg e2, dg_hi (r := r) (a := h + 1) (b := h) (i := i + 1) (k := k) (by rw [Nat.pow_succ, ← Nat.div_div_eq_div_mul, ← Nat.div_div_eq_div_mul, hc, v2]) (by omega)])]
          exact p2
      · obtain ⟨v1, v2⟩ := u2 c
        have hdi : dg r (h + 1) i = 0 := by unfold dg; rw [hc, v1]
        obtain ⟨p1, p2⟩ := Row_set xs hp hrow (by rw [zLi_len]; omega) i 0 (by rw [zLi_len]; omega)
        obtain ⟨g1, q1, q2, q3⟩ := ih (i + 1) (up gk (p + 1) i 0) (by omega) (by rw [Nat.pow_succ, ← Nat.div_div_eq_div_mul, ← Nat.div_div_eq_div_mul, hc, v2]) (by
          rw [zLi_set] at p2
          rw [zLi_cg (f' := fun j => if j = i then (0 : Int) else if j < i then (dg r (h + 1) j : Int) else (dg r h j : Int)) (fun k hk => by
            by_cases e : k = i
            · rw [if_pos e, e, if_pos (by omega), hdi]; rfl
            · rw [if_neg e]
              by_cases e2 : k < i
              · rw [if_pos e2, if_pos (by omega)]
              · rw [if_neg e2, if_neg (by omega)])]
          exact p2) (hf.up (Or.inr rfl))
        refine ⟨g1, ?_, q2, q3⟩
        rw [if_pos (by unfold dg; omega), e_Row_turn_30, Rw_ck hp, p1, zcv_ok, ← Int.natCast_succ]
        exact q1
  obtain ⟨g1, q1, q2, q3⟩ := loop n 0 g (by omega) (by rw [Nat.pow_zero, Nat.div_one, Nat.div_one]) (by
    rw [zLi_cg (f' := fun k => (dg r h k : Int)) (fun k hk => if_neg (by omega))]
    exact hl) zFr.rf
  rw [z0N] at q1
  refine ⟨g1, ?_, q2, q3⟩
  rw [e_Row_turn_0]
  exact q1
theorem Row_isBelow (xs : List Int) {p m : Nat} (hp : zRw p m) {g : Nat → Int → Int} {l : List Int} (hl : zRow g p l) (hm : l.length ≤ m) (hi : isR7 l) (r : Nat) (hr : r ≤ 8) [Decidable (∀ v ∈ l, v < (r : Int))] : zx zblk xs 116 0 [some (.inr (.inr (some p))), some (.inl ((r : Int)))] [] (HH g) = some (some (.inl (zb (∀ v ∈ l, v < (r : Int)))), HH g) := by
  have hm0 := hp.2.1
  have loop : ∀ (s i : Nat), i + s = l.length → (∀ k (hk : k < l.length), k < i → l[k] < (r : Int)) → zx zblk xs 116 2 [some (.inr (.inr (some p))), some (.inl ((r : Int))), some (.inl ((i : Int)))] [] (HH g) = some (some (.inl (zb (∀ v ∈ l, v < (r : Int)))), HH g) := by
    intro s
    induction s with
    | zero =>
      intro i hs hk
      rw [e_Row_isBelow_2, Rw_g hp, hl.1, if_pos (by rw [zw_id (by omega) (by omega), zw_id (by omega) (by omega)]; omega), e_Row_isBelow_27, if_pos (Or.inr rfl), zb_t]
      intro v hv
      obtain ⟨k, hk1, rfl⟩ := List.getElem_of_mem hv
      exact hk k hk1 (by omega)
    | succ s ih =>
      intro i hs hk
      have h7 := isR7_get hi (k := i) (by omega)
      rw [e_Row_isBelow_2, Rw_g hp, hl.1, if_neg (by rw [zw_id (by omega) (by omega), zw_id (by omega) (by omega)]; omega), Rw_ck hp, Row_at xs hp hl hm i (zw_id (by omega) (by omega)), zci_ok, zat_in (by omega), zw_id (by omega) (by omega), zw_id (by omega) (by omega)]
      by_cases c : l[i] < (r : Int)
      · rw [if_pos c, e_Row_isBelow_21, ← Int.natCast_succ]
        exact ih (i + 1) (by omega) (fun k h1 h2 => by
          by_cases e : k = i
          · subst e; exact c
          · exact hk k h1 (by omega))
      · rw [if_neg c, if_pos (Or.inl rfl), zb_f (fun z => c (z _ (List.getElem_mem _)))]
  rw [e_Row_isBelow_0]
  exact loop l.length 0 (by omega) (fun k hk h => by omega)
/-- the ways of hearing a row so -/
def vwN (own : List Int) (r e : Nat) (f : Nat → Int) : Nat → Nat
  | 0 => 1
  | k + 1 => vwN own r e f k * (if f k = own.getD k 0 then (10 - e) * (r - 1) else e)
theorem vwN_le (own : List Int) {r e : Nat} (hr : r ≤ 8) (he : e ≤ 10) (f : Nat → Int) : ∀ k, vwN own r e f k ≤ 70 ^ k
  | 0 => Nat.le_refl _
  | k + 1 => by
    rw [vwN, Nat.pow_succ]
    refine Nat.mul_le_mul (vwN_le own hr he f k) ?_
    split
    · have : (10 - e) * (r - 1) ≤ 10 * 7 := Nat.mul_le_mul (by omega) (by omega)
      omega
    · omega
def rgA (L : Nat → List Int) (N : Nat) (t : Int) (own : List Int) (r e n : Nat) : Nat → Nat
  | 0 => 0
  | h + 1 => rgA L N t own r e n h + (if (nbest (fun i => dif (L i) (dgL r h n)) N).1 = t then vwN own r e (fun k => dg r h k) n else 0)
theorem rgA_le (L : Nat → List Int) (N : Nat) (t : Int) (own : List Int) {r e n : Nat} (hr : r ≤ 8) (he : e ≤ 10) (hn : n ≤ 4) : ∀ h, rgA L N t own r e n h ≤ h * 24010000
  | 0 => by simp [rgA]
  | h + 1 => by
    have ih := rgA_le L N t own hr he hn h
    have hv : vwN own r e (fun k => (dg r h k : Int)) n ≤ 24010000 := Nat.le_trans (vwN_le own hr he (fun k => (dg r h k : Int)) n) (Nat.le_trans (Nat.pow_le_pow_right (by omega) hn) (by decide))
    rw [rgA]
    generalize vwN own r e (fun k => (dg r h k : Int)) n = w at hv
    generalize rgA L N t own r e n h = z at ih
    split
    · rw [Nat.succ_mul]; exact Nat.add_le_add ih hv
    · rw [Nat.succ_mul]; exact Nat.le_trans ih (Nat.le_add_right _ _)
theorem X_waysHeard (xs : List Int) {p m : Nat} (hp : zRw p m) {g : Nat → Int → Int} {own : List Int} {r e : Nat} (hr : 2 ≤ r) (hr8 : r ≤ 8) (he : e ≤ 10) (hl : zRow g p own) (hm : own.length ≤ m) (hown : isR7 own) {h : Nat} (hh : zRow g 74 (dgL r h own.length)) (hn : own.length ≤ 10) : zx zblk xs 193 0 [some (.inr (.inr (some pX))), some (.inr (.inr (some p))), some (.inl ((r : Int))), some (.inl ((e : Int)))] [] (HH g) = some (some (.inr (.inl (vwN own r e (fun k => dg r h k) own.length : Int))), HH g) := by
  have hh' := zloop (fun k : Nat => zx zblk xs 193 6 [some (.inr (.inr (some pX))), some (.inr (.inr (some p))), some (.inl ((r : Int))), some (.inl ((e : Int))), some (.inr (.inl ((vwN own r e (fun k => dg r h k) k : Int)))), none, some (.inl ((k : Int)))] [] (HH g)) own.length (fun k hk => by
    have h7 := isR7_get hown hk
    have hd := dg_lt (r := r) (by omega) h k
    have d1 : own.getD k 0 = own[k] := by simp [List.getD, hk]
    rw [e_X_waysHeard_6, Rw_ck hp, Row_size xs hp hl, zci_ok, if_neg (by rw [zw_id (by omega) (by omega), zw_id (by omega) (by omega)]; omega), pX_r_heard, Rw_ck Rw74, Row_at xs Rw74 hh (by unfold dgL; rw [zLi_len]; omega) k (zw_id (by omega) (by omega)), zci_ok, Rw_ck hp, Row_at xs hp hl hm k (zw_id (by omega) (by omega)), zci_ok, zat_in hk]
    rw [show zat (dgL r h own.length) (k : Int) = dg r h k by unfold dgL; rw [zat_Li (by omega)]; rfl, zw_id (by omega) (by omega), zw_id (by omega) (by omega)]
    rw [vwN, d1, Int.natCast_mul]
    have hb : (10 - (e : Int)) * ((r : Int) - 1) = (((10 - e) * (r - 1) : Nat) : Int) := by
      rw [show (10 - (e : Int)) = ((10 - e : Nat) : Int) by omega, show ((r : Int) - 1) = ((r - 1 : Nat) : Int) by omega, ← Int.natCast_mul]
    have hb2 : (10 - e) * (r - 1) ≤ 10 * 7 := Nat.mul_le_mul (by omega) (by omega)
    by_cases c : (dg r h k : Int) = own[k]
    · rw [if_neg (fun z => z c), if_pos c, e_X_waysHeard_49, hb, zw_id (by omega) (by omega), Int.natCast_succ]
    · rw [if_pos c, if_neg c, e_X_waysHeard_47, e_X_waysHeard_49, zw_id (by omega) (by omega), Int.natCast_succ])
  rw [e_X_waysHeard_0]
  refine Eq.trans ?_ (hh'.trans ?_)
  · rfl
  · rw [e_X_waysHeard_6, Rw_ck hp, Row_size xs hp hl, zci_ok, if_pos (Int.le_refl _), e_X_waysHeard_58]
