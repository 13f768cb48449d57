/-! ===== the law makes a code's text ===== -/
theorem rdF_cg {f f' : Nat → Int} : ∀ {n : Nat}, (∀ k, k < n → f k = f' k) → rdF f n = rdF f' n
  | 0, _ => rfl
  | n + 1, h => by rw [rdF, rdF, rdF_cg (fun k hk => h k (by omega)), h n (by omega)]
theorem gdT_cg {f f' : Nat → Int} {n : Nat} (h : ∀ k, k < n → f k = f' k) (hg : gdT f n) : gdT f' n := fun k hk => by
  have := hg k hk
  unfold rdN at *
  rw [← rdF_cg (fun j hj => h j (by omega)), ← h k hk]
  exact this
theorem tx_letter {f : Nat → Int} {n : Nat} {D : List (List Int)} {C : List Int} (h : rdF f n = (D, C)) (hg : gdT f n) (hC : C.length < 5) {f' : Nat → Int} (e : ∀ k, k < n → f k = f' k) {v : Int} (hv : 0 ≤ v ∧ v ≤ 7) (e2 : f' n = 97 + v) : rdF f' (n + 1) = (D, C ++ [v]) ∧ gdT f' (n + 1) := by
  have h' : rdF f' n = (D, C) := by rw [← rdF_cg e]; exact h
  constructor
  · rw [rdF, if_neg (by omega), h', e2, show (97 + v - 97) = v by omega]
  · intro k hk
    by_cases c : k = n
    · subst c
      unfold rdN ftStep
      rw [h', if_pos ⟨by omega, by show (C.length : Int) < 5; omega⟩]
      exact ⟨_, rfl⟩
    · exact gdT_cg e hg k (by omega)
theorem tx_comma {f : Nat → Int} {n : Nat} {D : List (List Int)} {C : List Int} (h : rdF f n = (D, C)) (hg : gdT f n) (hC : 0 < C.length) (hD : D.length < 7) {f' : Nat → Int} (e : ∀ k, k < n → f k = f' k) (e2 : f' n = 44) : rdF f' (n + 1) = (D ++ [C], []) ∧ gdT f' (n + 1) := by
  have h' : rdF f' n = (D, C) := by rw [← rdF_cg e]; exact h
  constructor
  · rw [rdF, if_pos e2, h']
  · intro k hk
    by_cases c : k = n
    · subst c
      unfold rdN ftStep
      rw [h', if_neg (by omega), if_pos ⟨e2, by show (0 : Int) < C.length; omega, by show (D.length : Int) < 7; omega⟩]
      exact ⟨_, rfl⟩
    · exact gdT_cg e hg k (by omega)
/-- rows in the law's table -/
def Tb (g : Nat → Int → Int) (D : List (List Int)) : Prop := ∀ s, s < D.length → g 266 (1 + 6 * s) = ((D.getD s []).length : Int) ∧ ∀ k, k < (D.getD s []).length → g 266 (2 + 6 * s + k) = (D.getD s []).getD k 0
theorem Tb_fr {g g1 : Nat → Int → Int} {D : List (List Int)} (h : Tb g D) (hD : ∀ l ∈ D, l.length ≤ 5) (e : ∀ j : Int, j < 1 + 6 * D.length → g1 266 j = g 266 j) : Tb g1 D := fun s hs => by
  obtain ⟨h1, h2⟩ := h s hs
  have hl : (D.getD s []).length ≤ 5 := by
    rw [List.getD, List.getElem?_eq_getElem hs, Option.getD_some]
    exact hD _ (List.getElem_mem hs)
  refine ⟨by rw [e _ (by omega)]; exact h1, fun k hk => by rw [e _ (by omega)]; exact h2 k hk⟩
theorem Tb_snoc {g : Nat → Int → Int} {D : List (List Int)} {C : List Int} (h : Tb g D) (h1 : g 266 (1 + 6 * (D.length : Int)) = (C.length : Int)) (h2 : ∀ k : Nat, k < C.length → g 266 (2 + 6 * (D.length : Int) + k) = C.getD k 0) : Tb g (D ++ [C]) := fun s hs => by
  rw [List.length_append, List.length_singleton] at hs
  by_cases c : s < D.length
  · have e : (D ++ [C]).getD s [] = D.getD s [] := by rw [List.getD, List.getD, List.getElem?_append_left c]
    rw [e]
    exact h s c
  · have : s = D.length := by omega
    subst this
    have e : (D ++ [C]).getD D.length [] = C := by rw [List.getD, List.getElem?_append_right (Nat.le_refl _), Nat.sub_self]; rfl
    rw [e]
    exact ⟨h1, h2⟩
def fT (g : Nat → Int → Int) : Nat → Int := fun k => g 267 (k : Int)
/-- the text so far -/
def TxI (g : Nat → Int → Int) (N n : Nat) (D : List (List Int)) (C : List Int) : Prop := rdF (fT g) n = (D, C) ∧ gdT (fT g) n ∧ Tb g D ∧ g 266 0 = (N : Int) ∧ g 0 0 = (3 : Nat) ∧ n ≤ 6 * D.length + C.length
def scTx (q : Nat) (_ : Int) : Prop := q = 266 ∨ q = 267
theorem c_ar {g : Nat → Int → Int} (h : g 0 0 = (3 : Nat)) : zAr g 266 49 := zAr_law (k := 1) (N := 3) h rfl (by omega) (by omega)
theorem t_ar {g : Nat → Int → Int} (h : g 0 0 = (3 : Nat)) : zAr g 267 48 := zAr_law (k := 2) (N := 3) h rfl (by omega) (by omega)
section TX
variable (xs : List Int)
theorem C1 {X : Int} {N i ln : Nat} (hN : N ≤ 8) (hi : i < N) (hln : 1 ≤ ln ∧ ln ≤ 5) {of : Int} (hof : 1 ≤ of ∧ of ≤ 8) (l0 y : Int) : ∀ (r k n : Nat) (g : Nat → Int → Int) (D : List (List Int)) (C : List Int), k + r = ln → D.length = i → C.length = k → TxI g N n D C → g 266 (1 + 6 * (i : Int)) = (ln : Int) → (∀ k' : Nat, k' < k → g 266 (2 + 6 * (i : Int) + k') = C.getD k' 0) → ∃ (g1 : Nat → Int → Int) (n1 : Nat) (C1 : List Int), zx zblk xs 81 147 [some (.inr (.inr (some 0))), some (.inl (9)), some (.inr (.inr (some 266))), some (.inr (.inr (some 267))), some (.inl (X)), some (.inl ((n : Int))), some (.inl (of)), some (.inl (l0)), some (.inl ((i : Int))), some (.inl (y)), some (.inl ((k : Int)))] [] (HH g) = zx zblk xs 81 67 [some (.inr (.inr (some 0))), some (.inl (9)), some (.inr (.inr (some 266))), some (.inr (.inr (some 267))), some (.inl (X)), some (.inl ((n1 : Int))), some (.inl (of)), some (.inl (l0)), some (.inl ((i : Int) + 1))] [] (HH g1) ∧ C1.length = ln ∧ TxI g1 N n1 D C1 ∧ Tb g1 (D ++ [C1]) ∧ zFr scTx g g1 := by
  intro r
  induction r with
  | zero =>
    intro k n g D C hk hD hC ht h1 h2
    have hkl : k = ln := by omega
    subst hkl
    subst hD
    obtain ⟨t1, t2, t3, t4, t5, t6⟩ := id ht
    refine ⟨g, n, C, ?_, hC, ht, Tb_snoc t3 (by rw [h1, hC]) (fun k' hk' => h2 k' (by omega)), zFr.rf⟩
    rw [e_L_codeText_147, HF_ai (c_ar t5) (by omega) (by omega), h1, if_pos (Int.le_refl _), e_L_codeText_215]
  | succ r ih =>
    intro k n g D C hk hD hC ht h1 h2
    obtain ⟨t1, t2, t3, t4, t5, t6⟩ := id ht
    have hd := gdT_rg t2 n (Nat.le_refl _)
    rw [t1] at hd
    have hv := atV_rg (zshr y (3 + 4 * (k : Int))) (n := of) hof.1
    generalize hvv : atV (zshr y (3 + 4 * (k : Int))) of = v at hv
    have hca := c_ar t5
    have hta := t_ar t5
    have hcu : zAr (up g 266 (2 + 6 * (i : Int) + k) v) 266 49 := zAr_up hca (by omega)
    have htu : zAr (up g 266 (2 + 6 * (i : Int) + k) v) 267 48 := zAr_up hta (by omega)
    have hag : ∀ k', k' < n → fT g k' = fT (up (up g 266 (2 + 6 * (i : Int) + k) v) 267 (n : Int) (97 + v)) k' := fun k' hk' => by
      show g 267 (k' : Int) = up (up g 266 (2 + 6 * (i : Int) + k) v) 267 (n : Int) (97 + v) 267 (k' : Int)
      rw [up_ne _ _ (by omega), up_p _ _ _ (by omega)]
    obtain ⟨p1, p2⟩ := tx_letter t1 t2 (by omega) hag (v := v) (by omega) (by show up _ 267 (n : Int) _ 267 (n : Int) = _; rw [up_same])
    have e266 : ∀ j : Int, j ≠ 2 + 6 * (i : Int) + k → up (up g 266 (2 + 6 * (i : Int) + k) v) 267 (n : Int) (97 + v) 266 j = g 266 j := fun j hj => by rw [up_q (by omega), up_ne _ _ (fun z => hj z.2)]
    obtain ⟨g1, n1, C1, s1, s2, s3, s4, s5⟩ := ih (k + 1) (n + 1) (up (up g 266 (2 + 6 * (i : Int) + k) v) 267 (n : Int) (97 + v)) D (C ++ [v]) (by omega) hD (by rw [List.length_append, hC]; rfl) ⟨p1, p2, Tb_fr t3 (fun l hl => (hd.2.2.1 l hl).2.1) (fun j hj => e266 j (by omega)), by rw [e266 0 (by omega)]; exact t4, by rw [up_q (by omega), up_q (by omega)]; exact t5, by rw [List.length_append, List.length_singleton]; omega⟩ (by rw [e266 _ (by omega)]; exact h1) (fun k' hk' => by
      by_cases c : k' = k
      · rw [c, up_q (by omega), up_same, List.getD, List.getElem?_append_right (by omega), hC, Nat.sub_self]
        rfl
      · rw [e266 _ (by omega), h2 k' (by omega), List.getD, List.getD, List.getElem?_append_left (by omega)])
    refine ⟨g1, n1, C1, ?_, s2, s3, s4, ((zFr.rf.up (q := 266) (Or.inl rfl)).up (q := 267) (Or.inr rfl)).tr s5⟩
    rw [e_L_codeText_147, HF_ai hca (by omega) (by omega), h1, if_neg (by rw [zw_id (by omega) (by omega), zw_id (by omega) (by omega)]; omega), L_at xs _ of _ hof.1 (by omega), zci_ok, hvv, HF_st hca (by omega) (by omega), HF_ai hcu (by omega) (by omega), up_same, HF_st htu (by omega) (by omega), ← s1, Int.natCast_succ, Int.natCast_succ]
/-- one speech -/
theorem C2 (hx : xs.length ≤ 260) {X : Int} {N i : Nat} (hN : N ≤ 8) (hi : i < N) {of : Int} (hof : 1 ≤ of ∧ of ≤ 8) {l0 : Int} (hl0 : 0 ≤ l0 ∧ l0 ≤ 4) {n : Nat} {g : Nat → Int → Int} {D : List (List Int)} {C : List Int} (ht : TxI g N n D C) (hD : (i = 0 ∧ n = 0) ∨ (D.length + 1 = i ∧ 1 ≤ C.length ∧ Tb g (D ++ [C]))) : ∃ (g1 : Nat → Int → Int) (n1 : Nat) (D1 : List (List Int)) (C1 : List Int), zx zblk xs 81 67 [some (.inr (.inr (some 0))), some (.inl (9)), some (.inr (.inr (some 266))), some (.inr (.inr (some 267))), some (.inl (X)), some (.inl ((n : Int))), some (.inl (of)), some (.inl (l0)), some (.inl ((i : Int)))] [] (HH g) = zx zblk xs 81 67 [some (.inr (.inr (some 0))), some (.inl (9)), some (.inr (.inr (some 266))), some (.inr (.inr (some 267))), some (.inl (X)), some (.inl ((n1 : Int))), some (.inl (of)), some (.inl (l0)), some (.inl ((i : Int) + 1))] [] (HH g1) ∧ TxI g1 N n1 D1 C1 ∧ D1.length = i ∧ 1 ≤ C1.length ∧ Tb g1 (D1 ++ [C1]) ∧ zFr scTx g g1 := by
  obtain ⟨t1, t2, t3, t4, t5, t6⟩ := id ht
  have hca := c_ar t5
  have hta := t_ar t5
  generalize hy : clV xs (10 + i) = y
  have hd := gdT_rg t2 n (Nat.le_refl _)
  rw [t1] at hd
  have hC5 : C.length ≤ 5 := hd.2.1
  have hD7 : D.length ≤ 7 := hd.1
  -- how many letters
  have len : ∃ ln : Nat, 1 ≤ ln ∧ ln ≤ 5 ∧ zx zblk xs 81 67 [some (.inr (.inr (some 0))), some (.inl (9)), some (.inr (.inr (some 266))), some (.inr (.inr (some 267))), some (.inl (X)), some (.inl ((n : Int))), some (.inl (of)), some (.inl (l0)), some (.inl ((i : Int)))] [] (HH g) = zx zblk xs 81 129 [some (.inr (.inr (some 0))), some (.inl (9)), some (.inr (.inr (some 266))), some (.inr (.inr (some 267))), some (.inl (X)), some (.inl ((n : Int))), some (.inl (of)), some (.inl (l0)), some (.inl ((i : Int))), some (.inl (y))] [.inl (ln : Int), .inl (1 + 6 * (i : Int)), .inr (.inr (some 266))] (HH g) := by
    have e0 : zx zblk xs 81 67 [some (.inr (.inr (some 0))), some (.inl (9)), some (.inr (.inr (some 266))), some (.inr (.inr (some 267))), some (.inl (X)), some (.inl ((n : Int))), some (.inl (of)), some (.inl (l0)), some (.inl ((i : Int)))] [] (HH g) = if l0 ≤ 0 then zx zblk xs 81 105 [some (.inr (.inr (some 0))), some (.inl (9)), some (.inr (.inr (some 266))), some (.inr (.inr (some 267))), some (.inl (X)), some (.inl ((n : Int))), some (.inl (of)), some (.inl (l0)), some (.inl ((i : Int))), some (.inl (y))] [.inl (1 + 6 * (i : Int)), .inr (.inr (some 266))] (HH g) else zx zblk xs 81 129 [some (.inr (.inr (some 0))), some (.inl (9)), some (.inr (.inr (some 266))), some (.inr (.inr (some 267))), some (.inl (X)), some (.inl ((n : Int))), some (.inl (of)), some (.inl (l0)), some (.inl ((i : Int))), some (.inl (y))] [.inl l0, .inl (1 + 6 * (i : Int)), .inr (.inr (some 266))] (HH g) := by
      rw [e_L_codeText_67, HF_ai hca (by omega) (by omega), t4, if_neg (by rw [zw_id (by omega) (by omega), zw_id (by omega) (by omega)]; omega), show (9 + 1 + (i : Int)) = ((10 + i : Nat) : Int) by omega, L_cell xs hx (10 + i) (by omega), zci_ok, hy, zw_id (a := l0) (by omega) (by omega)]
    rw [e0]
    by_cases c : l0 ≤ 0
    · rw [if_pos c, e_L_codeText_105, L_at xs _ 2 _ (by omega) (by omega), zci_ok]
      have e125 : ∀ m : Int, 1 ≤ m → m ≤ 5 → ∃ ln : Nat, 1 ≤ ln ∧ ln ≤ 5 ∧ zx zblk xs 81 125 [some (.inr (.inr (some 0))), some (.inl (9)), some (.inr (.inr (some 266))), some (.inr (.inr (some 267))), some (.inl (X)), some (.inl ((n : Int))), some (.inl (of)), some (.inl (l0)), some (.inl ((i : Int))), some (.inl (y))] [.inl m, .inl y, .inl 1, .inl (1 + 6 * (i : Int)), .inr (.inr (some 266))] (HH g) = zx zblk xs 81 129 [some (.inr (.inr (some 0))), some (.inl (9)), some (.inr (.inr (some 266))), some (.inr (.inr (some 267))), some (.inl (X)), some (.inl ((n : Int))), some (.inl (of)), some (.inl (l0)), some (.inl ((i : Int))), some (.inl (y))] [.inl (ln : Int), .inl (1 + 6 * (i : Int)), .inr (.inr (some 266))] (HH g) := fun m h1 h2 => by
        have hv := atV_rg y (n := m) h1
        refine ⟨(1 + atV y m).toNat, by omega, by omega, ?_⟩
        rw [e_L_codeText_125, L_at xs _ m _ h1 (by omega), zci_ok, Int.toNat_of_nonneg (by omega)]
      by_cases d : zw (atV (zshr X 10) 2) ≠ 0
      · rw [if_pos d, e_L_codeText_124]
        exact e125 3 (by omega) (by omega)
      · rw [if_neg d]
        exact e125 5 (by omega) (by omega)
    · exact ⟨l0.toNat, by omega, by omega, by rw [if_neg c, Int.toNat_of_nonneg (by omega)]⟩
  obtain ⟨ln, q1, q2, e1⟩ := len
  have hcu : zAr (up g 266 (1 + 6 * (i : Int)) (ln : Int)) 266 49 := zAr_up hca (by omega)
  have htu : zAr (up g 266 (1 + 6 * (i : Int)) (ln : Int)) 267 48 := zAr_up hta (by omega)
  -- a comma between
  have sep : ∃ (g1 : Nat → Int → Int) (n1 : Nat) (D1 : List (List Int)), zx zblk xs 81 129 [some (.inr (.inr (some 0))), some (.inl (9)), some (.inr (.inr (some 266))), some (.inr (.inr (some 267))), some (.inl (X)), some (.inl ((n : Int))), some (.inl (of)), some (.inl (l0)), some (.inl ((i : Int))), some (.inl (y))] [.inl (ln : Int), .inl (1 + 6 * (i : Int)), .inr (.inr (some 266))] (HH g) = zx zblk xs 81 147 [some (.inr (.inr (some 0))), some (.inl (9)), some (.inr (.inr (some 266))), some (.inr (.inr (some 267))), some (.inl (X)), some (.inl ((n1 : Int))), some (.inl (of)), some (.inl (l0)), some (.inl ((i : Int))), some (.inl (y)), some (.inl (0))] [] (HH g1) ∧ TxI g1 N n1 D1 [] ∧ D1.length = i ∧ g1 266 (1 + 6 * (i : Int)) = (ln : Int) ∧ zFr scTx g g1 := by
    rw [e_L_codeText_129, HF_st hca (by omega) (by omega)]
    rcases hD with ⟨z1, z2⟩ | ⟨z1, z2, z3⟩
    · subst z1 z2
      have hD0 : D = [] ∧ C = [] := by
        have h0 : rdF (fT g) 0 = ([], []) := rfl
        rw [h0] at t1
        exact ⟨(congrArg Prod.fst t1).symm, (congrArg Prod.snd t1).symm⟩
      refine ⟨up g 266 (1 + 6 * ((0 : Nat) : Int)) (ln : Int), 0, [], ?_, ⟨rfl, fun k hk => by omega, fun s hs => absurd hs (by simp), by rw [up_ne _ _ (by omega)]; exact t4, by rw [up_q (by omega)]; exact t5, by omega⟩, rfl, up_same _ _ _ _, zFr.rf.up (q := 266) (Or.inl rfl)⟩
      rw [if_pos (by decide), e_L_codeText_144]
    · have hag : ∀ k', k' < n → fT g k' = fT (up (up g 266 (1 + 6 * (i : Int)) (ln : Int)) 267 (n : Int) 44) k' := fun k' hk' => by
        show g 267 (k' : Int) = up (up g 266 (1 + 6 * (i : Int)) (ln : Int)) 267 (n : Int) 44 267 (k' : Int)
        rw [up_ne _ _ (by omega), up_p _ _ _ (by omega)]
      obtain ⟨p1, p2⟩ := tx_comma t1 t2 (by omega) (by omega) hag (by show up _ 267 (n : Int) 44 267 (n : Int) = _; rw [up_same])
      have e266 : ∀ j : Int, j ≠ 1 + 6 * (i : Int) → up (up g 266 (1 + 6 * (i : Int)) (ln : Int)) 267 (n : Int) 44 266 j = g 266 j := fun j hj => by rw [up_q (by omega), up_ne _ _ (fun z => hj z.2)]
      have hlen : (D ++ [C]).length = i := by rw [List.length_append]; simp only [List.length_singleton]; omega
      refine ⟨up (up g 266 (1 + 6 * (i : Int)) (ln : Int)) 267 (n : Int) 44, n + 1, D ++ [C], ?_, ⟨p1, p2, Tb_fr z3 (fun l hl => ?_) (fun j hj => e266 j (by omega)), by rw [e266 0 (by omega)]; exact t4, by rw [up_q (by omega), up_q (by omega)]; exact t5, by rw [hlen]; simp only [List.length_nil]; omega⟩, hlen, by rw [up_q (by omega), up_same], (zFr.rf.up (q := 266) (Or.inl rfl)).up (q := 267) (Or.inr rfl)⟩
      · rw [if_neg (by rw [zw_id (by omega) (by omega)]; omega), HF_st htu (by omega) (by omega), e_L_codeText_144, Int.natCast_succ]
      · rcases List.mem_append.mp hl with hl | hl
        · exact (hd.2.2.1 l hl).2.1
        · rw [List.mem_singleton.mp hl]; exact hd.2.1
  obtain ⟨g1, n1, D1, s1, s2, s3, s4, s5⟩ := sep
  obtain ⟨g2, n2, C2, u1, u2, u3, u4, u5⟩ := C1 xs (X := X) hN hi ⟨q1, q2⟩ hof l0 y ln 0 n1 g1 D1 [] (by omega) s3 rfl s2 s4 (fun k' hk' => by omega)
  rw [z0N] at u1
  exact ⟨g2, n2, D1, C2, by rw [e1, s1, u1], u3, s3, by omega, u4, s5.tr u5⟩
theorem L_codeText (hx : xs.length ≤ 260) {g : Nat → Int → Int} (h3 : g 0 0 = (3 : Nat)) : ∃ (g1 : Nat → Int → Int) (n N : Nat) (D : List (List Int)) (C : List Int), zx zblk xs 81 0 [some (.inr (.inr (some 0))), some (.inl (9)), some (.inr (.inr (some 266))), some (.inr (.inr (some 267)))] [] (HH g) = some (some (.inl (n : Int)), HH g1) ∧ TxI g1 N n D C ∧ D.length + 1 = N ∧ N ≤ 8 ∧ 1 ≤ C.length ∧ Tb g1 (D ++ [C]) ∧ zFr scTx g g1 := by
  generalize hX : clV xs 9 = X
  have a8 := atV_rg X (n := 8) (by omega)
  have a7 := atV_rg (zshr X 3) (n := 7) (by omega)
  have a4 := atV_rg (zshr X 8) (n := 4) (by omega)
  obtain ⟨N, hN⟩ : ∃ N : Nat, 1 + atV X 8 = N := ⟨(1 + atV X 8).toNat, by omega⟩
  have hca := c_ar h3
  have e0 : ∃ l0 : Int, 0 ≤ l0 ∧ l0 ≤ 4 ∧ zx zblk xs 81 0 [some (.inr (.inr (some 0))), some (.inl (9)), some (.inr (.inr (some 266))), some (.inr (.inr (some 267)))] [] (HH g) = zx zblk xs 81 67 [some (.inr (.inr (some 0))), some (.inl (9)), some (.inr (.inr (some 266))), some (.inr (.inr (some 267))), some (.inl (X)), some (.inl (0)), some (.inl (2 + atV (zshr X 3) 7)), some (.inl (l0)), some (.inl (0))] [] (HH (up g 266 0 N)) := by
    have hc := L_cell xs hx 9 (by omega) (HH g)
    have e1 : ∀ l0 : Int, zx zblk xs 81 62 [some (.inr (.inr (some 0))), some (.inl (9)), some (.inr (.inr (some 266))), some (.inr (.inr (some 267))), some (.inl (X)), some (.inl (0)), some (.inl (2 + atV (zshr X 3) 7))] [.inl l0] (HH (up g 266 0 N)) = zx zblk xs 81 67 [some (.inr (.inr (some 0))), some (.inl (9)), some (.inr (.inr (some 266))), some (.inr (.inr (some 267))), some (.inl (X)), some (.inl (0)), some (.inl (2 + atV (zshr X 3) 7)), some (.inl (l0)), some (.inl (0))] [] (HH (up g 266 0 N)) := fun l0 => by rw [e_L_codeText_62]
    rw [e_L_codeText_0, show (9 : Int) = ((9 : Nat) : Int) from rfl, hc, zci_ok, hX, L_at xs X 8 _ (by omega) (by omega), zci_ok, hN, HF_st hca (by omega) (by omega), L_at xs _ 7 _ (by omega) (by omega), zci_ok, L_at xs _ 3 _ (by omega) (by omega), zci_ok]
    by_cases c : zw (atV (zshr X 6) 3) ≠ 0
    · exact ⟨0, by omega, by omega, by rw [if_pos c, e_L_codeText_61]; exact e1 0⟩
    · exact ⟨1 + atV (zshr X 8) 4, by omega, by omega, by rw [if_neg c, L_at xs _ 4 _ (by omega) (by omega), zci_ok]; exact e1 _⟩
  obtain ⟨l0, b1, b2, e0⟩ := e0
  have loop : ∀ (r i n : Nat) (gk : Nat → Int → Int) (D : List (List Int)) (C : List Int), i + r = N → TxI gk N n D C → ((i = 0 ∧ n = 0) ∨ (D.length + 1 = i ∧ 1 ≤ C.length ∧ Tb gk (D ++ [C]))) → ∃ (g1 : Nat → Int → Int) (n1 : Nat) (D1 : List (List Int)) (C1 : List Int), zx zblk xs 81 67 [some (.inr (.inr (some 0))), some (.inl (9)), some (.inr (.inr (some 266))), some (.inr (.inr (some 267))), some (.inl (X)), some (.inl ((n : Int))), some (.inl (2 + atV (zshr X 3) 7)), some (.inl (l0)), some (.inl ((i : Int)))] [] (HH gk) = some (some (.inl (n1 : Int)), HH g1) ∧ TxI g1 N n1 D1 C1 ∧ ((N = 0 ∧ n1 = 0) ∨ (D1.length + 1 = N ∧ 1 ≤ C1.length ∧ Tb g1 (D1 ++ [C1]))) ∧ zFr scTx gk g1 := by
    intro r
    induction r with
    | zero =>
      intro i n gk D C hi ht hD
      have : i = N := by omega
      subst this
      refine ⟨gk, n, D, C, ?_, ht, hD, zFr.rf⟩
      rw [e_L_codeText_67, HF_ai (c_ar ht.2.2.2.2.1) (by omega) (by omega), ht.2.2.2.1, if_pos (Int.le_refl _), e_L_codeText_221]
    | succ r ih =>
      intro i n gk D C hi ht hD
      obtain ⟨g1, n1, D1, C1, s1, s2, s3, s4, s5, s6⟩ := C2 xs hx (X := X) (N := N) (i := i) (by omega) (by omega) (of := 2 + atV (zshr X 3) 7) (by omega) ⟨b1, b2⟩ ht hD
      obtain ⟨g2, n2, D2, C2, u1, u2, u3, u4⟩ := ih (i + 1) n1 g1 D1 C1 (by omega) s2 (Or.inr ⟨by omega, s4, s5⟩)
      exact ⟨g2, n2, D2, C2, by rw [s1, ← u1, Int.natCast_succ], u2, u3, s6.tr u4⟩
  obtain ⟨g1, n1, D1, C1, s1, s2, s3, s4⟩ := loop N 0 0 (up g 266 0 N) [] [] (by omega) ⟨rfl, fun k hk => by omega, fun s hs => absurd hs (by simp), up_same _ _ _ _, by rw [up_q (by omega)]; exact h3, by omega⟩ (Or.inl ⟨rfl, rfl⟩)
  rw [z0N] at s1
  rcases s3 with ⟨z, -⟩ | ⟨z1, z2, z3⟩
  · omega
  · exact ⟨g1, n1, N, D1, C1, by rw [e0, s1], s2, z1, by omega, z2, z3, (zFr.rf.up (q := 266) (Or.inl rfl)).tr s4⟩
end TX
