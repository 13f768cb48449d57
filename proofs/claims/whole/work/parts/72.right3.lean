/-! ===== right: the reference ===== -/
theorem M_isAmong (xs : List Int) {g : Nat → Int → Int} {L : Nat → List Int} {N t : Nat} (hR : rdy g L N) (ht : t < N) {r : Nat} (hr : r ≤ 8) [Decidable ((L t).length ≤ 4 ∧ ∀ v ∈ L t, v < (r : Int))] : zx zblk xs 57 0 [some (.inr (.inr (some pM))), some (.inl ((t : Int))), some (.inl ((r : Int)))] [] (HH g) = some (some (.inl (zb ((L t).length ≤ 4 ∧ ∀ v ∈ L t, v < (r : Int)))), HH g) := by
  obtain ⟨hall, hn, hr8⟩ := id hR
  obtain ⟨o2, o3⟩ := hr8 t ht
  have a1 := (hall t ht).1
  have loop : ∀ (s k : Nat) (w : Int), k + s = (L t).length → ((w = 1 ∧ (L t).length ≤ 4 ∧ ∀ j (hj : j < (L t).length), j < k → (L t)[j] < (r : Int)) ∨ (w = 0 ∧ ¬ ((L t).length ≤ 4 ∧ ∀ v ∈ L t, v < (r : Int)))) → zx zblk xs 57 22 [some (.inr (.inr (some pM))), some (.inl ((t : Int))), some (.inl ((r : Int))), some (.inl (w)), some (.inl ((k : Int)))] [] (HH g) = some (some (.inl (zb ((L t).length ≤ 4 ∧ ∀ v ∈ L t, v < (r : Int)))), HH g) := by
    intro s
    induction s with
    | zero =>
      intro k w hk hw
      rw [e_M_isAmong_22, pM_r_plains, pM_a_plains xs _ (by omega) (by omega), a1, if_pos (by rw [zw_id (by omega) (by omega), zw_id (by omega) (by omega)]; omega), e_M_isAmong_70]
      rcases hw with ⟨rfl, h1, h2⟩ | ⟨rfl, h1⟩
      · rw [if_pos (Or.inr rfl), zb_t]
        refine ⟨h1, fun v hv => ?_⟩
        obtain ⟨j, hj, rfl⟩ := List.getElem_of_mem hv
        exact h2 j hj (by omega)
      · rw [if_pos (Or.inl rfl), zb_f h1]
    | succ s ih =>
      intro k w hk hw
      have h7 := isR7_get o3 (k := k) (by omega)
      have e62 : zx zblk xs 57 62 [some (.inr (.inr (some pM))), some (.inl ((t : Int))), some (.inl ((r : Int))), none, some (.inl ((k : Int)))] [] (HH g) = zx zblk xs 57 22 [some (.inr (.inr (some pM))), some (.inl ((t : Int))), some (.inl ((r : Int))), some (.inl (0)), some (.inl (((k + 1 : Nat) : Int)))] [] (HH g) := by
        rw [e_M_isAmong_62, e_M_isAmong_63, Int.natCast_succ]
      rw [e_M_isAmong_22, pM_r_plains, pM_a_plains xs _ (by omega) (by omega), a1, if_neg (by rw [zw_id (by omega) (by omega), zw_id (by omega) (by omega)]; omega)]
      rcases hw with ⟨rfl, h1, h2⟩ | ⟨rfl, h1⟩
      · rw [if_neg (by decide), pM_r_plains, pM_a_plains xs _ (by omega) (by omega), show 11 * (t : Int) + 1 + (k : Int) = 11 * (t : Int) + 1 + (k : Int) from rfl, isAll_get hall ht (k := k) (by omega), zw_id (by omega) (by omega), zw_id (by omega) (by omega)]
        by_cases c : (L t)[k] < (r : Int)
        · rw [if_neg (by omega), e_M_isAmong_63, ← Int.natCast_succ]
          exact ih (k + 1) 1 (by omega) (Or.inl ⟨rfl, h1, fun j hj hjk => by
            by_cases e : j = k
            · subst e; exact c
            · exact h2 j hj (by omega)⟩)
        · rw [if_pos (by omega), e62]
          exact ih (k + 1) 0 (by omega) (Or.inr ⟨rfl, fun z => c (z.2 _ (List.getElem_mem _))⟩)
      · rw [if_pos (show zw 0 = 0 from rfl), e62]
        exact ih (k + 1) 0 (by omega) (Or.inr ⟨rfl, h1⟩)
  rw [e_M_isAmong_0, pM_r_plains, pM_a_plains xs _ (by omega) (by omega), a1, show zw 4 = 4 from rfl, zw_id (by omega) (by omega)]
  by_cases c : (L t).length ≤ 4
  · rw [if_neg (by omega), e_M_isAmong_18]
    exact loop (L t).length 0 1 (by omega) (Or.inl ⟨rfl, c, fun j hj h => by omega⟩)
  · rw [if_pos (by omega), e_M_isAmong_17, e_M_isAmong_18]
    exact loop (L t).length 0 0 (by omega) (Or.inr ⟨rfl, fun z => c z.1⟩)
theorem M_right_heard (xs : List Int) {g : Nat → Int → Int} {L : Nat → List Int} {N t : Nat} (hR : rdy g L N) (ht : t < N) (hn : (L t).length ≤ 4) {r e : Nat} (hr : 2 ≤ r) (hr8 : r ≤ 8) (he : e ≤ 10) (h13 : g pM 13 = (L t).length) {h : Nat} (hh : h < 4096) (c p v7 v8 v10 : Int) : ∃ g1, zx zblk xs 58 168 [some (.inr (.inr (some pM))), some (.inl (c)), some (.inl ((t : Int))), some (.inl ((r : Int))), some (.inl ((e : Int))), some (.inl (p)), some (.inl (((L t).length : Int))), some (.inl (v7)), some (.inr (.inl (v8))), none, some (.inr (.inl (v10))), none, some (.inl ((h : Int))), some (.inl ((h : Int))), some (.inr (.inl (1))), none, some (.inl (0))] [] (HH g) = zx zblk xs 58 245 [some (.inr (.inr (some pM))), some (.inl (c)), some (.inl ((t : Int))), some (.inl ((r : Int))), some (.inl ((e : Int))), some (.inl (p)), some (.inl (((L t).length : Int))), some (.inl (v7)), some (.inr (.inl (v8))), none, some (.inr (.inl (v10))), none, some (.inl ((h : Int))), none, some (.inr (.inl ((vwN (L t) r e (fun k => dg r h k) (L t).length : Int))))] [] (HH g1) ∧ isPl g1 (dgL r h (L t).length) ∧ zFr (fun q _ => q = pM_plain) g g1 := by
  obtain ⟨hall, hN, hr7⟩ := id hR
  obtain ⟨o2, o3⟩ := hr7 t ht
  have loop : ∀ (s k : Nat) (gk : Nat → Int → Int), k + s = (L t).length → zPre (gk pM_plain) (dgL r h k) → zFr (fun q _ => q = pM_plain) g gk → ∃ g1, zx zblk xs 58 168 [some (.inr (.inr (some pM))), some (.inl (c)), some (.inl ((t : Int))), some (.inl ((r : Int))), some (.inl ((e : Int))), some (.inl (p)), some (.inl (((L t).length : Int))), some (.inl (v7)), some (.inr (.inl (v8))), none, some (.inr (.inl (v10))), none, some (.inl ((h : Int))), some (.inl (((h / r ^ k : Nat) : Int))), some (.inr (.inl ((vwN (L t) r e (fun k => dg r h k) k : Int)))), none, some (.inl ((k : Int)))] [] (HH gk) = zx zblk xs 58 245 [some (.inr (.inr (some pM))), some (.inl (c)), some (.inl ((t : Int))), some (.inl ((r : Int))), some (.inl ((e : Int))), some (.inl (p)), some (.inl (((L t).length : Int))), some (.inl (v7)), some (.inr (.inl (v8))), none, some (.inr (.inl (v10))), none, some (.inl ((h : Int))), none, some (.inr (.inl ((vwN (L t) r e (fun k => dg r h k) (L t).length : Int))))] [] (HH g1) ∧ isPl g1 (dgL r h (L t).length) ∧ zFr (fun q _ => q = pM_plain) g g1 := by
    intro s
    induction s with
    | zero =>
      intro k gk hk hp hf
      have : k = (L t).length := by omega
      subst this
      refine ⟨gk, ?_, ⟨hp, ?_⟩, hf⟩
      · rw [e_M_right_168, if_pos (Int.le_refl _)]
      · rw [hf pM 13 (by decide), h13]
        unfold dgL
        rw [zLi_len]
    | succ s ih =>
      intro k gk hk hp hf
      have hq : h / r ^ k ≤ h := Nat.div_le_self _ _
      have hq0 : 0 ≤ ((h / r ^ k : Nat) : Int) := Int.natCast_nonneg _
      have h7 := isR7_get o3 (k := k) (by omega)
      have hd := dg_lt (r := r) (by omega) h k
      have hgk : gk pM_plains = g pM_plains := hf.at (fun j => by decide)
      have d1 : (L t).getD k 0 = (L t)[k] := by simp [List.getD, show k < (L t).length by omega]
      have hm : ((h / r ^ k : Nat) : Int).tmod (r : Int) = (dg r h k : Int) := by rw [← Int.ofNat_tmod]; rfl
      have hv : ((h / r ^ k : Nat) : Int).tdiv (r : Int) = ((h / r ^ (k + 1) : Nat) : Int) := by rw [← Int.ofNat_tdiv, Nat.div_div_eq_div_mul, ← Nat.pow_succ]
      obtain ⟨g1, q1, q2, q3⟩ := ih (k + 1) (up gk pM_plain k (dg r h k)) (by omega) (by
        unfold dgL
        rw [zLi_snoc]
        refine zPre_snoc hp ?_ (fun j j0 j1 => ?_)
        · rw [zLi_len]
          exact up_same _ _ _ _
        · rw [zLi_len] at j1
          exact up_ne _ _ (fun z => by omega)) (hf.up rfl)
      refine ⟨g1, ?_, q2, q3⟩
      have hb : (10 - (e : Int)) * ((r : Int) - 1) = (((10 - e) * (r - 1) : Nat) : Int) := by
        rw [show (10 - (e : Int)) = ((10 - e : Nat) : Int) by omega, show ((r : Int) - 1) = ((r - 1 : Nat) : Int) by omega, ← Int.natCast_mul]
      rw [vwN, d1, Int.natCast_mul] at q1
      rw [e_M_right_168, if_neg (by rw [zw_id (by omega) (by omega), zw_id (by omega) (by omega)]; omega), pM_r_plain, zw_id (a := (r : Int)) (by omega) (by omega), zw_id (a := ((h / r ^ k : Nat) : Int)) (by omega) (by omega), if_neg (by omega), hm, pM_s_plain _ _ (by omega) (by omega), if_neg (by omega), pM_r_plain, pM_a_plain xs _ (by omega) (by omega), pM_r_plains, pM_a_plains xs _ (by omega) (by omega), up_same, up_p _ _ _ (by decide), hgk, isAll_get hall ht (k := k) (by omega), zw_id (a := (e : Int)) (by omega) (by omega), zw_id (a := (r : Int) - 1) (by omega) (by omega), zw_id (a := (dg r h k : Int)) (by omega) (by omega), zw_id (a := (L t)[k]) (by omega) (by omega), hv, hb]
      by_cases d : (dg r h k : Int) = (L t)[k]
      · rw [if_pos d] at q1
        rw [if_neg (fun z => z d), e_M_right_236, ← Int.natCast_succ]
        exact q1
      · rw [if_neg d] at q1
        rw [if_pos d, e_M_right_233, zw_id (a := (e : Int)) (by omega) (by omega), e_M_right_236, ← Int.natCast_succ]
        exact q1
  obtain ⟨g1, q1, q2, q3⟩ := loop (L t).length 0 g (by omega) (zPre_nil _) zFr.rf
  rw [z0N, Nat.pow_zero, Nat.div_one] at q1
  exact ⟨g1, q1, q2, q3⟩
