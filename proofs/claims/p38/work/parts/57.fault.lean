/-! ===== fault ===== -/
def ftStep (s : Int × Int) (v : Int) : Option (Int × Int) := if (97 ≤ v ∧ v ≤ 104) ∧ s.2 < 5 then some (s.1, s.2 + 1) else if v = 44 ∧ 0 < s.2 ∧ s.1 < 7 then some (s.1 + 1, 0) else none
/-- how far a text is good, and where its reading stands then -/
def ftF (f : Nat → Int) : Nat → Nat → Int × Int → Nat × (Int × Int)
  | 0, k, s => (k, s)
  | n + 1, k, s => match ftStep s (f k) with
    | none => (k, s)
    | some s' => ftF f n (k + 1) s'
def ftS (G : Nat → Int → Int) : Nat × (Int × Int) := ftF (fun k => G pM_page k) (G pM 1).toNat 0 (0, 0)
theorem ftF_some {f : Nat → Int} {n k : Nat} {s s' : Int × Int} (h : ftStep s (f k) = some s') : ftF f (n + 1) k s = ftF f n (k + 1) s' := by rw [ftF, h]
theorem ftF_none {f : Nat → Int} {n k : Nat} {s : Int × Int} (h : ftStep s (f k) = none) : ftF f (n + 1) k s = (k, s) := by rw [ftF, h]
theorem X_firstFault (xs : List Int) {G g : Nat → Int → Int} (hB : Bd G) (h : Rel G g) : zx zblk xs 64 0 [some (.inr (.inr (some pX)))] [] (HH g) = some (some (.inl ((ftS G).1 : Int)), HH g) := by
  obtain ⟨⟨h0, h1⟩, -⟩ := id hB.1
  have hl := pL_len hB.1
  have loop : ∀ (r k : Nat) (c l : Int), (k : Int) + r = G pM 1 → 0 ≤ c → c ≤ 7 → 0 ≤ l → l ≤ 5 → zx zblk xs 64 6 [some (.inr (.inr (some pX))), some (.inl (c)), some (.inl (l)), some (.inl ((k : Int)))] [] (HH g) = some (some (.inl ((ftF (fun k => G pM_page k) r k (c, l)).1 : Int)), HH g) := by
    intro r
    induction r with
    | zero =>
      intro k c l hk c0 c1 l0 l1
      rw [e_X_firstFault_6, pX_r_page, Rw_ck Rw14, Row_size xs Rw14 h.2.2.1, zci_ok, hl.1, if_pos (by rw [zw_id (by omega) (by omega), zw_id (by omega) (by omega)]; omega), e_X_firstFault_80, pX_r_page, Rw_ck Rw14, Row_size xs Rw14 h.2.2.1, zci_ok, hl.1, ftF, ← hk]
      simp
    | succ r ih =>
      intro k c l hk c0 c1 l0 l1
      have hpk := hB.2.1 k (by omega) (by omega)
      have hat : zat (pL G) (k : Int) = G pM_page k := by unfold pL; rw [zat_Li (by omega)]; rfl
      have e74 : ∀ v1 v2 : Int, zx zblk xs 64 74 [some (.inr (.inr (some pX))), some (.inl (v1)), some (.inl (v2)), some (.inl ((k : Int)))] [] (HH g) = zx zblk xs 64 6 [some (.inr (.inr (some pX))), some (.inl (v1)), some (.inl (v2)), some (.inl (((k + 1 : Nat) : Int)))] [] (HH g) := fun v1 v2 => by rw [e_X_firstFault_74, ← Int.natCast_succ]
      have e47 : ¬ ((97 ≤ G pM_page k ∧ G pM_page k ≤ 104) ∧ l < 5) → zx zblk xs 64 47 [some (.inr (.inr (some pX))), some (.inl (c)), some (.inl (l)), some (.inl ((k : Int))), some (.inl (G pM_page k))] [] (HH g) = some (some (.inl ((ftF (fun k => G pM_page k) (r + 1) k (c, l)).1 : Int)), HH g) := by
        intro no
        rw [e_X_firstFault_47, zw_id (a := G pM_page k) (by omega) (by omega), show zw 44 = 44 from rfl, zw_id (a := l) (by omega) (by omega), show zw 7 = 7 from rfl, zw_id (a := c) (by omega) (by omega), e_X_firstFault_72, e74]
        by_cases a : G pM_page k = 44 ∧ 0 < l ∧ c < 7
        · rw [if_neg (by omega), if_neg (by omega), if_neg (by omega), ftF_some (s' := (c + 1, 0)) (by show ftStep (c, l) (G pM_page k) = _; unfold ftStep; rw [if_neg no, if_pos a])]
          exact ih (k + 1) (c + 1) 0 (by omega) (by omega) (by omega) (by omega) (by omega)
        · rw [ftF_none (by show ftStep (c, l) (G pM_page k) = _; unfold ftStep; rw [if_neg no, if_neg a])]
          by_cases a1 : G pM_page k = 44
          · rw [if_neg (by omega)]
            by_cases a2 : l ≤ 0
            · rw [if_pos a2]
            · rw [if_neg a2, if_pos (by omega)]
          · rw [if_pos a1]
      rw [e_X_firstFault_6, pX_r_page, Rw_ck Rw14, Row_size xs Rw14 h.2.2.1, zci_ok, hl.1, if_neg (by rw [zw_id (by omega) (by omega), zw_id (by omega) (by omega)]; omega), pX_r_page, Rw_ck Rw14, Row_at xs Rw14 h.2.2.1 hl.2 k (zw_id (by omega) (by omega)), zci_ok, hat, X_signalOf xs _ _ (zw_id (by omega) (by omega)), zci_ok, show zw (-1) = -1 from rfl, show zw 5 = 5 from rfl, zw_id (a := l) (by omega) (by omega)]
      by_cases a : 97 ≤ G pM_page k ∧ G pM_page k ≤ 104
      · rw [if_pos a, zw_id (by omega) (by omega), if_neg (by omega)]
        by_cases b : l < 5
        · rw [if_neg (by omega), e74, ftF_some (s' := (c, l + 1)) (by show ftStep (c, l) (G pM_page k) = _; unfold ftStep; rw [if_pos ⟨a, b⟩])]
          exact ih (k + 1) c (l + 1) (by omega) (by omega) (by omega) (by omega) (by omega)
        · rw [if_pos (by omega), e47 (fun z => b z.2)]
      · rw [if_neg a, show zw (-1) = -1 from rfl, if_pos rfl, e47 (fun z => a z.1)]
  rw [e_X_firstFault_0]
  exact loop (G pM 1).toNat 0 0 0 (by omega) (by omega) (by omega) (by omega) (by omega)
