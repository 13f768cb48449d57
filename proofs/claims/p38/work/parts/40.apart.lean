/-! ===== apart ===== -/
theorem dif_comm (A B : List Int) : dif A B = dif B A := by
  unfold dif
  by_cases h : A.length = B.length
  · rw [if_pos h, if_pos h.symm, h]
    refine zsum_cg (fun k _ => ?_)
    by_cases e : A.getD k 0 = B.getD k 0
    · rw [if_pos e, if_pos e.symm]
    · rw [if_neg e, if_neg (fun z => e z.symm)]
  · rw [if_neg h, if_neg (fun z => h z.symm)]
/-- what the least distance is -/
def isAp (L : Nat → List Int) (n : Nat) (v : Int) : Prop :=
  ((n < 2 ∨ ∃ i, i < n ∧ (L i).length ≠ (L 0).length) → v = -1) ∧
  (2 ≤ n → (∀ i, i < n → (L i).length = (L 0).length) → (∃ i j, i < j ∧ j < n ∧ dif (L i) (L j) = v) ∧ ∀ i j, i < j → j < n → v ≤ dif (L i) (L j))
theorem isAp_un {L : Nat → List Int} {n : Nat} {v w : Int} (hv : isAp L n v) (hw : isAp L n w) : v = w := by
  by_cases h : n < 2 ∨ ∃ i, i < n ∧ (L i).length ≠ (L 0).length
  · rw [hv.1 h, hw.1 h]
  · have h2 : 2 ≤ n := by
      by_cases z : n < 2
      · exact absurd (Or.inl z) h
      · omega
    have h3 : ∀ i, i < n → (L i).length = (L 0).length := fun i hi => by
      by_cases z : (L i).length = (L 0).length
      · exact z
      · exact absurd (Or.inr ⟨i, hi, z⟩) h
    obtain ⟨⟨i, j, a, b, c⟩, d⟩ := hv.2 h2 h3
    obtain ⟨⟨i', j', a', b', c'⟩, d'⟩ := hw.2 h2 h3
    have := d i' j' a' b'
    have := d' i j a b
    omega
noncomputable def apV (L : Nat → List Int) (n : Nat) : Int := @dite _ (∃ v, isAp L n v) (zdc _) (fun h => h.choose) (fun _ => 0)
theorem apV_eq {L : Nat → List Int} {n : Nat} {v : Int} (h : isAp L n v) : apV L n = v := by
  have hx : ∃ v, isAp L n v := ⟨v, h⟩
  unfold apV
  rw [@dif_pos _ (zdc _) hx]
  exact isAp_un hx.choose_spec h
noncomputable def apO (G : Nat → Int → Int) (c : Int) : Int := apV (fun s => plS G 0 c s) (nS G c)
noncomputable def apS (G : Nat → Int → Int) (c : Int) : Int := if 0 ≤ c ∧ c < G pM 5 then apO G c else -101
/-- the least distance of the pairs of a set; far: there is none -/
def isMn (L : Nat → List Int) (S : Nat → Nat → Prop) (v : Int) : Prop := (v = 1000000 ∨ ∃ i j, S i j ∧ dif (L i) (L j) = v) ∧ (∀ i j, S i j → v ≤ dif (L i) (L j))
theorem dif_eq_rg {A B : List Int} (h : A.length = B.length) (hl : B.length ≤ 100) : 0 ≤ dif A B ∧ dif A B ≤ 100 := by
  have := dif_rg A B hl
  unfold dif at this ⊢
  rw [if_pos h] at this ⊢
  have := zsum_rg (a := 0) (b := 1) (n := B.length) (f := fun k => if A.getD k 0 = B.getD k 0 then 0 else 1) (fun k _ => by split <;> omega)
  omega
theorem Code_leastApart (xs : List Int) {g : Nat → Int → Int} {P n : Nat} {L : Nat → List Int} (h : zCd g P n L) (h1n : 1 ≤ n) : zx zblk xs 10 0 [some (.inr (.inr (some P)))] [] (HH g) = some (some (.inl (apV L n)), HH g) := by
  obtain ⟨h1, hn, hn8, hr⟩ := id h
  -- v is -1 as long as there is no pair
  have inner : ∀ (i : Nat), i < n → (∀ k, k ≤ i → (L k).length = (L 0).length) → ∀ (r j : Nat) (v : Int), j + r = i → isMn L (fun a b => a < b ∧ (b < i ∨ (b = i ∧ a < j))) v → ∃ v', isMn L (fun a b => a < b ∧ b < i + 1) v' ∧ zx zblk xs 10 35 [some (.inr (.inr (some P))), some (.inl (if v = 1000000 then -1 else v)), some (.inl ((i : Int))), some (.inl ((j : Int)))] [] (HH g) = zx zblk xs 10 75 [some (.inr (.inr (some P))), some (.inl (if v' = 1000000 then -1 else v')), some (.inl ((i : Int)))] [] (HH g) := by
    intro i hi hle r
    induction r with
    | zero =>
      intro j v hj hv
      refine ⟨v, ⟨?_, fun a b hab => hv.2 a b ⟨hab.1, by omega⟩⟩, ?_⟩
      · rcases hv.1 with z | ⟨a, b, z, w⟩
        · exact Or.inl z
        · exact Or.inr ⟨a, b, ⟨z.1, by omega⟩, w⟩
      · rw [e_Code_leastApart_35, if_pos (by rw [zw_id (by omega) (by omega), zw_id (by omega) (by omega)]; omega)]
    | succ r ih =>
      intro j v hj hv
      have hj' : j < n := by omega
      have hlen : (L i).length = (L j).length := by rw [hle i (Nat.le_refl _), hle j (by omega)]
      have hdr := dif_eq_rg hlen (by have := (hr j hj').2.1; omega)
      have hdc := dif_comm (L i) (L j)
      have e69 : ∀ v1 : Int, zx zblk xs 10 69 [some (.inr (.inr (some P))), some (.inl (v1)), some (.inl ((i : Int))), some (.inl ((j : Int)))] [] (HH g) = zx zblk xs 10 35 [some (.inr (.inr (some P))), some (.inl (v1)), some (.inl ((i : Int))), some (.inl (((j + 1 : Nat) : Int)))] [] (HH g) := fun v1 => by rw [e_Code_leastApart_69, ← Int.natCast_succ]
      have e66 : zx zblk xs 10 66 [some (.inr (.inr (some P))), none, some (.inl ((i : Int))), some (.inl ((j : Int))), some (.inl (dif (L i) (L j)))] [] (HH g) = zx zblk xs 10 35 [some (.inr (.inr (some P))), some (.inl (dif (L i) (L j))), some (.inl ((i : Int))), some (.inl (((j + 1 : Nat) : Int)))] [] (HH g) := by rw [e_Code_leastApart_66, e69]
      rw [e_Code_leastApart_35, if_neg (by rw [zw_id (by omega) (by omega), zw_id (by omega) (by omega)]; omega), Co_ck h1, Code_plain xs h1 i (by omega), zcr_ok, Co_ck h1, Code_plain xs h1 j (by omega), zcr_ok, Rw_ck (h.rw hi), Row_placesApart xs (h.rw hi) (h.rw hj') (hr i hi).1 (hr j hj').1 (hr i hi).2.1 (hr j hj').2.1 (hr i hi).2.2 (hr j hj').2.2 hlen, zci_ok, e66, e69, zw_id (a := dif (L i) (L j)) (by omega) (by omega), show zw (-1) = -1 from rfl]
      have hv0 : v = 1000000 ∨ (0 ≤ v ∧ v ≤ 100 ∨ v = 1000000) := by
        rcases hv.1 with z | ⟨a, b, z, w⟩
        · exact Or.inl z
        · have := dif_rg (L a) (L b) (by have := (hr b (by omega)).2.1; omega)
          right
          omega
      by_cases hlt : v = 1000000 ∨ dif (L i) (L j) < v
      · obtain ⟨v', p1, p2⟩ := ih (j + 1) (dif (L i) (L j)) (by omega) ⟨Or.inr ⟨j, i, ⟨by omega, Or.inr ⟨rfl, by omega⟩⟩, hdc.symm⟩, fun a b hab => by
          by_cases hab' : b = i ∧ a = j
          · rw [hab'.1, hab'.2, hdc]; exact Int.le_refl _
          · rcases hlt with z | z
            · have := hv.2 a b ⟨hab.1, by omega⟩; omega
            · have := hv.2 a b ⟨hab.1, by omega⟩; omega⟩
        rw [if_neg (by omega)] at p2
        refine ⟨v', p1, ?_⟩
        rw [← p2]
        by_cases m : v = 1000000
        · rw [if_pos m, if_pos (show zw (-1) = -1 from rfl)]
        · rw [if_neg m, zw_id (a := v) (by omega) (by omega), if_neg (by omega), if_neg (by omega)]
      · obtain ⟨v', p1, p2⟩ := ih (j + 1) v (by omega) ⟨by
          rcases hv.1 with z | ⟨a, b, z, w⟩
          · exact Or.inl z
          · exact Or.inr ⟨a, b, ⟨z.1, by omega⟩, w⟩, fun a b hab => by
          by_cases hab' : b = i ∧ a = j
          · rw [hab'.1, hab'.2, ← hdc]; omega
          · exact hv.2 a b ⟨hab.1, by omega⟩⟩
        have hvm : ¬ v = 1000000 := fun z => hlt (Or.inl z)
        rw [if_neg hvm] at p2
        refine ⟨v', p1, ?_⟩
        rw [if_neg hvm, zw_id (a := v) (by omega) (by omega), if_neg (show ¬ v = -1 by omega), if_pos (show v ≤ dif (L i) (L j) by omega)]
        exact p2
  have outer : ∀ (r i : Nat) (v : Int), i + r = n → (∀ k, k < i → (L k).length = (L 0).length) → isMn L (fun a b => a < b ∧ b < i) v → zx zblk xs 10 4 [some (.inr (.inr (some P))), some (.inl (if v = 1000000 then -1 else v)), some (.inl ((i : Int)))] [] (HH g) = some (some (.inl (apV L n)), HH g) := by
    intro r
    induction r with
    | zero =>
      intro i v hi hle hv
      have : i = n := by omega
      subst this
      rw [e_Code_leastApart_4, Co_g h1, hn, if_pos (by omega), e_Code_leastApart_81, apV_eq (v := if v = 1000000 then -1 else v)]
      constructor
      · rintro (z | ⟨k, hk, z⟩)
        · rcases hv.1 with w | ⟨a, b, w, -⟩
          · rw [if_pos w]
          · omega
        · exact absurd (hle k hk) z
      · intro h2 _
        have h01 : (L 0).length = (L 1).length := (hle 1 (by omega)).symm
        have := hv.2 0 1 ⟨by omega, by omega⟩
        have hd01 := dif_eq_rg h01 (by have := (hr 1 (by omega)).2.1; omega)
        rw [if_neg (by omega)]
        refine ⟨?_, fun a b c d => hv.2 a b ⟨c, d⟩⟩
        rcases hv.1 with w | ⟨a, b, w, x⟩
        · omega
        · exact ⟨a, b, w.1, w.2, x⟩
    | succ r ih =>
      intro i v hi hle hv
      have hi' : i < n := by omega
      rw [e_Code_leastApart_4, Co_g h1, hn, if_neg (by rw [zw_id (by omega) (by omega), zw_id (by omega) (by omega)]; omega), Co_ck h1, Code_plain xs h1 i (by omega), zcr_ok, Rw_ck (h.rw hi'), Row_size xs (h.rw hi') (hr i hi').1, zci_ok, Co_ck h1]
      have e0 := Code_plain xs (g := g) h1 0 (by omega)
      rw [z0N] at e0
      rw [e0, zcr_ok, Rw_ck (h.rw (show 0 < n by omega)), Row_size xs (h.rw (show 0 < n by omega)) (hr 0 (by omega)).1, zci_ok, zw_id (a := ((L i).length : Int)) (by omega) (by have := (hr i hi').2.1; omega), zw_id (a := ((L 0).length : Int)) (by omega) (by have := (hr 0 (by omega)).2.1; omega)]
      by_cases hl : (L i).length = (L 0).length
      · obtain ⟨v', p1, p2⟩ := inner i hi' (fun k hk => by
          by_cases z : k = i
          · subst z; exact hl
          · exact hle k (by omega)) i 0 v (by omega) ⟨by
          rcases hv.1 with z | ⟨a, b, z, w⟩
          · exact Or.inl z
          · exact Or.inr ⟨a, b, ⟨z.1, by omega⟩, w⟩, fun a b hab => hv.2 a b ⟨hab.1, by omega⟩⟩
        rw [z0N] at p2
        rw [if_pos (by omega), e_Code_leastApart_33, p2, e_Code_leastApart_75, ← Int.natCast_succ]
        exact ih (i + 1) v' (by omega) (fun k hk => by
          by_cases z : k = i
          · subst z; exact hl
          · exact hle k (by omega)) p1
      · rw [if_neg (by omega), apV_eq (v := -1)]
        exact ⟨fun _ => rfl, fun _ z => absurd (z i hi') hl⟩
  rw [e_Code_leastApart_0]
  have h0 := outer n 0 1000000 (by omega) (fun k hk => by omega) ⟨Or.inl rfl, fun a b hab => by omega⟩
  rw [if_pos rfl, z0N] at h0
  exact h0
theorem X_apart (xs : List Int) {G g : Nat → Int → Int} (hB : Bd G) (h : Rel G g) {c : Int} (hc : zw c = c) : zx zblk xs 57 0 [some (.inr (.inr (some pX))), some (.inl (c))] [] (HH g) = some (some (.inl (apS G c)), HH g) := by
  obtain ⟨-, ⟨hc0, hc1⟩, -⟩ := id hB.1
  rw [e_X_apart_0, pX_ck]
  unfold apS
  by_cases a : 0 ≤ c ∧ c < G pM 5
  · obtain ⟨k, rfl⟩ : ∃ k : Nat, c = k := ⟨c.toNat, by omega⟩
    have hk4 : k < 4 := by omega
    rw [X_codeAt_in xs hB h k a.2, zcr_ok, zif_some, if_pos a, e_X_apart_15, Co_ck (zCo_PC hk4), Code_leastApart xs (h.cd hk4 a.2) (nS_rg hB a).2.1, zci_ok, e_X_apart_19]
    rfl
  · rw [X_codeAt_out xs hB h c hc a, zcr_ok, zif, if_neg a, e_X_apart_19]
