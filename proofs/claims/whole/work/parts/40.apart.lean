/-! ===== apart ===== -/
theorem dif_comm (A B : List Int) : dif A B = dif B A := by
  unfold dif
  by_cases h : A.length = B.length
  · rw [if_pos h, if_pos h.symm, h]
    refine zsum_cg (fun k _ => ?_)
    by_cases e : A.getD k 0 = B.getD k 0
    · rw [if_pos e, if_pos e.symm]
    · rw [if_neg e, if_neg (fun z => e z.symm)]
  · rw [if_neg h, if_neg (fun z => h z.symm)]
/-- what the least distance is -/
def isAp (L : Nat → List Int) (n : Nat) (v : Int) : Prop :=
  ((n < 2 ∨ ∃ i, i < n ∧ (L i).length ≠ (L 0).length) → v = -1) ∧
  (2 ≤ n → (∀ i, i < n → (L i).length = (L 0).length) → (∃ i j, i < j ∧ j < n ∧ dif (L i) (L j) = v) ∧ ∀ i j, i < j → j < n → v ≤ dif (L i) (L j))
theorem isAp_un {L : Nat → List Int} {n : Nat} {v w : Int} (hv : isAp L n v) (hw : isAp L n w) : v = w := by
  by_cases h : n < 2 ∨ ∃ i, i < n ∧ (L i).length ≠ (L 0).length
  · rw [hv.1 h, hw.1 h]
  · have h2 : 2 ≤ n := by
      by_cases z : n < 2
      · exact absurd (Or.inl z) h
      · omega
    have h3 : ∀ i, i < n → (L i).length = (L 0).length := fun i hi => by
      by_cases z : (L i).length = (L 0).length
      · exact z
      · exact absurd (Or.inr ⟨i, hi, z⟩) h
    obtain ⟨⟨i, j, a, b, c⟩, d⟩ := hv.2 h2 h3
    obtain ⟨⟨i', j', a', b', c'⟩, d'⟩ := hw.2 h2 h3
    have := d i' j' a' b'
    have := d' i j a b
    omega
noncomputable def apV (L : Nat → List Int) (n : Nat) : Int := @dite _ (∃ v, isAp L n v) (zdc _) (fun h => h.choose) (fun _ => 0)
theorem apV_eq {L : Nat → List Int} {n : Nat} {v : Int} (h : isAp L n v) : apV L n = v := by
  have hx : ∃ v, isAp L n v := ⟨v, h⟩
  unfold apV
  rw [@dif_pos _ (zdc _) hx]
  exact isAp_un hx.choose_spec h
noncomputable def apO (G : Nat → Int → Int) (c : Int) : Int := apV (fun s => plS G 0 c s) (nS G c)
noncomputable def apS (G : Nat → Int → Int) (c : Int) : Int := if 0 ≤ c ∧ c < G pM 5 then apO G c else -101
theorem es_apO {g1 g : Nat → Int → Int} (h : es g1 = es g) : apO g1 = apO g := by
  funext c
  unfold apO
  rw [es_plS h, es_nS h]
theorem es_apS {g1 g : Nat → Int → Int} (h : es g1 = es g) : apS g1 = apS g := by
  obtain ⟨e1, e2, e3, e4, e5, e6, e7, e8, e9, e10, e11, e12, e13, e14, e15⟩ := es_all h
  funext c
  unfold apS
  rw [es_apO h, e10]
/-- the least distance of the pairs of a set; far: there is none -/
def isMn (L : Nat → List Int) (S : Nat → Nat → Prop) (v : Int) : Prop := (v = 1000000 ∨ ∃ i j, S i j ∧ dif (L i) (L j) = v) ∧ (∀ i j, S i j → v ≤ dif (L i) (L j))
theorem dif_eq_rg {A B : List Int} (h : A.length = B.length) (hl : B.length ≤ 100) : 0 ≤ dif A B ∧ dif A B ≤ 100 := by
  have := dif_rg A B hl
  unfold dif at this ⊢
  rw [if_pos h] at this ⊢
  have := zsum_rg (a := 0) (b := 1) (n := B.length) (f := fun k => if A.getD k 0 = B.getD k 0 then 0 else 1) (fun k _ => by split <;> omega)
  omega
theorem Code_leastApart (xs : List Int) {g : Nat → Int → Int} {P n : Nat} {L : Nat → List Int} (h : zCd g P n L) (h1n : 1 ≤ n) : zx zblk xs 91 0 [some (.inr (.inr (some P)))] [] (HH g) = some (some (.inl (apV L n)), HH g) := by
  obtain ⟨h1, hn, hn8, hr⟩ := id h
  -- v is -1 as long as there is no pair
  have inner : ∀ (i : Nat), i < n → (∀ k, k ≤ i → (L k).length = (L 0).length) → ∀ (r j : Nat) (v : Int), j + r = i → isMn L (fun a b => a < b ∧ (b < i ∨ (b = i ∧ a < j))) v → ∃ v', isMn L (fun a b => a < b ∧ b < i + 1) v' ∧ zx zblk xs 91 35 [some (.inr (.inr (some P))), some (.inl (if v = 1000000 then -1 else v)), some (.inl ((i : Int))), some (.inl ((j : Int)))] [] (HH g) = zx zblk xs 91 75 [some (.inr (.inr (some P))), some (.inl (if v' = 1000000 then -1 else v')), some (.inl ((i : Int)))] [] (HH g) := by
    intro i hi hle r
    induction r with
    | zero =>
      intro j v hj hv
      refine ⟨v, ⟨?_, fun a b hab => hv.2 a b ⟨hab.1, by omega⟩⟩, ?_⟩
      · rcases hv.1 with z | ⟨a, b, z, w⟩
        · exact Or.inl z
        · exact Or.inr ⟨a, b, ⟨z.1, by omega⟩, w⟩
      · rw [e_Code_leastApart_35, if_pos (by rw [zw_id (by omega) (by omega), zw_id (by omega) (by omega)]; omega)]
    | succ r ih =>
      intro j v hj hv
      have hj' : j < n := by omega
      have hlen : (L i).length = (L j).length := by rw [hle i (Nat.le_refl _), hle j (by omega)]
      have hdr := dif_eq_rg hlen (by have := (hr j hj').2.1; omega)
      have hdc := dif_comm (L i) (L j)
      have e69 : ∀ v1 : Int, zx zblk xs 91 69 [some (.inr (.inr (some P))), some (.inl (v1)), some (.inl ((i : Int))), some (.inl ((j : Int)))] [] (HH g) = zx zblk xs 91 35 [some (.inr (.inr (some P))), some (.inl (v1)), some (.inl ((i : Int))), some (.inl (((j + 1 : Nat) : Int)))] [] (HH g) := fun v1 => by rw [e_Code_leastApart_69, ← Int.natCast_succ]
      have e66 : zx zblk xs 91 66 [some (.inr (.inr (some P))), none, some (.inl ((i : Int))), some (.inl ((j : Int))), some (.inl (dif (L i) (L j)))] [] (HH g) = zx zblk xs 91 35 [some (.inr (.inr (some P))), some (.inl (dif (L i) (L j))), some (.inl ((i : Int))), some (.inl (((j + 1 : Nat) : Int)))] [] (HH g) := by rw [e_Code_leastApart_66, e69]
      rw [e_Code_leastApart_35, if_neg (by rw [zw_id (by omega) (by omega), zw_id (by omega) (by omega)]; omega), Co_ck h1, Code_plain xs h1 i (by omega), zcr_ok, Co_ck h1, Code_plain xs h1 j (by omega), zcr_ok, Rw_ck (h.rw hi), Row_placesApart xs (h.rw hi) (h.rw hj') (hr i hi).1 (hr j hj').1 (hr i hi).2.1 (hr j hj').2.1 (hr i hi).2.2 (hr j hj').2.2 hlen, zci_ok, e66, e69, zw_id (a := dif (L i) (L j)) (by omega) (by omega), show zw (-1) = -1 from rfl]
      have hv0 : v = 1000000 ∨ (0 ≤ v ∧ v ≤ 100 ∨ v = 1000000) := by
        rcases hv.1 with z | ⟨a, b, z, w⟩
        · exact Or.inl z
        · have := dif_rg (L a) (L b) (by have := (hr b (by omega)).2.1; omega)
          right
          omega
      by_cases hlt : v = 1000000 ∨ dif (L i) (L j) < v
      · obtain ⟨v', p1, p2⟩ := ih (j + 1) (dif (L i) (L j)) (by omega) ⟨Or.inr ⟨j, i, ⟨by omega, Or.inr ⟨rfl, by omega⟩⟩, hdc.symm⟩, fun a b hab => by
          by_cases hab' : b = i ∧ a = j
          · rw [hab'.1, hab'.2, hdc]; exact Int.le_refl _
          · rcases hlt with z | z
            · have := hv.2 a b ⟨hab.1, by omega⟩; omega
            · have := hv.2 a b ⟨hab.1, by omega⟩; omega⟩
        rw [if_neg (by omega)] at p2
        refine ⟨v', p1, ?_⟩
        rw [← p2]
        by_cases m : v = 1000000
        · rw [if_pos m, if_pos (show zw (-1) = -1 from rfl)]
        · rw [if_neg m, zw_id (a := v) (by omega) (by omega), if_neg (by omega), if_neg (by omega)]
      · obtain ⟨v', p1, p2⟩ := ih (j + 1) v (by omega) ⟨by
          rcases hv.1 with z | ⟨a, b, z, w⟩
          · exact Or.inl z
          · exact Or.inr ⟨a, b, ⟨z.1, by omega⟩, w⟩, fun a b hab => by
          by_cases hab' : b = i ∧ a = j
          · rw [hab'.1, hab'.2, ← hdc]; omega
          · exact hv.2 a b ⟨hab.1, by omega⟩⟩
        have hvm : ¬ v = 1000000 := fun z => hlt (Or.inl z)
        rw [if_neg hvm] at p2
        refine ⟨v', p1, ?_⟩
        rw [if_neg hvm, zw_id (a := v) (by omega) (by omega), if_neg (show ¬ v = -1 by omega), if_pos (show v ≤ dif (L i) (L j) by omega)]
        exact p2
  have outer : ∀ (r i : Nat) (v : Int), i + r = n → (∀ k, k < i → (L k).length = (L 0).length) → isMn L (fun a b => a < b ∧ b < i) v → zx zblk xs 91 4 [some (.inr (.inr (some P))), some (.inl (if v = 1000000 then -1 else v)), some (.inl ((i : Int)))] [] (HH g) = some (some (.inl (apV L n)), HH g) := by
    intro r
    induction r with
    | zero =>
      intro i v hi hle hv
      have : i = n := by omega
      subst this
      rw [e_Code_leastApart_4, Co_g h1, hn, if_pos (by omega), e_Code_leastApart_81, apV_eq (v := if v = 1000000 then -1 else v)]
      constructor
      · rintro (z | ⟨k, hk, z⟩)
        · rcases hv.1 with w | ⟨a, b, w, -⟩
          · rw [if_pos w]
          · omega
        · exact absurd (hle k hk) z
      · intro h2 _
        have h01 : (L 0).length = (L 1).length := (hle 1 (by omega)).symm
        have := hv.2 0 1 ⟨by omega, by omega⟩
        have hd01 := dif_eq_rg h01 (by have := (hr 1 (by omega)).2.1; omega)
        rw [if_neg (by omega)]
        refine ⟨?_, fun a b c d => hv.2 a b ⟨c, d⟩⟩
        rcases hv.1 with w | ⟨a, b, w, x⟩
        · omega
        · exact ⟨a, b, w.1, w.2, x⟩
    | succ r ih =>
      intro i v hi hle hv
      have hi' : i < n := by omega
      rw [e_Code_leastApart_4, Co_g h1, hn, if_neg (by rw [zw_id (by omega) (by omega), zw_id (by omega) (by omega)]; omega), Co_ck h1, Code_plain xs h1 i (by omega), zcr_ok, Rw_ck (h.rw hi'), Row_size xs (h.rw hi') (hr i hi').1, zci_ok, Co_ck h1]
      have e0 := Code_plain xs (g := g) h1 0 (by omega)
      rw [z0N] at e0
      rw [e0, zcr_ok, Rw_ck (h.rw (show 0 < n by omega)), Row_size xs (h.rw (show 0 < n by omega)) (hr 0 (by omega)).1, zci_ok, zw_id (a := ((L i).length : Int)) (by omega) (by have := (hr i hi').2.1; omega), zw_id (a := ((L 0).length : Int)) (by omega) (by have := (hr 0 (by omega)).2.1; omega)]
      by_cases hl : (L i).length = (L 0).length
      · obtain ⟨v', p1, p2⟩ := inner i hi' (fun k hk => by
          by_cases z : k = i
          · subst z; exact hl
          · exact hle k (by omega)) i 0 v (by omega) ⟨by
          rcases hv.1 with z | ⟨a, b, z, w⟩
          · exact Or.inl z
          · exact Or.inr ⟨a, b, ⟨z.1, by omega⟩, w⟩, fun a b hab => hv.2 a b ⟨hab.1, by omega⟩⟩
        rw [z0N] at p2
        rw [if_pos (by omega), e_Code_leastApart_33, p2, e_Code_leastApart_75, ← Int.natCast_succ]
        exact ih (i + 1) v' (by omega) (fun k hk => by
          by_cases z : k = i
          · subst z; exact hl
          · exact hle k (by omega)) p1
      · rw [if_neg (by omega), apV_eq (v := -1)]
        exact ⟨fun _ => rfl, fun _ z => absurd (z i hi') hl⟩
  rw [e_Code_leastApart_0]
  have h0 := outer n 0 1000000 (by omega) (fun k hk => by omega) ⟨Or.inl rfl, fun a b hab => by omega⟩
  rw [if_pos rfl, z0N] at h0
  exact h0
theorem X_apart (xs : List Int) {G g : Nat → Int → Int} (hB : Bd G) (h : Rel G g) {c : Int} (hc : zw c = c) : zx zblk xs 153 0 [some (.inr (.inr (some pX))), some (.inl (c))] [] (HH g) = some (some (.inl (apS G c)), HH g) := by
  obtain ⟨-, ⟨hc0, hc1⟩, -⟩ := id hB.1
  rw [e_X_apart_0, pX_ck]
  unfold apS
  by_cases a : 0 ≤ c ∧ c < G pM 5
  · obtain ⟨k, rfl⟩ : ∃ k : Nat, c = k := ⟨c.toNat, by omega⟩
    have hk4 : k < 4 := by omega
    rw [X_codeAt_in xs hB h k a.2, zcr_ok, zif_some, if_pos a, e_X_apart_15, Co_ck (zCo_PC hk4), Code_leastApart xs (h.cd hk4 a.2) (nS_rg hB a).2.1, zci_ok, e_X_apart_19]
    rfl
  · rw [X_codeAt_out xs hB h c hc a, zcr_ok, zif, if_neg a, e_X_apart_19]
theorem M_apartOf (xs : List Int) {g : Nat → Int → Int} (hB : Bd g) {c : Int} (a : 0 ≤ c ∧ c < g pM 5) : ∃ g1, zx zblk xs 54 0 [some (.inr (.inr (some pM))), some (.inl (c))] [] (HH g) = some (some (.inl (apO g c)), HH g1) ∧ zFr scA g g1 := by
  obtain ⟨hQ, -, hC, -⟩ := id hB
  obtain ⟨-, ⟨hc0, hc1⟩, -⟩ := id hQ
  have hn := nS_rg hB a
  obtain ⟨g1, q1, q2, q3⟩ := M_layAll xs g c 0 hB a
  have hr1 := rdy_of hB a q2
  have e2 : g1 pM_speeches = g pM_speeches := (es_all (scA_es q3)).2.1
  refine ⟨g1, ?_, q3⟩
  unfold apO
  obtain ⟨hall, hn8, hr⟩ := id hr1
  generalize (fun i : Nat => plS g 0 c i) = L at hr1 hall hr ⊢
  have h25 : zx zblk xs 54 22 [some (.inr (.inr (some pM))), some (.inl (c))] [.inl (if 2 ≤ nS g c then 1000000 else -1)] (HH g1) = some (some (.inl (apV L (nS g c))), HH g1) := by
    rw [e_M_apartOf_22]
    -- v: the least of the pairs, or -1, if one has unlike lengths or there are less than two
    have ok : ∀ v : Int, (v = -1 ∨ (∃ S : Nat → Nat → Prop, (∀ x y, S x y → x < nS g c ∧ y < nS g c) ∧ isMn L S v)) → -1 ≤ v ∧ v ≤ 1000000 := by
      rintro v (z | ⟨S, z1, z2⟩)
      · omega
      · rcases z2.1 with z | ⟨x, y, z, w⟩
        · omega
        · have := dif_rg (L x) (L y) (by have := (hr y (z1 x y z).2).1; omega)
          omega
    have inner : ∀ (i : Nat), i < nS g c → ∀ (r j : Nat) (v : Int), j + r = nS g c → i < j → ((nS g c < 2 ∨ ∃ x y, x < y ∧ y < nS g c ∧ (x < i ∨ (x = i ∧ y < j)) ∧ (L x).length ≠ (L y).length) → v = -1) → (¬ (nS g c < 2 ∨ ∃ x y, x < y ∧ y < nS g c ∧ (x < i ∨ (x = i ∧ y < j)) ∧ (L x).length ≠ (L y).length) → isMn L (fun x y => x < y ∧ y < nS g c ∧ (x < i ∨ (x = i ∧ y < j))) v) → ∃ v', ((nS g c < 2 ∨ ∃ x y, x < y ∧ y < nS g c ∧ x < i + 1 ∧ (L x).length ≠ (L y).length) → v' = -1) ∧ (¬ (nS g c < 2 ∨ ∃ x y, x < y ∧ y < nS g c ∧ x < i + 1 ∧ (L x).length ≠ (L y).length) → isMn L (fun x y => x < y ∧ y < nS g c ∧ x < i + 1) v') ∧ zx zblk xs 54 40 [some (.inr (.inr (some pM))), some (.inl (c)), some (.inl (v)), some (.inl ((i : Int))), some (.inl ((j : Int)))] [] (HH g1) = zx zblk xs 54 186 [some (.inr (.inr (some pM))), some (.inl (c)), some (.inl (v')), some (.inl ((i : Int)))] [] (HH g1) := by
      intro i hi r
      induction r with
      | zero =>
        intro j v hj hij b1 b2
        have hiff : (nS g c < 2 ∨ ∃ x y, x < y ∧ y < nS g c ∧ x < i + 1 ∧ (L x).length ≠ (L y).length) ↔ (nS g c < 2 ∨ ∃ x y, x < y ∧ y < nS g c ∧ (x < i ∨ (x = i ∧ y < j)) ∧ (L x).length ≠ (L y).length) := by
          constructor
          · rintro (z | ⟨x, y, z1, z2, z3, z4⟩)
            · exact Or.inl z
            · exact Or.inr ⟨x, y, z1, z2, by omega, z4⟩
          · rintro (z | ⟨x, y, z1, z2, z3, z4⟩)
            · exact Or.inl z
            · exact Or.inr ⟨x, y, z1, z2, by omega, z4⟩
        refine ⟨v, fun z => b1 (hiff.mp z), fun z => ?_, ?_⟩
        · have b := b2 (fun w => z (hiff.mpr w))
          refine ⟨?_, fun x y hxy => b.2 x y ⟨hxy.1, hxy.2.1, by omega⟩⟩
          rcases b.1 with w | ⟨x, y, w1, w2⟩
          · exact Or.inl w
          · exact Or.inr ⟨x, y, ⟨w1.1, w1.2.1, by omega⟩, w2⟩
        · rw [e_M_apartOf_40, pM_r_speeches, pM_a_speeches xs _ (by omega) (by omega), e2, if_pos (by rw [zw_id (by omega) (by omega), zw_id (by omega) (by omega)]; omega)]
      | succ r ih =>
        intro j v hj hij b1 b2
        have hj' : j < nS g c := by omega
        have a1 := (hall i hi).1
        have a2 := (hall j hj').1
        have l1 := (hr i hi).1
        have l2 := (hr j hj').1
        have hvr : -1 ≤ v ∧ v ≤ 1000000 := by
          refine ok v ?_
          by_cases z : (nS g c < 2 ∨ ∃ x y, x < y ∧ y < nS g c ∧ (x < i ∨ (x = i ∧ y < j)) ∧ (L x).length ≠ (L y).length)
          · exact Or.inl (b1 z)
          · exact Or.inr ⟨_, fun x y hxy => ⟨by omega, hxy.2.1⟩, b2 z⟩
        have e179 : ∀ s0 : Int, zx zblk xs 54 179 [some (.inr (.inr (some pM))), some (.inl (c)), none, some (.inl ((i : Int))), some (.inl ((j : Int)))] [.inl s0] (HH g1) = zx zblk xs 54 40 [some (.inr (.inr (some pM))), some (.inl (c)), some (.inl (s0)), some (.inl ((i : Int))), some (.inl (((j + 1 : Nat) : Int)))] [] (HH g1) := fun s0 => by rw [e_M_apartOf_179, ← Int.natCast_succ]
        rw [e_M_apartOf_40, pM_r_speeches, pM_a_speeches xs _ (by omega) (by omega), e2, if_neg (by rw [zw_id (by omega) (by omega), zw_id (by omega) (by omega)]; omega)]
        by_cases hl : (L i).length = (L j).length
        · have hdr := dif_eq_rg hl (by omega)
          have hh := zloop (fun k : Nat => zx zblk xs 54 57 [some (.inr (.inr (some pM))), some (.inl (c)), some (.inl (v)), some (.inl ((i : Int))), some (.inl ((j : Int))), some (.inl (zsum (fun k => if (L i).getD k 0 = (L j).getD k 0 then 0 else 1) k)), some (.inl ((k : Int)))] [] (HH g1)) (L j).length (fun k hk => by
            have f1 := isAll_get hall hi (k := k) (by omega)
            have f2 := isAll_get hall hj' (k := k) (by omega)
            have c1 := isR7_get (hr i hi).2 (k := k) (by omega)
            have c2 := isR7_get (hr j hj').2 (k := k) hk
            have d1 : (L i).getD k 0 = (L i)[k] := by simp [List.getD, show k < (L i).length by omega]
            have d2 : (L j).getD k 0 = (L j)[k] := by simp [List.getD, hk]
            rw [e_M_apartOf_57, pM_r_plains, pM_a_plains xs _ (by omega) (by omega), a1, if_neg (by rw [zw_id (by omega) (by omega), zw_id (by omega) (by omega)]; omega), pM_r_plains, pM_a_plains xs _ (by omega) (by omega), pM_r_plains, pM_a_plains xs _ (by omega) (by omega), a1, a2, if_neg (fun z => z (congrArg zw (congrArg Nat.cast hl))), pM_r_plains, pM_a_plains xs _ (by omega) (by omega), pM_r_plains, pM_a_plains xs _ (by omega) (by omega), f1, f2, zw_id (by omega) (by omega), zw_id (by omega) (by omega), zsum, d1, d2]
            by_cases he : (L i)[k] = (L j)[k]
            · rw [if_neg (by simpa using he), e_M_apartOf_132, if_pos he, Int.natCast_succ]
            · rw [if_pos he, e_M_apartOf_131, e_M_apartOf_132, if_neg he, Int.natCast_succ])
          have e57 : zx zblk xs 54 57 [some (.inr (.inr (some pM))), some (.inl (c)), some (.inl (v)), some (.inl ((i : Int))), some (.inl ((j : Int))), some (.inl (0)), some (.inl (0))] [] (HH g1) = zx zblk xs 54 40 [some (.inr (.inr (some pM))), some (.inl (c)), some (.inl (if dif (L i) (L j) < v then dif (L i) (L j) else v)), some (.inl ((i : Int))), some (.inl (((j + 1 : Nat) : Int)))] [] (HH g1) := by
            refine Eq.trans ?_ (hh.trans ?_)
            · rfl
            · have hd : zsum (fun k => if (L i).getD k 0 = (L j).getD k 0 then 0 else 1) (L j).length = dif (L i) (L j) := by unfold dif; rw [if_pos hl]
              rw [e_M_apartOf_57, pM_r_plains, pM_a_plains xs _ (by omega) (by omega), a1, if_pos (Int.le_of_eq (congrArg zw (congrArg Nat.cast hl))), hd, e_M_apartOf_141, pM_r_plains, pM_a_plains xs _ (by omega) (by omega), pM_r_plains, pM_a_plains xs _ (by omega) (by omega), a1, a2, if_pos (congrArg zw (congrArg Nat.cast hl)), e_M_apartOf_167, zw_id (by omega) (by omega), zw_id (by omega) (by omega), e179]
              by_cases z : dif (L i) (L j) < v
              · rw [if_neg (by omega), if_pos z]
              · rw [if_pos (by omega), e_M_apartOf_178, e179, if_neg z]
          have hset : ¬ (nS g c < 2 ∨ ∃ x y, x < y ∧ y < nS g c ∧ (x < i ∨ (x = i ∧ y < j + 1)) ∧ (L x).length ≠ (L y).length) → ¬ (nS g c < 2 ∨ ∃ x y, x < y ∧ y < nS g c ∧ (x < i ∨ (x = i ∧ y < j)) ∧ (L x).length ≠ (L y).length) := by
            rintro z (w | ⟨x, y, w1, w2, w3, w4⟩)
            · exact z (Or.inl w)
            · exact z (Or.inr ⟨x, y, w1, w2, by omega, w4⟩)
          obtain ⟨v', p1, p2, p3⟩ := ih (j + 1) (if dif (L i) (L j) < v then dif (L i) (L j) else v) (by omega) (by omega) (fun z => by
            have : v = -1 := b1 (by
              rcases z with w | ⟨x, y, w1, w2, w3, w4⟩
              · exact Or.inl w
              · refine Or.inr ⟨x, y, w1, w2, ?_, w4⟩
                by_cases hxy : x = i ∧ y = j
                · rw [hxy.1, hxy.2] at w4; exact absurd hl w4
                · omega)
            rw [if_neg (by omega)]
            exact this) (fun z => by
            have b := b2 (hset z)
            by_cases w : dif (L i) (L j) < v
            · rw [if_pos w]
              refine ⟨Or.inr ⟨i, j, ⟨hij, hj', by omega⟩, rfl⟩, fun x y hxy => ?_⟩
              by_cases hxy' : x = i ∧ y = j
              · rw [hxy'.1, hxy'.2]; exact Int.le_refl _
              · have := b.2 x y ⟨hxy.1, hxy.2.1, by omega⟩
                omega
            · rw [if_neg w]
              refine ⟨?_, fun x y hxy => ?_⟩
              · rcases b.1 with w | ⟨x, y, w1, w2⟩
                · exact Or.inl w
                · exact Or.inr ⟨x, y, ⟨w1.1, w1.2.1, by omega⟩, w2⟩
              · by_cases hxy' : x = i ∧ y = j
                · rw [hxy'.1, hxy'.2]; omega
                · exact b.2 x y ⟨hxy.1, hxy.2.1, by omega⟩)
          exact ⟨v', p1, p2, by rw [e57]; exact p3⟩
        · have e57 : zx zblk xs 54 57 [some (.inr (.inr (some pM))), some (.inl (c)), some (.inl (v)), some (.inl ((i : Int))), some (.inl ((j : Int))), some (.inl (0)), some (.inl (0))] [] (HH g1) = zx zblk xs 54 40 [some (.inr (.inr (some pM))), some (.inl (c)), some (.inl (-1)), some (.inl ((i : Int))), some (.inl (((j + 1 : Nat) : Int)))] [] (HH g1) := by
            have e141 : zx zblk xs 54 141 [some (.inr (.inr (some pM))), some (.inl (c)), some (.inl (v)), some (.inl ((i : Int))), some (.inl ((j : Int))), some (.inl (0))] [] (HH g1) = zx zblk xs 54 40 [some (.inr (.inr (some pM))), some (.inl (c)), some (.inl (-1)), some (.inl ((i : Int))), some (.inl (((j + 1 : Nat) : Int)))] [] (HH g1) := by
              rw [e_M_apartOf_141, pM_r_plains, pM_a_plains xs _ (by omega) (by omega), pM_r_plains, pM_a_plains xs _ (by omega) (by omega), a1, a2, if_neg (by rw [zw_id (by omega) (by omega), zw_id (by omega) (by omega)]; omega), e179]
            rw [e_M_apartOf_57, pM_r_plains, pM_a_plains xs _ (by omega) (by omega), a1, e141]
            by_cases z : zw ((L i).length : Int) ≤ zw 0
            · rw [if_pos z]
            · rw [if_neg z, pM_r_plains, pM_a_plains xs _ (by omega) (by omega), pM_r_plains, pM_a_plains xs _ (by omega) (by omega), a1, a2, if_pos (by rw [zw_id (by omega) (by omega), zw_id (by omega) (by omega)]; omega)]
          obtain ⟨v', p1, p2, p3⟩ := ih (j + 1) (-1) (by omega) (by omega) (fun _ => rfl) (fun z => absurd (Or.inr ⟨i, j, hij, hj', by omega, hl⟩) z)
          exact ⟨v', p1, p2, by rw [e57]; exact p3⟩
    have outer : ∀ (r i : Nat) (v : Int), i + r = nS g c → ((nS g c < 2 ∨ ∃ x y, x < y ∧ y < nS g c ∧ x < i ∧ (L x).length ≠ (L y).length) → v = -1) → (¬ (nS g c < 2 ∨ ∃ x y, x < y ∧ y < nS g c ∧ x < i ∧ (L x).length ≠ (L y).length) → isMn L (fun x y => x < y ∧ y < nS g c ∧ x < i) v) → zx zblk xs 54 25 [some (.inr (.inr (some pM))), some (.inl (c)), some (.inl (v)), some (.inl ((i : Int)))] [] (HH g1) = some (some (.inl (apV L (nS g c))), HH g1) := by
      intro r
      induction r with
      | zero =>
        intro i v hi b1 b2
        rw [e_M_apartOf_25, pM_r_speeches, pM_a_speeches xs _ (by omega) (by omega), e2, if_pos (by rw [zw_id (by omega) (by omega), zw_id (by omega) (by omega)]; omega), e_M_apartOf_192, apV_eq (v := v)]
        constructor
        · rintro (z | ⟨k, hk, z⟩)
          · exact b1 (Or.inl z)
          · refine b1 (Or.inr ⟨0, k, ?_, hk, by omega, fun w => z w.symm⟩)
            by_cases k0 : k = 0
            · subst k0; exact absurd rfl z
            · omega
        · intro h2 hle
          have b := b2 (by
            rintro (z | ⟨x, y, z1, z2, z3, z4⟩)
            · omega
            · exact z4 ((hle x (by omega)).trans (hle y z2).symm))
          have h01 : (L 0).length = (L 1).length := (hle 1 (by omega)).symm
          have hd01 := dif_eq_rg h01 (by have := (hr 1 (by omega)).1; omega)
          have hb01 := b.2 0 1 ⟨by omega, by omega, by omega⟩
          refine ⟨?_, fun x y c d => b.2 x y ⟨c, d, by omega⟩⟩
          rcases b.1 with w | ⟨x, y, w, z⟩
          · omega
          · exact ⟨x, y, w.1, w.2.1, z⟩
      | succ r ih =>
        intro i v hi b1 b2
        have hi' : i < nS g c := by omega
        have hiff : (nS g c < 2 ∨ ∃ x y, x < y ∧ y < nS g c ∧ (x < i ∨ (x = i ∧ y < i + 1)) ∧ (L x).length ≠ (L y).length) ↔ (nS g c < 2 ∨ ∃ x y, x < y ∧ y < nS g c ∧ x < i ∧ (L x).length ≠ (L y).length) := by
          constructor
          · rintro (z | ⟨x, y, z1, z2, z3, z4⟩)
            · exact Or.inl z
            · exact Or.inr ⟨x, y, z1, z2, by omega, z4⟩
          · rintro (z | ⟨x, y, z1, z2, z3, z4⟩)
            · exact Or.inl z
            · exact Or.inr ⟨x, y, z1, z2, by omega, z4⟩
        obtain ⟨v', p1, p2, p3⟩ := inner i hi' (nS g c - (i + 1)) (i + 1) v (by omega) (by omega) (fun z => b1 (hiff.mp z)) (fun z => by
          have b := b2 (fun w => z (hiff.mpr w))
          refine ⟨?_, fun x y hxy => b.2 x y ⟨hxy.1, hxy.2.1, by omega⟩⟩
          rcases b.1 with w | ⟨x, y, w1, w2⟩
          · exact Or.inl w
          · exact Or.inr ⟨x, y, ⟨w1.1, w1.2.1, by omega⟩, w2⟩)
        rw [e_M_apartOf_25, pM_r_speeches, pM_a_speeches xs _ (by omega) (by omega), e2, if_neg (by rw [zw_id (by omega) (by omega), zw_id (by omega) (by omega)]; omega), ← Int.natCast_succ, p3, e_M_apartOf_186, ← Int.natCast_succ]
        exact ih (i + 1) v' (by omega) p1 p2
    have h0 := outer (nS g c) 0 (if 2 ≤ nS g c then 1000000 else -1) (by omega) (by
      rintro (z | ⟨x, y, z1, z2, z3, z4⟩)
      · rw [if_neg (by omega)]
      · omega) (fun z => by
      rw [if_pos (by
        by_cases w : nS g c < 2
        · exact absurd (Or.inl w) z
        · omega)]
      exact ⟨Or.inl rfl, fun x y hxy => by omega⟩)
    rw [z0N] at h0
    exact h0
  rw [e_M_apartOf_0, pM_ck, q1, zcv_ok, pM_r_speeches, pM_a_speeches xs _ (by omega) (by omega), e2, show zw 2 = 2 from rfl, zw_id (a := g pM_speeches c) (by omega) (by omega), ← h25]
  by_cases z : 2 ≤ nS g c
  · rw [if_pos (by omega), if_pos z, e_M_apartOf_20]
  · rw [if_neg (by omega), if_neg z]
theorem M_apart (xs : List Int) {g : Nat → Int → Int} (hB : Bd g) {c : Int} (hc : zw c = c) : ∃ g1, zx zblk xs 55 0 [some (.inr (.inr (some pM))), some (.inl (c))] [] (HH g) = some (some (.inl (apS g c)), HH g1) ∧ zFr scM g g1 := by
  rw [e_M_apart_0, pM_ck, M_isCode' xs hB hc, zci_ok, zb_zw]
  unfold apS
  by_cases a : 0 ≤ c ∧ c < g pM 5
  · obtain ⟨g1, q1, q2⟩ := M_apartOf xs hB a
    refine ⟨g1, ?_, q2.mono (fun _ _ => scA_M)⟩
    rw [zb_t a, if_neg (by decide), if_pos a, pM_ck, q1, zci_ok, e_M_apart_18]
  · exact ⟨g, by rw [zb_f a, if_pos rfl, if_neg a, e_M_apart_16, e_M_apart_18], zFr.rf⟩
