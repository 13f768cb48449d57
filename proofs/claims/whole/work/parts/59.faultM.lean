/-! ===== the reference's reading, and what it writes down ===== -/
/-- a row that stands in an array: its length, and behind it its numbers -/
def rwAt (f : Int → Int) (i : Nat) (l : List Int) : Prop := f (6 * (i : Int)) = l.length ∧ ∀ (j : Nat) (hj : j < l.length), f (6 * (i : Int) + 1 + j) = l[j]
/-- the speeches of the first k letters: those that are done and the one that goes on -/
def rdF (f : Nat → Int) : Nat → List (List Int) × List Int
  | 0 => ([], [])
  | k + 1 => if f k = 44 then ((rdF f k).1 ++ [(rdF f k).2], []) else ((rdF f k).1, (rdF f k).2 ++ [f k - 97])
def rdI (g : Nat → Int → Int) (D : List (List Int)) (C : List Int) : Prop := (∀ (i : Nat) (hi : i < D.length), D[i].length ≤ 5 ∧ rwAt (g pM_readRows) i D[i]) ∧ (C ≠ [] → rwAt (g pM_readRows) D.length C)
theorem rwAt_up {f : Int → Int} {f' : Int → Int} {i : Nat} {l : List Int} (hl : l.length ≤ 5) (h : rwAt f i l) (e : ∀ j : Int, 6 * (i : Int) ≤ j → j ≤ 6 * i + 5 → f' j = f j) : rwAt f' i l := by
  refine ⟨by rw [e _ (by omega) (by omega)]; exact h.1, fun j hj => ?_⟩
  rw [e _ (by omega) (by omega)]
  exact h.2 j hj
theorem M_faultOf (xs : List Int) {g : Nat → Int → Int} (hB : Bd g) : ∃ g1, zx zblk xs 6 0 [some (.inr (.inr (some pM)))] [] (HH g) = some (some (.inl ((ftS g).1 : Int)), HH g1) ∧ zFr scM g g1 ∧ ((ftS g).1 = (g pM 1).toNat → g1 pM 2 = (ftS g).2.1 ∧ g1 pM 3 = (ftS g).2.2 ∧ (ftS g).2.1 = ((rdF (fun k => g pM_page k) (g pM 1).toNat).1.length : Int) ∧ (ftS g).2.2 = ((rdF (fun k => g pM_page k) (g pM 1).toNat).2.length : Int) ∧ (ftS g).2.1 ≤ 7 ∧ (ftS g).2.2 ≤ 5 ∧ rdI g1 (rdF (fun k => g pM_page k) (g pM 1).toNat).1 (rdF (fun k => g pM_page k) (g pM 1).toNat).2) := by
  obtain ⟨⟨h0, h1⟩, -⟩ := id hB.1
  have loop : ∀ (r k : Nat) (gk : Nat → Int → Int) (c l : Int), (k : Int) + r = g pM 1 → gk pM 2 = c → gk pM 3 = l → c = ((rdF (fun k => g pM_page k) k).1.length : Int) → l = ((rdF (fun k => g pM_page k) k).2.length : Int) → c ≤ 7 → l ≤ 5 → rdI gk (rdF (fun k => g pM_page k) k).1 (rdF (fun k => g pM_page k) k).2 → zFr scM g gk → ∃ g1, zx zblk xs 6 12 [some (.inr (.inr (some pM))), some (.inl ((k : Int)))] [] (HH gk) = some (some (.inl ((ftF (fun k => g pM_page k) r k (c, l)).1 : Int)), HH g1) ∧ zFr scM g g1 ∧ ((ftF (fun k => g pM_page k) r k (c, l)).1 = k + r → g1 pM 2 = (ftF (fun k => g pM_page k) r k (c, l)).2.1 ∧ g1 pM 3 = (ftF (fun k => g pM_page k) r k (c, l)).2.2 ∧ (ftF (fun k => g pM_page k) r k (c, l)).2.1 = ((rdF (fun k => g pM_page k) (k + r)).1.length : Int) ∧ (ftF (fun k => g pM_page k) r k (c, l)).2.2 = ((rdF (fun k => g pM_page k) (k + r)).2.length : Int) ∧ (ftF (fun k => g pM_page k) r k (c, l)).2.1 ≤ 7 ∧ (ftF (fun k => g pM_page k) r k (c, l)).2.2 ≤ 5 ∧ rdI g1 (rdF (fun k => g pM_page k) (k + r)).1 (rdF (fun k => g pM_page k) (k + r)).2) := by
    intro r
    induction r with
    | zero =>
      intro k gk c l hk e2 e3 hc hl c7 l5 hI hf
      have k1 : gk pM 1 = g pM 1 := (es_all (es_scM hf)).2.2.2.2.2.2.2.2.1
      refine ⟨gk, ?_, hf, fun _ => ⟨e2, e3, hc, hl, c7, l5, hI⟩⟩
      rw [e_M_faultOf_12, pM_g_pageMany, k1, if_pos (by rw [zw_id (by omega) (by omega), zw_id (by omega) (by omega)]; omega), e_M_faultOf_39]
      rfl
    | succ r ih =>
      intro k gk c l hk e2 e3 hc hl c7 l5 hI hf
      have hee := es_all (es_scM hf)
      have k1 : gk pM 1 = g pM 1 := hee.2.2.2.2.2.2.2.2.1
      have kp : gk pM_page = g pM_page := hee.1
      have hpk := hB.2.1 k (by omega) (by omega)
      have hz : zw (g pM_page k) = g pM_page k := zw_id (by omega) (by omega)
      rw [e_M_faultOf_12, pM_g_pageMany, k1, if_neg (by rw [zw_id (by omega) (by omega), zw_id (by omega) (by omega)]; omega), pM_r_page, pM_a_page xs _ (by omega) (by omega), kp, pM_ck, show k + (r + 1) = k + 1 + r by omega]
      cases hst : ftStep (c, l) (g pM_page k) with
      | none =>
        obtain ⟨g1, q1, q2⟩ := M_go_bad xs gk hz e2 e3 (by omega) c7 (by omega) l5 hst
        refine ⟨g1, ?_, hf.tr q2, ?_⟩
        · rw [q1, zci_ok, if_pos (show zw 0 = 0 from rfl), e_M_faultOf_39, ftF_none hst]
        · rw [ftF_none hst]
          intro z
          simp at z
          omega
      | some s' =>
        rw [ftF_some hst]
        have hv := hst
        unfold ftStep at hv
        by_cases a : (97 ≤ g pM_page k ∧ g pM_page k ≤ 104) ∧ l < 5
        · rw [if_pos a] at hv
          have hs : s' = (c, l + 1) := (Option.some.inj hv).symm
          subst hs
          have hrd : rdF (fun k => g pM_page k) (k + 1) = ((rdF (fun k => g pM_page k) k).1, (rdF (fun k => g pM_page k) k).2 ++ [g pM_page k - 97]) := by
            rw [rdF, if_neg (by omega)]
          have hgo := M_go_letter xs gk a.1 e2 e3 (by omega) c7 (by omega) a.2
          have hsc : zFr scM g (up (up (up gk pM 3 (l + 1)) pM_readRows (6 * c) (l + 1)) pM_readRows (6 * c + (l + 1)) (g pM_page k - 97)) := ((hf.up scM_3).up (scM_readRows _)).up (scM_readRows _)
          have hrr : ∀ j : Int, j ≠ 6 * c → j ≠ 6 * c + (l + 1) → up (up (up gk pM 3 (l + 1)) pM_readRows (6 * c) (l + 1)) pM_readRows (6 * c + (l + 1)) (g pM_page k - 97) pM_readRows j = gk pM_readRows j := fun j j1 j2 => by rw [up_ne _ _ (fun z => j2 z.2), up_ne _ _ (fun z => j1 z.2), up_p _ _ _ (by decide)]
          have hr0 : up (up (up gk pM 3 (l + 1)) pM_readRows (6 * c) (l + 1)) pM_readRows (6 * c + (l + 1)) (g pM_page k - 97) pM_readRows (6 * c) = l + 1 := by rw [up_ne _ _ (fun z => by omega), up_same]
          have hr1 : up (up (up gk pM 3 (l + 1)) pM_readRows (6 * c) (l + 1)) pM_readRows (6 * c + (l + 1)) (g pM_page k - 97) pM_readRows (6 * c + (l + 1)) = g pM_page k - 97 := up_same _ _ _ _
          have hm2 : up (up (up gk pM 3 (l + 1)) pM_readRows (6 * c) (l + 1)) pM_readRows (6 * c + (l + 1)) (g pM_page k - 97) pM 2 = c := by rw [up_q (by decide), up_q (by decide), up_ne _ _ (by decide), e2]
          have hm3 : up (up (up gk pM 3 (l + 1)) pM_readRows (6 * c) (l + 1)) pM_readRows (6 * c + (l + 1)) (g pM_page k - 97) pM 3 = l + 1 := by rw [up_q (by decide), up_q (by decide), up_same]
          generalize up (up (up gk pM 3 (l + 1)) pM_readRows (6 * c) (l + 1)) pM_readRows (6 * c + (l + 1)) (g pM_page k - 97) = gn at hgo hsc hrr hr0 hr1 hm2 hm3
          obtain ⟨g1, q1, q2, q3⟩ := ih (k + 1) gn c (l + 1) (by omega) hm2 hm3 (by rw [hrd]; exact hc) (by rw [hrd, List.length_append]; simp only [List.length_singleton]; omega) c7 (by omega) (by
            rw [hrd]
            refine ⟨fun i (hi : i < (rdF (fun k => g pM_page k) k).1.length) => ⟨(hI.1 i hi).1, rwAt_up (hI.1 i hi).1 (hI.1 i hi).2 (fun j j0 j1 => hrr j (by omega) (by omega))⟩, fun _ => ⟨?_, fun j hj => ?_⟩⟩
            · rw [← hc, hr0, List.length_append]
              simp only [List.length_singleton]
              omega
            · rw [← hc]
              rw [List.length_append, List.length_singleton] at hj
              by_cases e : j = (rdF (fun k => g pM_page k) k).2.length
              · subst e
                rw [List.getElem_append_right (Nat.le_refl _)]
                simp only [Nat.sub_self, List.getElem_singleton]
                rw [show 6 * c + 1 + ((rdF (fun k => g pM_page k) k).2.length : Int) = 6 * c + (l + 1) by omega, hr1]
              · rw [List.getElem_append_left (by omega), hrr _ (by omega) (by omega)]
                have hne : (rdF (fun k => g pM_page k) k).2 ≠ [] := fun z => by rw [z] at hj e; simp at hj e; omega
                have := (hI.2 hne).2 j (by omega)
                rw [← hc] at this
                exact this) hsc
          refine ⟨g1, ?_, q2, q3⟩
          rw [hgo, zci_ok, if_neg (by decide), ← Int.natCast_succ]
          exact q1
        · rw [if_neg a] at hv
          by_cases b : g pM_page k = 44 ∧ 0 < l ∧ c < 7
          · rw [if_pos b] at hv
            have hs : s' = (c + 1, 0) := (Option.some.inj hv).symm
            subst hs
            have hrd : rdF (fun k => g pM_page k) (k + 1) = ((rdF (fun k => g pM_page k) k).1 ++ [(rdF (fun k => g pM_page k) k).2], []) := by
              rw [rdF, if_pos b.1]
            have hgo := M_go_comma xs gk e2 e3 (by omega) b.2.2 b.2.1 l5
            obtain ⟨g1, q1, q2, q3⟩ := ih (k + 1) (up (up gk pM 2 (c + 1)) pM 3 0) (c + 1) 0 (by omega) (by rw [up_ne _ _ (by decide), up_same]) (up_same _ _ _ _) (by rw [hrd, List.length_append]; simp only [List.length_singleton]; omega) (by rw [hrd]; rfl) (by omega) (by omega) (by
              rw [hrd]
              have hrr : up (up gk pM 2 (c + 1)) pM 3 0 pM_readRows = gk pM_readRows := by rw [up_p _ _ _ (by decide), up_p _ _ _ (by decide)]
              refine ⟨fun i hi => ?_, fun z => absurd rfl z⟩
              rw [hrr]
              rw [List.length_append, List.length_singleton] at hi
              by_cases e : i < (rdF (fun k => g pM_page k) k).1.length
              · rw [List.getElem_append_left e]
                exact hI.1 i e
              · have e' : i = (rdF (fun k => g pM_page k) k).1.length := by omega
                subst e'
                rw [List.getElem_append_right (Nat.le_refl _)]
                simp only [Nat.sub_self, List.getElem_singleton]
                exact ⟨by omega, hI.2 (fun z => by rw [z] at hl; simp at hl; omega)⟩) ((hf.up scM_2).up scM_3)
            refine ⟨g1, ?_, q2, q3⟩
            rw [b.1, hgo, zci_ok, if_neg (by decide), ← Int.natCast_succ]
            exact q1
          · rw [if_neg b] at hv
            exact absurd hv (by simp)
  obtain ⟨g1, q1, q2, q3⟩ := loop (g pM 1).toNat 0 (up (up g pM 2 0) pM 3 0) 0 0 (by omega) (by rw [up_ne _ _ (by decide), up_same]) (up_same _ _ _ _) rfl rfl (by omega) (by omega) ⟨fun i hi => absurd hi (by simp [rdF]), fun z => absurd rfl z⟩ ((zFr.rf.up scM_2).up scM_3)
  rw [Nat.zero_add] at q3
  refine ⟨g1, ?_, q2, q3⟩
  rw [e_M_faultOf_0, pM_p_readMany, pM_p_readLetters]
  exact q1
theorem M_fault (xs : List Int) {g : Nat → Int → Int} (hB : Bd g) : ∃ g1, zx zblk xs 7 0 [some (.inr (.inr (some pM)))] [] (HH g) = some (some (.inl ((ftS g).1 : Int)), HH g1) ∧ zFr scM g g1 := by
  obtain ⟨g1, q1, q2, -⟩ := M_faultOf xs hB
  exact ⟨g1, by rw [e_M_fault_0, pM_ck, q1, zci_ok], q2⟩
theorem op_fault (xs : List Int) {g : Nat → Int → Int} (hI : Inv g) : zOp xs (fun h => zx zblk xs 137 0 [some (.inr (.inr (some pX)))] [] h) (fun h => zx zblk xs 7 0 [some (.inr (.inr (some pM)))] [] h) (fun v => .inl v) g := op_q (val := fun v => .inl v) (sp := fun G => ((ftS G).1 : Int)) (fun g hI => ⟨g, X_fault xs hI.1 hI.2, zFr.rf⟩) (fun g hB => M_fault xs hB) (fun g1 g h => by rw [es_ftS h]) hI
