/-! ===== twice: the reference ===== -/
theorem agr_iff {L : Nat → List Int} {j f k : Nat} : agr L j f k ↔ ((L j).drop f).take (min ((L j).length - f) (L k).length) = (L k).take (min ((L j).length - f) (L k).length) := by
  unfold agr
  have hl : ((L j).drop f).length = (L j).length - f := List.length_drop
  by_cases c : (L j).length - f ≤ (L k).length
  · rw [Nat.min_eq_left c, List.take_of_length_le (l := (L j).drop f) (by omega), List.take_of_length_le (l := (L j).drop f) (by omega)]
  · rw [Nat.min_eq_right (by omega), List.take_of_length_le (l := L k) (by omega), List.take_of_length_le (l := L k) (by omega)]
theorem M_goesOn (xs : List Int) {g : Nat → Int → Int} {L : Nat → List Int} {n j f k : Nat} (hR : rdy g L n) (hj : j < n) (hk : k < n) (hf : f ≤ (L j).length) [Decidable (agr L j f k)] : zx zblk xs 35 0 [some (.inr (.inr (some pM))), some (.inl ((j : Int))), some (.inl ((f : Int))), some (.inl ((k : Int)))] [] (HH g) = some (some (.inl (zb (agr L j f k))), HH g) := by
  obtain ⟨hall, hn, hr⟩ := id hR
  have lj := (hr j hj).1
  have lk := (hr k hk).1
  have aj := (hall j hj).1
  have ak := (hall k hk).1
  have hdl : ((L j).drop f).length = (L j).length - f := List.length_drop
  have loop : ∀ (r x : Nat), x + r = min ((L j).length - f) (L k).length → ((L j).drop f).take x = (L k).take x → zx zblk xs 35 49 [some (.inr (.inr (some pM))), some (.inl ((j : Int))), some (.inl ((f : Int))), some (.inl ((k : Int))), none, some (.inl (((min ((L j).length - f) (L k).length : Nat) : Int))), some (.inl (1)), some (.inl ((x : Int)))] [] (HH g) = some (some (.inl (zb (agr L j f k))), HH g) := by
    intro r
    induction r with
    | zero =>
      intro x hx ht
      have : x = min ((L j).length - f) (L k).length := by omega
      rw [e_M_goesOn_49, if_pos (by rw [zw_id (by omega) (by omega), zw_id (by omega) (by omega)]; omega), e_M_goesOn_107, if_pos (Or.inr rfl), zb_t (agr_iff.mpr (this ▸ ht))]
    | succ r ih =>
      intro x hx ht
      have h1 := isAll_get hall hj (k := f + x) (by omega)
      have h2 := isAll_get hall hk (k := x) (by omega)
      have v1 := isR7_get (hr j hj).2 (k := f + x) (by omega)
      have v2 := isR7_get (hr k hk).2 (k := x) (by omega)
      have hd : ((L j).drop f)[x]'(by omega) = (L j)[f + x]'(by omega) := List.getElem_drop
      have hts := take_succ_eq (A := (L j).drop f) (B := L k) (k := x) (by omega) (by omega)
      rw [e_M_goesOn_49, if_neg (by rw [zw_id (by omega) (by omega), zw_id (by omega) (by omega)]; omega), if_neg (by decide), pM_r_plains, pM_a_plains xs _ (by omega) (by omega), pM_r_plains, pM_a_plains xs _ (by omega) (by omega), show 11 * (j : Int) + 1 + f + x = 11 * j + 1 + ((f + x : Nat) : Int) by omega, h1, h2, zw_id (by omega) (by omega), zw_id (by omega) (by omega)]
      by_cases c : (L j)[f + x]'(by omega) = (L k)[x]'(by omega)
      · rw [if_neg (fun z => z c), e_M_goesOn_99, ← Int.natCast_succ]
        exact ih (x + 1) (by omega) (hts.mpr ⟨ht, by rw [hd]; exact c⟩)
      · have hna : ¬ agr L j f k := fun z => by
          have h3 := agr_iff.mp z
          have h4 := congrArg (fun l : List Int => l.take (x + 1)) h3
          simp only [List.take_take] at h4
          rw [Nat.min_eq_left (by omega)] at h4
          have := (hts.mp h4).2
          rw [hd] at this
          exact c this
        have e49 : ∀ v : Int, zx zblk xs 35 49 [some (.inr (.inr (some pM))), some (.inl ((j : Int))), some (.inl ((f : Int))), some (.inl ((k : Int))), none, some (.inl (((min ((L j).length - f) (L k).length : Nat) : Int))), some (.inl (0)), some (.inl (v))] [] (HH g) = some (some (.inl 0), HH g) := fun v => by
          have e107 : zx zblk xs 35 107 [none, none, none, none, none, none, some (.inl (0))] [] (HH g) = some (some (.inl 0), HH g) := by rw [e_M_goesOn_107, if_pos (Or.inl rfl)]
          rw [e_M_goesOn_49, if_pos (show zw 0 = 0 from rfl), e107]
          split <;> rfl
        rw [if_pos c, e_M_goesOn_98, e_M_goesOn_99, e49, zb_f hna]
  have h0 := loop (min ((L j).length - f) (L k).length) 0 (by omega) rfl
  rw [z0N] at h0
  rw [e_M_goesOn_0, pM_r_plains, pM_a_plains xs _ (by omega) (by omega), pM_r_plains, pM_a_plains xs _ (by omega) (by omega), aj, ak, zw_id (by omega) (by omega), zw_id (by omega) (by omega)]
  by_cases c : (L j).length - f < (L k).length
  · rw [if_neg (by omega), e_M_goesOn_41, show ((L j).length : Int) - f = ((min ((L j).length - f) (L k).length : Nat) : Int) by omega]
    exact h0
  · rw [if_pos (by omega), e_M_goesOn_32, pM_r_plains, pM_a_plains xs _ (by omega) (by omega), ak, e_M_goesOn_41, show ((L k).length : Int) = ((min ((L j).length - f) (L k).length : Nat) : Int) by omega]
    exact h0
/-- the reference's tables say what is found -/
def RpM (g : Nat → Int → Int) (s : zFd) : Prop := (∀ j f : Nat, j < 8 → f < 11 → g pM_ahead (11 * j + f) = s.1 j f) ∧ g pM 16 = s.2
def scT (q : Nat) (j : Int) : Prop := q = pM_ahead ∨ (q = pM ∧ j = 16)
theorem rdy_T {g g1 : Nat → Int → Int} {L : Nat → List Int} {n : Nat} (h : rdy g L n) (hf : zFr scT g g1) : rdy g1 L n := rdy_fr h (hf.at (fun j => by simp only [scT, pM, pM_page, pM_readRows, pM_speeches, pM_rows, pM_signalRows, pM_weights, pM_plain, pM_plains, pM_ahead, pM_heap, pM_noteRows, pM_ways, pM_before, pM_keptWeights, pM_keptRows, pX, pX_signals, pX_weights, pX_codes, pX_page, pX_notes, pX_keptWeights, pX_keptNotes, pX_said, pX_heard, pX_pool, pX_struck, pX_readings]; omega))
theorem M_reach_end (xs : List Int) {g : Nat → Int → Int} {L : Nat → List Int} {n j : Nat} (hR : rdy g L n) (hj : j < n) {s : zFd} (hs : RpM g s) {v : Int} (hv : 0 ≤ v ∧ v ≤ 2000000) (h2 : 0 ≤ s.2 ∧ s.2 ≤ 1000000) : ∃ g1, zx zblk xs 36 0 [some (.inr (.inr (some pM))), some (.inl ((j : Int))), some (.inl (((L j).length : Int))), some (.inl (v))] [] (HH g) = some (some (.inl 0), HH g1) ∧ RpM g1 (s.1, if v < s.2 then v else s.2) ∧ zFr scT g g1 := by
  obtain ⟨hall, hn, hr⟩ := id hR
  have lj := (hr j hj).1
  have aj := (hall j hj).1
  have e30 : ∀ w : Int, zx zblk xs 36 30 [] [.inl w, .inr (.inr (some pM))] (HH g) = some (some (.inl 0), HH (up g pM 16 w)) := fun w => by
    rw [e_M_reach_30, pM_p_least, if_pos (Or.inl rfl)]
  refine ⟨up g pM 16 (if v < s.2 then v else s.2), ?_, ⟨fun j f h1 h2 => by rw [up_q (by decide)]; exact hs.1 j f h1 h2, up_same _ _ _ _⟩, zFr.rf.up (Or.inr ⟨rfl, rfl⟩)⟩
  rw [e_M_reach_0, pM_r_plains, pM_a_plains xs _ (by omega) (by omega), aj, if_neg (fun z => z rfl), pM_g_least, hs.2, zw_id (by omega) (by omega), zw_id (by omega) (by omega)]
  by_cases c : v < s.2
  · rw [if_neg (by omega), e30, if_pos c]
  · rw [if_pos (by omega), e_M_reach_26, pM_g_least, hs.2, e30, if_neg c]
theorem M_reach_on (xs : List Int) {g : Nat → Int → Int} {L : Nat → List Int} {n j f : Nat} (hR : rdy g L n) (hj : j < n) (hf : f < (L j).length) {s : zFd} (hs : RpM g s) {v : Int} (hv : 0 ≤ v ∧ v ≤ 2000000) (h2 : 0 ≤ s.1 j f ∧ s.1 j f ≤ 1000000) : ∃ g1, zx zblk xs 36 0 [some (.inr (.inr (some pM))), some (.inl ((j : Int))), some (.inl ((f : Int))), some (.inl (v))] [] (HH g) = some (some (.inl (zb (v < s.1 j f))), HH g1) ∧ RpM g1 (rlx s j f v) ∧ zFr scT g g1 := by
  obtain ⟨hall, hn, hr⟩ := id hR
  have lj := (hr j hj).1
  have aj := (hall j hj).1
  have ha := hs.1 j f (by omega) (by omega)
  refine ⟨up g pM_ahead (11 * j + f) (if v < s.1 j f then v else s.1 j f), ?_, ⟨fun j' f' h1 h2 => ?_, by rw [up_q (by decide)]; exact hs.2⟩, zFr.rf.up (Or.inl rfl)⟩
  · rw [e_M_reach_0, pM_r_plains, pM_a_plains xs _ (by omega) (by omega), aj, if_pos (by rw [zw_id (by omega) (by omega), zw_id (by omega) (by omega)]; omega), e_M_reach_35, pM_r_ahead, pM_a_ahead xs _ (by omega) (by omega), ha, zw_id (by omega) (by omega), zw_id (by omega) (by omega)]
    by_cases c : v < s.1 j f
    · rw [if_neg (by omega), e_M_reach_55, pM_r_ahead, if_neg (by decide), e_M_reach_87, pM_s_ahead _ _ (by omega) (by omega), if_pos (Or.inr rfl), if_pos c, zb_t c]
    · rw [if_pos (by omega), e_M_reach_54, e_M_reach_55, pM_r_ahead, if_pos (show zw 0 = 0 from rfl), e_M_reach_76, pM_r_ahead, pM_a_ahead xs _ (by omega) (by omega), ha, e_M_reach_87, pM_s_ahead _ _ (by omega) (by omega), if_pos (Or.inl rfl), if_neg c, zb_f c]
  · show _ = if j' = j ∧ f' = f ∧ v < s.1 j f then v else s.1 j' f'
    by_cases e : j' = j ∧ f' = f
    · rw [e.1, e.2, up_same]
      by_cases c : v < s.1 j f
      · rw [if_pos c, if_pos ⟨rfl, rfl, c⟩]
      · rw [if_neg c, if_neg (fun z => c z.2.2)]
    · rw [up_ne _ _ (fun z => e (by omega)), if_neg (fun z => e ⟨z.1, z.2.1⟩)]
      exact hs.1 j' f' h1 h2
theorem M_reachBy (xs : List Int) {g : Nat → Int → Int} {L : Nat → List Int} {n j f k : Nat} (hR : rdy g L n) (hj : j < n) (hk : k < n) (hf : f < (L j).length) {s : zFd} (hs : RpM g s) (hok : okF L n s) (h0 : 0 < (L k).length) (ha : agr L j f k) {v : Int} (hv : 0 ≤ v ∧ v ≤ 1000000) : ∃ g1, zx zblk xs 37 0 [some (.inr (.inr (some pM))), some (.inl ((j : Int))), some (.inl ((f : Int))), some (.inl ((k : Int))), some (.inl (v))] [] (HH g) = some (some (.inl (mtF L s j f k v).2), HH g1) ∧ RpM g1 (mtF L s j f k v).1 ∧ zFr scT g g1 := by
  obtain ⟨hall, hn, hr⟩ := id hR
  have lj := (hr j hj).1
  have lk := (hr k hk).1
  have aj := (hall j hj).1
  have ak := (hall k hk).1
  unfold mtF
  simp only [@if_pos _ (zdc _) (⟨h0, ha⟩ : 0 < (L k).length ∧ agr L j f k)]
  rw [e_M_reachBy_0, pM_r_plains, pM_a_plains xs _ (by omega) (by omega), pM_r_plains, pM_a_plains xs _ (by omega) (by omega), aj, ak, zw_id (by omega) (by omega), zw_id (by omega) (by omega)]
  have e60 : ∀ (w : Int) (h : zH), (w = 0 ∨ w = 1) → zx zblk xs 37 60 [] [.inl w] h = some (some (.inl w), h) := fun w h hw => by rw [e_M_reachBy_60, if_pos hw]
  by_cases d : (L k).length = (L j).length - f
  · obtain ⟨g1, q1, q2, q3⟩ := M_reach_end xs hR hj hs (v := v) (by omega) ⟨hok.2.1, hok.2.2.1⟩
    refine ⟨g1, ?_, by simp only [if_pos d]; exact q2, q3⟩
    simp only [if_pos d]
    rw [if_neg (by omega), pM_ck, show (f : Int) + (L k).length = (L j).length by omega, q1, zci_ok, e60 _ _ (Or.inl rfl)]
  · by_cases e : (L k).length < (L j).length - f
    · obtain ⟨g1, q1, q2, q3⟩ := M_reach_on xs hR hj (f := f + (L k).length) (by omega) hs (v := v) (by omega) ⟨(hok.1 _ _).1, (hok.1 _ _).2.1⟩
      refine ⟨g1, ?_, by simp only [if_neg d, if_pos e]; exact q2, q3⟩
      simp only [if_neg d, if_pos e]
      rw [if_neg (by omega), pM_ck, show (f : Int) + (L k).length = ((f + (L k).length : Nat) : Int) by omega, q1, zci_ok, e60 _ _ (zb_01 _)]
    · obtain ⟨g1, q1, q2, q3⟩ := M_reach_on xs hR hk (f := (L j).length - f) (by omega) hs (v := v + (L k).length - ((L j).length - f : Nat)) (by omega) ⟨(hok.1 _ _).1, (hok.1 _ _).2.1⟩
      refine ⟨g1, ?_, by simp only [if_neg d, if_neg e]; exact q2, q3⟩
      simp only [if_neg d, if_neg e]
      rw [if_pos (by omega), e_M_reachBy_45, pM_ck, show ((L j).length : Int) - f = (((L j).length - f : Nat) : Int) by omega, q1, zci_ok, e60 _ _ (zb_01 _)]
