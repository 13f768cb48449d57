/-! ===== shortest: the reference's call ===== -/
theorem M_short_many (xs : List Int) (h : zH) {r : Nat} (hr : 2 ≤ r) (hr8 : r ≤ 8) {n : Nat} (h1 : 1 ≤ n) (h8 : n ≤ 8) : ∃ p, p < r - 1 ∧ (n + p - 1) % (r - 1) = 0 ∧ zx zblk xs 52 5 [some (.inr (.inr (some pM))), some (.inl ((r : Int))), some (.inl ((n : Int)))] [] h = zx zblk xs 52 21 [some (.inr (.inr (some pM))), some (.inl ((r : Int))), some (.inl (((n + p : Nat) : Int)))] [] h := by
  have loop : ∀ (s v : Nat), 1 ≤ v → v ≤ 20 → ((s = 0 ∧ (v - 1) % (r - 1) = 0) ∨ (0 < (v - 1) % (r - 1) ∧ (v - 1) % (r - 1) + s = r - 1)) → v + s ≤ 20 → ∃ p, p ≤ s ∧ (v + p - 1) % (r - 1) = 0 ∧ zx zblk xs 52 5 [some (.inr (.inr (some pM))), some (.inl ((r : Int))), some (.inl ((v : Int)))] [] h = zx zblk xs 52 21 [some (.inr (.inr (some pM))), some (.inl ((r : Int))), some (.inl (((v + p : Nat) : Int)))] [] h := by
    intro s
    induction s with
    | zero =>
      intro v hv hv2 hs h20
      have hml := Nat.mod_lt (v - 1) (show r - 1 > 0 by omega)
      have h0 : (v - 1) % (r - 1) = 0 := by omega
      have ht : ((v : Int) - 1).tmod ((r : Int) - 1) = (((v - 1) % (r - 1) : Nat) : Int) := by
        rw [show ((v : Int) - 1) = ((v - 1 : Nat) : Int) by omega, show ((r : Int) - 1) = ((r - 1 : Nat) : Int) by omega]
        rfl
      refine ⟨0, Nat.le_refl _, by simpa using h0, ?_⟩
      rw [e_M_shortNow_5, zw_id (a := (r : Int) - 1) (by omega) (by omega), zw_id (a := (v : Int) - 1) (by omega) (by omega), if_neg (by omega), ht, h0, if_pos (by decide)]
      rfl
    | succ s ih =>
      intro v hv hv2 hs h20
      have hml := Nat.mod_lt (v - 1) (show r - 1 > 0 by omega)
      have h0 : 0 < (v - 1) % (r - 1) := by omega
      have ht : ((v : Int) - 1).tmod ((r : Int) - 1) = (((v - 1) % (r - 1) : Nat) : Int) := by
        rw [show ((v : Int) - 1) = ((v - 1 : Nat) : Int) by omega, show ((r : Int) - 1) = ((r - 1 : Nat) : Int) by omega]
        rfl
      obtain ⟨u1, u2⟩ := dg_up (r := r - 1) (x := v - 1) (by omega)
      obtain ⟨p, p1, p2, p3⟩ := ih (v + 1) (by omega) (by omega) (by
        rw [show v + 1 - 1 = v - 1 + 1 by omega]
        by_cases c : (v - 1) % (r - 1) + 1 < r - 1
        · right
          rw [(u1 c).1]
          omega
        · left
          rw [(u2 c).1]
          omega) (by omega)
      refine ⟨p + 1, by omega, by rw [show v + (p + 1) - 1 = v + 1 + p - 1 by omega]; exact p2, ?_⟩
      rw [e_M_shortNow_5, zw_id (a := (r : Int) - 1) (by omega) (by omega), zw_id (a := (v : Int) - 1) (by omega) (by omega), if_neg (by omega), ht, zw_id (by omega) (by omega), if_neg (by omega), ← Int.natCast_succ, show v + (p + 1) = v + 1 + p by omega]
      exact p3
  have hml := Nat.mod_lt (n - 1) (show r - 1 > 0 by omega)
  by_cases c : (n - 1) % (r - 1) = 0
  · obtain ⟨p, p1, p2, p3⟩ := loop 0 n h1 (by omega) (Or.inl ⟨rfl, c⟩) (by omega)
    exact ⟨p, by omega, p2, p3⟩
  · obtain ⟨p, p1, p2, p3⟩ := loop (r - 1 - (n - 1) % (r - 1)) n h1 (by omega) (Or.inr ⟨by omega, by omega⟩) (by omega)
    exact ⟨p, by omega, p2, p3⟩
theorem M_short_fill (xs : List Int) {g : Nat → Int → Int} (hB : Bd g) (r : Int) {m : Nat} (hm : m ≤ 16) : ∃ g1, zx zblk xs 52 23 [some (.inr (.inr (some pM))), some (.inl (r)), some (.inl ((m : Int))), some (.inl (0))] [] (HH g) = zx zblk xs 52 58 [some (.inr (.inr (some pM))), some (.inl (r)), some (.inl ((m : Int)))] [] (HH g1) ∧ (∀ j : Nat, j < m → g1 pM_heap j = if (j : Int) < g pM 10 then g pM_weights j else 0) ∧ zFr (fun q _ => q = pM_heap) g g1 := by
  obtain ⟨-, -, -, q10, -⟩ := id hB.1
  have loop : ∀ (s k : Nat) (gk : Nat → Int → Int), k + s = m → (∀ j : Nat, j < k → gk pM_heap j = if (j : Int) < g pM 10 then g pM_weights j else 0) → zFr (fun q _ => q = pM_heap) g gk → ∃ g1, zx zblk xs 52 23 [some (.inr (.inr (some pM))), some (.inl (r)), some (.inl ((m : Int))), some (.inl ((k : Int)))] [] (HH gk) = zx zblk xs 52 58 [some (.inr (.inr (some pM))), some (.inl (r)), some (.inl ((m : Int)))] [] (HH g1) ∧ (∀ j : Nat, j < m → g1 pM_heap j = if (j : Int) < g pM 10 then g pM_weights j else 0) ∧ zFr (fun q _ => q = pM_heap) g g1 := by
    intro s
    induction s with
    | zero =>
      intro k gk hk hj hf
      have : k = m := by omega
      subst this
      refine ⟨gk, ?_, hj, hf⟩
      rw [e_M_shortNow_23, if_pos (Int.le_refl _)]
    | succ s ih =>
      intro k gk hk hj hf
      have k10 : gk pM 10 = g pM 10 := hf pM 10 (by decide)
      have kw : gk pM_weights = g pM_weights := hf.at (fun j => by decide)
      have hst : zx zblk xs 52 23 [some (.inr (.inr (some pM))), some (.inl (r)), some (.inl ((m : Int))), some (.inl ((k : Int)))] [] (HH gk) = zx zblk xs 52 23 [some (.inr (.inr (some pM))), some (.inl (r)), some (.inl ((m : Int))), some (.inl (((k + 1 : Nat) : Int)))] [] (HH (up gk pM_heap k (if (k : Int) < g pM 10 then g pM_weights k else 0))) := by
        rw [e_M_shortNow_23, if_neg (by rw [zw_id (by omega) (by omega), zw_id (by omega) (by omega)]; omega), pM_r_heap, pM_g_things, k10, zw_id (by omega) (by omega), zw_id (by omega) (by omega)]
        by_cases c : (k : Int) < g pM 10
        · rw [if_neg (by omega), pM_r_weights, pM_a_weights xs _ (by omega) (by omega), kw, e_M_shortNow_51, pM_s_heap _ _ (by omega) (by omega), if_pos c, Int.natCast_succ]
        · rw [if_pos (by omega), e_M_shortNow_50, e_M_shortNow_51, pM_s_heap _ _ (by omega) (by omega), if_neg c, Int.natCast_succ]
      obtain ⟨g1, q1, q2, q3⟩ := ih (k + 1) _ (by omega) (fun j hj' => by
        by_cases e : j = k
        · subst e; exact up_same _ _ _ _
        · rw [up_ne _ _ (fun z => by omega)]; exact hj j (by omega)) (hf.up rfl)
      exact ⟨g1, hst.trans q1, q2, q3⟩
  obtain ⟨g1, q1, q2, q3⟩ := loop m 0 g (by omega) (fun j hj => by omega) zFr.rf
  rw [z0N] at q1
  exact ⟨g1, q1, q2, q3⟩
theorem zLi_app (f : Nat → Int) (a : Nat) : ∀ b, zLi f (a + b) = zLi f a ++ zLi (fun k => f (a + k)) b
  | 0 => by rw [zLi_0, List.append_nil]; rfl
  | b + 1 => by rw [← Nat.add_assoc, zLi_snoc, zLi_snoc, zLi_app f a b, List.append_assoc]
theorem zLi_rep (c : Int) : ∀ b, zLi (fun _ => c) b = List.replicate b c
  | 0 => rfl
  | b + 1 => by rw [zLi_snoc, zLi_rep c b, List.replicate_succ']
theorem M_shortNow (xs : List Int) {g : Nat → Int → Int} (hB : Bd g) (h10 : g pM 10 ≠ 0) {r : Nat} (hr : 2 ≤ r) (hr8 : r ≤ 8) : ∃ g1, zx zblk xs 52 0 [some (.inr (.inr (some pM))), some (.inl ((r : Int)))] [] (HH g) = some (some (.inl (shO g r)), HH g1) ∧ zFr scM g g1 := by
  obtain ⟨-, -, -, q10, -⟩ := id hB.1
  have hwl := wL_len hB.1
  obtain ⟨hok, hpos⟩ := wL_ok hB
  obtain ⟨n, hn⟩ : ∃ n : Nat, g pM 10 = n := ⟨(g pM 10).toNat, by omega⟩
  have hln : (wL g).length = n := by omega
  obtain ⟨p, p1, p2, p3⟩ := M_short_many xs (HH g) hr hr8 (n := n) (by omega) (by omega)
  obtain ⟨ga, a1, a2, a3⟩ := M_short_fill xs hB (r : Int) (m := n + p) (by omega)
  have hAL : AL (ga pM_heap) (n + p) = wL g ++ List.replicate p 0 := by
    have h1 : zLi (fun k => ga pM_heap k) (n + p) = wL g ++ List.replicate p 0 := by
      rw [zLi_app, ← zLi_rep]
      congr 1
      · unfold wL
        rw [hn]
        exact zLi_cg (fun k hk => by rw [a2 k (by omega), if_pos (by omega)])
      · exact zLi_cg (fun k hk => by
          have := a2 (n + k) (by omega)
          rw [if_neg (by omega)] at this
          exact this)
    unfold AL
    rw [h1, List.filter_eq_self.mpr]
    intro v hv
    rcases List.mem_append.mp hv with hv | hv
    · have := hpos v hv
      exact decide_eq_true (by omega)
    · rw [List.eq_of_mem_replicate hv]
      rfl
  have hpp : (wL g ++ List.replicate p 0).Perm (List.replicate p 0 ++ wL g) := List.perm_append_comm
  have hz : ∀ k : Nat, lsum (List.replicate k 0) = 0 := fun k => by
    induction k with
    | zero => rfl
    | succ k ih => rw [List.replicate_succ, lsum, ih]; rfl
  have hok2 : okL (wL g ++ List.replicate p 0) := by
    refine ⟨fun v hv => ?_, ?_⟩
    · rcases List.mem_append.mp hv with hv | hv
      · exact hok.1 v hv
      · rw [List.eq_of_mem_replicate hv]; exact Int.le_refl _
    · rw [lsum_app, hz]
      have := hok.2
      omega
  have hlen : (wL g ++ List.replicate p 0).length = n + p := by rw [List.length_append, List.length_replicate, hln]
  have hdm := Nat.div_add_mod (n + p - 1) (r - 1)
  rw [p2, Nat.add_zero] at hdm
  have hq8 : (n + p - 1) / (r - 1) ≤ 8 := by
    refine Nat.le_of_not_lt (fun z => ?_)
    have := Nat.mul_le_mul_left (r - 1) (show 9 ≤ (n + p - 1) / (r - 1) from z)
    omega
  obtain ⟨g1, b1, b2⟩ := M_short_loop xs (m := n + p) (by omega) hr hr8 ((n + p - 1) / (r - 1)) 8 ga (wL g ++ List.replicate p 0) 0 hq8 (fun j hj => by
    rw [a2 j hj]
    split
    · have := hB.2.2.2.2.1 j (by omega) (by omega)
      omega
    · omega) (by rw [hAL]) hok2 (by rw [hlen, hdm]; omega) (by rw [hlen]; exact Nat.le_refl _)
  refine ⟨g1, ?_, (a3.mono (fun q j z => z ▸ scM_heap j)).tr (b2.mono (fun q j z => z ▸ scM_heap j))⟩
  rw [hlen, Int.zero_add] at b1
  rw [e_M_shortNow_0, pM_g_things, hn]
  refine Eq.trans p3 ?_
  rw [e_M_shortNow_21]
  refine Eq.trans a1 ?_
  rw [e_M_shortNow_58]
  refine Eq.trans b1 ?_
  have hv : hfS r 8 r (wL g ++ List.replicate p 0) = shO g r := by
    unfold shO
    by_cases c : 2 ≤ (wL g).length
    · have hmm := Nat.div_add_mod (n - 2) (r - 1)
      have hml := Nat.mod_lt (n - 2) (show r - 1 > 0 by omega)
      have hrp : r - p = 2 + ((wL g).length - 2) % (r - 1) := by
        rw [hln]
        have e1 : n + p - 1 = (r - 1) * ((n - 2) / (r - 1)) + ((n - 2) % (r - 1) + p + 1) := by omega
        rw [e1, Nat.mul_add_mod] at p2
        by_cases d : (n - 2) % (r - 1) + p + 1 < r - 1
        · rw [Nat.mod_eq_of_lt d] at p2
          omega
        · rw [Nat.mod_eq_sub_mod (by omega), Nat.mod_eq_of_lt (by omega)] at p2
          omega
      rw [hfS_perm r 8 r hpp, hfS_pad hpos c (by omega), hrp]
    · have hp0 : p = 0 := by
        have : n = 1 := by omega
        subst this
        rw [show 1 + p - 1 = p by omega, Nat.mod_eq_of_lt p1] at p2
        exact p2
      rw [hp0, List.replicate_zero, List.append_nil, hfS, if_pos (by omega), hfS, if_pos (by omega)]
  rw [hv]
theorem M_shortest (xs : List Int) {g : Nat → Int → Int} (hB : Bd g) {r p : Int} (hr : zw r = r) (hp : zw p = p) : ∃ g1, zx zblk xs 53 0 [some (.inr (.inr (some pM))), some (.inl (r)), some (.inl (p))] [] (HH g) = some (some (.inl (shS g r p)), HH g1) ∧ zFr scM g g1 := by
  obtain ⟨-, -, -, q10, -⟩ := id hB.1
  have e21 : zx zblk xs 53 21 [] [] (HH g) = some (some (.inl (-102)), HH g) := e_M_shortest_21 xs _
  rw [e_M_shortest_0, M_in' xs _ hr rfl rfl, zci_ok, zb_zw]
  unfold shS
  by_cases a : 2 ≤ r ∧ r ≤ 8
  · rw [zb_t a, if_neg (by decide), M_isPart' xs _ hp, zci_ok, zb_zw]
    by_cases b : p = 0 ∨ p = 1
    · obtain ⟨r, rfl⟩ : ∃ r' : Nat, r = r' := ⟨r.toNat, by omega⟩
      rw [zb_t b, if_pos (by decide), if_pos ⟨a, b⟩, e_M_shortest_24, pM_g_things, zw_id (by omega) (by omega)]
      by_cases c : g pM 10 = 0
      · exact ⟨g, by rw [if_neg (fun z => z c), if_pos c], zFr.rf⟩
      · obtain ⟨g1, q1, q2⟩ := M_shortNow xs hB c (r := r) (by omega) (by omega)
        have e1 := es_scM q2
        have hB1 := es_Bd e1 hB
        have k10 : g1 pM 10 = g pM 10 := (es_all e1).2.2.2.2.2.2.2.2.2.2.2.1
        have kw : g1 pM_weights = g pM_weights := (es_all e1).2.2.2.2.1
        have hws := wsum_rg hB (n := g pM 10) (by omega) (by omega)
        have hrg := hfS_rg r 8 (2 + ((wL g).length - 2) % (r - 1)) (wL_ok hB).1
        have hsh : 0 ≤ shO g r ∧ shO g r ≤ 6400 := by unfold shO; omega
        have ht := M_term xs (HH g1) (a := (shO g r).toNat) (b := (wsum g (g pM 10)).toNat) hp (by omega) (by omega) (by omega)
        rw [Int.toNat_of_nonneg hsh.1, Int.toNat_of_nonneg (by omega)] at ht
        have hwd := M_weighed xs hB1 (g pM 10).toNat (by omega)
        rw [Int.toNat_of_nonneg q10.1, kw] at hwd
        have hwd' : zx zblk xs 44 0 [some (.inr (.inr (some pM))), some (.inl ((g pM 10)))] [] (HH g1) = some (some (.inl (wsum g (g pM 10))), HH g1) := hwd
        refine ⟨g1, ?_, q2⟩
        rw [if_pos c, if_neg c, e_M_shortest_34, pM_ck, q1, zci_ok, pM_g_things, k10, pM_ck, hwd', zci_ok, zw_id (a := shO g r) (by omega) (by omega), zw_id (a := wsum g (g pM 10)) (by omega) (by omega), ht, zcl_ok']
        rfl
    · exact ⟨g, by rw [zb_f b, if_neg (by decide), e21, if_neg (fun z => b z.2)], zFr.rf⟩
  · exact ⟨g, by rw [zb_f a, if_pos rfl, e21, if_neg (fun z => a z.1)], zFr.rf⟩
theorem op_shortest (xs : List Int) {g : Nat → Int → Int} (hI : Inv g) {r p : Int} (hr : zw r = r) (hp : zw p = p) : zOp xs (fun h => zx zblk xs 152 0 [some (.inr (.inr (some pX))), some (.inl (r)), some (.inl (p))] [] h) (fun h => zx zblk xs 53 0 [some (.inr (.inr (some pM))), some (.inl (r)), some (.inl (p))] [] h) (fun v => .inl v) g := op_q (val := fun v => .inl v) (sp := fun G => shS G r p) (fun g hI => X_shortest xs hI.1 hI.2 hr hp) (fun g hB => M_shortest xs hB hr hp) (fun g1 g h => by rw [es_shS h]) hI
