/-! ===== which, step: the loops ===== -/
def ntZ (G : Nat → Int → Int) (c th mv : Int) : Nat → Int := zall (fun n => G pM_noteRows (10 * (n : Int)) < th ∧ ntP G n = plS G 0 c ((G pM_noteRows (10 * (n : Int)) + mv) % th))
theorem ntZ_s (G : Nat → Int → Int) (c th mv : Int) (n : Nat) : ntZ G c th mv (n + 1) = if ntZ G c th mv n = 0 then 0 else if G pM_noteRows (10 * (n : Int)) < th ∧ ntP G n = plS G 0 c ((G pM_noteRows (10 * (n : Int)) + mv) % th) then 1 else 0 := rfl
theorem ntZ_zw (G : Nat → Int → Int) (c th mv : Int) (n : Nat) : zw (ntZ G c th mv n) = ntZ G c th mv n := zall_zw _ _
theorem ntA_01 (G : Nat → Int → Int) (c th mv : Int) : ntA G c th mv = 0 ∨ ntA G c th mv = 1 := zall_01 _ _
theorem M_whichNow (xs : List Int) {g : Nat → Int → Int} (hB : Bd g) : ∃ g1, zx zblk xs 62 0 [some (.inr (.inr (some pM)))] [] (HH g) = some (some (.inl (whS g)), HH g1) ∧ zFr scA g g1 := by
  obtain ⟨hQ, -, hC, hS, -⟩ := id hB
  obtain ⟨-, ⟨hc0, hc1⟩, -, -, ⟨hn0, hn1⟩⟩ := id hQ
  have inner : ∀ (c : Nat) (v1 : Int) (g0 : Nat → Int → Int), (c : Int) < g pM 5 → zFr scA g g0 → rdy g0 (fun i => plS g 0 c i) (nS g c) → ∀ (r n : Nat) (gk : Nat → Int → Int), (n : Int) + r = g pM 18 → zFr scP g0 gk → ∃ g1, zx zblk xs 62 23 [some (.inr (.inr (some pM))), some (.inl (v1)), some (.inl ((c : Int))), some (.inl (ntZ g c (nS g c) 0 n)), some (.inl ((n : Int)))] [] (HH gk) = zx zblk xs 62 68 [some (.inr (.inr (some pM))), some (.inl (v1)), some (.inl ((c : Int))), some (.inl (ntA g c (nS g c) 0))] [] (HH g1) ∧ zFr scA g g1 := by
    intro c v1 g0 hc hf0 hr0 r
    have a : 0 ≤ (c : Int) ∧ (c : Int) < g pM 5 := by omega
    have hnn := nS_rg hB a
    induction r with
    | zero =>
      intro n gk hn hf
      have hee := scA_es (hf0.tr (hf.mono (fun _ _ => scP_A)))
      have e13 : gk pM 18 = g pM 18 := by obtain ⟨e1, e2, e3, e4, e5, e6, e7, e8, e9, e10, e11, e12, e13, e14, e15⟩ := es_all hee; exact e13
      refine ⟨gk, ?_, hf0.tr (hf.mono (fun _ _ => scP_A))⟩
      rw [e_M_whichNow_23, pM_g_notes, e13, if_pos (by rw [zw_id (by omega) (by omega), zw_id (by omega) (by omega)]; omega)]
      rw [show ntA g c (nS g c) 0 = ntZ g c (nS g c) 0 (g pM 18).toNat from rfl, show (g pM 18).toNat = n by omega]
    | succ r ih =>
      intro n gk hn hf
      have hee := scA_es (hf0.tr (hf.mono (fun _ _ => scP_A)))
      obtain ⟨e1, e2, e3, e4, e5, e6, e7, e8, e9, e10, e11, e12, e13, e14, e15⟩ := es_all hee
      have hr := rdy_fr hr0 (hf.at (fun j => by simp [scP, scA, scM, scX, pM, pM_page, pM_readRows, pM_speeches, pM_rows, pM_signalRows, pM_weights, pM_plain, pM_plains, pM_ahead, pM_heap, pM_noteRows, pM_ways, pM_before, pM_keptWeights, pM_keptRows, pX, pX_signals, pX_weights, pX_codes, pX_page, pX_notes, pX_keptWeights, pX_keptNotes, pX_said, pX_heard, pX_pool, pX_struck, pX_readings]))
      have hnt := ntP_ok hB (n := n) (by omega)
      have hth := hQ.2.2.2.1
      have e61 : ∀ (s0 : Int) (h : zH), zx zblk xs 62 61 [some (.inr (.inr (some pM))), some (.inl (v1)), some (.inl ((c : Int))), none, some (.inl ((n : Int)))] [.inl s0] h = zx zblk xs 62 23 [some (.inr (.inr (some pM))), some (.inl (v1)), some (.inl ((c : Int))), some (.inl (s0)), some (.inl (((n + 1 : Nat) : Int)))] [] h := fun s0 h => by rw [e_M_whichNow_61, ← Int.natCast_succ]
      rw [e_M_whichNow_23, pM_g_notes, e13, if_neg (by rw [zw_id (by omega) (by omega), zw_id (by omega) (by omega)]; omega), ntZ_zw]
      by_cases z : ntZ g c (nS g c) 0 n = 0
      · obtain ⟨g1, q1, q2⟩ := ih (n + 1) gk (by omega) hf
        rw [ntZ_s, if_pos z] at q1
        exact ⟨g1, by rw [if_pos z, e_M_whichNow_60, e61]; exact q1, q2⟩
      · obtain ⟨g2, p1, p2⟩ := M_isSaid xs (es_Bd hee hB) (c := (c : Int)) (by rw [e10]; exact a) (by rw [es_nS hee]; exact hr) (n := n) (by rw [e13]; omega) (sp := g pM_noteRows (10 * n)) hnt.2.2.1 (by omega)
        rw [es_nS hee, es_ntP hee] at p1
        obtain ⟨g1, q1, q2⟩ := ih (n + 1) g2 (by omega) (hf.tr p2)
        rw [ntZ_s, if_neg z] at q1
        refine ⟨g1, ?_, q2⟩
        rw [if_neg z, pM_r_noteRows, pM_a_noteRows xs _ (by omega) (by omega), e6, pM_ck, p1, zci_ok, zb_zw, e_M_whichNow_60, e61, e61, ← q1]
        have hiff : (g pM_noteRows (10 * n) < nS g c ∧ ntP g n = plS g 0 c (g pM_noteRows (10 * n)).toNat) ↔ (g pM_noteRows (10 * n) < (nS g c : Int) ∧ ntP g n = plS g 0 c ((g pM_noteRows (10 * n) + 0) % (nS g c : Int))) := by
          constructor
          · rintro ⟨w1, w2⟩
            refine ⟨w1, ?_⟩
            rw [Int.add_zero, Int.emod_eq_of_lt hnt.2.2.1 w1, w2, Int.toNat_of_nonneg hnt.2.2.1]
          · rintro ⟨w1, w2⟩
            refine ⟨w1, ?_⟩
            rw [Int.add_zero, Int.emod_eq_of_lt hnt.2.2.1 w1] at w2
            rw [w2, Int.toNat_of_nonneg hnt.2.2.1]
        by_cases w : (g pM_noteRows (10 * n) < (nS g c : Int) ∧ ntP g n = plS g 0 c ((g pM_noteRows (10 * n) + 0) % (nS g c : Int)))
        · rw [zb_t (hiff.mpr w), if_neg (by decide), if_pos w]
        · rw [zb_f (fun y => w (hiff.mp y)), if_pos rfl, if_neg w]
  have outer : ∀ (r c : Nat) (gk : Nat → Int → Int), (c : Int) + r = g pM 5 → zFr scA g gk → ∃ g1, zx zblk xs 62 4 [some (.inr (.inr (some pM))), some (.inl (whI g c)), some (.inl ((c : Int)))] [] (HH gk) = some (some (.inl (whS g)), HH g1) ∧ zFr scA g g1 := by
    intro r
    induction r with
    | zero =>
      intro c gk hc hf
      have hee := scA_es hf
      obtain ⟨e1, e2, e3, e4, e5, e6, e7, e8, e9, e10, e11, e12, e13, e14, e15⟩ := es_all hee
      refine ⟨gk, ?_, hf⟩
      rw [e_M_whichNow_4, pM_g_codes, e10, if_pos (by rw [zw_id (by omega) (by omega), zw_id (by omega) (by omega)]; omega), e_M_whichNow_88]
      rw [show whS g = whI g (g pM 5).toNat from rfl, show (g pM 5).toNat = c by omega]
    | succ r ih =>
      intro c gk hc hf
      have hee := scA_es hf
      obtain ⟨e1, e2, e3, e4, e5, e6, e7, e8, e9, e10, e11, e12, e13, e14, e15⟩ := es_all hee
      have hBk := es_Bd hee hB
      obtain ⟨g2, q1, q2, q3⟩ := M_layAll xs gk c 0 hBk (by omega)
      have hr2 := rdy_of hBk (by omega) q2
      rw [es_plS hee, es_nS hee] at hr2
      obtain ⟨g3, r1, r2⟩ := inner c (whI g c) g2 (by omega) (hf.tr q3) hr2 (g pM 18).toNat 0 g2 (by omega) zFr.rf
      rw [z0N] at r1
      obtain ⟨g1, s1, s2⟩ := ih (c + 1) g3 (by omega) r2
      refine ⟨g1, ?_, s2⟩
      have e80 : ∀ (s0 s1 : Int) (h : zH), zx zblk xs 62 80 [some (.inr (.inr (some pM))), none, some (.inl ((c : Int)))] [.inl s1, .inl s0] h = zx zblk xs 62 4 [some (.inr (.inr (some pM))), some (.inl (zor s0 s1)), some (.inl (((c + 1 : Nat) : Int)))] [] h := fun s0 s1 h => by rw [e_M_whichNow_80, ← Int.natCast_succ]
      rw [e_M_whichNow_4, pM_g_codes, e10, if_neg (by rw [zw_id (by omega) (by omega), zw_id (by omega) (by omega)]; omega), pM_ck, q1, zcv_ok, ← s1]
      refine Eq.trans r1 ?_
      rw [e_M_whichNow_68, whI]
      rcases ntA_01 g c (nS g c) 0 with z | z
      · rw [z, if_pos (show zw 0 = 0 from rfl), if_pos rfl, e_M_whichNow_79, e80]
      · rw [z, if_neg (by decide), if_neg (by decide), e80]
  rw [e_M_whichNow_0]
  exact outer (g pM 5).toNat 0 g (by omega) zFr.rf
theorem M_which (xs : List Int) {g : Nat → Int → Int} (hB : Bd g) : ∃ g1, zx zblk xs 63 0 [some (.inr (.inr (some pM)))] [] (HH g) = some (some (.inl (whS g)), HH g1) ∧ zFr scM g g1 := by
  obtain ⟨g1, q1, q2⟩ := M_whichNow xs hB
  exact ⟨g1, by rw [e_M_which_0, pM_ck, q1, zci_ok], q2.mono (fun _ _ => scA_M)⟩
theorem X_notesLet (xs : List Int) {G g : Nat → Int → Int} (hB : Bd G) (h : Rel G g) {c : Nat} (hc : (c : Int) < G pM 5) {th mv : Int} (ht0 : 0 < th) (ht1 : th ≤ nS G c) (hm0 : 0 ≤ mv) (hm1 : mv ≤ 10000) : ∃ g1, zx zblk xs 190 0 [some (.inr (.inr (some pX))), some (.inr (.inr (some (PC c)))), some (.inl (th)), some (.inl (mv))] [] (HH g) = some (some (.inl (ntA G c th mv)), HH g1) ∧ zFr scX g g1 := by
  obtain ⟨hQ, -, hC, hS, -⟩ := id hB
  obtain ⟨-, ⟨hc0, hc1⟩, -, ⟨hw0, hw1⟩, ⟨hn0, hn1⟩⟩ := id hQ
  have a : 0 ≤ (c : Int) ∧ (c : Int) < G pM 5 := by omega
  have hc4 : c < 4 := by omega
  have hnn := nS_rg hB a
  have loop : ∀ (r n : Nat) (gk : Nat → Int → Int), (n : Int) + r = G pM 18 → zFr scX g gk → ntZ G c th mv n = 1 → ∃ g1, zx zblk xs 190 3 [some (.inr (.inr (some pX))), some (.inr (.inr (some (PC c)))), some (.inl (th)), some (.inl (mv)), some (.inl ((n : Int)))] [] (HH gk) = some (some (.inl (ntA G c th mv)), HH g1) ∧ zFr scX g g1 := by
    intro r
    induction r with
    | zero =>
      intro n gk hn hf hz
      have hR := Rel_scX hB h hf
      refine ⟨gk, ?_, hf⟩
      rw [e_X_notesLet_3, pX_r_notes, No_ck No16, Notes_size xs No16 hn0 hR.2.2.2.2.1, zci_ok, if_pos (by rw [zw_id (by omega) (by omega), zw_id (by omega) (by omega)]; omega), e_X_notesLet_88, if_pos (Or.inr rfl), ← hz, show ntA G c th mv = ntZ G c th mv (G pM 18).toNat from rfl, show (G pM 18).toNat = n by omega]
    | succ r ih =>
      intro n gk hn hf hz
      have hR := Rel_scX hB h hf
      have hnt := ntP_ok hB (n := n) (by omega)
      have hs := ntZ_s G c th mv n
      rw [if_neg (by omega)] at hs
      have no : ∀ gq, ¬ (G pM_noteRows (10 * (n : Int)) < th ∧ ntP G n = plS G 0 c ((G pM_noteRows (10 * (n : Int)) + mv) % th)) → (some (some (.inl 0), HH gq) : Option zR) = some (some (.inl (ntA G c th mv)), HH gq) := fun gq w => by
        rw [if_neg w] at hs
        rw [show ntA G c th mv = ntZ G c th mv (G pM 18).toNat from rfl, show ntZ G c th mv (G pM 18).toNat = 0 from zall_0 hs (by omega)]
      rw [e_X_notesLet_3, pX_r_notes, No_ck No16, Notes_size xs No16 hn0 hR.2.2.2.2.1, zci_ok, if_neg (by rw [zw_id (by omega) (by omega), zw_id (by omega) (by omega)]; omega), pX_r_notes, No_ck No16, Notes_thingOf xs No16 hn1 hR.2.2.2.2.1 n (by omega), zci_ok, zw_id (a := G pM_noteRows (10 * n)) (by omega) (by omega), zw_id (a := th) (by omega) (by omega), if_neg (by omega)]
      by_cases b : G pM_noteRows (10 * n) < th
      · have hrow := hR.2.2.2.2.1.2 n (by omega)
        have hrw : zRw (16 + 3 + 4 + 2 * n) 8 := Rs19.2.2.2.2 n (by omega)
        have hln : (nRow (G pM_noteRows) n).length = (G pM_noteRows (10 * n + 1)).toNat := zLi_len _ _
        have hr7 : isR7 (nRow (G pM_noteRows) n) := zLi_mem (fun k hk => (hB.2.2.2.2.2.1 n (by omega) (by omega)).2.2.2.2 k (by omega) (by omega))
        obtain ⟨g2, p1, p2, p3⟩ := Signals_makePlain xs hQ hS hR.1 Rw74 (by omega) hrw hrow (by omega) (isR7_int hr7) (by omega) 0 (by omega)
        have hpl : pln G 0 (fun k => (nRow (G pM_noteRows) n).getD k 0) (nRow (G pM_noteRows) n).length = ntP G n := by
          rw [hln]
          unfold ntP
          refine pln_cg G 0 (fun k hk => ?_)
          unfold nRow
          rw [zLi_getD _ hk]
        rw [hpl] at p2
        have hf2 := hf.tr (zFr_scR (by omega) (by omega) p3)
        have hR2 := Rel_scX hB h hf2
        have hcd := hR2.cd hc4 hc
        have hmod0 : 0 ≤ (G pM_noteRows (10 * n) + mv) % th := Int.emod_nonneg _ (by omega)
        have hmod1 : (G pM_noteRows (10 * n) + mv) % th < th := Int.emod_lt_of_pos _ ht0
        have htm : (G pM_noteRows (10 * n) + mv).tmod th = (G pM_noteRows (10 * n) + mv) % th := Int.tmod_eq_emod_of_nonneg (by omega)
        obtain ⟨i, hi⟩ : ∃ i : Nat, (G pM_noteRows (10 * n) + mv) % th = i := ⟨((G pM_noteRows (10 * n) + mv) % th).toNat, by omega⟩
        have hi' : i < nS G c := by omega
        have hp := hcd.2.2.2 i hi'
        rw [if_pos b, e_X_notesLet_39, pX_r_signals, pX_r_notes, No_ck No16, Notes_rowOf xs No16 n (by omega), zcr_ok, pX_r_heard, Sg_ck, p1, zcv_ok, pX_r_heard, zw_id (a := th) (by omega) (by omega), if_neg (by omega), zw_id (a := G pM_noteRows (10 * n) + mv) (by omega) (by omega), htm, hi, Co_ck (zCo_PC hc4), Code_plain xs (zCo_PC hc4) i (by omega), zcr_ok, Rw_ck Rw74, Row_isLike xs Rw74 (hcd.rw hi') p2 hp.1 (by omega) hp.2.1 hnt.2.1 hp.2.2, zci_ok, zb_zw]
        by_cases d : ntP G n = plS G 0 c i
        · rw [if_pos ⟨b, by rw [hi]; exact d⟩] at hs
          obtain ⟨g1, q1, q2⟩ := ih (n + 1) g2 (by omega) hf2 hs
          refine ⟨g1, ?_, q2⟩
          rw [zb_t d, if_pos (by decide), e_X_notesLet_82, ← Int.natCast_succ]
          exact q1
        · refine ⟨g2, ?_, hf2⟩
          rw [zb_f d, if_neg (by decide), if_pos (Or.inl rfl)]
          exact no g2 (fun w => d (by have := w.2; rw [hi] at this; exact this))
      · refine ⟨gk, ?_, hf⟩
        rw [if_neg b, e_X_notesLet_37, if_pos (Or.inl rfl)]
        exact no gk (fun w => b w.1)
  rw [e_X_notesLet_0]
  exact loop (G pM 18).toNat 0 g (by omega) zFr.rf rfl
theorem X_which (xs : List Int) {G g : Nat → Int → Int} (hB : Bd G) (h : Rel G g) : ∃ g1, zx zblk xs 158 0 [some (.inr (.inr (some pX)))] [] (HH g) = some (some (.inl (whS G)), HH g1) ∧ zFr scX g g1 := by
  obtain ⟨-, ⟨hc0, hc1⟩, -⟩ := id hB.1
  have outer : ∀ (r c : Nat) (gk : Nat → Int → Int), (c : Int) + r = G pM 5 → zFr scX g gk → ∃ g1, zx zblk xs 158 4 [some (.inr (.inr (some pX))), some (.inl (whI G c)), some (.inl ((c : Int)))] [] (HH gk) = some (some (.inl (whS G)), HH g1) ∧ zFr scX g g1 := by
    intro r
    induction r with
    | zero =>
      intro c gk hc hf
      have hR := Rel_scX hB h hf
      refine ⟨gk, ?_, hf⟩
      rw [e_X_which_4, pX_g_codesRead, hR.2.2.2.1.1, if_pos (by rw [zw_id (by omega) (by omega), zw_id (by omega) (by omega)]; omega), e_X_which_47]
      rw [show whS G = whI G (G pM 5).toNat from rfl, show (G pM 5).toNat = c by omega]
    | succ r ih =>
      intro c gk hc hf
      have hR := Rel_scX hB h hf
      have hc4 : c < 4 := by omega
      have hcd := hR.cd hc4 (by omega)
      have hnn := nS_rg hB (c := (c : Int)) (by omega)
      obtain ⟨g2, p1, p2⟩ := X_notesLet xs hB hR (c := c) (by omega) (th := nS G c) (mv := 0) (by omega) (Int.le_refl _) (by omega) (by omega)
      obtain ⟨g1, s1, s2⟩ := ih (c + 1) g2 (by omega) (hf.tr p2)
      refine ⟨g1, ?_, s2⟩
      have e41 : ∀ (v1 : Int) (h : zH), zx zblk xs 158 41 [some (.inr (.inr (some pX))), some (.inl (v1)), some (.inl ((c : Int)))] [] h = zx zblk xs 158 4 [some (.inr (.inr (some pX))), some (.inl (v1)), some (.inl (((c + 1 : Nat) : Int)))] [] h := fun v1 h => by rw [e_X_which_41, ← Int.natCast_succ]
      rw [e_X_which_4, pX_g_codesRead, hR.2.2.2.1.1, if_neg (by rw [zw_id (by omega) (by omega), zw_id (by omega) (by omega)]; omega), pX_ck, X_codeAt_in xs hB hR c (by omega), zcr_ok, zif_some, Co_ck (zCo_PC hc4), Code_size xs (zCo_PC hc4), zci_ok, hcd.2.1, pX_ck, p1, zci_ok, ← s1, whI, e41, e41]
      rcases ntA_01 G c (nS G c) 0 with z | z
      · rw [z, if_pos (show zw 0 = 0 from rfl), if_pos rfl, zor_zero (whI_zw G c)]
      · rw [z, if_neg (by decide), if_neg (by decide)]
  rw [e_X_which_0]
  exact outer (G pM 5).toNat 0 g (by omega) zFr.rf
