/-! ===== the class lays a code plain ===== -/
theorem Code_makePlain (xs : List Int) {G g : Nat → Int → Int} (hQ : bdQ G) (hS : bdS G) (h : RelS G g) {P n : Nat} (hP : zCo P) (hP2 : 101 ≤ P) (hn8 : n ≤ 8) (hn : g P 2 = n) {R : Nat → List Int} (hR : ∀ i, i < n → zRow g (P + 1 + 4 + 2 * i) (R i) ∧ (R i).length ≤ 5 ∧ isR7 (R i)) : ∃ g1, zx zblk xs 6 0 [some (.inr (.inr (some P))), some (.inr (.inr (some pX_signals)))] [] (HH g) = some (none, HH g1) ∧ (∀ i, i < n → zRow g1 (P + 21 + 4 + 2 * i) (pln G 0 (fun k => (R i).getD k 0) (R i).length)) ∧ zFr (fun q _ => P + 25 ≤ q ∧ q ≤ P + 40) g g1 := by
  have loop : ∀ (r i : Nat) (gk : Nat → Int → Int), i + r = n → (∀ j, j < i → zRow gk (P + 21 + 4 + 2 * j) (pln G 0 (fun k => (R j).getD k 0) (R j).length)) → zFr (fun q _ => P + 25 ≤ q ∧ q ≤ P + 40) g gk → ∃ g1, zx zblk xs 6 2 [some (.inr (.inr (some P))), some (.inr (.inr (some pX_signals))), some (.inl ((i : Int)))] [] (HH gk) = some (none, HH g1) ∧ (∀ i, i < n → zRow g1 (P + 21 + 4 + 2 * i) (pln G 0 (fun k => (R i).getD k 0) (R i).length)) ∧ zFr (fun q _ => P + 25 ≤ q ∧ q ≤ P + 40) g g1 := by
    intro r
    induction r with
    | zero =>
      intro i gk hi hj hf
      have : i = n := by omega
      subst this
      have k2 : gk P 2 = i := by rw [hf P 2 (by omega)]; exact hn
      refine ⟨gk, ?_, hj, hf⟩
      rw [e_Code_makePlain_2, Co_g hP, k2, if_pos (Int.le_refl _), e_Code_makePlain_31]
    | succ r ih =>
      intro i gk hi hj hf
      have k2 : gk P 2 = n := by rw [hf P 2 (by omega)]; exact hn
      obtain ⟨r1, r2, r3⟩ := hR i (by omega)
      have hsp : zRw (P + 1 + 4 + 2 * i) 5 := hP.2.2.1.2.2.2.2 i (by omega)
      have hpl : zRw (P + 21 + 4 + 2 * i) 10 := hP.2.2.2.2.2.2.2 i (by omega)
      obtain ⟨g2, p1, p2, p3⟩ := Signals_makePlain xs hQ hS (RelS_fr h (fun q h3 h10 => hf.at (fun j => by omega))) hpl (by omega) hsp (zRow_fr r1 (hf.at (fun j => by omega)) (hf.at (fun j => by omega))) r2 (isR7_int r3) (by omega) 0 (by omega)
      obtain ⟨g1, q1, q2, q3⟩ := ih (i + 1) g2 (by omega) (fun j hj' => by
        by_cases e : j = i
        · subst e; exact p2
        · exact zRow_fr (hj j (by omega)) (p3.at (fun k => by simp only [scR]; omega)) (p3.at (fun k => by simp only [scR]; omega))) (hf.tr (p3.mono (fun q j z => by simp only [scR] at z; omega)))
      refine ⟨g1, ?_, q2, q3⟩
      rw [e_Code_makePlain_2, Co_g hP, k2, if_neg (by rw [zw_id (by omega) (by omega), zw_id (by omega) (by omega)]; omega), Co_ck hP, Code_spoken xs hP i (by omega), zcr_ok, Co_ck hP, Code_plain xs hP i (by omega), zcr_ok, Sg_ck, p1, zcv_ok, ← Int.natCast_succ]
      exact q1
  obtain ⟨g1, q1, q2, q3⟩ := loop n 0 g (by omega) (fun j hj => by omega) zFr.rf
  rw [z0N] at q1
  refine ⟨g1, ?_, q2, q3⟩
  rw [e_Code_makePlain_0]
  exact q1

