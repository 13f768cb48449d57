/-! ===== stops ===== -/
theorem frs_all {L : Nat → List Int} (h : ∀ i, L i = L 0) : ∀ n, lfO L n ≤ 1 ∧ (n = 0 → lfO L n = 0)
  | 0 => ⟨by show (0 : Int) ≤ 1; omega, fun _ => rfl⟩
  | n + 1 => by
    have ih := frs_all h n
    refine ⟨?_, fun z => absurd z (by omega)⟩
    unfold lfO at *
    rw [zsum]
    by_cases e : n = 0
    · subst e
      have : frs L 0 0 = 1 := rfl
      rw [this, ih.2 rfl]
      decide
    · have : frs L n n = 0 := by
        unfold frs
        refine zall_0 (k := 1) ?_ (by omega)
        have : zall (fun j => ¬ L n = L j) 1 = if zall (fun j => ¬ L n = L j) 0 = 0 then 0 else if ¬ L n = L 0 then 1 else 0 := rfl
        have z0 : zall (fun j => ¬ L n = L j) 0 = 1 := rfl
        rw [this, z0, if_neg (by decide), if_neg (fun z => z (h n))]
      rw [this]
      omega
theorem stop255 : ∀ v : Nat, v < 8 → zand (zshr 255 v) 1 ≠ 0 := by decide +kernel
theorem pln255 (G : Nat → Int → Int) {f : Nat → Int} : ∀ {n : Nat}, (∀ k, k < n → 0 ≤ f k ∧ f k ≤ 7) → pln G 255 f n = []
  | 0, _ => rfl
  | n + 1, h => by
    have hn := h n (by omega)
    have := stop255 (f n).toNat (by omega)
    rw [Int.toNat_of_nonneg hn.1] at this
    rw [pln, if_pos this]
    exact pln255 G (fun k hk => h k (by omega))
theorem lfO_cg {L L' : Nat → List Int} : ∀ {n : Nat}, (∀ i, i < n → L i = L' i) → lfO L n = lfO L' n := fun {n} h => by
  unfold lfO
  refine zsum_cg (fun k hk => ?_)
  unfold frs
  have : ∀ m, m ≤ n → zall (fun j => ¬ L k = L j) m = zall (fun j => ¬ L' k = L' j) m := by
    intro m
    induction m with
    | zero => intro _; rfl
    | succ m ih =>
      intro hm
      rw [zall, zall, ih (by omega)]
      simp only [h k hk, h m (by omega)]
  exact this k (by omega)
theorem lf255 {G g : Nat → Int → Int} (h : LwS G g) : lfV G 0 255 < 2 := by
  have hn := h.n
  unfold lfV
  have e : lfO (fun s : Nat => plS G 255 0 s) (nS G 0) = lfO (fun _ => []) (nS G 0) := lfO_cg (fun i hi => pln255 G (h.len hi).2.2)
  have := (frs_all (L := fun _ => []) (fun _ => rfl) (nS G 0)).1
  rw [e]
  omega
/-- the fewest so far, and which -/
def stq (G : Nat → Int → Int) : Nat → Int × Int
  | 0 => (99, -1)
  | n + 1 => if lfV G 0 n < 2 ∧ popI n < (stq G n).1 then (popI n, (n : Int)) else stq G n
theorem pop_lt : ∀ s : Nat, s < 255 → popI s < 8 := by decide +kernel
theorem stq_m {G g : Nat → Int → Int} (h : LwS G g) : ∀ n : Nat, n ≤ 255 → (stq G n = (99, -1) ∧ mbst (stv G 0) n = (255, 8)) ∨ ((stq G n).1 < 8 ∧ 0 ≤ (stq G n).1 ∧ mbst (stv G 0) n = ((stq G n).2, (stq G n).1))
  | 0, _ => Or.inl ⟨rfl, rfl⟩
  | n + 1, hn => by
    have hp := pop_lt n (by omega)
    have hp0 := (pop_ok n (by omega)).2.1
    rcases stq_m h n (by omega) with ⟨a, b⟩ | ⟨a, a0, b⟩
    · rw [stq, mbst, a, b]
      unfold stv
      by_cases c : lfV G 0 n < 2
      · right
        rw [if_pos c, if_pos ⟨c, by show popI n < 99; omega⟩, if_pos (by show popI n < 8; exact hp)]
        exact ⟨hp, hp0, rfl⟩
      · left
        rw [if_neg c, if_neg (fun z => c z.1), if_neg (by decide)]
        exact ⟨rfl, rfl⟩
    · right
      rw [stq, mbst, b]
      unfold stv
      by_cases c : lfV G 0 n < 2
      · rw [if_pos c]
        by_cases d : popI n < (stq G n).1
        · rw [if_pos ⟨c, d⟩, if_pos d]
          exact ⟨hp, hp0, rfl⟩
        · rw [if_neg (fun z => d z.2), if_neg d]
          exact ⟨a, a0, rfl⟩
      · rw [if_neg c, if_neg (fun z => c z.1), if_neg (by show ¬ 8 < (stq G n).1; omega)]
        exact ⟨a, a0, rfl⟩
theorem stq_rg {G g : Nat → Int → Int} (h : LwS G g) : ∀ n : Nat, n ≤ 256 → 0 ≤ (stq G n).1 ∧ (stq G n).1 ≤ 99 ∧ -1 ≤ (stq G n).2 ∧ (stq G n).2 ≤ 255
  | 0, _ => by show (0 : Int) ≤ 99 ∧ (99 : Int) ≤ 99 ∧ (-1 : Int) ≤ -1 ∧ (-1 : Int) ≤ 255; omega
  | n + 1, hn => by
    have hp := pop_ok n (by omega)
    have ih := stq_rg h n (by omega)
    rw [stq]
    split
    · simp only; omega
    · exact ih
theorem stq_end {G g : Nat → Int → Int} (h : LwS G g) : (stq G 256).2 = spV G 0 := by
  have h255 := lf255 h
  have hp : popI ((255 : Nat) : Int) = 8 := by decide +kernel
  have e1 : stq G 256 = if lfV G 0 ((255 : Nat) : Int) < 2 ∧ popI ((255 : Nat) : Int) < (stq G 255).1 then (popI ((255 : Nat) : Int), ((255 : Nat) : Int)) else stq G 255 := rfl
  have e2 : mbst (stv G 0) 256 = if stv G 0 255 < (mbst (stv G 0) 255).2 then (((255 : Nat) : Int), stv G 0 255) else mbst (stv G 0) 255 := rfl
  have e3 : stv G 0 255 = 8 := by
    unfold stv
    rw [hp]
    split <;> rfl
  unfold spV
  rw [e1, e2, e3, hp]
  rcases stq_m h 255 (by omega) with ⟨a, b⟩ | ⟨a, a0, b⟩
  · rw [a, b, if_pos ⟨h255, by decide⟩, if_neg (by decide)]
    rfl
  · rw [b, if_neg (fun z => by have := z.2; omega), if_neg (by show ¬ 8 < (stq G 255).1; omega)]
/-- how many are left -/
theorem L_left (xs : List Int) {G : Nat → Int → Int} {s : Nat} (hs : s < 256) (F T A : Int) : ∀ (r i : Nat) (g : Nat → Int → Int), i + r = nS G 0 → LwS G g → zAr g 279 12 → zAr g 280 12 → ∃ g1, zx zblk xs 93 98 [some (.inr (.inr (some pX))), none, some (.inr (.inr (some 265))), some (.inr (.inr (some 266))), some (.inl (F)), some (.inl (T)), some (.inl (A)), some (.inr (.inr (some 279))), some (.inr (.inr (some 280))), some (.inl ((s : Int))), some (.inl (popI s)), some (.inl (lfO (fun k : Nat => plS G s 0 k) i)), some (.inl ((i : Int)))] [] (HH g) = zx zblk xs 93 190 [some (.inr (.inr (some pX))), none, some (.inr (.inr (some 265))), some (.inr (.inr (some 266))), some (.inl (F)), some (.inl (T)), some (.inl (A)), some (.inr (.inr (some 279))), some (.inr (.inr (some 280))), some (.inl ((s : Int))), some (.inl (popI s)), some (.inl (lfV G 0 s))] [] (HH g1) ∧ zFr (fun q _ => q = 279 ∨ q = 280) g g1 := by
  intro r
  induction r with
  | zero =>
    intro i g hi h hp hq
    have : i = nS G 0 := by omega
    subst this
    refine ⟨g, ?_, zFr.rf⟩
    rw [e_L_stops_98, HF_ai h.2.2.2.2.1 (by omega) (by omega), h.2.2.2.2.2.1, if_pos (Int.le_refl _)]
    rfl
  | succ r ih =>
    intro i g hi h hp hq
    have hn := h.n
    obtain ⟨g1, q1, q2, q3⟩ := L_speech xs h (i := i) (st := (s : Int)) (by omega) hp (by omega) (by omega) (by omega)
    have h1 : LwS G g1 := LS_fr h (fun q a b => q3.at (fun j => by omega))
    obtain ⟨l1, r1⟩ := h.pl (i := i) (by omega) (s : Int)
    have inner : ∀ (r j : Nat) (gk : Nat → Int → Int), j + r = i → zFr (fun q _ => q = 280) g1 gk → ∃ g2, zx zblk xs 93 123 [some (.inr (.inr (some pX))), none, some (.inr (.inr (some 265))), some (.inr (.inr (some 266))), some (.inl (F)), some (.inl (T)), some (.inl (A)), some (.inr (.inr (some 279))), some (.inr (.inr (some 280))), some (.inl ((s : Int))), some (.inl (popI s)), some (.inl (lfO (fun k : Nat => plS G s 0 k) i)), some (.inl ((i : Int))), some (.inl (frs (fun k : Nat => plS G s 0 k) i j)), some (.inl ((j : Int)))] [] (HH gk) = zx zblk xs 93 169 [some (.inr (.inr (some pX))), none, some (.inr (.inr (some 265))), some (.inr (.inr (some 266))), some (.inl (F)), some (.inl (T)), some (.inl (A)), some (.inr (.inr (some 279))), some (.inr (.inr (some 280))), some (.inl ((s : Int))), some (.inl (popI s)), some (.inl (lfO (fun k : Nat => plS G s 0 k) i)), some (.inl ((i : Int))), some (.inl (frs (fun k : Nat => plS G s 0 k) i i))] [] (HH g2) ∧ zFr (fun q _ => q = 280) g1 g2 := by
      intro r
      induction r with
      | zero =>
        intro j gk hj hf
        have : j = i := by omega
        subst this
        refine ⟨gk, ?_, hf⟩
        rw [e_L_stops_123, if_pos (Int.le_refl _)]
      | succ r ih2 =>
        intro j gk hj hf
        have h01 : frs (fun k : Nat => plS G s 0 k) i j = 0 ∨ frs (fun k : Nat => plS G s 0 k) i j = 1 := zall_01 _ _
        have hz : zw (frs (fun k : Nat => plS G s 0 k) i j) = frs (fun k : Nat => plS G s 0 k) i j := zall_zw _ _
        have hfr : ∀ q, q ≠ 280 → gk q = g1 q := fun q hq => hf.at (fun _ => hq)
        by_cases z : frs (fun k : Nat => plS G s 0 k) i j = 0
        · refine ⟨gk, ?_, hf⟩
          have zi : frs (fun k : Nat => plS G s 0 k) i i = 0 := zall_0 z (by omega)
          rw [e_L_stops_123, if_neg (by rw [zw_id (by omega) (by omega), zw_id (by omega) (by omega)]; omega), hz, if_pos z, z, zi]
        · have z1 : frs (fun k : Nat => plS G s 0 k) i j = 1 := by omega
          have hk : LwS G gk := LS_fr h1 (fun q a b => hfr q (by omega))
          have c0 : gk 0 0 = g 0 0 := by rw [hfr 0 (by omega), q3 0 0 (by omega)]
          obtain ⟨g2, p1, p2, p3⟩ := L_speech xs hk (i := j) (st := (s : Int)) (by omega) (zAr_cg hq c0) (by omega) (by omega) (by omega)
          have f3 : ∀ q, q ≠ 280 → g2 q = gk q := fun q hq => p3.at (fun _ => hq)
          have c2 : g2 0 0 = g 0 0 := by rw [f3 0 (by omega), c0]
          obtain ⟨l2, r2⟩ := h.pl (i := j) (by omega) (s : Int)
          have hrow : pRow g2 279 (plS G s 0 i) := pRow_fr q2 (by rw [f3 279 (by omega), hfr 279 (by omega)])
          have hfs : frs (fun k : Nat => plS G s 0 k) i (j + 1) = if frs (fun k : Nat => plS G s 0 k) i j = 0 then 0 else if ¬ plS G s 0 i = plS G s 0 j then 1 else 0 := rfl
          obtain ⟨g3, s1, s2⟩ := ih2 (j + 1) g2 (by omega) (hf.tr p3)
          refine ⟨g3, ?_, s2⟩
          rw [e_L_stops_123, if_neg (by rw [zw_id (by omega) (by omega), zw_id (by omega) (by omega)]; omega), hz, if_neg z, p1, zcv_ok, L_like xs (zAr_cg hp c2) (zAr_cg hq c2) hrow p2 (by omega) (by omega) r1 r2, zci_ok, zb_zw, ← s1, hfs, if_neg z, Int.natCast_succ]
          by_cases e : plS G s 0 i = plS G s 0 j
          · rw [zb_t e, if_pos (by decide), if_neg (fun w => w e), e_L_stops_160, e_L_stops_161]
          · rw [zb_f e, if_neg (by decide), if_pos e, e_L_stops_161]
    obtain ⟨g2, s1, s2⟩ := inner i 0 g1 (by omega) zFr.rf
    have hfr : ∀ q, q ≠ 279 → q ≠ 280 → g2 q = g q := fun q h1 h2 => (s2.at (fun _ => h2)).trans (q3.at (fun _ => h1))
    have c2 : g2 0 0 = g 0 0 := by rw [hfr 0 (by omega) (by omega)]
    obtain ⟨g3, t1, t2⟩ := ih (i + 1) g2 (by omega) (LS_fr h (fun q a b => hfr q (by omega) (by omega))) (zAr_cg hp c2) (zAr_cg hq c2)
    refine ⟨g3, ?_, ((q3.mono (fun q j z => Or.inl z)).tr (s2.mono (fun q j z => Or.inr z))).tr t2⟩
    have f0 : frs (fun k : Nat => plS G s 0 k) i 0 = 1 := rfl
    have hl : lfO (fun k : Nat => plS G s 0 k) (i + 1) = lfO (fun k : Nat => plS G s 0 k) i + frs (fun k : Nat => plS G s 0 k) i i := rfl
    rw [f0, z0N] at s1
    rw [e_L_stops_98, HF_ai h.2.2.2.2.1 (by omega) (by omega), h.2.2.2.2.2.1, if_neg (by rw [zw_id (by omega) (by omega), zw_id (by omega) (by omega)]; omega), q1, zcv_ok, s1, e_L_stops_169, show zw (frs (fun k : Nat => plS G s 0 k) i i) = frs (fun k : Nat => plS G s 0 k) i i from zall_zw _ _, ← t1, hl, Int.natCast_succ]
    have h01 : frs (fun k : Nat => plS G s 0 k) i i = 0 ∨ frs (fun k : Nat => plS G s 0 k) i i = 1 := zall_01 _ _
    rcases h01 with z | z
    · rw [z, if_pos rfl, e_L_stops_180, e_L_stops_181]
    · rw [z, if_neg (by decide), e_L_stops_181]
theorem L_stops (xs : List Int) (hx : xs.length ≤ 260) {G g : Nat → Int → Int} (h : LwS G g) (hN : g 0 0 = (14 : Nat)) : ∃ g1, zx zblk xs 93 0 [some (.inr (.inr (some pX))), some (.inr (.inr (some 0))), some (.inr (.inr (some 265))), some (.inr (.inr (some 266)))] [] (HH g) = some (some (.inl 1), HH g1) ∧ LwS G g1 := by
  have hn := h.n
  have ar := atV_rg (clV xs 32) (n := 256) (by omega)
  obtain ⟨A, hA⟩ : ∃ A : Nat, atV (clV xs 32) 256 = A := ⟨(atV (clV xs 32) 256).toNat, by omega⟩
  have ha1 := LS_gnw h hN (n := 12) rfl (by omega)
  have ha2 := LS_gnw ha1 gnw_0 (n := 12) rfl (by omega)
  have hp : zAr (gnw (gnw g 14) 15) 279 12 := zAr_law (k := 14) (N := 16) gnw_0 rfl (by omega) (by omega)
  have hq : zAr (gnw (gnw g 14) 15) 280 12 := zAr_law (k := 15) (N := 16) gnw_0 rfl (by omega) (by omega)
  have sizes : ∀ (g : Nat → Int → Int) (F T : Int) (s : Nat), s < 256 → zx zblk xs 93 50 [some (.inr (.inr (some pX))), none, some (.inr (.inr (some 265))), some (.inr (.inr (some 266))), some (.inl (F)), some (.inl (T)), some (.inl ((A : Int))), some (.inr (.inr (some 279))), some (.inr (.inr (some 280))), some (.inl ((s : Int))), some (.inl (0)), some (.inl (0))] [] (HH g) = zx zblk xs 93 75 [some (.inr (.inr (some pX))), none, some (.inr (.inr (some 265))), some (.inr (.inr (some 266))), some (.inl (F)), some (.inl (T)), some (.inl ((A : Int))), some (.inr (.inr (some 279))), some (.inr (.inr (some 280))), some (.inl ((s : Int))), some (.inl (popI s))] [] (HH g) := fun g F T s hs => by
    have hh := zloop (fun k : Nat => zx zblk xs 93 50 [some (.inr (.inr (some pX))), none, some (.inr (.inr (some 265))), some (.inr (.inr (some 266))), some (.inl (F)), some (.inl (T)), some (.inl ((A : Int))), some (.inr (.inr (some 279))), some (.inr (.inr (some 280))), some (.inl ((s : Int))), some (.inl (zsum (fun k => zand (zshr s k) 1) k)), some (.inl ((k : Int)))] [] (HH g)) 8 (fun k hk => by
      rw [e_L_stops_50, if_neg (by rw [show zw 8 = 8 from rfl, zw_id (by omega) (by omega)]; omega), zsum, Int.natCast_succ])
    refine Eq.trans ?_ (hh.trans ?_)
    · rfl
    · rw [e_L_stops_50, if_pos (by decide)]
      rfl
  have loop : ∀ (r s : Nat) (gk : Nat → Int → Int), s + r = 256 → LwS G gk → zAr gk 279 12 → zAr gk 280 12 → ∃ g1, zx zblk xs 93 36 [some (.inr (.inr (some pX))), none, some (.inr (.inr (some 265))), some (.inr (.inr (some 266))), some (.inl ((stq G s).1)), some (.inl ((stq G s).2)), some (.inl ((A : Int))), some (.inr (.inr (some 279))), some (.inr (.inr (some 280))), some (.inl ((s : Int)))] [] (HH gk) = some (some (.inl 1), HH g1) ∧ LwS G g1 := by
    intro r
    induction r with
    | zero =>
      intro s gk hs hk _ _
      have : s = 256 := by omega
      subst this
      obtain ⟨g1, x1, x2⟩ := X_stop xs hk.1 hk.2.1 (c := 0) rfl
      refine ⟨g1, ?_, LS_scX hk x2⟩
      rw [e_L_stops_36, if_pos (by decide), e_L_stops_241, pX_ck, x1, zci_ok, show stopS G 0 = spV G 0 from if_pos hk.c1, stq_end hk, if_neg (fun z => z rfl), e_L_stops_256, if_pos (Or.inr rfl)]
    | succ r ih =>
      intro s gk hs hk hp hq
      have hpo := pop_ok s (by omega)
      have srg := stq_rg hk s (by omega)
      have nx : ∀ (gy : Nat → Int → Int), LwS G gy → gy 0 0 = gk 0 0 → stq G (s + 1) = stq G s → ∃ g1, zx zblk xs 93 235 [some (.inr (.inr (some pX))), none, some (.inr (.inr (some 265))), some (.inr (.inr (some 266))), some (.inl ((stq G s).1)), some (.inl ((stq G s).2)), some (.inl ((A : Int))), some (.inr (.inr (some 279))), some (.inr (.inr (some 280))), some (.inl ((s : Int)))] [] (HH gy) = some (some (.inl 1), HH g1) ∧ LwS G g1 := fun gy hy c0 e => by
        obtain ⟨g1, s1, s2⟩ := ih (s + 1) gy (by omega) hy (zAr_cg hp c0) (zAr_cg hq c0)
        refine ⟨g1, ?_, s2⟩
        rw [e_L_stops_235, ← s1, e, Int.natCast_succ]
      have go : ∃ g1, zx zblk xs 93 92 [some (.inr (.inr (some pX))), none, some (.inr (.inr (some 265))), some (.inr (.inr (some 266))), some (.inl ((stq G s).1)), some (.inl ((stq G s).2)), some (.inl ((A : Int))), some (.inr (.inr (some 279))), some (.inr (.inr (some 280))), some (.inl ((s : Int))), some (.inl (popI s))] [] (HH gk) = some (some (.inl 1), HH g1) ∧ LwS G g1 := by
        obtain ⟨g2, t1, t2⟩ := L_left xs (G := G) (s := s) (by omega) (stq G s).1 (stq G s).2 A (nS G 0) 0 gk (by omega) hk hp hq
        have c2 : g2 0 0 = gk 0 0 := t2 0 0 (by omega)
        have h2 : LwS G g2 := LS_fr hk (fun q a b => t2.at (fun j => by omega))
        have hle := lfO_rg (fun k : Nat => plS G s 0 k) (nS G 0)
        have l0 : lfO (fun k : Nat => plS G s 0 k) 0 = 0 := rfl
        rw [l0, z0N] at t1
        -- the question asked
        have ask : ∃ g3, zx zblk xs 93 190 [some (.inr (.inr (some pX))), none, some (.inr (.inr (some 265))), some (.inr (.inr (some 266))), some (.inl ((stq G s).1)), some (.inl ((stq G s).2)), some (.inl ((A : Int))), some (.inr (.inr (some 279))), some (.inr (.inr (some 280))), some (.inl ((s : Int))), some (.inl (popI s)), some (.inl (lfV G 0 s))] [] (HH g2) = zx zblk xs 93 211 [some (.inr (.inr (some pX))), none, some (.inr (.inr (some 265))), some (.inr (.inr (some 266))), some (.inl ((stq G s).1)), some (.inl ((stq G s).2)), some (.inl ((A : Int))), some (.inr (.inr (some 279))), some (.inr (.inr (some 280))), some (.inl ((s : Int))), some (.inl (popI s)), some (.inl (lfV G 0 s))] [] (HH g3) ∧ LwS G g3 ∧ g3 0 0 = gk 0 0 := by
          by_cases a : s = A
          · obtain ⟨g3, x1, x2⟩ := X_left xs h2.1 h2.2.1 (c := 0) (st := (s : Int)) rfl (zw_id (by omega) (by omega))
            refine ⟨g3, ?_, LS_scX h2 x2, by rw [x2 0 0 (by simp only [scX, pX, pX_signals, pX_weights, pX_codes, pX_page, pX_notes, pX_keptWeights, pX_keptNotes, pX_said, pX_heard, pX_pool, pX_struck, pX_readings, pM, pM_page, pM_readRows, pM_speeches, pM_rows, pM_signalRows, pM_weights, pM_plain, pM_plains, pM_ahead, pM_heap, pM_noteRows, pM_ways, pM_before, pM_keptWeights, pM_keptRows]; omega)]; exact c2⟩
            rw [e_L_stops_190, if_neg (by rw [a]; exact fun z => z rfl), pX_ck, x1, zci_ok, show lfS G 0 s = lfV G 0 s by unfold lfS; rw [if_pos hk.c1, if_pos (by omega)], if_pos rfl]
          · refine ⟨g2, ?_, h2, c2⟩
            rw [e_L_stops_190, if_pos (by rw [zw_id (by omega) (by omega), zw_id (by omega) (by omega)]; omega)]
        obtain ⟨g3, u1, u2, u3⟩ := ask
        have hlv : 0 ≤ lfV G 0 s ∧ lfV G 0 s ≤ nS G 0 := hle
        rw [e_L_stops_92, t1, u1, e_L_stops_211, show zw 1 = 1 from rfl, zw_id (a := lfV G 0 s) (by omega) (by omega), zw_id (a := popI s) (by omega) (by omega), zw_id (a := (stq G s).1) (by omega) (by omega)]
        by_cases a : lfV G 0 s < 2
        · rw [if_neg (by omega)]
          by_cases b : popI s < (stq G s).1
          · have e : stq G (s + 1) = (popI s, (s : Int)) := by rw [stq, if_pos ⟨a, b⟩]
            obtain ⟨g1, s1, s2⟩ := ih (s + 1) g3 (by omega) u2 (zAr_cg hp u3) (zAr_cg hq u3)
            refine ⟨g1, ?_, s2⟩
            rw [e, Int.natCast_succ] at s1
            rw [if_pos b, e_L_stops_227, e_L_stops_235]
            exact s1
          · rw [if_neg b]
            exact nx g3 u2 u3 (by rw [stq, if_neg (fun z => b z.2)])
        · rw [if_pos (by omega)]
          exact nx g3 u2 u3 (by rw [stq, if_neg (fun z => a z.1)])
      rw [e_L_stops_36, if_neg (by rw [show zw 256 = 256 from rfl, zw_id (by omega) (by omega)]; omega), sizes gk _ _ s (by omega), e_L_stops_75, zw_id (a := popI s) (by omega) (by omega), zw_id (a := (stq G s).1) (by omega) (by omega)]
      by_cases a : popI s < (stq G s).1
      · rw [if_pos a]
        exact go
      · rw [if_neg a]
        by_cases b : zw (s : Int) = zw (A : Int)
        · rw [if_pos b]
          exact go
        · rw [if_neg b]
          exact nx gk hk rfl (by rw [stq, if_neg (fun z => a z.2)])
  obtain ⟨g1, s1, s2⟩ := loop 256 0 (gnw (gnw g 14) 15) (by omega) ha2 hp hq
  refine ⟨g1, ?_, s2⟩
  rw [e_L_stops_0, show (32 : Int) = ((32 : Nat) : Int) from rfl, L_cell xs hx 32 (by omega), zci_ok, L_at xs _ 256 _ (by omega) (by omega), zci_ok, zna_at (m := 12) (n := 12) rfl hN rfl (by omega), zna_at (m := 12) (N := 15) (n := 12) rfl gnw_0 rfl (by omega), hA]
  exact s1
