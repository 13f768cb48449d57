/-! ===== digest ===== -/
def mx (h v : Int) : Int := 31 * h + zw v
def mxR (f : Nat → Int) : Nat → Int → Int
  | 0, h => h
  | k + 1, h => mx (mxR f k h) (f k)
theorem mxR_cg {f f' : Nat → Int} {h : Int} : ∀ {n : Nat}, (∀ k, k < n → f k = f' k) → mxR f n h = mxR f' n h
  | 0, _ => rfl
  | n + 1, e => by rw [mxR, mxR, mxR_cg (fun k hk => e k (by omega)), e n (by omega)]
theorem mxR_app (f : Nat → Int) (h : Int) (a : Nat) : ∀ b, mxR f (a + b) h = mxR (fun k => f (a + k)) b (mxR f a h)
  | 0 => rfl
  | b + 1 => by rw [← Nat.add_assoc, mxR, mxR, mxR_app f h a b]
noncomputable def mxS (G : Nat → Int → Int) (c : Int) (h : Int) : Nat → Int
  | 0 => h
  | s + 1 => mx (mx (mxR (fun k => spO G c s k) 6 (mxS G c h s)) (spO G c s 10)) (spO G c s 30)
noncomputable def mxD (G : Nat → Int → Int) (c : Int) (h : Int) : Int := mx (mx (mx (mx (mx (mxS G c h (nS G c)) (if alS G c = -1 then 1 else 0)) (twO G c)) (odO G c)) (apO G c)) (spV G c)
noncomputable def mxE (G : Nat → Int → Int) (h : Int) : Nat → Int
  | 0 => h
  | c + 1 => mxD G c (mxE G h c)
def mxN (G : Nat → Int → Int) (h : Int) : Nat → Int
  | 0 => h
  | n + 1 => mxR (fun k => G pM_noteRows (10 * n + k)) (2 + (G pM_noteRows (10 * n + 1)).toNat) (mxN G h n)
noncomputable def dgS (G : Nat → Int → Int) : Int := mxR (fun w => coS G w) 6 (mxR (fun k => G pM_page k) (G pM 1).toNat (mx (mxN G (mxE G (mxR (fun t => G pM_weights t) (G pM 10).toNat (mxR (fun k => G pM_signalRows k) (4 * (G pM 8).toNat) 479)) (G pM 5).toNat) (G pM 18).toNat) (whS G)))
theorem es_mxD {g1 g : Nat → Int → Int} (h : es g1 = es g) : mxD g1 = mxD g := by
  funext c v
  have hs : ∀ n, mxS g1 c v n = mxS g c v n := fun n => by
    induction n with
    | zero => rfl
    | succ n ih => rw [mxS, mxS, ih, es_spO h]
  unfold mxD
  rw [hs, es_nS h, es_alS h, es_twO h, es_odO h, es_apO h, es_spV h]
theorem es_dgS {g1 g : Nat → Int → Int} (h : es g1 = es g) : dgS g1 = dgS g := by
  obtain ⟨e1, e2, e3, e4, e5, e6, e7, e8, e9, e10, e11, e12, e13, e14, e15⟩ := es_all h
  have hE : ∀ v n, mxE g1 v n = mxE g v n := fun v n => by
    induction n with
    | zero => rfl
    | succ n ih => rw [mxE, mxE, ih, es_mxD h]
  have hN : ∀ v n, mxN g1 v n = mxN g v n := fun v n => by
    induction n with
    | zero => rfl
    | succ n ih => rw [mxN, mxN, ih, e6]
  unfold dgS
  rw [hE, hN, e1, e4, e5, e9, e10, e11, e12, e13, es_whS h, es_coS h]
/-! the class -/
theorem X_mix (xs : List Int) (h v : Int) (hh : zH) : zx zblk xs 170 0 [some (.inr (.inl (h))), none, some (.inr (.inl (v))), none] [] hh = some (some (.inr (.inl (31 * h + v))), hh) := e_X_mix_0 xs h v hh
theorem X_mixRow (xs : List Int) {g : Nat → Int → Int} {p n : Nat} (hp : zRw p n) {f : Nat → Int} {m : Nat} (hl : zRow g p (zLi f m)) (hm : m ≤ n) (h : Int) : zx zblk xs 171 0 [some (.inr (.inl (h))), none, some (.inr (.inr (some p)))] [] (HH g) = some (some (.inr (.inl (mxR f m h))), HH g) := by
  have hn := hp.2.1
  have hh := zloop (fun k : Nat => zx zblk xs 171 5 [none, none, some (.inr (.inr (some p))), some (.inr (.inl (mxR f k h))), none, some (.inl ((k : Int)))] [] (HH g)) m (fun k hk => by
    rw [e_X_mixRow_5, Rw_ck hp, Row_size xs hp hl, zci_ok, zLi_len, if_neg (by rw [zw_id (by omega) (by omega), zw_id (by omega) (by omega)]; omega), Rw_ck hp, Row_at xs hp hl (by rw [zLi_len]; exact hm) k (zw_id (by omega) (by omega)), zci_ok, zat_Li (by omega), show ((k : Int)).toNat = k from rfl, X_mix, zcl_ok', Int.natCast_succ]
    rfl)
  rw [e_X_mixRow_0]
  refine Eq.trans ?_ (hh.trans ?_)
  · rfl
  · rw [e_X_mixRow_5, Rw_ck hp, Row_size xs hp hl, zci_ok, zLi_len, if_pos (Int.le_refl _), e_X_mixRow_32]
theorem X_mixCode (xs : List Int) {G g : Nat → Int → Int} (hB : Bd G) (hR : Rel G g) (c : Nat) (hc : (c : Int) < G pM 5) (h : Int) : ∃ g1, zx zblk xs 172 0 [some (.inr (.inr (some pX))), some (.inr (.inl (h))), none, some (.inl ((c : Int))), some (.inr (.inr (some (PC c))))] [] (HH g) = some (some (.inr (.inl (mxD G c h))), HH g1) ∧ zFr scX g g1 := by
  obtain ⟨-, q5, -⟩ := id hB.1
  have hc4 : c < 4 := by omega
  have a : 0 ≤ (c : Int) ∧ (c : Int) < G pM 5 := ⟨by omega, hc⟩
  obtain ⟨n1, n2, n3⟩ := nS_rg hB a
  have hcd := hR.cd hc4 hc
  have hzc : zw (c : Int) = c := zw_id (by omega) (by omega)
  have hsp : ∀ (s : Nat) (i : Int), s < nS G c → zw i = i → zx zblk xs 144 0 [some (.inr (.inr (some pX))), some (.inl ((c : Int))), some (.inl ((s : Int))), some (.inl (i))] [] (HH g) = some (some (.inl (spO G c s i)), HH g) := fun s i hs hi => by
    rw [X_speech xs hB hR hzc (zw_id (by omega) (by omega)) hi]
    unfold spS
    rw [if_pos a, if_pos ⟨by omega, by omega⟩]
  have hh := zloop (fun s : Nat => zx zblk xs 172 6 [some (.inr (.inr (some pX))), none, none, some (.inl ((c : Int))), some (.inr (.inr (some (PC c)))), some (.inr (.inl (mxS G c h s))), none, some (.inl ((s : Int)))] [] (HH g)) (nS G c) (fun s hs => by
    have hi := zloop (fun k : Nat => zx zblk xs 172 19 [some (.inr (.inr (some pX))), none, none, some (.inl ((c : Int))), some (.inr (.inr (some (PC c)))), some (.inr (.inl (mxR (fun k => spO G c s k) k (mxS G c h s)))), none, some (.inl ((s : Int))), some (.inl ((k : Int)))] [] (HH g)) 6 (fun k hk => by
      rw [e_X_mixCode_19, if_neg (by rw [show zw 5 = 5 from rfl, zw_id (by omega) (by omega)]; omega), pX_ck, hsp s k hs (zw_id (by omega) (by omega)), zci_ok, X_mix, zcl_ok', Int.natCast_succ]
      rfl)
    rw [e_X_mixCode_6, Co_ck hcd.1, Code_size xs hcd.1, zci_ok, hcd.2.1, if_neg (by rw [zw_id (by omega) (by omega), zw_id (by omega) (by omega)]; omega)]
    refine Eq.trans hi ?_
    rw [e_X_mixCode_19, if_pos (by decide), e_X_mixCode_48, pX_ck, hsp s 10 hs rfl, zci_ok, X_mix, zcl_ok', pX_ck, hsp s 30 hs rfl, zci_ok, X_mix, zcl_ok', Int.natCast_succ]
    rfl)
  obtain ⟨g1, x1, x2⟩ := Rd_leastTwice xs (by simp only [PC]; omega) hcd
  have hR1 := Rel_scX hB hR x2
  obtain ⟨g2, y1, y2⟩ := X_stop xs hB hR1 hzc
  refine ⟨g2, ?_, x2.tr y2⟩
  rw [e_X_mixCode_0]
  refine Eq.trans ?_ (hh.trans ?_)
  · rfl
  · rw [e_X_mixCode_6, Co_ck hcd.1, Code_size xs hcd.1, zci_ok, hcd.2.1, if_pos (Int.le_refl _), e_X_mixCode_88, pX_ck, X_clear xs hB hR hzc rfl, zci_ok, X_mix, zcl_ok', pX_r_readings, Rd_ck, x1, zci_ok, X_mix, zcl_ok', pX_ck, X_oddness xs hB hR1 hzc, zci_ok, X_mix, zcl_ok', pX_ck, X_apart xs hB hR1 hzc, zci_ok, X_mix, zcl_ok', pX_ck, y1, zci_ok, X_mix, zcl_ok']
    have e1 : clS G c 0 = if alS G c = -1 then 1 else 0 := by unfold clS; rw [if_pos a, if_pos (by omega), if_pos rfl]
    have e2 : odS G c = odO G c := if_pos a
    have e3 : apS G c = apO G c := if_pos a
    have e4 : stopS G c = spV G c := if_pos a
    rw [e1, e2, e3, e4]
    rfl
theorem X_digest (xs : List Int) {G g : Nat → Int → Int} (hB : Bd G) (hR : Rel G g) : ∃ g1, zx zblk xs 169 0 [some (.inr (.inr (some pX)))] [] (HH g) = some (some (.inr (.inl (dgS G))), HH g1) ∧ zFr scX g g1 := by
  obtain ⟨q1, q5, q8, q10, q18⟩ := id hB.1
  -- signals
  have hsg := zloop (fun s : Nat => zx zblk xs 169 6 [some (.inr (.inr (some pX))), some (.inr (.inl (mxR (fun k => G pM_signalRows k) (4 * s) 479))), none, some (.inl ((s : Int)))] [] (HH g)) (G pM 8).toNat (fun s hs => by
    have hi := zloop (fun k : Nat => zx zblk xs 169 20 [some (.inr (.inr (some pX))), some (.inr (.inl (mxR (fun k => G pM_signalRows k) (4 * s + k) 479))), none, some (.inl ((s : Int))), some (.inl ((k : Int)))] [] (HH g)) 4 (fun k hk => by
      have e1 : aboutS G s k = G pM_signalRows ((4 * s + k : Nat) : Int) := by
        unfold aboutS
        rw [if_pos (by omega), if_pos (by omega)]
        congr 1
      rw [e_X_digest_20, if_neg (by rw [show zw 3 = 3 from rfl, zw_id (by omega) (by omega)]; omega), pX_ck, X_about xs hB hR (zw_id (by omega) (by omega)) (zw_id (by omega) (by omega)), zci_ok, X_mix, zcl_ok', Int.natCast_succ, e1, ← Nat.add_assoc]
      rfl)
    rw [e_X_digest_6, pX_r_signals, Sg_ck, Signals_told xs hB.1 hR.1, zci_ok, if_neg (by rw [zw_id (by omega) (by omega), zw_id (by omega) (by omega)]; omega)]
    refine Eq.trans hi ?_
    rw [e_X_digest_20, if_pos (by decide), e_X_digest_45, Int.natCast_succ, Nat.mul_succ])
  -- codes
  have codes : ∀ (h0 : Int) (r k : Nat) (gk : Nat → Int → Int), (k : Int) + r = G pM 5 → zFr scX g gk → ∃ g1, zx zblk xs 169 62 [some (.inr (.inr (some pX))), some (.inr (.inl (mxE G h0 k))), none, some (.inl ((k : Int)))] [] (HH gk) = zx zblk xs 169 97 [some (.inr (.inr (some pX))), some (.inr (.inl (mxE G h0 (G pM 5).toNat)))] [] (HH g1) ∧ zFr scX g g1 := by
    intro h0 r
    induction r with
    | zero =>
      intro k gk hk hf
      have hRk := Rel_scX hB hR hf
      have : (G pM 5).toNat = k := by omega
      refine ⟨gk, ?_, hf⟩
      rw [this, e_X_digest_62, pX_g_codesRead, hRk.2.2.2.1.1, if_pos (by rw [zw_id (by omega) (by omega), zw_id (by omega) (by omega)]; omega)]
    | succ r ih =>
      intro k gk hk hf
      have hRk := Rel_scX hB hR hf
      obtain ⟨g2, p1, p2⟩ := X_mixCode xs hB hRk k (by omega) (mxE G h0 k)
      obtain ⟨g1, t1, t2⟩ := ih (k + 1) g2 (by omega) (hf.tr p2)
      refine ⟨g1, ?_, t2⟩
      rw [e_X_digest_62, pX_g_codesRead, hRk.2.2.2.1.1, if_neg (by rw [zw_id (by omega) (by omega), zw_id (by omega) (by omega)]; omega), pX_ck, X_codeAt_in xs hB hRk k (by omega), zcr_ok, zif_some, pX_ck, p1, zcl_ok', e_X_digest_91, ← Int.natCast_succ]
      exact t1
  obtain ⟨ga, a1, a2⟩ := codes (mxR (fun t => G pM_weights t) (G pM 10).toNat (mxR (fun k => G pM_signalRows k) (4 * (G pM 8).toNat) 479)) (G pM 5).toNat 0 g (by omega) zFr.rf
  rw [z0N] at a1
  have hRa := Rel_scX hB hR a2
  -- notes
  have hnt : ∀ h0 : Int, zx zblk xs 169 99 [some (.inr (.inr (some pX))), some (.inr (.inl (h0))), none, some (.inl (0))] [] (HH ga) = zx zblk xs 169 160 [some (.inr (.inr (some pX))), some (.inr (.inl (mxN G h0 (G pM 18).toNat)))] [] (HH ga) := fun h0 => by
    have hN := hRa.2.2.2.2.1
    have hh := zloop (fun n : Nat => zx zblk xs 169 99 [some (.inr (.inr (some pX))), some (.inr (.inl (mxN G h0 n))), none, some (.inl ((n : Int)))] [] (HH ga)) (G pM 18).toNat (fun n hn => by
      obtain ⟨b1, b2, b3, b4, b5⟩ := hB.2.2.2.2.2.1 n (by omega) (by omega)
      have hrow := hN.2 n (by omega)
      have hrw : zRw (16 + 3 + 4 + 2 * n) 8 := No16.2.2.2.2.2.2.2 n (by omega)
      have hlen : (nRow (G pM_noteRows) n).length = (G pM_noteRows (10 * n + 1)).toNat := by unfold nRow; rw [zLi_len]
      have hmr := X_mixRow xs (f := fun k => G pM_noteRows (10 * n + 2 + k)) (m := (G pM_noteRows (10 * n + 1)).toNat) hrw hrow (by omega)
      have hmx : mxN G h0 (n + 1) = mxR (fun k => G pM_noteRows (10 * n + 2 + k)) (G pM_noteRows (10 * n + 1)).toNat (mx (mx (mxN G h0 n) (G pM_noteRows (10 * n))) (G pM_noteRows (10 * n + 1))) := by
        rw [mxN, mxR_app]
        have e0 : mxR (fun k : Nat => G pM_noteRows (10 * n + k)) 2 (mxN G h0 n) = mx (mx (mxN G h0 n) (G pM_noteRows (10 * n))) (G pM_noteRows (10 * n + 1)) := by
          show mx (mx (mxN G h0 n) (G pM_noteRows (10 * n + (0 : Nat)))) (G pM_noteRows (10 * n + (1 : Nat))) = _
          rw [z0N, Int.add_zero]
          rfl
        rw [e0]
        refine mxR_cg (fun k hk => ?_)
        congr 1
        omega
      rw [e_X_digest_99, pX_r_notes, No_ck No16, Notes_size xs No16 (by omega) hN, zci_ok, if_neg (by rw [zw_id (by omega) (by omega), zw_id (by omega) (by omega)]; omega), pX_r_notes, No_ck No16, Notes_thingOf xs No16 (by omega) hN n (by omega), zci_ok, X_mix, zcl_ok', pX_r_notes, No_ck No16, Notes_rowOf xs No16 n (by omega), zcr_ok, Rw_ck hrw, Row_size xs hrw hrow, zci_ok, X_mix, zcl_ok', pX_r_notes, No_ck No16, Notes_rowOf xs No16 n (by omega), zcr_ok, hmr, zcl_ok', Int.natCast_succ, hmx, hlen, Int.toNat_of_nonneg b3]
      rfl)
    refine Eq.trans ?_ (hh.trans ?_)
    · rfl
    · rw [e_X_digest_99, pX_r_notes, No_ck No16, Notes_size xs No16 (by omega) hN, zci_ok, if_pos (by rw [zw_id (by omega) (by omega), zw_id (by omega) (by omega)]; omega)]
  obtain ⟨gb, b1, b2⟩ := X_which xs hB hRa
  have hRb := Rel_scX hB hRa b2
  have hct : ∀ h0 : Int, zx zblk xs 169 181 [some (.inr (.inr (some pX))), some (.inr (.inl (h0))), none, some (.inl (0))] [] (HH gb) = some (some (.inr (.inl (mxR (fun w => coS G w) 6 h0))), HH gb) := fun h0 => by
    have hh := zloop (fun w : Nat => zx zblk xs 169 181 [some (.inr (.inr (some pX))), some (.inr (.inl (mxR (fun w => coS G w) w h0))), none, some (.inl ((w : Int)))] [] (HH gb)) 6 (fun w hw => by
      rw [e_X_digest_181, if_neg (by rw [show zw 5 = 5 from rfl, zw_id (by omega) (by omega)]; omega), pX_ck, X_count xs hB hRb (zw_id (by omega) (by omega)), zci_ok, X_mix, zcl_ok', Int.natCast_succ]
      rfl)
    refine Eq.trans ?_ (hh.trans ?_)
    · rfl
    · rw [e_X_digest_181, if_pos (by decide), e_X_digest_203]
  refine ⟨gb, ?_, a2.tr b2⟩
  have hmw := X_mixRow xs (f := fun t => G pM_weights t) (m := (G pM 10).toNat) Rw11 hR.2.1 (by omega)
  have hmp := X_mixRow xs (f := fun k => G pM_page k) (m := (G pM 1).toNat) Rw14 hRb.2.2.1 (by omega)
  rw [e_X_digest_0]
  refine Eq.trans hsg ?_
  rw [e_X_digest_6, pX_r_signals, Sg_ck, Signals_told xs hB.1 hR.1, zci_ok, if_pos (by rw [zw_id (by omega) (by omega), zw_id (by omega) (by omega)]; omega), e_X_digest_51, pX_r_weights, hmw, zcl_ok']
  refine Eq.trans a1 ?_
  rw [e_X_digest_97, hnt, e_X_digest_160, pX_ck, b1, zci_ok, X_mix, zcl_ok', pX_r_page, hmp, zcl_ok', hct]
  rfl
/-! the reference -/
theorem M_say (xs : List Int) (g : Nat → Int → Int) (v : Int) : zx zblk xs 79 0 [some (.inr (.inr (some pM))), some (.inr (.inl (v))), none] [] (HH g) = some (none, HH (up g pM 26 (31 * g pM 26 + v))) := by
  rw [e_M_say_0, pM_g_hash, pM_p_hash]
theorem M_sayCode (xs : List Int) {g : Nat → Int → Int} (hB : Bd g) {c : Int} (a : 0 ≤ c ∧ c < g pM 5) : ∃ g1, zx zblk xs 80 0 [some (.inr (.inr (some pM))), some (.inl (c))] [] (HH g) = some (none, HH g1) ∧ g1 pM 26 = mxD g c (g pM 26) ∧ zFr scM g g1 := by
  obtain ⟨-, q5, -⟩ := id hB.1
  obtain ⟨n1, n2, n3⟩ := nS_rg hB a
  have hash : ∀ {ga gb : Nat → Int → Int}, zFr scP ga gb → gb pM 26 = ga pM 26 := fun h => h pM 26 (by simp only [scP, pM, pM_page, pM_readRows, pM_speeches, pM_rows, pM_signalRows, pM_weights, pM_plain, pM_plains, pM_ahead, pM_heap, pM_noteRows, pM_ways, pM_before, pM_keptWeights, pM_keptRows, pX, pX_signals, pX_weights, pX_codes, pX_page, pX_notes, pX_keptWeights, pX_keptNotes, pX_said, pX_heard, pX_pool, pX_struck, pX_readings]; omega)
  have hashA : ∀ {ga gb : Nat → Int → Int}, zFr scA ga gb → gb pM 26 = ga pM 26 := fun h => h pM 26 (by simp only [scA, scP, pM, pM_page, pM_readRows, pM_speeches, pM_rows, pM_signalRows, pM_weights, pM_plain, pM_plains, pM_ahead, pM_heap, pM_noteRows, pM_ways, pM_before, pM_keptWeights, pM_keptRows, pX, pX_signals, pX_weights, pX_codes, pX_page, pX_notes, pX_keptWeights, pX_keptNotes, pX_said, pX_heard, pX_pool, pX_struck, pX_readings]; omega)
  -- one number of a speech
  have one : ∀ (gk : Nat → Int → Int) (s : Nat) (i : Int), s < nS g c → zw i = i → zFr scM g gk → ∃ g1, zx zblk xs 24 0 [some (.inr (.inr (some pM))), some (.inl (c)), some (.inl ((s : Int))), some (.inl (i))] [] (HH gk) = some (some (.inl (spO g c s i)), HH g1) ∧ g1 pM 26 = gk pM 26 ∧ zFr scM g g1 := fun gk s i hs hi hf => by
    have hes := es_scM hf
    have hsp : gk pM_speeches c = nS g c := by rw [(es_all hes).2.1, n1]
    have h5 : gk pM 5 = g pM 5 := (es_all hes).2.2.2.2.2.2.2.2.2.1
    obtain ⟨g1, p1, p2⟩ := M_speechOf xs (es_Bd hes hB) (c := c) (s := (s : Int)) (i := i) (by rw [h5]; exact a) (by rw [hsp]; omega) hi
    rw [es_spO hes] at p1
    exact ⟨g1, p1, hash p2, hf.tr (p2.mono (fun _ _ => scP_M))⟩
  have inner : ∀ (s : Nat), s < nS g c → ∀ (r k : Nat) (gk : Nat → Int → Int), k + r = 6 → gk pM 26 = mxR (fun k => spO g c s k) k (mxS g c (g pM 26) s) → zFr scM g gk → ∃ g1, zx zblk xs 80 14 [some (.inr (.inr (some pM))), some (.inl (c)), some (.inl ((s : Int))), some (.inl ((k : Int)))] [] (HH gk) = zx zblk xs 80 38 [some (.inr (.inr (some pM))), some (.inl (c)), some (.inl ((s : Int)))] [] (HH g1) ∧ g1 pM 26 = mxR (fun k => spO g c s k) 6 (mxS g c (g pM 26) s) ∧ zFr scM g g1 := by
    intro s hs r
    induction r with
    | zero =>
      intro k gk hk h26 hf
      have : k = 6 := by omega
      subst this
      exact ⟨gk, by rw [e_M_sayCode_14, if_pos (by decide)], h26, hf⟩
    | succ r ih =>
      intro k gk hk h26 hf
      obtain ⟨g2, p1, p2, p3⟩ := one gk s k hs (zw_id (by omega) (by omega)) hf
      obtain ⟨g1, t1, t2, t3⟩ := ih (k + 1) (up g2 pM 26 (31 * g2 pM 26 + zw (spO g c s k))) (by omega) (by
        rw [up_same, p2, h26, mxR]
        rfl) (p3.up scM_26)
      refine ⟨g1, ?_, t2, t3⟩
      rw [e_M_sayCode_14, if_neg (by rw [show zw 6 = 6 from rfl, zw_id (by omega) (by omega)]; omega), pM_ck, p1, zci_ok, pM_ck, M_say, zcv_ok, ← Int.natCast_succ]
      exact t1
  have outer : ∀ (r s : Nat) (gk : Nat → Int → Int), s + r = nS g c → gk pM 26 = mxS g c (g pM 26) s → zFr scM g gk → ∃ g1, zx zblk xs 80 2 [some (.inr (.inr (some pM))), some (.inl (c)), some (.inl ((s : Int)))] [] (HH gk) = zx zblk xs 80 70 [some (.inr (.inr (some pM))), some (.inl (c))] [] (HH g1) ∧ g1 pM 26 = mxS g c (g pM 26) (nS g c) ∧ zFr scM g g1 := by
    intro r
    induction r with
    | zero =>
      intro s gk hs h26 hf
      have hsp : gk pM_speeches c = nS g c := by rw [(es_all (es_scM hf)).2.1, n1]
      have : s = nS g c := by omega
      refine ⟨gk, ?_, this ▸ h26, hf⟩
      rw [e_M_sayCode_2, pM_r_speeches, pM_a_speeches xs _ (by omega) (by omega), hsp, if_pos (by rw [this]; exact Int.le_refl _)]
    | succ r ih =>
      intro s gk hs h26 hf
      have hsp : gk pM_speeches c = nS g c := by rw [(es_all (es_scM hf)).2.1, n1]
      obtain ⟨g2, p1, p2, p3⟩ := inner s (by omega) 6 0 gk (by omega) h26 hf
      rw [z0N] at p1
      obtain ⟨g3, r1, r2, r3⟩ := one g2 s 10 (by omega) rfl p3
      obtain ⟨g4, u1, u2, u3⟩ := one (up g3 pM 26 (31 * g3 pM 26 + zw (spO g c s 10))) s 30 (by omega) rfl (r3.up scM_26)
      obtain ⟨g1, t1, t2, t3⟩ := ih (s + 1) (up g4 pM 26 (31 * g4 pM 26 + zw (spO g c s 30))) (by omega) (by
        rw [up_same, u2, up_same, r2, p2, mxS]
        rfl) (u3.up scM_26)
      refine ⟨g1, ?_, t2, t3⟩
      rw [e_M_sayCode_2, pM_r_speeches, pM_a_speeches xs _ (by omega) (by omega), hsp, if_neg (by rw [zw_id (by omega) (by omega), zw_id (by omega) (by omega)]; omega), p1, e_M_sayCode_38, pM_ck, r1, zci_ok, pM_ck, M_say, zcv_ok, pM_ck, u1, zci_ok, pM_ck, M_say, zcv_ok, ← Int.natCast_succ]
      exact t1
  obtain ⟨ga, a1, a2, a3⟩ := outer (nS g c) 0 g (by omega) rfl zFr.rf
  rw [z0N] at a1
  have hc5 : ∀ {gk : Nat → Int → Int}, zFr scM g gk → 0 ≤ c ∧ c < gk pM 5 := fun hf => by
    have h5 := (es_all (es_scM hf)).2.2.2.2.2.2.2.2.2.1
    rw [h5]
    exact a
  obtain ⟨gb, b1, b2⟩ := M_alikeOf xs (es_Bd (es_scM a3) hB) (hc5 a3)
  rw [es_alS (es_scM a3)] at b1
  have fb : zFr scM g gb := a3.tr (b2.mono (fun _ _ => scA_M))
  have hb26 := hashA b2
  have fb' : zFr scM g (up gb pM 26 (31 * gb pM 26 + (if alS g c = -1 then 1 else 0))) := fb.up scM_26
  obtain ⟨gc, c1, c2⟩ := M_twiceOf xs (es_Bd (es_scM fb') hB) (hc5 fb')
  rw [es_twO (es_scM fb')] at c1
  have hc26 : gc pM 26 = 31 * gb pM 26 + (if alS g c = -1 then 1 else 0) := by
    rw [c2 pM 26 (by simp only [scA, scP, scT, pM, pM_page, pM_readRows, pM_speeches, pM_rows, pM_signalRows, pM_weights, pM_plain, pM_plains, pM_ahead, pM_heap, pM_noteRows, pM_ways, pM_before, pM_keptWeights, pM_keptRows, pX, pX_signals, pX_weights, pX_codes, pX_page, pX_notes, pX_keptWeights, pX_keptNotes, pX_said, pX_heard, pX_pool, pX_struck, pX_readings]; omega), up_same]
  have fc : zFr scM g gc := fb'.tr (c2.mono (fun q j z => scAT_M z))
  have fc' : zFr scM g (up gc pM 26 (31 * gc pM 26 + zw (twO g c))) := fc.up scM_26
  have hod := M_oddnessOf xs (es_Bd (es_scM fc') hB) (hc5 fc')
  rw [es_odO (es_scM fc')] at hod
  have fd : zFr scM g (up (up gc pM 26 (31 * gc pM 26 + zw (twO g c))) pM 26 (31 * (31 * gc pM 26 + zw (twO g c)) + zw (odO g c))) := fc'.up scM_26
  obtain ⟨ge, e1, e2⟩ := M_apartOf xs (es_Bd (es_scM fd) hB) (hc5 fd)
  rw [es_apO (es_scM fd)] at e1
  have he26 := hashA e2
  rw [up_same] at he26
  have fe : zFr scM g ge := fd.tr (e2.mono (fun _ _ => scA_M))
  have fe' : zFr scM g (up ge pM 26 (31 * ge pM 26 + zw (apO g c))) := fe.up scM_26
  obtain ⟨gf, f1, f2⟩ := M_stopOf xs (es_Bd (es_scM fe') hB) (hc5 fe')
  rw [es_spV (es_scM fe')] at f1
  have hf26 := hashA f2
  rw [up_same] at hf26
  have ff : zFr scM g gf := fe'.tr (f2.mono (fun _ _ => scA_M))
  refine ⟨up gf pM 26 (31 * gf pM 26 + zw (spV g c)), ?_, ?_, ff.up scM_26⟩
  · have e85 : zx zblk xs 80 70 [some (.inr (.inr (some pM))), some (.inl (c))] [] (HH ga) = zx zblk xs 80 85 [some (.inr (.inr (some pM))), some (.inl (c))] [.inr (.inl (if alS g c = -1 then 1 else 0)), .inr (.inr (some pM))] (HH gb) := by
      have hrg := alO_rg (fun s => plS g 0 c s) n3
      have hal : -1 ≤ alS g c ∧ alS g c ≤ 63 := hrg
      rw [e_M_sayCode_70, pM_ck, b1, zci_ok, show zw (-1) = -1 from rfl, zw_id (by omega) (by omega)]
      by_cases z : alS g c = -1
      · rw [if_neg (fun y => y z), if_pos z]
      · rw [if_pos z, if_neg z, e_M_sayCode_84]
    rw [e_M_sayCode_0, a1, e85, e_M_sayCode_85, pM_ck, M_say, zcv_ok, pM_ck, c1, zci_ok, pM_ck, M_say, zcv_ok, pM_ck, hod, zci_ok, pM_ck, M_say, zcv_ok, up_same, pM_ck, e1, zci_ok, pM_ck, M_say, zcv_ok, pM_ck, f1, zci_ok, pM_ck, M_say, zcv_ok]
  · have h01 : zw (if alS g c = -1 then 1 else 0) = if alS g c = -1 then 1 else 0 := by split <;> rfl
    rw [up_same, hf26, he26, hc26, hb26, a2]
    unfold mxD
    simp only [mx, h01]
theorem M_digest (xs : List Int) {g : Nat → Int → Int} (hB : Bd g) : ∃ g1, zx zblk xs 81 0 [some (.inr (.inr (some pM)))] [] (HH g) = some (some (.inr (.inl (dgS g))), HH g1) ∧ zFr scM g g1 := by
  obtain ⟨q1, q5, q8, q10, q18⟩ := id hB.1
  -- a loop that says what stands in a row
  have sig : ∀ (r k : Nat) (gk : Nat → Int → Int), (k : Int) + r = 4 * g pM 8 → gk pM 26 = mxR (fun k => g pM_signalRows k) k 479 → zFr scM g gk → ∃ g1, zx zblk xs 81 9 [some (.inr (.inr (some pM))), some (.inl ((k : Int)))] [] (HH gk) = zx zblk xs 81 36 [some (.inr (.inr (some pM)))] [] (HH g1) ∧ g1 pM 26 = mxR (fun k => g pM_signalRows k) (4 * (g pM 8).toNat) 479 ∧ zFr scM g g1 := by
    intro r
    induction r with
    | zero =>
      intro k gk hk h26 hf
      obtain ⟨k1, k2, k3, k4, k5, k6, k7, k8, k9, k10, k11, k12, k13, k14, k15⟩ := es_all (es_scM hf)
      have : 4 * (g pM 8).toNat = k := by omega
      refine ⟨gk, ?_, this ▸ h26, hf⟩
      rw [e_M_digest_9, pM_g_signals, k11, if_pos (by rw [zw_id (by omega) (by omega), zw_id (by omega) (by omega)]; omega)]
    | succ r ih =>
      intro k gk hk h26 hf
      obtain ⟨k1, k2, k3, k4, k5, k6, k7, k8, k9, k10, k11, k12, k13, k14, k15⟩ := es_all (es_scM hf)
      obtain ⟨g1, t1, t2, t3⟩ := ih (k + 1) (up gk pM 26 (31 * gk pM 26 + zw (g pM_signalRows k))) (by omega) (by rw [up_same, h26, mxR]; rfl) (hf.up scM_26)
      refine ⟨g1, ?_, t2, t3⟩
      rw [e_M_digest_9, pM_g_signals, k11, if_neg (by rw [zw_id (by omega) (by omega), zw_id (by omega) (by omega)]; omega), pM_r_signalRows, pM_a_signalRows xs _ (by omega) (by omega), k4, pM_ck, M_say, zcv_ok, ← Int.natCast_succ]
      exact t1
  have wei : ∀ (h0 : Int) (r k : Nat) (gk : Nat → Int → Int), (k : Int) + r = g pM 10 → gk pM 26 = mxR (fun k => g pM_weights k) k h0 → zFr scM g gk → ∃ g1, zx zblk xs 81 38 [some (.inr (.inr (some pM))), some (.inl ((k : Int)))] [] (HH gk) = zx zblk xs 81 63 [some (.inr (.inr (some pM)))] [] (HH g1) ∧ g1 pM 26 = mxR (fun k => g pM_weights k) (g pM 10).toNat h0 ∧ zFr scM g g1 := by
    intro h0 r
    induction r with
    | zero =>
      intro k gk hk h26 hf
      obtain ⟨k1, k2, k3, k4, k5, k6, k7, k8, k9, k10, k11, k12, k13, k14, k15⟩ := es_all (es_scM hf)
      have : (g pM 10).toNat = k := by omega
      refine ⟨gk, ?_, this ▸ h26, hf⟩
      rw [e_M_digest_38, pM_g_things, k12, if_pos (by rw [zw_id (by omega) (by omega), zw_id (by omega) (by omega)]; omega)]
    | succ r ih =>
      intro k gk hk h26 hf
      obtain ⟨k1, k2, k3, k4, k5, k6, k7, k8, k9, k10, k11, k12, k13, k14, k15⟩ := es_all (es_scM hf)
      obtain ⟨g1, t1, t2, t3⟩ := ih (k + 1) (up gk pM 26 (31 * gk pM 26 + zw (g pM_weights k))) (by omega) (by rw [up_same, h26, mxR]; rfl) (hf.up scM_26)
      refine ⟨g1, ?_, t2, t3⟩
      rw [e_M_digest_38, pM_g_things, k12, if_neg (by rw [zw_id (by omega) (by omega), zw_id (by omega) (by omega)]; omega), pM_r_weights, pM_a_weights xs _ (by omega) (by omega), k5, pM_ck, M_say, zcv_ok, ← Int.natCast_succ]
      exact t1
  have cod : ∀ (h0 : Int) (r k : Nat) (gk : Nat → Int → Int), (k : Int) + r = g pM 5 → gk pM 26 = mxE g h0 k → zFr scM g gk → ∃ g1, zx zblk xs 81 65 [some (.inr (.inr (some pM))), some (.inl ((k : Int)))] [] (HH gk) = zx zblk xs 81 84 [some (.inr (.inr (some pM)))] [] (HH g1) ∧ g1 pM 26 = mxE g h0 (g pM 5).toNat ∧ zFr scM g g1 := by
    intro h0 r
    induction r with
    | zero =>
      intro k gk hk h26 hf
      obtain ⟨k1, k2, k3, k4, k5, k6, k7, k8, k9, k10, k11, k12, k13, k14, k15⟩ := es_all (es_scM hf)
      have : (g pM 5).toNat = k := by omega
      refine ⟨gk, ?_, this ▸ h26, hf⟩
      rw [e_M_digest_65, pM_g_codes, k10, if_pos (by rw [zw_id (by omega) (by omega), zw_id (by omega) (by omega)]; omega)]
    | succ r ih =>
      intro k gk hk h26 hf
      obtain ⟨k1, k2, k3, k4, k5, k6, k7, k8, k9, k10, k11, k12, k13, k14, k15⟩ := es_all (es_scM hf)
      obtain ⟨g2, p1, p2, p3⟩ := M_sayCode xs (es_Bd (es_scM hf) hB) (c := (k : Int)) (by omega)
      rw [es_mxD (es_scM hf), h26] at p2
      obtain ⟨g1, t1, t2, t3⟩ := ih (k + 1) g2 (by omega) p2 (hf.tr p3)
      refine ⟨g1, ?_, t2, t3⟩
      rw [e_M_digest_65, pM_g_codes, k10, if_neg (by rw [zw_id (by omega) (by omega), zw_id (by omega) (by omega)]; omega), pM_ck, p1, zcv_ok, ← Int.natCast_succ]
      exact t1
  have nin : ∀ (n : Nat), (n : Int) < g pM 18 → ∀ (h0 : Int) (r k : Nat) (gk : Nat → Int → Int), k + r = 2 + (g pM_noteRows (10 * n + 1)).toNat → gk pM 26 = mxR (fun k => g pM_noteRows (10 * n + k)) k h0 → zFr scM g gk → ∃ g1, zx zblk xs 81 96 [some (.inr (.inr (some pM))), some (.inl ((n : Int))), some (.inl ((k : Int)))] [] (HH gk) = zx zblk xs 81 135 [some (.inr (.inr (some pM))), some (.inl ((n : Int)))] [] (HH g1) ∧ g1 pM 26 = mxR (fun k => g pM_noteRows (10 * n + k)) (2 + (g pM_noteRows (10 * n + 1)).toNat) h0 ∧ zFr scM g g1 := by
    intro n hn h0 r
    obtain ⟨b1, b2, b3, b4, b5⟩ := hB.2.2.2.2.2.1 n (by omega) (by omega)
    induction r with
    | zero =>
      intro k gk hk h26 hf
      obtain ⟨k1, k2, k3, k4, k5, k6, k7, k8, k9, k10, k11, k12, k13, k14, k15⟩ := es_all (es_scM hf)
      have : 2 + (g pM_noteRows (10 * n + 1)).toNat = k := by omega
      refine ⟨gk, ?_, this ▸ h26, hf⟩
      rw [e_M_digest_96, pM_r_noteRows, pM_a_noteRows xs _ (by omega) (by omega), k6, if_pos (by rw [zw_id (by omega) (by omega), zw_id (by omega) (by omega)]; omega)]
    | succ r ih =>
      intro k gk hk h26 hf
      obtain ⟨k1, k2, k3, k4, k5, k6, k7, k8, k9, k10, k11, k12, k13, k14, k15⟩ := es_all (es_scM hf)
      obtain ⟨g1, t1, t2, t3⟩ := ih (k + 1) (up gk pM 26 (31 * gk pM 26 + zw (g pM_noteRows (10 * n + k)))) (by omega) (by rw [up_same, h26, mxR]; rfl) (hf.up scM_26)
      refine ⟨g1, ?_, t2, t3⟩
      rw [e_M_digest_96, pM_r_noteRows, pM_a_noteRows xs _ (by omega) (by omega), k6, if_neg (by rw [zw_id (by omega) (by omega), zw_id (by omega) (by omega)]; omega), pM_r_noteRows, pM_a_noteRows xs _ (by omega) (by omega), k6, pM_ck, M_say, zcv_ok, ← Int.natCast_succ]
      exact t1
  have nts : ∀ (h0 : Int) (r k : Nat) (gk : Nat → Int → Int), (k : Int) + r = g pM 18 → gk pM 26 = mxN g h0 k → zFr scM g gk → ∃ g1, zx zblk xs 81 86 [some (.inr (.inr (some pM))), some (.inl ((k : Int)))] [] (HH gk) = zx zblk xs 81 141 [some (.inr (.inr (some pM)))] [] (HH g1) ∧ g1 pM 26 = mxN g h0 (g pM 18).toNat ∧ zFr scM g g1 := by
    intro h0 r
    induction r with
    | zero =>
      intro k gk hk h26 hf
      obtain ⟨k1, k2, k3, k4, k5, k6, k7, k8, k9, k10, k11, k12, k13, k14, k15⟩ := es_all (es_scM hf)
      have : (g pM 18).toNat = k := by omega
      refine ⟨gk, ?_, this ▸ h26, hf⟩
      rw [e_M_digest_86, pM_g_notes, k13, if_pos (by rw [zw_id (by omega) (by omega), zw_id (by omega) (by omega)]; omega)]
    | succ r ih =>
      intro k gk hk h26 hf
      obtain ⟨k1, k2, k3, k4, k5, k6, k7, k8, k9, k10, k11, k12, k13, k14, k15⟩ := es_all (es_scM hf)
      obtain ⟨g2, p1, p2, p3⟩ := nin k (by omega) (mxN g h0 k) (2 + (g pM_noteRows (10 * k + 1)).toNat) 0 gk (by omega) h26 hf
      rw [z0N] at p1
      obtain ⟨g1, t1, t2, t3⟩ := ih (k + 1) g2 (by omega) (by rw [p2, mxN]) p3
      refine ⟨g1, ?_, t2, t3⟩
      rw [e_M_digest_86, pM_g_notes, k13, if_neg (by rw [zw_id (by omega) (by omega), zw_id (by omega) (by omega)]; omega), p1, e_M_digest_135, ← Int.natCast_succ]
      exact t1
  have pag : ∀ (h0 : Int) (r k : Nat) (gk : Nat → Int → Int), (k : Int) + r = g pM 1 → gk pM 26 = mxR (fun k => g pM_page k) k h0 → zFr scM g gk → ∃ g1, zx zblk xs 81 152 [some (.inr (.inr (some pM))), some (.inl ((k : Int)))] [] (HH gk) = zx zblk xs 81 177 [some (.inr (.inr (some pM)))] [] (HH g1) ∧ g1 pM 26 = mxR (fun k => g pM_page k) (g pM 1).toNat h0 ∧ zFr scM g g1 := by
    intro h0 r
    induction r with
    | zero =>
      intro k gk hk h26 hf
      obtain ⟨k1, k2, k3, k4, k5, k6, k7, k8, k9, k10, k11, k12, k13, k14, k15⟩ := es_all (es_scM hf)
      have : (g pM 1).toNat = k := by omega
      refine ⟨gk, ?_, this ▸ h26, hf⟩
      rw [e_M_digest_152, pM_g_pageMany, k9, if_pos (by rw [zw_id (by omega) (by omega), zw_id (by omega) (by omega)]; omega)]
    | succ r ih =>
      intro k gk hk h26 hf
      obtain ⟨k1, k2, k3, k4, k5, k6, k7, k8, k9, k10, k11, k12, k13, k14, k15⟩ := es_all (es_scM hf)
      obtain ⟨g1, t1, t2, t3⟩ := ih (k + 1) (up gk pM 26 (31 * gk pM 26 + zw (g pM_page k))) (by omega) (by rw [up_same, h26, mxR]; rfl) (hf.up scM_26)
      refine ⟨g1, ?_, t2, t3⟩
      rw [e_M_digest_152, pM_g_pageMany, k9, if_neg (by rw [zw_id (by omega) (by omega), zw_id (by omega) (by omega)]; omega), pM_r_page, pM_a_page xs _ (by omega) (by omega), k1, pM_ck, M_say, zcv_ok, ← Int.natCast_succ]
      exact t1
  have cou : ∀ (h0 : Int) (r k : Nat) (gk : Nat → Int → Int), k + r = 6 → gk pM 26 = mxR (fun w => coS g w) k h0 → zFr scM g gk → ∃ g1, zx zblk xs 81 179 [some (.inr (.inr (some pM))), some (.inl ((k : Int)))] [] (HH gk) = some (some (.inr (.inl (mxR (fun w => coS g w) 6 h0))), HH g1) ∧ zFr scM g g1 := by
    intro h0 r
    induction r with
    | zero =>
      intro k gk hk h26 hf
      have : k = 6 := by omega
      subst this
      refine ⟨gk, ?_, hf⟩
      rw [e_M_digest_179, if_pos (by decide), e_M_digest_201, pM_g_hash, h26]
    | succ r ih =>
      intro k gk hk h26 hf
      have hco := M_countOf xs (es_Bd (es_scM hf) hB) (w := (k : Int)) (zw_id (by omega) (by omega))
      rw [es_coS (es_scM hf)] at hco
      obtain ⟨g1, t1, t2⟩ := ih (k + 1) (up gk pM 26 (31 * gk pM 26 + zw (coS g k))) (by omega) (by rw [up_same, h26, mxR]; rfl) (hf.up scM_26)
      refine ⟨g1, ?_, t2⟩
      rw [e_M_digest_179, if_neg (by rw [show zw 6 = 6 from rfl, zw_id (by omega) (by omega)]; omega), pM_ck, hco, zci_ok, pM_ck, M_say, zcv_ok, ← Int.natCast_succ]
      exact t1
  obtain ⟨ga, a1, a2, a3⟩ := sig (4 * g pM 8).toNat 0 (up g pM 26 479) (by omega) (up_same _ _ _ _) (zFr.rf.up scM_26)
  obtain ⟨gb, b1, b2, b3⟩ := wei _ (g pM 10).toNat 0 ga (by omega) a2 a3
  obtain ⟨gc, c1, c2, c3⟩ := cod _ (g pM 5).toNat 0 gb (by omega) b2 b3
  obtain ⟨gd, d1, d2, d3⟩ := nts _ (g pM 18).toNat 0 gc (by omega) c2 c3
  obtain ⟨ge, e1, e2⟩ := M_whichNow xs (es_Bd (es_scM d3) hB)
  rw [es_whS (es_scM d3)] at e1
  have he26 : ge pM 26 = gd pM 26 := e2 pM 26 (by simp only [scA, scP, pM, pM_page, pM_readRows, pM_speeches, pM_rows, pM_signalRows, pM_weights, pM_plain, pM_plains, pM_ahead, pM_heap, pM_noteRows, pM_ways, pM_before, pM_keptWeights, pM_keptRows, pX, pX_signals, pX_weights, pX_codes, pX_page, pX_notes, pX_keptWeights, pX_keptNotes, pX_said, pX_heard, pX_pool, pX_struck, pX_readings]; omega)
  have fe : zFr scM g ge := d3.tr (e2.mono (fun _ _ => scA_M))
  obtain ⟨gf, f1, f2, f3⟩ := pag (mx (gd pM 26) (whS g)) (g pM 1).toNat 0 (up ge pM 26 (31 * ge pM 26 + zw (whS g))) (by omega) (by rw [up_same, he26]; rfl) (fe.up scM_26)
  obtain ⟨gg, h1, h2⟩ := cou _ 6 0 gf (by omega) f2 f3
  rw [z0N] at a1 b1 c1 d1 f1 h1
  refine ⟨gg, ?_, h2⟩
  rw [e_M_digest_0, pM_p_hash, a1, e_M_digest_36, b1, e_M_digest_63, c1, e_M_digest_84, d1, e_M_digest_141, pM_ck, e1, zci_ok, pM_ck, M_say, zcv_ok, f1, e_M_digest_177, h1, d2]
  rfl
theorem op_digest (xs : List Int) {g : Nat → Int → Int} (hI : Inv g) : zOp xs (fun h => zx zblk xs 169 0 [some (.inr (.inr (some pX)))] [] h) (fun h => zx zblk xs 81 0 [some (.inr (.inr (some pM)))] [] h) (fun v => .inr (.inl v)) g := op_q (val := fun v => .inr (.inl v)) (sp := fun G => dgS G) (fun g hI => X_digest xs hI.1 hI.2) (fun g hB => M_digest xs hB) (fun g1 g h => es_dgS h) hI
