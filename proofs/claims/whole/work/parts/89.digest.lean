/-! ===== digest ===== -/
def mx (h v : Int) : Int := 31 * h + zw v
def mxR (f : Nat → Int) : Nat → Int → Int
  | 0, h => h
  | k + 1, h => mx (mxR f k h) (f k)
theorem mxR_cg {f f' : Nat → Int} {h : Int} : ∀ {n : Nat}, (∀ k, k < n → f k = f' k) → mxR f n h = mxR f' n h
  | 0, _ => rfl
  | n + 1, e => by rw [mxR, mxR, mxR_cg (fun k hk => e k (by omega)), e n (by omega)]
theorem mxR_app (f : Nat → Int) (h : Int) (a : Nat) : ∀ b, mxR f (a + b) h = mxR (fun k => f (a + k)) b (mxR f a h)
  | 0 => rfl
  | b + 1 => by rw [← Nat.add_assoc, mxR, mxR, mxR_app f h a b]
noncomputable def mxS (G : Nat → Int → Int) (c : Int) (h : Int) : Nat → Int
  | 0 => h
  | s + 1 => mx (mx (mxR (fun k => spO G c s k) 6 (mxS G c h s)) (spO G c s 10)) (spO G c s 30)
noncomputable def mxD (G : Nat → Int → Int) (c : Int) (h : Int) : Int := mx (mx (mx (mx (mx (mxS G c h (nS G c)) (if alS G c = -1 then 1 else 0)) (twO G c)) (odO G c)) (apO G c)) (spV G c)
noncomputable def mxE (G : Nat → Int → Int) (h : Int) : Nat → Int
  | 0 => h
  | c + 1 => mxD G c (mxE G h c)
def mxN (G : Nat → Int → Int) (h : Int) : Nat → Int
  | 0 => h
  | n + 1 => mxR (fun k => G pM_noteRows (10 * n + k)) (2 + (G pM_noteRows (10 * n + 1)).toNat) (mxN G h n)
noncomputable def dgS (G : Nat → Int → Int) : Int := mxR (fun w => coS G w) 6 (mxR (fun k => G pM_page k) (G pM 1).toNat (mx (mxN G (mxE G (mxR (fun t => G pM_weights t) (G pM 10).toNat (mxR (fun k => G pM_signalRows k) (4 * (G pM 8).toNat) 479)) (G pM 5).toNat) (G pM 18).toNat) (whS G)))
theorem es_mxD {g1 g : Nat → Int → Int} (h : es g1 = es g) : mxD g1 = mxD g := by
  funext c v
  have hs : ∀ n, mxS g1 c v n = mxS g c v n := fun n => by
    induction n with
    | zero => rfl
    | succ n ih => rw [mxS, mxS, ih, es_spO h]
  unfold mxD
  rw [hs, es_nS h, es_alS h, es_twO h, es_odO h, es_apO h, es_spV h]
theorem es_dgS {g1 g : Nat → Int → Int} (h : es g1 = es g) : dgS g1 = dgS g := by
  obtain ⟨e1, e2, e3, e4, e5, e6, e7, e8, e9, e10, e11, e12, e13, e14, e15⟩ := es_all h
  have hE : ∀ v n, mxE g1 v n = mxE g v n := fun v n => by
    induction n with
    | zero => rfl
    | succ n ih => rw [mxE, mxE, ih, es_mxD h]
  have hN : ∀ v n, mxN g1 v n = mxN g v n := fun v n => by
    induction n with
    | zero => rfl
    | succ n ih => rw [mxN, mxN, ih, e6]
  unfold dgS
  rw [hE, hN, e1, e4, e5, e9, e10, e11, e12, e13, es_whS h, es_coS h]
/-! the class -/
theorem X_mix (xs : List Int) (h v : Int) (hh : zH) : zx zblk xs 170 0 [some (.inr (.inl (h))), none, some (.inr (.inl (v))), none] [] hh = some (some (.inr (.inl (31 * h + v))), hh) := e_X_mix_0 xs h v hh
theorem X_mixRow (xs : List Int) {g : Nat → Int → Int} {p n : Nat} (hp : zRw p n) {f : Nat → Int} {m : Nat} (hl : zRow g p (zLi f m)) (hm : m ≤ n) (h : Int) : zx zblk xs 171 0 [some (.inr (.inl (h))), none, some (.inr (.inr (some p)))] [] (HH g) = some (some (.inr (.inl (mxR f m h))), HH g) := by
  have hn := hp.2.1
  have hh := zloop (fun k : Nat => zx zblk xs 171 5 [none, none, some (.inr (.inr (some p))), some (.inr (.inl (mxR f k h))), none, some (.inl ((k : Int)))] [] (HH g)) m (fun k hk => by
    rw [e_X_mixRow_5, Rw_ck hp, Row_size xs hp hl, zci_ok, zLi_len, if_neg (by rw [zw_id (by omega) (by omega), zw_id (by omega) (by omega)]; omega), Rw_ck hp, Row_at xs hp hl (by rw [zLi_len]; exact hm) k (zw_id (by omega) (by omega)), zci_ok, zat_Li (by omega), show ((k : Int)).toNat = k from rfl, X_mix, zcl_ok', Int.natCast_succ]
    rfl)
  rw [e_X_mixRow_0]
  refine Eq.trans ?_ (hh.trans ?_)
  · rfl
  · rw [e_X_mixRow_5, Rw_ck hp, Row_size xs hp hl, zci_ok, zLi_len, if_pos (Int.le_refl _), e_X_mixRow_32]
theorem X_mixCode (xs : List Int) {G g : Nat → Int → Int} (hB : Bd G) (hR : Rel G g) (c : Nat) (hc : (c : Int) < G pM 5) (h : Int) : ∃ g1, zx zblk xs 172 0 [some (.inr (.inr (some pX))), some (.inr (.inl (h))), none, some (.inl ((c : Int))), some (.inr (.inr (some (PC c))))] [] (HH g) = some (some (.inr (.inl (mxD G c h))), HH g1) ∧ zFr scX g g1 := by
  obtain ⟨-, q5, -⟩ := id hB.1
  have hc4 : c < 4 := by omega
  have a : 0 ≤ (c : Int) ∧ (c : Int) < G pM 5 := ⟨by omega, hc⟩
  obtain ⟨n1, n2, n3⟩ := nS_rg hB a
  have hcd := hR.cd hc4 hc
  have hzc : zw (c : Int) = c := zw_id (by omega) (by omega)
  have hsp : ∀ (s : Nat) (i : Int), s < nS G c → zw i = i → zx zblk xs 144 0 [some (.inr (.inr (some pX))), some (.inl ((c : Int))), some (.inl ((s : Int))), some (.inl (i))] [] (HH g) = some (some (.inl (spO G c s i)), HH g) := fun s i hs hi => by
    rw [X_speech xs hB hR hzc (zw_id (by omega) (by omega)) hi]
    unfold spS
    rw [if_pos a, if_pos ⟨by omega, by omega⟩]
  have hh := zloop (fun s : Nat => zx zblk xs 172 6 [some (.inr (.inr (some pX))), none, none, some (.inl ((c : Int))), some (.inr (.inr (some (PC c)))), some (.inr (.inl (mxS G c h s))), none, some (.inl ((s : Int)))] [] (HH g)) (nS G c) (fun s hs => by
    have hi := zloop (fun k : Nat => zx zblk xs 172 19 [some (.inr (.inr (some pX))), none, none, some (.inl ((c : Int))), some (.inr (.inr (some (PC c)))), some (.inr (.inl (mxR (fun k => spO G c s k) k (mxS G c h s)))), none, some (.inl ((s : Int))), some (.inl ((k : Int)))] [] (HH g)) 6 (fun k hk => by
      rw [e_X_mixCode_19, if_neg (by rw [show zw 5 = 5 from rfl, zw_id (by omega) (by omega)]; omega), pX_ck, hsp s k hs (zw_id (by omega) (by omega)), zci_ok, X_mix, zcl_ok', Int.natCast_succ]
      rfl)
    rw [e_X_mixCode_6, Co_ck hcd.1, Code_size xs hcd.1, zci_ok, hcd.2.1, if_neg (by rw [zw_id (by omega) (by omega), zw_id (by omega) (by omega)]; omega)]
    refine Eq.trans hi ?_
    rw [e_X_mixCode_19, if_pos (by decide), e_X_mixCode_48, pX_ck, hsp s 10 hs rfl, zci_ok, X_mix, zcl_ok', pX_ck, hsp s 30 hs rfl, zci_ok, X_mix, zcl_ok', Int.natCast_succ]
    rfl)
  obtain ⟨g1, x1, x2⟩ := Rd_leastTwice xs (by simp only [PC]; omega) hcd
  have hR1 := Rel_scX hB hR x2
  obtain ⟨g2, y1, y2⟩ := X_stop xs hB hR1 hzc
  refine ⟨g2, ?_, x2.tr y2⟩
  rw [e_X_mixCode_0]
  refine Eq.trans ?_ (hh.trans ?_)
  · rfl
  · rw [e_X_mixCode_6, Co_ck hcd.1, Code_size xs hcd.1, zci_ok, hcd.2.1, if_pos (Int.le_refl _), e_X_mixCode_88, pX_ck, X_clear xs hB hR hzc rfl, zci_ok, X_mix, zcl_ok', pX_r_readings, Rd_ck, x1, zci_ok, X_mix, zcl_ok', pX_ck, X_oddness xs hB hR1 hzc, zci_ok, X_mix, zcl_ok', pX_ck, X_apart xs hB hR1 hzc, zci_ok, X_mix, zcl_ok', pX_ck, y1, zci_ok, X_mix, zcl_ok']
    have e1 : clS G c 0 = if alS G c = -1 then 1 else 0 := by unfold clS; rw [if_pos a, if_pos (by omega), if_pos rfl]
    have e2 : odS G c = odO G c := if_pos a
    have e3 : apS G c = apO G c := if_pos a
    have e4 : stopS G c = spV G c := if_pos a
    rw [e1, e2, e3, e4]
    rfl
theorem X_digest (xs : List Int) {G g : Nat → Int → Int} (hB : Bd G) (hR : Rel G g) : ∃ g1, zx zblk xs 169 0 [some (.inr (.inr (some pX)))] [] (HH g) = some (some (.inr (.inl (dgS G))), HH g1) ∧ zFr scX g g1 := by
  obtain ⟨q1, q5, q8, q10, q18⟩ := id hB.1
  -- signals
  have hsg := zloop (fun s : Nat => zx zblk xs 169 6 [some (.inr (.inr (some pX))), some (.inr (.inl (mxR (fun k => G pM_signalRows k) (4 * s) 479))), none, some (.inl ((s : Int)))] [] (HH g)) (G pM 8).toNat (fun s hs => by
    have hi := zloop (fun k : Nat => zx zblk xs 169 20 [some (.inr (.inr (some pX))), some (.inr (.inl (mxR (fun k => G pM_signalRows k) (4 * s + k) 479))), none, some (.inl ((s : Int))), some (.inl ((k : Int)))] [] (HH g)) 4 (fun k hk => by
      have e1 : aboutS G s k = G pM_signalRows ((4 * s + k : Nat) : Int) := by
        unfold aboutS
        rw [if_pos (by omega), if_pos (by omega)]
        congr 1
      rw [e_X_digest_20, if_neg (by rw [show zw 3 = 3 from rfl, zw_id (by omega) (by omega)]; omega), pX_ck, X_about xs hB hR (zw_id (by omega) (by omega)) (zw_id (by omega) (by omega)), zci_ok, X_mix, zcl_ok', Int.natCast_succ, e1, ← Nat.add_assoc]
      rfl)
    rw [e_X_digest_6, pX_r_signals, Sg_ck, Signals_told xs hB.1 hR.1, zci_ok, if_neg (by rw [zw_id (by omega) (by omega), zw_id (by omega) (by omega)]; omega)]
    refine Eq.trans hi ?_
    rw [e_X_digest_20, if_pos (by decide), e_X_digest_45, Int.natCast_succ, Nat.mul_succ])
  -- codes
  have codes : ∀ (h0 : Int) (r k : Nat) (gk : Nat → Int → Int), (k : Int) + r = G pM 5 → zFr scX g gk → ∃ g1, zx zblk xs 169 62 [some (.inr (.inr (some pX))), some (.inr (.inl (mxE G h0 k))), none, some (.inl ((k : Int)))] [] (HH gk) = zx zblk xs 169 97 [some (.inr (.inr (some pX))), some (.inr (.inl (mxE G h0 (G pM 5).toNat)))] [] (HH g1) ∧ zFr scX g g1 := by
    intro h0 r
    induction r with
    | zero =>
      intro k gk hk hf
      have hRk := Rel_scX hB hR hf
      have : (G pM 5).toNat = k := by omega
      refine ⟨gk, ?_, hf⟩
      rw [this, e_X_digest_62, pX_g_codesRead, hRk.2.2.2.1.1, if_pos (by rw [zw_id (by omega) (by omega), zw_id (by omega) (by omega)]; omega)]
    | succ r ih =>
      intro k gk hk hf
      have hRk := Rel_scX hB hR hf
      obtain ⟨g2, p1, p2⟩ := X_mixCode xs hB hRk k (by omega) (mxE G h0 k)
      obtain ⟨g1, t1, t2⟩ := ih (k + 1) g2 (by omega) (hf.tr p2)
      refine ⟨g1, ?_, t2⟩
      rw [e_X_digest_62, pX_g_codesRead, hRk.2.2.2.1.1, if_neg (by rw [zw_id (by omega) (by omega), zw_id (by omega) (by omega)]; omega), pX_ck, X_codeAt_in xs hB hRk k (by omega), zcr_ok, zif_some, pX_ck, p1, zcl_ok', e_X_digest_91, ← Int.natCast_succ]
      exact t1
  obtain ⟨ga, a1, a2⟩ := codes (mxR (fun t => G pM_weights t) (G pM 10).toNat (mxR (fun k => G pM_signalRows k) (4 * (G pM 8).toNat) 479)) (G pM 5).toNat 0 g (by omega) zFr.rf
  rw [z0N] at a1
  have hRa := Rel_scX hB hR a2
  -- notes
  have hnt : ∀ h0 : Int, zx zblk xs 169 99 [some (.inr (.inr (some pX))), some (.inr (.inl (h0))), none, some (.inl (0))] [] (HH ga) = zx zblk xs 169 160 [some (.inr (.inr (some pX))), some (.inr (.inl (mxN G h0 (G pM 18).toNat)))] [] (HH ga) := fun h0 => by
    have hN := hRa.2.2.2.2.1
    have hh := zloop (fun n : Nat => zx zblk xs 169 99 [some (.inr (.inr (some pX))), some (.inr (.inl (mxN G h0 n))), none, some (.inl ((n : Int)))] [] (HH ga)) (G pM 18).toNat (fun n hn => by
      obtain ⟨b1, b2, b3, b4, b5⟩ := hB.2.2.2.2.2.1 n (by omega) (by omega)
      have hrow := hN.2 n (by omega)
      have hrw : zRw (16 + 3 + 4 + 2 * n) 8 := No16.2.2.2.2.2.2.2 n (by omega)
      have hlen : (nRow (G pM_noteRows) n).length = (G pM_noteRows (10 * n + 1)).toNat := by unfold nRow; rw [zLi_len]
      have hmr := X_mixRow xs (f := fun k => G pM_noteRows (10 * n + 2 + k)) (m := (G pM_noteRows (10 * n + 1)).toNat) hrw hrow (by omega)
      have hmx : mxN G h0 (n + 1) = mxR (fun k => G pM_noteRows (10 * n + 2 + k)) (G pM_noteRows (10 * n + 1)).toNat (mx (mx (mxN G h0 n) (G pM_noteRows (10 * n))) (G pM_noteRows (10 * n + 1))) := by
        rw [mxN, mxR_app]
        have e0 : mxR (fun k : Nat => G pM_noteRows (10 * n + k)) 2 (mxN G h0 n) = mx (mx (mxN G h0 n) (G pM_noteRows (10 * n))) (G pM_noteRows (10 * n + 1)) := by
          show mx (mx (mxN G h0 n) (G pM_noteRows (10 * n + (0 : Nat)))) (G pM_noteRows (10 * n + (1 : Nat))) = _
          rw [z0N, Int.add_zero]
          rfl
        rw [e0]
        refine mxR_cg (fun k hk => ?_)
        congr 1
        omega
      rw [e_X_digest_99, pX_r_notes, No_ck No16, Notes_size xs No16 (by omega) hN, zci_ok, if_neg (by rw [zw_id (by omega) (by omega), zw_id (by omega) (by omega)]; omega), pX_r_notes, No_ck No16, Notes_thingOf xs No16 (by omega) hN n (by omega), zci_ok, X_mix, zcl_ok', pX_r_notes, No_ck No16, Notes_rowOf xs No16 n (by omega), zcr_ok, Rw_ck hrw, Row_size xs hrw hrow, zci_ok, X_mix, zcl_ok', pX_r_notes, No_ck No16, Notes_rowOf xs No16 n (by omega), zcr_ok, hmr, zcl_ok', Int.natCast_succ, hmx, hlen, Int.toNat_of_nonneg b3]
      rfl)
    refine Eq.trans ?_ (hh.trans ?_)
    · rfl
    · rw [e_X_digest_99, pX_r_notes, No_ck No16, Notes_size xs No16 (by omega) hN, zci_ok, if_pos (by rw [zw_id (by omega) (by omega), zw_id (by omega) (by omega)]; omega)]
  obtain ⟨gb, b1, b2⟩ := X_which xs hB hRa
  have hRb := Rel_scX hB hRa b2
  have hct : ∀ h0 : Int, zx zblk xs 169 181 [some (.inr (.inr (some pX))), some (.inr (.inl (h0))), none, some (.inl (0))] [] (HH gb) = some (some (.inr (.inl (mxR (fun w => coS G w) 6 h0))), HH gb) := fun h0 => by
    have hh := zloop (fun w : Nat => zx zblk xs 169 181 [some (.inr (.inr (some pX))), some (.inr (.inl (mxR (fun w => coS G w) w h0))), none, some (.inl ((w : Int)))] [] (HH gb)) 6 (fun w hw => by
      rw [e_X_digest_181, if_neg (by rw [show zw 5 = 5 from rfl, zw_id (by omega) (by omega)]; omega), pX_ck, X_count xs hB hRb (zw_id (by omega) (by omega)), zci_ok, X_mix, zcl_ok', Int.natCast_succ]
      rfl)
    refine Eq.trans ?_ (hh.trans ?_)
    · rfl
    · rw [e_X_digest_181, if_pos (by decide), e_X_digest_203]
  refine ⟨gb, ?_, a2.tr b2⟩
  have hmw := X_mixRow xs (f := fun t => G pM_weights t) (m := (G pM 10).toNat) Rw11 hR.2.1 (by omega)
  have hmp := X_mixRow xs (f := fun k => G pM_page k) (m := (G pM 1).toNat) Rw14 hRb.2.2.1 (by omega)
  rw [e_X_digest_0]
  refine Eq.trans hsg ?_
  rw [e_X_digest_6, pX_r_signals, Sg_ck, Signals_told xs hB.1 hR.1, zci_ok, if_pos (by rw [zw_id (by omega) (by omega), zw_id (by omega) (by omega)]; omega), e_X_digest_51, pX_r_weights, hmw, zcl_ok']
  refine Eq.trans a1 ?_
  rw [e_X_digest_97, hnt, e_X_digest_160, pX_ck, b1, zci_ok, X_mix, zcl_ok', pX_r_page, hmp, zcl_ok', hct]
  rfl
