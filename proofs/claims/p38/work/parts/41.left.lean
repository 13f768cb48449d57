/-! ===== left, stop ===== -/
/-- whether all of the first n are so -/
def zall (P : Nat → Prop) [DecidablePred P] : Nat → Int
  | 0 => 1
  | n + 1 => if zall P n = 0 then 0 else if P n then 1 else 0
theorem zall_01 (P : Nat → Prop) [DecidablePred P] : ∀ n, zall P n = 0 ∨ zall P n = 1
  | 0 => Or.inr rfl
  | n + 1 => by
    rw [zall]
    split
    · exact Or.inl rfl
    · split
      · exact Or.inr rfl
      · exact Or.inl rfl
theorem zall_0 {P : Nat → Prop} [DecidablePred P] {k : Nat} (h : zall P k = 0) : ∀ {n : Nat}, k ≤ n → zall P n = 0
  | 0, hk => by rw [show k = 0 by omega] at h; exact h
  | n + 1, hk => by
    by_cases a : k = n + 1
    · rw [← a]; exact h
    · rw [zall, if_pos (zall_0 h (by omega))]
theorem zall_zw (P : Nat → Prop) [DecidablePred P] (n : Nat) : zw (zall P n) = zall P n := by
  rcases zall_01 P n with h | h <;> rw [h] <;> rfl
def frs (L : Nat → List Int) (i : Nat) : Nat → Int := zall (fun j => ¬ L i = L j)
def lfO (L : Nat → List Int) : Nat → Int := zsum (fun i => frs L i i)
theorem lfO_rg (L : Nat → List Int) (n : Nat) : 0 ≤ lfO L n ∧ lfO L n ≤ n := by
  have := zsum_rg (a := 0) (b := 1) (n := n) (f := fun i => frs L i i) (fun k _ => by
    rcases zall_01 (fun j => ¬ L k = L j) k with h | h <;> unfold frs <;> rw [h] <;> omega)
  unfold lfO
  omega
theorem lfO_mono (L : Nat → List Int) {i : Nat} : ∀ {n : Nat}, i ≤ n → lfO L i ≤ lfO L n
  | 0, h => by rw [show i = 0 by omega]; exact Int.le_refl _
  | n + 1, h => by
    by_cases a : i = n + 1
    · rw [a]; exact Int.le_refl _
    · have h1 := lfO_mono L (i := i) (n := n) (by omega)
      have h2 : lfO L (n + 1) = lfO L n + frs L n n := rfl
      rcases zall_01 (fun j => ¬ L n = L j) n with h3 | h3 <;> unfold frs at h2 <;> rw [h3] at h2 <;> omega
def lfV (G : Nat → Int → Int) (c st : Int) : Int := lfO (fun s => plS G st c s) (nS G c)
def lfS (G : Nat → Int → Int) (c st : Int) : Int := if 0 ≤ c ∧ c < G pM 5 then (if 0 ≤ st ∧ st ≤ 255 then lfV G c st else -102) else -101
theorem X_unlike (xs : List Int) {G g : Nat → Int → Int} (hB : Bd G) (h : Rel G g) {c : Nat} (hc : (c : Int) < G pM 5) (st e : Int) (he0 : 0 ≤ e) (he : e ≤ 100) : ∃ g1, zx zblk xs 77 0 [some (.inr (.inr (some pX))), some (.inr (.inr (some (PC c)))), some (.inl (st)), some (.inl (e))] [] (HH g) = some (some (.inl (if lfV G c st < e then lfV G c st else e)), HH g1) ∧ zFr scX g g1 := by
  obtain ⟨-, ⟨hc0, hc1⟩, -⟩ := id hB.1
  have hc4 : c < 4 := by omega
  have a : 0 ≤ (c : Int) ∧ (c : Int) < G pM 5 := by omega
  have hn := nS_rg hB a
  have loop : ∀ (r i : Nat) (gk : Nat → Int → Int), i + r = nS G c → (∀ j, j < i → zRow gk (78 + 4 + 2 * j) (plS G st c j)) → zFr scX g gk → lfO (fun s => plS G st c s) i ≤ e → ∃ g1, zx zblk xs 77 6 [some (.inr (.inr (some pX))), some (.inr (.inr (some (PC c)))), some (.inl (st)), some (.inl (e)), some (.inl (lfO (fun s => plS G st c s) i)), some (.inl ((i : Int)))] [] (HH gk) = some (some (.inl (if lfV G c st < e then lfV G c st else e)), HH g1) ∧ zFr scX g g1 := by
    intro r
    induction r with
    | zero =>
      intro i gk hi hj hf hle
      have hR := Rel_scX hB h hf
      have hcd := hR.cd hc4 hc
      have hin : i = nS G c := by omega
      refine ⟨gk, ?_, hf⟩
      rw [e_X_unlike_6, Co_ck (zCo_PC hc4), Code_size xs (zCo_PC hc4), zci_ok, hcd.2.1, if_pos (by rw [zw_id (by omega) (by omega), zw_id (by omega) (by omega)]; omega), e_X_unlike_113, hin]
      change lfO (fun s : Nat => plS G st c s) i ≤ e at hle
      rw [hin] at hle
      change lfV G c st ≤ e at hle
      rw [show lfO (fun s : Nat => plS G st c s) (nS G c) = lfV G c st from rfl]
      by_cases z : lfV G c st < e
      · rw [if_pos z]
      · rw [if_neg z, show lfV G c st = e by omega]
    | succ r ih =>
      intro i gk hi hj hf hle
      have hi' : i < nS G c := by omega
      have hR := Rel_scX hB h hf
      have hcd := hR.cd hc4 hc
      have hlr := lfO_rg (fun s : Nat => plS G st c s) i
      rw [e_X_unlike_6, Co_ck (zCo_PC hc4), Code_size xs (zCo_PC hc4), zci_ok, hcd.2.1, if_neg (by rw [zw_id (by omega) (by omega), zw_id (by omega) (by omega)]; omega), zw_id (a := e) (by omega) (by omega), zw_id (a := lfO (fun s : Nat => plS G st c s) i) (by omega) (by omega)]
      by_cases full : e ≤ lfO (fun s : Nat => plS G st c s) i
      · refine ⟨gk, ?_, hf⟩
        have hm := lfO_mono (fun s : Nat => plS G st c s) (i := i) (n := nS G c) (by omega)
        change _ ≤ lfV G c st at hm
        rw [if_pos full, e_X_unlike_113, if_neg (by omega), show lfO (fun s : Nat => plS G st c s) i = e by omega]
      · obtain ⟨r1, r2, r3, r4⟩ := rowL_ok hB (c := c) (s := i) a (by omega)
        have hrs : zRw (78 + 4 + 2 * i) 10 := Rs78.2.2.2.2 i (by omega)
        obtain ⟨g2, p1, p2, p3⟩ := Signals_makePlain xs hB.1 hB.2.2.2.1 hR.1 hrs (by omega) (Rw_sp hc4 (s := i) (by omega)) (hR.sp hc4 hc hi') r2 (isR7_int r4) (by omega) st (by simp only [PC]; omega)
        have hf2 : zFr scX gk g2 := zFr_scR (by omega) (by omega) p3
        have hpl : pln G st (fun k => (rowL G c i).getD k 0) (rowL G c i).length = plS G st c i := by
          rw [r1]
          unfold plS
          refine pln_cg G st (fun k hk => ?_)
          unfold rowL
          rw [zLi_getD _ hk]
        rw [hpl] at p2
        have hj2 : ∀ j, j < i + 1 → zRow g2 (78 + 4 + 2 * j) (plS G st c j) := fun j hj' => by
          by_cases z : j = i
          · subst z; exact p2
          · exact zRow_fr (hj j (by omega)) (p3.at (fun k => by simp only [scR]; omega)) (p3.at (fun k => by simp only [scR]; omega))
        have hok : ∀ j : Nat, j < i + 1 → (plS G st c j).length ≤ 10 ∧ isR7 (plS G st c j) := fun j hj' => ⟨plS_len hB.2.2.1 a (s := (j : Int)) (by omega) st, isR7_plS hB a (s := (j : Int)) (by omega) st⟩
        have inner : ∀ (r' j : Nat), j + r' = i → zx zblk xs 77 50 [some (.inr (.inr (some pX))), some (.inr (.inr (some (PC c)))), some (.inl (st)), some (.inl (e)), some (.inl (lfO (fun s => plS G st c s) i)), some (.inl ((i : Int))), some (.inl (frs (fun s => plS G st c s) i j)), some (.inl ((j : Int)))] [] (HH g2) = zx zblk xs 77 99 [some (.inr (.inr (some pX))), some (.inr (.inr (some (PC c)))), some (.inl (st)), some (.inl (e)), some (.inl (lfO (fun s => plS G st c s) i)), some (.inl ((i : Int))), some (.inl (frs (fun s => plS G st c s) i i))] [] (HH g2) := by
          intro r'
          induction r' with
          | zero =>
            intro j hj'
            have : j = i := by omega
            subst this
            rw [e_X_unlike_50, if_pos (Int.le_refl _)]
          | succ r' ih' =>
            intro j hj'
            have hji : j < i := by omega
            have hrj : zRw (78 + 4 + 2 * j) 10 := Rs78.2.2.2.2 j (by omega)
            rw [e_X_unlike_50, if_neg (by rw [zw_id (by omega) (by omega), zw_id (by omega) (by omega)]; omega), show zw (frs (fun s : Nat => plS G st c s) i j) = frs (fun s : Nat => plS G st c s) i j from zall_zw _ _]
            by_cases z : frs (fun s : Nat => plS G st c s) i j = 0
            · rw [if_pos z, z, show frs (fun s : Nat => plS G st c s) i i = 0 from zall_0 z (by omega)]
            · have hf : frs (fun s : Nat => plS G st c s) i (j + 1) = if frs (fun s : Nat => plS G st c s) i j = 0 then 0 else if ¬ plS G st c i = plS G st c j then 1 else 0 := rfl
              rw [if_neg z] at hf
              rw [if_neg z, pX_r_struck, Rws_ck Rs78, Rows_row xs g2 Rs78 j (by omega), zcr_ok, pX_r_struck, Rws_ck Rs78, Rows_row xs g2 Rs78 i (by omega), zcr_ok, Rw_ck hrj, Row_isLike xs hrj hrs (hj2 j (by omega)) (hj2 i (by omega)) (hok j (by omega)).1 (hok i (by omega)).1 (hok j (by omega)).2 (hok i (by omega)).2, zci_ok, zb_zw, ← ih' (j + 1) (by omega)]
              by_cases he' : plS G st c j = plS G st c i
              · rw [zb_t he', if_pos (by decide), e_X_unlike_90, e_X_unlike_91, hf, if_neg (fun w => w he'.symm), ← Int.natCast_succ]
              · rw [zb_f he', if_neg (by decide), e_X_unlike_91, hf, if_pos (fun w => he' w.symm), ← Int.natCast_succ]
        have hf1 : lfO (fun s : Nat => plS G st c s) (i + 1) = lfO (fun s : Nat => plS G st c s) i + frs (fun s : Nat => plS G st c s) i i := rfl
        have h01 : frs (fun s : Nat => plS G st c s) i i = 0 ∨ frs (fun s : Nat => plS G st c s) i i = 1 := zall_01 _ _
        obtain ⟨g3, s1, s2⟩ := ih (i + 1) g2 (by omega) hj2 (hf.tr hf2) (by omega)
        refine ⟨g3, ?_, s2⟩
        have hin := inner i 0 (by omega)
        rw [z0N] at hin
        change zx zblk xs 77 50 [some (.inr (.inr (some pX))), some (.inr (.inr (some (PC c)))), some (.inl (st)), some (.inl (e)), some (.inl (lfO (fun s => plS G st c s) i)), some (.inl ((i : Int))), some (.inl (1)), some (.inl (0))] [] (HH g2) = _ at hin
        rw [if_neg full, pX_r_signals, Co_ck (zCo_PC hc4), Code_spoken xs (zCo_PC hc4) i (by omega), zcr_ok, pX_r_struck, Rws_ck Rs78, Rows_row xs gk Rs78 i (by omega), zcr_ok, Sg_ck, p1, zcv_ok, hin, e_X_unlike_99, ← s1, hf1]
        rcases h01 with z | z
        · rw [z, if_pos (show zw 0 = 0 from rfl), e_X_unlike_107, Int.add_zero, ← Int.natCast_succ]
        · rw [z, if_neg (by decide), e_X_unlike_107, ← Int.natCast_succ]
  rw [e_X_unlike_0]
  exact loop (nS G c) 0 g (by omega) (fun j hj => by omega) zFr.rf he0
theorem X_left (xs : List Int) {G g : Nat → Int → Int} (hB : Bd G) (h : Rel G g) {c st : Int} (hc : zw c = c) (hst : zw st = st) : ∃ g1, zx zblk xs 59 0 [some (.inr (.inr (some pX))), some (.inl (c)), some (.inl (st))] [] (HH g) = some (some (.inl (lfS G c st)), HH g1) ∧ zFr scX g g1 := by
  rw [e_X_left_0, pX_ck]
  unfold lfS
  by_cases a : 0 ≤ c ∧ c < G pM 5
  · obtain ⟨k, rfl⟩ : ∃ k : Nat, c = k := ⟨c.toNat, by omega⟩
    have hn := nS_rg hB a
    have hl := lfO_rg (fun s : Nat => plS G st k s) (nS G k)
    change 0 ≤ lfV G k st ∧ lfV G k st ≤ _ at hl
    have e24 : zx zblk xs 59 24 [] [] (HH g) = some (some (.inl (-102)), HH g) := e_X_left_24 xs _
    rw [X_codeAt_in xs hB h k a.2, zcr_ok, zif_some, if_pos a, e_X_left_13, hst, show zw 255 = 255 from rfl]
    by_cases b : 0 ≤ st ∧ st ≤ 255
    · obtain ⟨g1, q1, q2⟩ := X_unlike xs hB h a.2 st 8 (by omega) (by omega)
      refine ⟨g1, ?_, q2⟩
      rw [if_neg (by omega), if_pos b.2, if_pos b, e_X_left_27, pX_ck, q1, zci_ok]
      by_cases z : lfV G k st < 8
      · rw [if_pos z]
      · rw [if_neg z, show lfV G k st = 8 by omega]
    · refine ⟨g, ?_, zFr.rf⟩
      rw [if_neg b]
      by_cases b0 : st < 0
      · rw [if_pos b0, e24]
      · rw [if_neg b0, if_neg (by omega), e24]
  · exact ⟨g, by rw [X_codeAt_out xs hB h c hc a, zcr_ok, zif, if_neg a], zFr.rf⟩

