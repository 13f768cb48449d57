/-! ===== stop ===== -/
def bc1 (v : Int) : Int := v - zand (zushr v 1) 1431655765
def bc2 (v : Int) : Int := zand v 858993459 + zand (zushr v 2) 858993459
def bc3 (v : Int) : Int := zand (v + zushr v 4) 252645135
def bc4 (v : Int) : Int := v + zushr v 8
def bc5 (v : Int) : Int := zand (v + zushr v 16) 63
def bcF (v : Int) : Int := bc5 (bc4 (bc3 (bc2 (bc1 v))))
theorem J_bitCount (xs : List Int) (v : Int) (h : zH) : zx zblk xs 94 0 [some (.inl (v))] [] h = some (some (.inl (bcF v)), h) := (e_J_bitCount_0 xs v h).trans rfl
def popI (s : Int) : Int := zsum (fun k => zand (zshr s k) 1) 8
theorem pop_ok : ∀ s : Nat, s < 256 → bcF s = popI s ∧ 0 ≤ popI s ∧ popI s ≤ 8 := by decide +kernel
def stv (G : Nat → Int → Int) (c : Int) : Nat → Int := fun s => if lfV G c s < 2 then popI s else 8
def mbst (v : Nat → Int) : Nat → Int × Int
  | 0 => (255, 8)
  | n + 1 => if v n < (mbst v n).2 then ((n : Int), v n) else mbst v n
theorem mbst_ch (v : Nat → Int) (h0 : ∀ k, k < 256 → 0 ≤ v k) : ∀ n : Nat, n ≤ 256 → ((∀ k, k < n → 8 ≤ v k) ∧ mbst v n = (255, 8)) ∨ ∃ j : Nat, j < n ∧ v j < 8 ∧ mbst v n = ((j : Int), v j) ∧ (∀ k, k < j → v j < v k) ∧ ∀ k, k < n → v j ≤ v k
  | 0, _ => Or.inl ⟨fun k hk => by omega, rfl⟩
  | n + 1, hn => by
    rcases mbst_ch v h0 n (by omega) with ⟨a, b⟩ | ⟨j, a, b, c, d, e⟩
    · rw [mbst, b]
      by_cases z : v n < 8
      · right
        refine ⟨n, by omega, z, if_pos z, fun k hk => by have := a k hk; omega, fun k hk => ?_⟩
        by_cases w : k = n
        · rw [w]; exact Int.le_refl _
        · have := a k (by omega); omega
      · left
        refine ⟨fun k hk => ?_, if_neg z⟩
        by_cases w : k = n
        · rw [w]; omega
        · exact a k (by omega)
    · right
      rw [mbst, c]
      by_cases z : v n < v j
      · refine ⟨n, by omega, by omega, if_pos z, fun k hk => by have := e k hk; omega, fun k hk => ?_⟩
        by_cases w : k = n
        · rw [w]; exact Int.le_refl _
        · have := e k (by omega); omega
      · refine ⟨j, by omega, b, if_neg z, d, fun k hk => ?_⟩
        by_cases w : k = n
        · rw [w]; omega
        · exact e k (by omega)
theorem mbst_zfo (v : Nat → Int) (h0 : ∀ k, k < 256 → 0 ≤ v k) : (if zfo (fun m => zfo (fun s => if v s = m then s else -1) 256 0) 8 0 = -1 then 255 else zfo (fun m => zfo (fun s => if v s = m then (s : Int) else -1) 256 0) 8 0) = (mbst v 256).1 := by
  rcases mbst_ch v h0 256 (Nat.le_refl _) with ⟨a, b⟩ | ⟨j, a, b, c, d, e⟩
  · rw [b, if_pos (zfo_no (fun m _ hm => zfo_no (fun s _ hs => if_neg (by have := a s (by omega); omega))))]
  · have hj := h0 j a
    obtain ⟨m, hm⟩ : ∃ m : Nat, v j = m := ⟨(v j).toNat, by omega⟩
    have hi : zfo (fun s => if v s = (m : Int) then (s : Int) else -1) 256 0 = j := by
      rw [zfo_at (j := j) (fun k _ hk => if_neg (by have := d k hk; omega)) (by rw [if_pos hm]; omega) (by omega) (by omega), if_pos hm]
    have ho : zfo (fun m => zfo (fun s => if v s = m then (s : Int) else -1) 256 0) 8 0 = j := by
      rw [zfo_at (j := m) (fun m' _ hm' => zfo_no (fun s _ hs => if_neg (by have := e s (by omega); omega))) (by rw [hi]; omega) (by omega) (by omega)]
      exact hi
    rw [ho, if_neg (by omega), c]
theorem stv_nn (G : Nat → Int → Int) (c : Int) : ∀ k, k < 256 → 0 ≤ stv G c k := fun k hk => by
  have := pop_ok k hk
  unfold stv
  split <;> omega
theorem zfo_s (f : Nat → Int) (n i : Nat) : zfo f (n + 1) i = if f i ≠ -1 then f i else zfo f n (i + 1) := rfl
def spV (G : Nat → Int → Int) (c : Int) : Int := (mbst (stv G c) 256).1
def stopS (G : Nat → Int → Int) (c : Int) : Int := if 0 ≤ c ∧ c < G pM 5 then spV G c else -101
theorem X_stopIn (xs : List Int) {G g : Nat → Int → Int} (hB : Bd G) (h : Rel G g) {c : Nat} (hc : (c : Int) < G pM 5) : ∃ g1, zx zblk xs 60 13 [some (.inr (.inr (some pX))), none, some (.inr (.inr (some (PC c))))] [] (HH g) = some (some (.inl (spV G c)), HH g1) ∧ zFr scX g g1 := by
  have a : 0 ≤ (c : Int) ∧ (c : Int) < G pM 5 := by omega
  have hn := nS_rg hB a
  have inner : ∀ (m : Nat), m < 8 → ∀ (r s : Nat) (gk : Nat → Int → Int), s + r = 256 → zFr scX g gk → ∃ g1, zFr scX g g1 ∧ zx zblk xs 60 24 [some (.inr (.inr (some pX))), none, some (.inr (.inr (some (PC c)))), some (.inl ((m : Int))), some (.inl ((s : Int)))] [] (HH gk) = if zfo (fun s => if stv G c s = m then (s : Int) else -1) r s ≠ -1 then some (some (.inl (zfo (fun s => if stv G c s = m then (s : Int) else -1) r s)), HH g1) else zx zblk xs 60 62 [some (.inr (.inr (some pX))), none, some (.inr (.inr (some (PC c)))), some (.inl ((m : Int)))] [] (HH g1) := by
    intro m hm r
    induction r with
    | zero =>
      intro s gk hs hf
      refine ⟨gk, hf, ?_⟩
      rw [e_X_stop_24, show zw 255 = 255 from rfl, zw_id (by omega) (by omega), if_pos (by omega), if_neg (by simp [zfo])]
    | succ r ih =>
      intro s gk hs hf
      have hp := pop_ok s (by omega)
      have e56 : ∀ h : zH, zx zblk xs 60 56 [some (.inr (.inr (some pX))), none, some (.inr (.inr (some (PC c)))), some (.inl ((m : Int))), some (.inl ((s : Int)))] [] h = zx zblk xs 60 24 [some (.inr (.inr (some pX))), none, some (.inr (.inr (some (PC c)))), some (.inl ((m : Int))), some (.inl (((s + 1 : Nat) : Int)))] [] h := fun h => by rw [e_X_stop_56, ← Int.natCast_succ]
      have e : zfo (fun s => if stv G c s = m then (s : Int) else -1) (r + 1) s = if stv G c s = m then (s : Int) else zfo (fun s => if stv G c s = m then (s : Int) else -1) r (s + 1) := by
        rw [zfo]
        by_cases he : stv G c s = m
        · rw [if_pos he, if_pos (by omega), if_pos he]
        · rw [if_neg he, if_neg (by simp), if_neg he]
      rw [e_X_stop_24, show zw 255 = 255 from rfl, zw_id (a := (s : Int)) (by omega) (by omega), if_neg (by omega), J_bitCount, zci_ok, hp.1, zw_id (a := popI s) (by omega) (by omega), zw_id (a := (m : Int)) (by omega) (by omega), e, e56]
      by_cases z : popI s = m
      · obtain ⟨g2, p1, p2⟩ := X_unlike xs hB (Rel_scX hB h hf) hc s 2 (by omega) (by omega)
        have hl := lfO_rg (fun i : Nat => plS G s c i) (nS G c)
        change 0 ≤ lfV G c s ∧ lfV G c s ≤ _ at hl
        rw [if_neg (by omega), pX_ck, p1, zci_ok, show zw 1 = 1 from rfl]
        by_cases w : lfV G c s < 2
        · have hst : stv G c s = m := by unfold stv; rw [if_pos w]; exact z
          refine ⟨g2, hf.tr p2, ?_⟩
          rw [if_pos w, zw_id (a := lfV G c s) (by omega) (by omega), if_neg (by omega), if_pos hst, if_pos (by omega)]
        · have hst : ¬ stv G c s = m := by unfold stv; rw [if_neg w]; omega
          obtain ⟨g1, q1, q2⟩ := ih (s + 1) g2 (by omega) (hf.tr p2)
          refine ⟨g1, q1, ?_⟩
          rw [if_neg w, show zw 2 = 2 from rfl, if_pos (by omega), e56, if_neg hst, q2]
      · have hst : ¬ stv G c s = m := by unfold stv; split <;> omega
        obtain ⟨g1, q1, q2⟩ := ih (s + 1) gk (by omega) hf
        refine ⟨g1, q1, ?_⟩
        rw [if_pos z, if_neg hst, q2]
  have outer : ∀ (r m : Nat) (gk : Nat → Int → Int), m + r = 8 → zFr scX g gk → ∃ g1, zFr scX g g1 ∧ zx zblk xs 60 15 [some (.inr (.inr (some pX))), none, some (.inr (.inr (some (PC c)))), some (.inl ((m : Int)))] [] (HH gk) = some (some (.inl (if zfo (fun m => zfo (fun s => if stv G c s = m then (s : Int) else -1) 256 0) r m = -1 then 255 else zfo (fun m => zfo (fun s => if stv G c s = m then (s : Int) else -1) 256 0) r m)), HH g1) := by
    intro r
    induction r with
    | zero =>
      intro m gk hm hf
      refine ⟨gk, hf, ?_⟩
      rw [e_X_stop_15, show zw 8 = 8 from rfl, zw_id (by omega) (by omega), if_pos (by omega), e_X_stop_68, zfo, if_pos rfl]
    | succ r ih =>
      intro m gk hm hf
      obtain ⟨g1, q1, q2⟩ := inner m (by omega) 256 0 gk (by omega) hf
      rw [z0N] at q2
      rw [e_X_stop_15, show zw 8 = 8 from rfl, zw_id (by omega) (by omega), if_neg (by omega), q2, zfo_s _ r m]
      by_cases z : zfo (fun s => if stv G c s = m then (s : Int) else -1) 256 0 = -1
      · obtain ⟨g2, p1, p2⟩ := ih (m + 1) g1 (by omega) q1
        have nz : ¬ zfo (fun s => if stv G c s = m then (s : Int) else -1) 256 0 ≠ -1 := fun w => w z
        refine ⟨g2, p1, ?_⟩
        rw [if_neg nz, if_neg nz, e_X_stop_62, ← Int.natCast_succ, p2]
      · refine ⟨g1, q1, ?_⟩
        rw [if_pos z, if_pos z, if_neg z]
  obtain ⟨g1, q1, q2⟩ := outer 8 0 g (by omega) zFr.rf
  rw [z0N] at q2
  refine ⟨g1, ?_, q1⟩
  rw [e_X_stop_13, q2, mbst_zfo (stv G c) (stv_nn G c)]
  rfl
theorem X_stop (xs : List Int) {G g : Nat → Int → Int} (hB : Bd G) (h : Rel G g) {c : Int} (hc : zw c = c) : ∃ g1, zx zblk xs 60 0 [some (.inr (.inr (some pX))), some (.inl (c))] [] (HH g) = some (some (.inl (stopS G c)), HH g1) ∧ zFr scX g g1 := by
  rw [e_X_stop_0, pX_ck]
  unfold stopS
  by_cases a : 0 ≤ c ∧ c < G pM 5
  · obtain ⟨k, rfl⟩ : ∃ k : Nat, c = k := ⟨c.toNat, by omega⟩
    obtain ⟨g1, q1, q2⟩ := X_stopIn xs hB h a.2
    refine ⟨g1, ?_, q2⟩
    rw [X_codeAt_in xs hB h k a.2, zcr_ok, zif_some, if_pos a, q1]
  · exact ⟨g, by rw [X_codeAt_out xs hB h c hc a, zcr_ok, zif, if_neg a], zFr.rf⟩

