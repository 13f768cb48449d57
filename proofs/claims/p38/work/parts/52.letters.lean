/-! ===== letters ===== -/
def cntB (w : Int) : Nat → Int := zsum (fun k => if byI w k = 0 then 0 else 1)
def okB (w : Int) : Nat → Int := zall (fun k => byI w k ≤ 126 ∧ (byI w k = 0 ∨ cntB w k = k))
def lnB (w : Int) : Int := if okB w 8 = 0 then -1 else cntB w 8
theorem byI_rg (w : Int) (k : Nat) : 0 ≤ byI w k ∧ byI w k ≤ 255 := zandl_rg _
theorem cntB_rg (w : Int) (n : Nat) : 0 ≤ cntB w n ∧ cntB w n ≤ n := by
  have := zsum_rg (a := 0) (b := 1) (n := n) (f := fun k => if byI w k = 0 then 0 else 1) (fun k _ => by split <;> omega)
  unfold cntB
  omega
theorem cntB_s (w : Int) (n : Nat) : cntB w (n + 1) = cntB w n + (if byI w n = 0 then 0 else 1) := rfl
theorem okB_s (w : Int) (n : Nat) : okB w (n + 1) = if okB w n = 0 then 0 else if byI w n ≤ 126 ∧ (byI w n = 0 ∨ cntB w n = n) then 1 else 0 := rfl
theorem zall_get {P : Nat → Prop} [DecidablePred P] : ∀ {n : Nat}, zall P n = 1 → ∀ k, k < n → P k
  | 0, _, k, hk => by omega
  | n + 1, h, k, hk => by
    rw [zall] at h
    by_cases a : zall P n = 0
    · rw [if_pos a] at h; omega
    · rw [if_neg a] at h
      by_cases b : P n
      · by_cases e : k = n
        · rw [e]; exact b
        · have h1 : zall P n = 1 := by rcases zall_01 P n with z | z; exact absurd z a; exact z
          exact zall_get h1 k (by omega)
      · rw [if_neg b] at h; omega
theorem okB_by {w : Int} (h : okB w 8 = 1) {k : Nat} (hk : (k : Int) < cntB w 8) : 1 ≤ byI w k ∧ byI w k ≤ 126 := by
  have hr := cntB_rg w 8
  have h1 := zall_get h
  have hk8 : k < 8 := by omega
  have hb := byI_rg w k
  refine ⟨?_, (h1 k hk8).1⟩
  by_cases z : byI w k = 0
  · have key : ∀ m : Nat, k + 1 ≤ m → m ≤ 8 → cntB w m ≤ k := by
      intro m
      induction m with
      | zero => intro h0 _; omega
      | succ m ih =>
        intro h0 h8
        rw [cntB_s]
        by_cases e : m = k
        · rw [e, if_pos z]
          have := (cntB_rg w k).2
          omega
        · have := ih (by omega) (by omega)
          by_cases y : byI w m = 0
          · rw [if_pos y]; omega
          · rcases (h1 m (by omega)).2 with x | x
            · exact absurd x y
            · omega
    have := key 8 (by omega) (by omega)
    omega
  · omega
theorem X_lettersIn (xs : List Int) (w : Int) (h : zH) : zx zblk xs 62 0 [some (.inr (.inl (w))), none] [] h = some (some (.inl (lnB w)), h) := by
  have loop : ∀ (r k : Nat), k + r = 8 → okB w k = 1 → zx zblk xs 62 4 [some (.inr (.inl (w))), none, some (.inl (cntB w k)), some (.inl ((k : Int)))] [] h = some (some (.inl (lnB w)), h) := by
    intro r
    induction r with
    | zero =>
      intro k hk ho
      have : k = 8 := by omega
      subst this
      rw [e_X_lettersIn_4, if_pos (by decide), e_X_lettersIn_50]
      unfold lnB
      rw [if_neg (by omega)]
    | succ r ih =>
      intro k hk ho
      have hb := byI_rg w k
      have hc := cntB_rg w k
      have hs := okB_s w k
      rw [if_neg (by omega)] at hs
      have hbe : zandl (zushrl w (8 * (k : Int))) 255 = byI w k := rfl
      have bad : okB w (k + 1) = 0 → (some (some (.inl (-1)), h) : Option zR) = some (some (.inl (lnB w)), h) := fun z => by
        unfold lnB
        rw [if_pos (show okB w 8 = 0 from zall_0 z (by omega))]
      rw [e_X_lettersIn_4, if_neg (by rw [show zw 8 = 8 from rfl, zw_id (by omega) (by omega)]; omega), e_X_byteOf_0, zci_ok, hbe, show zw 126 = 126 from rfl, zw_id (a := byI w k) (by omega) (by omega), e_X_lettersIn_34, zw_id (a := (k : Int)) (by omega) (by omega), zw_id (a := cntB w k) (by omega) (by omega)]
      by_cases a : 126 < byI w k
      · rw [if_pos a]
        exact bad (by rw [hs, if_neg (by omega)])
      · rw [if_neg a]
        by_cases b : byI w k = 0
        · rw [if_pos b, e_X_lettersIn_36, if_pos (by rw [b]; rfl), e_X_lettersIn_44, ← Int.natCast_succ]
          have := ih (k + 1) (by omega) (by rw [hs, if_pos ⟨by omega, Or.inl b⟩])
          rw [cntB_s, if_pos b, Int.add_zero] at this
          exact this
        · rw [if_neg b]
          by_cases c : (k : Int) ≤ cntB w k
          · rw [if_pos c, e_X_lettersIn_36, if_neg (by rw [zw_id (by omega) (by omega)]; exact b), e_X_lettersIn_44, ← Int.natCast_succ]
            have := ih (k + 1) (by omega) (by rw [hs, if_pos ⟨by omega, Or.inr (by omega)⟩])
            rw [cntB_s, if_neg b] at this
            exact this
          · rw [if_neg c]
            exact bad (by rw [hs, if_neg (by omega)])
  rw [e_X_lettersIn_0]
  exact loop 8 0 (by omega) rfl
