/-! ===== twice: starts ===== -/
def stF (L : Nat → List Int) (s : zFd) (i j : Nat) : zFd := if (L i).length = (L j).length then (s.1, if ((L j).length : Int) < s.2 then ((L j).length : Int) else s.2) else rlx s j (L i).length (L j).length
theorem stF_ok {L : Nat → List Int} {n : Nat} {s : zFd} (h : okF L n s) {i j : Nat} (hs : stt L n i j) : onF L n s (stF L s i j) ∧ ((L i).length < (L j).length → (stF L s i j).1 j (L i).length ≤ (L j).length) ∧ ((L i).length = (L j).length → (stF L s i j).2 ≤ (L j).length) := by
  unfold stF
  by_cases c : (L i).length = (L j).length
  · simp only [if_pos c]
    have hle : (if ((L j).length : Int) < s.2 then ((L j).length : Int) else s.2) ≤ (L j).length ∧ (if ((L j).length : Int) < s.2 then ((L j).length : Int) else s.2) ≤ s.2 := by split <;> omega
    refine ⟨⟨⟨h.1, ?_⟩, fun _ _ => Int.le_refl _, hle.2⟩, fun z => by omega, fun _ => hle.1⟩
    show 0 ≤ (if ((L j).length : Int) < s.2 then ((L j).length : Int) else s.2) ∧ (if ((L j).length : Int) < s.2 then ((L j).length : Int) else s.2) ≤ 1000000 ∧ ((if ((L j).length : Int) < s.2 then ((L j).length : Int) else s.2) < 1000000 → FnR L n (if ((L j).length : Int) < s.2 then ((L j).length : Int) else s.2))
    have h2 := h.2
    by_cases d : ((L j).length : Int) < s.2
    · rw [if_pos d]
      exact ⟨by omega, by omega, fun _ => Or.inl ⟨i, j, hs, c, rfl⟩⟩
    · rw [if_neg d]
      exact h.2
  · simp only [if_neg c]
    have hlt : (L i).length < (L j).length := by
      have := hs.2.2.2.2.1
      omega
    have hr := rlx_le s j (L i).length (L j).length
    exact ⟨⟨rlx_ok h ⟨0, i, hs, hlt, rfl, rfl⟩, hr.1, Int.le_refl _⟩, fun _ => hr.2, fun z => absurd z c⟩
/-- the starts that are through -/
def prS (L : Nat → List Int) (n : Nat) (D : Nat → Nat → Prop) (s : zFd) : Prop := ∀ i j, D i j → stt L n i j → ((L i).length < (L j).length → s.1 j (L i).length ≤ (L j).length) ∧ ((L i).length = (L j).length → s.2 ≤ (L j).length)
theorem prS_on {L : Nat → List Int} {n : Nat} {D : Nat → Nat → Prop} {s s' : zFd} (h : prS L n D s) (o : onF L n s s') : prS L n D s' := fun i j d st => ⟨fun z => Int.le_trans (o.2.1 _ _) ((h i j d st).1 z), fun z => Int.le_trans o.2.2 ((h i j d st).2 z)⟩
theorem prS_all {L : Nat → List Int} {n : Nat} {D : Nat → Nat → Prop} {s : zFd} (h : prS L n D s) (hd : ∀ i j, stt L n i j → D i j) : stC L n s := by
  refine ⟨fun j f len ⟨i, st, a, b, c⟩ => ?_, fun i j st e => (h i j (hd i j st) st).2 e⟩
  subst b c
  exact (h i j (hd i j st) st).1 a
def s0F : zFd := (fun _ _ => 1000000, 1000000)
theorem s0F_ok (L : Nat → List Int) (n : Nat) : okF L n s0F := ⟨fun j f => ⟨show (0 : Int) ≤ 1000000 by decide, Int.le_refl _, fun z => absurd z (show ¬ (1000000 : Int) < 1000000 by decide)⟩, show (0 : Int) ≤ 1000000 by decide, Int.le_refl _, fun z => absurd z (show ¬ (1000000 : Int) < 1000000 by decide)⟩
noncomputable def twO (G : Nat → Int → Int) (c : Int) : Int := if bV (fun i => plS G 0 c i) (nS G c) < 1000000 then bV (fun i => plS G 0 c i) (nS G c) else -1
noncomputable def twS (G : Nat → Int → Int) (c : Int) : Int := if 0 ≤ c ∧ c < G pM 5 then twO G c else -101
