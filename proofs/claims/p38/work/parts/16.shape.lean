/-! ===== the heap behind the constructors (its shape printed by a program of mine): no call changes its shape ===== -/
/-- tag, and of each place: 0 int, 1 long, 2 null, q + 3 the place q -/
def zsh : List (Nat × List Nat) := [(6, [5, 14, 16, 0, 17, 19, 46, 48, 0, 75, 77, 79, 81, 101]),
  (5, [6, 8, 10, 12]),
  (3, [7, 0]),
  (100, List.replicate 8 0),
  (3, [9, 0]),
  (100, List.replicate 8 0),
  (3, [11, 0]),
  (100, List.replicate 8 0),
  (3, [13, 0]),
  (100, List.replicate 8 0),
  (3, [15, 0]),
  (100, List.replicate 8 0),
  (102, [104, 145, 186, 227]),
  (3, [18, 0]),
  (100, List.replicate 48 0),
  (1, [20, 22]),
  (3, [21, 0]),
  (100, List.replicate 10 0),
  (4, [25, 23]),
  (3, [24, 0]),
  (100, List.replicate 0 0),
  (105, [26, 28, 30, 32, 34, 36, 38, 40, 42, 44]),
  (3, [27, 0]),
  (100, List.replicate 8 0),
  (3, [29, 0]),
  (100, List.replicate 8 0),
  (3, [31, 0]),
  (100, List.replicate 8 0),
  (3, [33, 0]),
  (100, List.replicate 8 0),
  (3, [35, 0]),
  (100, List.replicate 8 0),
  (3, [37, 0]),
  (100, List.replicate 8 0),
  (3, [39, 0]),
  (100, List.replicate 8 0),
  (3, [41, 0]),
  (100, List.replicate 8 0),
  (3, [43, 0]),
  (100, List.replicate 8 0),
  (3, [45, 0]),
  (100, List.replicate 8 0),
  (3, [47, 0]),
  (100, List.replicate 8 0),
  (1, [49, 51]),
  (3, [50, 0]),
  (100, List.replicate 10 0),
  (4, [54, 52]),
  (3, [53, 0]),
  (100, List.replicate 0 0),
  (105, [55, 57, 59, 61, 63, 65, 67, 69, 71, 73]),
  (3, [56, 0]),
  (100, List.replicate 8 0),
  (3, [58, 0]),
  (100, List.replicate 8 0),
  (3, [60, 0]),
  (100, List.replicate 8 0),
  (3, [62, 0]),
  (100, List.replicate 8 0),
  (3, [64, 0]),
  (100, List.replicate 8 0),
  (3, [66, 0]),
  (100, List.replicate 8 0),
  (3, [68, 0]),
  (100, List.replicate 8 0),
  (3, [70, 0]),
  (100, List.replicate 8 0),
  (3, [72, 0]),
  (100, List.replicate 8 0),
  (3, [74, 0]),
  (100, List.replicate 8 0),
  (3, [76, 0]),
  (100, List.replicate 48 0),
  (3, [78, 0]),
  (100, List.replicate 96 0),
  (3, [80, 0]),
  (100, List.replicate 8 0),
  (4, [84, 82]),
  (3, [83, 0]),
  (100, List.replicate 0 0),
  (105, [85, 87, 89, 91, 93, 95, 97, 99]),
  (3, [86, 0]),
  (100, List.replicate 10 0),
  (3, [88, 0]),
  (100, List.replicate 10 0),
  (3, [90, 0]),
  (100, List.replicate 10 0),
  (3, [92, 0]),
  (100, List.replicate 10 0),
  (3, [94, 0]),
  (100, List.replicate 10 0),
  (3, [96, 0]),
  (100, List.replicate 10 0),
  (3, [98, 0]),
  (100, List.replicate 10 0),
  (3, [100, 0]),
  (100, List.replicate 10 0),
  (2, [102, 0]),
  (3, [103, 0]),
  (100, List.replicate 80 0),
  (0, [105, 125, 0]),
  (4, [108, 106]),
  (3, [107, 0]),
  (100, List.replicate 0 0),
  (105, [109, 111, 113, 115, 117, 119, 121, 123]),
  (3, [110, 0]),
  (100, List.replicate 5 0),
  (3, [112, 0]),
  (100, List.replicate 5 0),
  (3, [114, 0]),
  (100, List.replicate 5 0),
  (3, [116, 0]),
  (100, List.replicate 5 0),
  (3, [118, 0]),
  (100, List.replicate 5 0),
  (3, [120, 0]),
  (100, List.replicate 5 0),
  (3, [122, 0]),
  (100, List.replicate 5 0),
  (3, [124, 0]),
  (100, List.replicate 5 0),
  (4, [128, 126]),
  (3, [127, 0]),
  (100, List.replicate 0 0),
  (105, [129, 131, 133, 135, 137, 139, 141, 143]),
  (3, [130, 0]),
  (100, List.replicate 10 0),
  (3, [132, 0]),
  (100, List.replicate 10 0),
  (3, [134, 0]),
  (100, List.replicate 10 0),
  (3, [136, 0]),
  (100, List.replicate 10 0),
  (3, [138, 0]),
  (100, List.replicate 10 0),
  (3, [140, 0]),
  (100, List.replicate 10 0),
  (3, [142, 0]),
  (100, List.replicate 10 0),
  (3, [144, 0]),
  (100, List.replicate 10 0),
  (0, [146, 166, 0]),
  (4, [149, 147]),
  (3, [148, 0]),
  (100, List.replicate 0 0),
  (105, [150, 152, 154, 156, 158, 160, 162, 164]),
  (3, [151, 0]),
  (100, List.replicate 5 0),
  (3, [153, 0]),
  (100, List.replicate 5 0),
  (3, [155, 0]),
  (100, List.replicate 5 0),
  (3, [157, 0]),
  (100, List.replicate 5 0),
  (3, [159, 0]),
  (100, List.replicate 5 0),
  (3, [161, 0]),
  (100, List.replicate 5 0),
  (3, [163, 0]),
  (100, List.replicate 5 0),
  (3, [165, 0]),
  (100, List.replicate 5 0),
  (4, [169, 167]),
  (3, [168, 0]),
  (100, List.replicate 0 0),
  (105, [170, 172, 174, 176, 178, 180, 182, 184]),
  (3, [171, 0]),
  (100, List.replicate 10 0),
  (3, [173, 0]),
  (100, List.replicate 10 0),
  (3, [175, 0]),
  (100, List.replicate 10 0),
  (3, [177, 0]),
  (100, List.replicate 10 0),
  (3, [179, 0]),
  (100, List.replicate 10 0),
  (3, [181, 0]),
  (100, List.replicate 10 0),
  (3, [183, 0]),
  (100, List.replicate 10 0),
  (3, [185, 0]),
  (100, List.replicate 10 0),
  (0, [187, 207, 0]),
  (4, [190, 188]),
  (3, [189, 0]),
  (100, List.replicate 0 0),
  (105, [191, 193, 195, 197, 199, 201, 203, 205]),
  (3, [192, 0]),
  (100, List.replicate 5 0),
  (3, [194, 0]),
  (100, List.replicate 5 0),
  (3, [196, 0]),
  (100, List.replicate 5 0),
  (3, [198, 0]),
  (100, List.replicate 5 0),
  (3, [200, 0]),
  (100, List.replicate 5 0),
  (3, [202, 0]),
  (100, List.replicate 5 0),
  (3, [204, 0]),
  (100, List.replicate 5 0),
  (3, [206, 0]),
  (100, List.replicate 5 0),
  (4, [210, 208]),
  (3, [209, 0]),
  (100, List.replicate 0 0),
  (105, [211, 213, 215, 217, 219, 221, 223, 225]),
  (3, [212, 0]),
  (100, List.replicate 10 0),
  (3, [214, 0]),
  (100, List.replicate 10 0),
  (3, [216, 0]),
  (100, List.replicate 10 0),
  (3, [218, 0]),
  (100, List.replicate 10 0),
  (3, [220, 0]),
  (100, List.replicate 10 0),
  (3, [222, 0]),
  (100, List.replicate 10 0),
  (3, [224, 0]),
  (100, List.replicate 10 0),
  (3, [226, 0]),
  (100, List.replicate 10 0),
  (0, [228, 248, 0]),
  (4, [231, 229]),
  (3, [230, 0]),
  (100, List.replicate 0 0),
  (105, [232, 234, 236, 238, 240, 242, 244, 246]),
  (3, [233, 0]),
  (100, List.replicate 5 0),
  (3, [235, 0]),
  (100, List.replicate 5 0),
  (3, [237, 0]),
  (100, List.replicate 5 0),
  (3, [239, 0]),
  (100, List.replicate 5 0),
  (3, [241, 0]),
  (100, List.replicate 5 0),
  (3, [243, 0]),
  (100, List.replicate 5 0),
  (3, [245, 0]),
  (100, List.replicate 5 0),
  (3, [247, 0]),
  (100, List.replicate 5 0),
  (4, [251, 249]),
  (3, [250, 0]),
  (100, List.replicate 0 0),
  (105, [252, 254, 256, 258, 260, 262, 264, 266]),
  (3, [253, 0]),
  (100, List.replicate 10 0),
  (3, [255, 0]),
  (100, List.replicate 10 0),
  (3, [257, 0]),
  (100, List.replicate 10 0),
  (3, [259, 0]),
  (100, List.replicate 10 0),
  (3, [261, 0]),
  (100, List.replicate 10 0),
  (3, [263, 0]),
  (100, List.replicate 10 0),
  (3, [265, 0]),
  (100, List.replicate 10 0),
  (3, [267, 0]),
  (100, List.replicate 10 0)]
def zkv (kd : Nat) (v : Int) : zV := match kd with
  | 0 => .inl v
  | 1 => .inr (.inl v)
  | 2 => .inr (.inr none)
  | q + 3 => .inr (.inr (some q))
def zcell (c : Nat × List Nat) (f : Int → Int) : Nat × List zV := (c.1, c.2.mapIdx fun k kd => zkv kd (f k))
abbrev zG' : Type := Nat → Int → Int
theorem zsh_len : zsh.length = 264 := by decide +kernel
/-- the law's own arrays, in the order in which they are made; how many there are stands at place 0 -/
def zlw : List Nat := [33, 49, 48, 8, 12, 12, 6, 6, 14, 12, 12, 12, 64, 32, 12, 12]
def zsF (g : Nat → Int → Int) : List (Nat × List Nat) := zsh ++ (zlw.take (g 0 0).toNat).map fun n => (100, List.replicate n 0)
theorem zsF_get {g : Nat → Int → Int} {q : Nat} {c : Nat × List Nat} (h : zsh[q]? = some c) : (zsF g)[q]? = some c := by
  rw [zsF, List.getElem?_append_left (List.getElem?_eq_some_iff.mp h).1]
  exact h
def HH (g : Nat → Int → Int) : zH := (zsF g).mapIdx fun q c => zcell c (g (q + 1))
def up (g : Nat → Int → Int) (p : Nat) (i v : Int) : Nat → Int → Int := fun q j => if q = p ∧ j = i then v else g q j
theorem up_same (g : Nat → Int → Int) (p : Nat) (i v : Int) : up g p i v p i = v := by simp [up]
theorem up_ne (g : Nat → Int → Int) {p q : Nat} {i j : Int} (v : Int) (h : ¬ (q = p ∧ j = i)) : up g p i v q j = g q j := by simp only [up, if_neg h]
theorem up_p (g : Nat → Int → Int) {p q : Nat} (i v : Int) (h : q ≠ p) : up g p i v q = g q := by funext j; simp [up, h]
theorem HF_get {g : Nat → Int → Int} {q : Nat} {c : Nat × List Nat} (h : (zsF g)[q]? = some c) : (HH g)[q]? = some (zcell c (g (q + 1))) := by
  simp [HH, List.getElem?_mapIdx, h]
theorem zcell_get {c : Nat × List Nat} {f : Int → Int} {k kd : Nat} (h : c.2[k]? = some kd) : (zcell c f).2[k]? = some (zkv kd (f k)) := by
  simp [zcell, List.getElem?_mapIdx, h]
theorem HF_set {g : Nat → Int → Int} {q k kd : Nat} {c : Nat × List Nat} {v : Int} (h : (zsF g)[q]? = some c) (hk : c.2[k]? = some kd) : (HH g).set q ((zcell c (g (q + 1))).1, (zcell c (g (q + 1))).2.set k (zkv kd v)) = HH (up g (q + 1) k v) := by
  have hl : q < (zsF g).length := (List.getElem?_eq_some_iff.mp h).1
  have hz : zsF (up g (q + 1) k v) = zsF g := by unfold zsF; rw [up_p _ _ _ (by omega)]
  rw [show HH (up g (q + 1) k v) = (zsF g).mapIdx fun n c => zcell c (up g (q + 1) k v (n + 1)) by unfold HH; rw [hz]]
  apply List.ext_getElem?
  intro n
  by_cases hn : n = q
  · subst hn
    rw [List.getElem?_set_self (by simp [HH]; exact hl), List.getElem?_mapIdx, h, Option.map_some]
    congr 1
    simp only [zcell]
    congr 1
    apply List.ext_getElem?
    intro j
    have hkl : k < c.2.length := (List.getElem?_eq_some_iff.mp hk).1
    by_cases hj : j = k
    · subst hj
      rw [List.getElem?_set_self (by simp; exact hkl)]
      simp [List.getElem?_mapIdx, hk, up]
    · rw [List.getElem?_set_ne (Ne.symm hj)]
      simp only [List.getElem?_mapIdx]
      cases c.2[j]? with
      | none => rfl
      | some kd2 =>
        simp only [Option.map_some]
        rw [up_ne]
        intro z
        exact hj (by have := z.2; omega)
  · rw [List.getElem?_set_ne (Ne.symm hn)]
    simp only [HH, List.getElem?_mapIdx]
    cases (zsF g)[n]? with
    | none => rfl
    | some c2 =>
      simp only [Option.map_some]
      rw [up_p]
      omega
theorem HH_get {g : Nat → Int → Int} {q : Nat} {c : Nat × List Nat} (h : zsh[q]? = some c) : (HH g)[q]? = some (zcell c (g (q + 1))) := HF_get (zsF_get h)
theorem HH_set {g : Nat → Int → Int} {q k kd : Nat} {c : Nat × List Nat} {v : Int} (h : zsh[q]? = some c) (hk : c.2[k]? = some kd) : (HH g).set q ((zcell c (g (q + 1))).1, (zcell c (g (q + 1))).2.set k (zkv kd v)) = HH (up g (q + 1) k v) := HF_set (zsF_get h) hk
theorem HH_gi {g : Nat → Int → Int} {p ci j : Nat} {c : Nat × List Nat} (h : zsh[p - 1]? = some c) (hp : p ≠ 0) (ht : c.1 = ci) (hk : c.2[j]? = some 0) (f : Int → Option zR) : zgi (HH g) (some p) ci j f = f (g p j) := by
  obtain ⟨q, rfl⟩ : ∃ q, p = q + 1 := ⟨p - 1, by omega⟩
  have h' := HH_get (g := g) h
  simp only [Nat.add_sub_cancel] at h'
  have hk' := zcell_get (f := g (q + 1)) hk
  simp [zgi, zfd, h', hk', ht, zkv]
  simp [zcell, ht]
theorem HH_gl {g : Nat → Int → Int} {p ci j : Nat} {c : Nat × List Nat} (h : zsh[p - 1]? = some c) (hp : p ≠ 0) (ht : c.1 = ci) (hk : c.2[j]? = some 1) (f : Int → Option zR) : zgl (HH g) (some p) ci j f = f (g p j) := by
  obtain ⟨q, rfl⟩ : ∃ q, p = q + 1 := ⟨p - 1, by omega⟩
  have h' := HH_get (g := g) h
  simp only [Nat.add_sub_cancel] at h'
  have hk' := zcell_get (f := g (q + 1)) hk
  simp [zgl, zfd, h', hk', ht, zkv]
  simp [zcell, ht]
theorem HH_gr {g : Nat → Int → Int} {p ci j r : Nat} {c : Nat × List Nat} (h : zsh[p - 1]? = some c) (hp : p ≠ 0) (ht : c.1 = ci) (hk : c.2[j]? = some (r + 3)) (f : Option Nat → Option zR) : zgr (HH g) (some p) ci j f = f (some r) := by
  obtain ⟨q, rfl⟩ : ∃ q, p = q + 1 := ⟨p - 1, by omega⟩
  have h' := HH_get (g := g) h
  simp only [Nat.add_sub_cancel] at h'
  have hk' := zcell_get (f := g (q + 1)) hk
  simp [zgr, zfd, h', hk', ht, zkv]
  simp [zcell, ht]
theorem HH_pf {g : Nat → Int → Int} {p ci j : Nat} {c : Nat × List Nat} {v : Int} (h : zsh[p - 1]? = some c) (hp : p ≠ 0) (ht : c.1 = ci) (hk : c.2[j]? = some 0) (f : zH → Option zR) : zpf (HH g) (some p) ci j (.inl v) f = f (HH (up g p j v)) := by
  obtain ⟨q, rfl⟩ : ∃ q, p = q + 1 := ⟨p - 1, by omega⟩
  have h' := HH_get (g := g) h
  simp only [Nat.add_sub_cancel] at h'
  have hs := HH_set (g := g) (q := q) (v := v) h hk
  have hl : j < c.2.length := (List.getElem?_eq_some_iff.mp hk).1
  simp only [zpf, h']
  rw [if_pos ⟨ht, by simp [zcell]; exact hl⟩]
  exact congrArg f hs
theorem HH_pfl {g : Nat → Int → Int} {p ci j : Nat} {c : Nat × List Nat} {v : Int} (h : zsh[p - 1]? = some c) (hp : p ≠ 0) (ht : c.1 = ci) (hk : c.2[j]? = some 1) (f : zH → Option zR) : zpf (HH g) (some p) ci j (.inr (.inl v)) f = f (HH (up g p j v)) := by
  obtain ⟨q, rfl⟩ : ∃ q, p = q + 1 := ⟨p - 1, by omega⟩
  have h' := HH_get (g := g) h
  simp only [Nat.add_sub_cancel] at h'
  have hs := HH_set (g := g) (q := q) (v := v) h hk
  have hl : j < c.2.length := (List.getElem?_eq_some_iff.mp hk).1
  simp only [zpf, h']
  rw [if_pos ⟨ht, by simp [zcell]; exact hl⟩]
  exact congrArg f hs
theorem HH_ai {xs : List Int} {g : Nat → Int → Int} {p n : Nat} (h : zsh[p - 1]? = some (100, List.replicate n 0)) (hp : p ≠ 0) (hn : n ≤ 1000) {i : Int} (h0 : 0 ≤ i) (h1 : i < n) (f : Int → Option zR) : zai xs (HH g) (some p) i f = f (g p i) := by
  obtain ⟨q, rfl⟩ : ∃ q, p = q + 1 := ⟨p - 1, by omega⟩
  have h' := HH_get (g := g) h
  simp only [Nat.add_sub_cancel] at h'
  have hz : zw i = i := zw_id (by omega) (by omega)
  have hk : (List.replicate n 0)[i.toNat]? = some 0 := by rw [List.getElem?_replicate, if_pos (by omega)]
  have hk' := zcell_get (c := (100, List.replicate n 0)) (f := g (q + 1)) hk
  simp only [zai, zar, h', hz]
  rw [if_pos ⟨rfl, h0⟩, hk']
  simp only [zkv]
  rw [Int.toNat_of_nonneg h0]
theorem HH_al {xs : List Int} {g : Nat → Int → Int} {p n : Nat} (h : zsh[p - 1]? = some (101, List.replicate n 1)) (hp : p ≠ 0) (hn : n ≤ 1000) {i : Int} (h0 : 0 ≤ i) (h1 : i < n) (f : Int → Option zR) : zal xs (HH g) (some p) i f = f (g p i) := by
  obtain ⟨q, rfl⟩ : ∃ q, p = q + 1 := ⟨p - 1, by omega⟩
  have h' := HH_get (g := g) h
  simp only [Nat.add_sub_cancel] at h'
  have hz : zw i = i := zw_id (by omega) (by omega)
  have hk : (List.replicate n 1)[i.toNat]? = some 1 := by rw [List.getElem?_replicate, if_pos (by omega)]
  have hk' := zcell_get (c := (101, List.replicate n 1)) (f := g (q + 1)) hk
  simp only [zal, zar, h', hz]
  rw [if_pos ⟨rfl, h0⟩, hk']
  simp only [zkv]
  rw [Int.toNat_of_nonneg h0]
theorem HH_aa {xs : List Int} {g : Nat → Int → Int} {p tag n r : Nat} {rs : List Nat} (h : zsh[p - 1]? = some (tag, rs)) (hp : p ≠ 0) (ht : 101 < tag) {i : Int} (h0 : 0 ≤ i) (h1 : i < 1000) (hr : rs[i.toNat]? = some (r + 3)) (f : Option Nat → Option zR) : zaa xs (HH g) (some p) tag i f = f (some r) := by
  obtain ⟨q, rfl⟩ : ∃ q, p = q + 1 := ⟨p - 1, by omega⟩
  have h' := HH_get (g := g) h
  simp only [Nat.add_sub_cancel] at h'
  have hz : zw i = i := zw_id (by omega) (by omega)
  have hk' := zcell_get (c := (tag, rs)) (f := g (q + 1)) hr
  simp only [zaa, zar, h', hz]
  rw [if_pos ⟨rfl, h0⟩, hk']
  simp only [zkv]
theorem HH_st {g : Nat → Int → Int} {p n : Nat} {v : Int} (h : zsh[p - 1]? = some (100, List.replicate n 0)) (hp : p ≠ 0) (hn : n ≤ 1000) {i : Int} (h0 : 0 ≤ i) (h1 : i < n) (f : zH → Option zR) : zst (HH g) (some p) 100 i (.inl v) f = f (HH (up g p i v)) := by
  obtain ⟨q, rfl⟩ : ∃ q, p = q + 1 := ⟨p - 1, by omega⟩
  have h' := HH_get (g := g) h
  simp only [Nat.add_sub_cancel] at h'
  have hz : zw i = i := zw_id (by omega) (by omega)
  have hk : (List.replicate n 0)[i.toNat]? = some 0 := by rw [List.getElem?_replicate, if_pos (by omega)]
  have hs := HH_set (g := g) (q := q) (v := v) h hk
  simp only [zst, h', hz]
  rw [if_pos ⟨rfl, h0, by simp [zcell]; omega⟩]
  rw [Int.toNat_of_nonneg h0] at hs
  exact congrArg f hs
theorem HH_stl {g : Nat → Int → Int} {p n : Nat} {v : Int} (h : zsh[p - 1]? = some (101, List.replicate n 1)) (hp : p ≠ 0) (hn : n ≤ 1000) {i : Int} (h0 : 0 ≤ i) (h1 : i < n) (f : zH → Option zR) : zst (HH g) (some p) 101 i (.inr (.inl v)) f = f (HH (up g p i v)) := by
  obtain ⟨q, rfl⟩ : ∃ q, p = q + 1 := ⟨p - 1, by omega⟩
  have h' := HH_get (g := g) h
  simp only [Nat.add_sub_cancel] at h'
  have hz : zw i = i := zw_id (by omega) (by omega)
  have hk : (List.replicate n 1)[i.toNat]? = some 1 := by rw [List.getElem?_replicate, if_pos (by omega)]
  have hs := HH_set (g := g) (q := q) (v := v) h hk
  simp only [zst, h', hz]
  rw [if_pos ⟨rfl, h0, by simp [zcell]; omega⟩]
  rw [Int.toNat_of_nonneg h0] at hs
  exact congrArg f hs
theorem HH_ln {xs : List Int} {g : Nat → Int → Int} {p : Nat} {c : Nat × List Nat} (h : zsh[p - 1]? = some c) (hp : p ≠ 0) (ht : 100 ≤ c.1) (f : Int → Option zR) : zln xs (HH g) (some p) f = f (c.2.length : Int) := by
  obtain ⟨q, rfl⟩ : ∃ q, p = q + 1 := ⟨p - 1, by omega⟩
  have h' := HH_get (g := g) h
  simp only [Nat.add_sub_cancel] at h'
  simp only [zln, h']
  rw [if_pos (show 100 ≤ (zcell c _).1 from ht)]
  simp [zcell]
theorem HH_ck {g : Nat → Int → Int} {p ci : Nat} {c : Nat × List Nat} (h : zsh[p - 1]? = some c) (hp : p ≠ 0) (ht : c.1 = ci) (o : Option zR) : zck (HH g) (some p) ci o = o := by
  obtain ⟨q, rfl⟩ : ∃ q, p = q + 1 := ⟨p - 1, by omega⟩
  have h' := HH_get (g := g) h
  simp only [Nat.add_sub_cancel] at h'
  simp only [zck, h']
  rw [if_pos (show (zcell c _).1 = ci from ht)]
/-- place p is an array of n ints -/
def zAr (g : Nat → Int → Int) (p n : Nat) : Prop := p ≠ 0 ∧ n ≤ 1000 ∧ (zsF g)[p - 1]? = some (100, List.replicate n 0)
theorem zAr_cg {g g1 : Nat → Int → Int} {p n : Nat} (h : zAr g p n) (e : g1 0 0 = g 0 0) : zAr g1 p n := by
  unfold zAr zsF at *
  rw [e]
  exact h
theorem zAr_up {g : Nat → Int → Int} {p n q : Nat} {i v : Int} (h : zAr g p n) (hq : q ≠ 0) : zAr (up g q i v) p n := zAr_cg h (by rw [up_p _ _ _ (Ne.symm hq)])
theorem zAr_law {g : Nat → Int → Int} {k n N : Nat} (h : g 0 0 = (N : Nat)) (hk : zlw[k]? = some n) (hkN : k < N) (hn : n ≤ 1000) : zAr g (265 + k) n := by
  refine ⟨by omega, hn, ?_⟩
  unfold zsF
  have hl := zsh_len
  rw [List.getElem?_append_right (by omega), h, List.getElem?_map, List.getElem?_take, if_pos (by omega), hl, show 265 + k - 1 - 264 = k by omega, hk]
  rfl
theorem HF_ai {xs : List Int} {g : Nat → Int → Int} {p n : Nat} (h : zAr g p n) {i : Int} (h0 : 0 ≤ i) (h1 : i < n) (f : Int → Option zR) : zai xs (HH g) (some p) i f = f (g p i) := by
  obtain ⟨hp, hn, h⟩ := h
  obtain ⟨q, rfl⟩ : ∃ q, p = q + 1 := ⟨p - 1, by omega⟩
  have h' := HF_get (g := g) h
  simp only [Nat.add_sub_cancel] at h'
  have hz : zw i = i := zw_id (by omega) (by omega)
  have hk : (List.replicate n 0)[i.toNat]? = some 0 := by rw [List.getElem?_replicate, if_pos (by omega)]
  have hk' := zcell_get (c := (100, List.replicate n 0)) (f := g (q + 1)) hk
  simp only [zai, zar, h', hz]
  rw [if_pos ⟨rfl, h0⟩, hk']
  simp only [zkv]
  rw [Int.toNat_of_nonneg h0]
theorem HF_st {g : Nat → Int → Int} {p n : Nat} {v : Int} (h : zAr g p n) {i : Int} (h0 : 0 ≤ i) (h1 : i < n) (f : zH → Option zR) : zst (HH g) (some p) 100 i (.inl v) f = f (HH (up g p i v)) := by
  obtain ⟨hp, hn, h⟩ := h
  obtain ⟨q, rfl⟩ : ∃ q, p = q + 1 := ⟨p - 1, by omega⟩
  have h' := HF_get (g := g) h
  simp only [Nat.add_sub_cancel] at h'
  have hz : zw i = i := zw_id (by omega) (by omega)
  have hk : (List.replicate n 0)[i.toNat]? = some 0 := by rw [List.getElem?_replicate, if_pos (by omega)]
  have hs := HF_set (g := g) (q := q) (v := v) h hk
  simp only [zst, h', hz]
  rw [if_pos ⟨rfl, h0, by simp [zcell]; omega⟩]
  rw [Int.toNat_of_nonneg h0] at hs
  exact congrArg f hs
/-- a new array of the law's -/
def gnw (g : Nat → Int → Int) (N : Nat) : Nat → Int → Int := fun q j => if q = 265 + N then 0 else if q = 0 ∧ j = 0 then (N : Int) + 1 else g q j
theorem HH_zna {g : Nat → Int → Int} {N n : Nat} (h : g 0 0 = (N : Nat)) (hk : zlw[N]? = some n) (hn : n ≤ 1000) (f : Option Nat → zH → Option zR) : zna (HH g) (n : Int) f = f (some (265 + N)) (HH (gnw g N)) := by
  have hz : zw (n : Int) = n := zw_id (by omega) (by omega)
  have hl := zsh_len
  have hN : N < zlw.length := (List.getElem?_eq_some_iff.mp hk).1
  have hlen : (HH g).length = 264 + N := by
    unfold HH
    rw [List.length_mapIdx, zsF, List.length_append, List.length_map, List.length_take, h, hl]
    omega
  have hF : zsF (gnw g N) = zsF g ++ [(100, List.replicate n 0)] := by
    unfold zsF
    have e : gnw g N 0 0 = ((N + 1 : Nat) : Int) := by
      unfold gnw
      rw [if_neg (by omega), if_pos ⟨rfl, rfl⟩]
      omega
    rw [e, h, show ((N + 1 : Nat) : Int).toNat = N + 1 by omega, show ((N : Nat) : Int).toNat = N by omega, List.take_add_one, hk, List.map_append, List.append_assoc]
    rfl
  have hH : HH (gnw g N) = HH g ++ [(100, List.replicate n (.inl 0))] := by
    unfold HH
    rw [hF, List.mapIdx_append]
    have hl2 : (zsF g).length = 264 + N := by rw [← hlen]; unfold HH; rw [List.length_mapIdx]
    have ea : ((zsF g).mapIdx fun q c => zcell c (gnw g N (q + 1))) = ((zsF g).mapIdx fun q c => zcell c (g (q + 1))) := by
      apply List.ext_getElem?
      intro q
      rw [List.getElem?_mapIdx, List.getElem?_mapIdx]
      cases hq : (zsF g)[q]? with
      | none => rfl
      | some c =>
        have hql := (List.getElem?_eq_some_iff.mp hq).1
        simp only [Option.map_some]
        have : gnw g N (q + 1) = g (q + 1) := by
          funext j
          unfold gnw
          rw [if_neg (by omega), if_neg (by omega)]
        rw [this]
    have eb : zcell (100, List.replicate n 0) (gnw g N (0 + (zsF g).length + 1)) = (100, List.replicate n (.inl 0)) := by
      have : gnw g N (0 + (zsF g).length + 1) = fun _ => 0 := by
        funext j
        unfold gnw
        rw [if_pos (by omega)]
      rw [this]
      unfold zcell
      rw [Prod.mk.injEq]
      refine ⟨rfl, ?_⟩
      apply List.ext_getElem?
      intro j
      rw [List.getElem?_mapIdx, List.getElem?_replicate, List.getElem?_replicate]
      by_cases hj : j < n
      · rw [if_pos hj, if_pos hj]
        rfl
      · rw [if_neg hj, if_neg hj]
        rfl
    rw [ea, List.mapIdx_cons, List.mapIdx_nil, eb]
  unfold zna
  rw [hz, if_pos (by omega), hH, hlen, show ((n : Int)).toNat = n by omega, show 264 + N + 1 = 265 + N by omega]
/-- ghost places don't lie in the heap -/
theorem HH_gh {g g1 : Nat → Int → Int} (e : ∀ q, q < 1000 → g1 q = g q) : HH g1 = HH g := by
  have e0 : zsF g1 = zsF g := by unfold zsF; rw [e 0 (by omega)]
  unfold HH
  rw [e0]
  apply List.ext_getElem?
  intro q
  rw [List.getElem?_mapIdx, List.getElem?_mapIdx]
  cases hq : (zsF g)[q]? with
  | none => rfl
  | some c =>
    have hql := (List.getElem?_eq_some_iff.mp hq).1
    have hl := zsh_len
    have hlw : zlw.length = 16 := rfl
    have hl2 : (zsF g).length ≤ 280 := by
      rw [zsF, List.length_append, List.length_map, List.length_take]
      omega
    simp only [Option.map_some]
    rw [e (q + 1) (by omega)]
theorem zci_ok (v : Int) (h : zH) (f : Int → zH → Option zR) : zci (some (some (.inl v), h)) f = f v h := by rw [zci]
theorem zcl_ok' (v : Int) (h : zH) (f : Int → zH → Option zR) : zcl (some (some (.inr (.inl v)), h)) f = f v h := by rw [zcl]
theorem zcr_ok (v : Option Nat) (h : zH) (f : Option Nat → zH → Option zR) : zcr (some (some (.inr (.inr v)), h)) f = f v h := by rw [zcr]
theorem zcv_ok (h : zH) (f : zH → Option zR) : zcv (some (none, h)) f = f h := by rw [zcv]

abbrev pX : Nat := 1
theorem pX_ck (g : Nat → Int → Int) (o : Option zR) : zck (HH g) (some pX) 6 o = o := HH_ck (p := pX) rfl (by decide) rfl o
abbrev pX_signals : Nat := 2
theorem pX_r_signals (g : Nat → Int → Int) (f : Option Nat → Option zR) : zgr (HH g) (some pX) 6 0 f = f (some pX_signals) := HH_gr (p := pX) (j := 0) rfl (by decide) rfl rfl f
abbrev pX_weights : Nat := 11
theorem pX_r_weights (g : Nat → Int → Int) (f : Option Nat → Option zR) : zgr (HH g) (some pX) 6 1 f = f (some pX_weights) := HH_gr (p := pX) (j := 1) rfl (by decide) rfl rfl f
abbrev pX_codes : Nat := 13
theorem pX_r_codes (g : Nat → Int → Int) (f : Option Nat → Option zR) : zgr (HH g) (some pX) 6 2 f = f (some pX_codes) := HH_gr (p := pX) (j := 2) rfl (by decide) rfl rfl f
theorem pX_g_codesRead (g : Nat → Int → Int) (f : Int → Option zR) : zgi (HH g) (some pX) 6 3 f = f (g pX 3) := HH_gi (p := pX) (j := 3) rfl (by decide) rfl rfl f
theorem pX_p_codesRead (g : Nat → Int → Int) (v : Int) (f : zH → Option zR) : zpf (HH g) (some pX) 6 3 (.inl v) f = f (HH (up g pX 3 v)) := HH_pf (p := pX) (j := 3) rfl (by decide) rfl rfl f
abbrev pX_page : Nat := 14
theorem pX_r_page (g : Nat → Int → Int) (f : Option Nat → Option zR) : zgr (HH g) (some pX) 6 4 f = f (some pX_page) := HH_gr (p := pX) (j := 4) rfl (by decide) rfl rfl f
abbrev pX_notes : Nat := 16
theorem pX_r_notes (g : Nat → Int → Int) (f : Option Nat → Option zR) : zgr (HH g) (some pX) 6 5 f = f (some pX_notes) := HH_gr (p := pX) (j := 5) rfl (by decide) rfl rfl f
abbrev pX_keptWeights : Nat := 43
theorem pX_r_keptWeights (g : Nat → Int → Int) (f : Option Nat → Option zR) : zgr (HH g) (some pX) 6 6 f = f (some pX_keptWeights) := HH_gr (p := pX) (j := 6) rfl (by decide) rfl rfl f
abbrev pX_keptNotes : Nat := 45
theorem pX_r_keptNotes (g : Nat → Int → Int) (f : Option Nat → Option zR) : zgr (HH g) (some pX) 6 7 f = f (some pX_keptNotes) := HH_gr (p := pX) (j := 7) rfl (by decide) rfl rfl f
theorem pX_g_kept (g : Nat → Int → Int) (f : Int → Option zR) : zgi (HH g) (some pX) 6 8 f = f (g pX 8) := HH_gi (p := pX) (j := 8) rfl (by decide) rfl rfl f
theorem pX_p_kept (g : Nat → Int → Int) (v : Int) (f : zH → Option zR) : zpf (HH g) (some pX) 6 8 (.inl v) f = f (HH (up g pX 8 v)) := HH_pf (p := pX) (j := 8) rfl (by decide) rfl rfl f
abbrev pX_said : Nat := 72
theorem pX_r_said (g : Nat → Int → Int) (f : Option Nat → Option zR) : zgr (HH g) (some pX) 6 9 f = f (some pX_said) := HH_gr (p := pX) (j := 9) rfl (by decide) rfl rfl f
abbrev pX_heard : Nat := 74
theorem pX_r_heard (g : Nat → Int → Int) (f : Option Nat → Option zR) : zgr (HH g) (some pX) 6 10 f = f (some pX_heard) := HH_gr (p := pX) (j := 10) rfl (by decide) rfl rfl f
abbrev pX_pool : Nat := 76
theorem pX_r_pool (g : Nat → Int → Int) (f : Option Nat → Option zR) : zgr (HH g) (some pX) 6 11 f = f (some pX_pool) := HH_gr (p := pX) (j := 11) rfl (by decide) rfl rfl f
abbrev pX_struck : Nat := 78
theorem pX_r_struck (g : Nat → Int → Int) (f : Option Nat → Option zR) : zgr (HH g) (some pX) 6 12 f = f (some pX_struck) := HH_gr (p := pX) (j := 12) rfl (by decide) rfl rfl f
abbrev pX_readings : Nat := 98
theorem pX_r_readings (g : Nat → Int → Int) (f : Option Nat → Option zR) : zgr (HH g) (some pX) 6 13 f = f (some pX_readings) := HH_gr (p := pX) (j := 13) rfl (by decide) rfl rfl f
abbrev pM : Nat := 1265
abbrev pM_page : Nat := 1266
abbrev pM_readRows : Nat := 1267
abbrev pM_speeches : Nat := 1268
abbrev pM_rows : Nat := 1269
abbrev pM_signalRows : Nat := 1270
abbrev pM_weights : Nat := 1271
abbrev pM_plain : Nat := 1272
abbrev pM_plains : Nat := 1273
abbrev pM_ahead : Nat := 1274
abbrev pM_heap : Nat := 1275
abbrev pM_noteRows : Nat := 1276
abbrev pM_ways : Nat := 1277
abbrev pM_before : Nat := 1278
abbrev pM_keptWeights : Nat := 1279
abbrev pM_keptRows : Nat := 1280
