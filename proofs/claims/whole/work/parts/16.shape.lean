/-! ===== the heap behind the constructors (its shape printed by a program of mine): no call changes its shape ===== -/
/-- tag, and of each place: 0 int, 1 long, 2 null, q + 3 the place q -/
def zsh : List (Nat × List Nat) := [(6, [5, 14, 16, 0, 17, 19, 46, 48, 0, 75, 77, 79, 81, 101]),
  (5, [6, 8, 10, 12]),
  (3, [7, 0]),
  (100, List.replicate 8 0),
  (3, [9, 0]),
  (100, List.replicate 8 0),
  (3, [11, 0]),
  (100, List.replicate 8 0),
  (3, [13, 0]),
  (100, List.replicate 8 0),
  (3, [15, 0]),
  (100, List.replicate 8 0),
  (102, [104, 145, 186, 227]),
  (3, [18, 0]),
  (100, List.replicate 48 0),
  (1, [20, 22]),
  (3, [21, 0]),
  (100, List.replicate 10 0),
  (4, [25, 23]),
  (3, [24, 0]),
  (100, List.replicate 0 0),
  (105, [26, 28, 30, 32, 34, 36, 38, 40, 42, 44]),
  (3, [27, 0]),
  (100, List.replicate 8 0),
  (3, [29, 0]),
  (100, List.replicate 8 0),
  (3, [31, 0]),
  (100, List.replicate 8 0),
  (3, [33, 0]),
  (100, List.replicate 8 0),
  (3, [35, 0]),
  (100, List.replicate 8 0),
  (3, [37, 0]),
  (100, List.replicate 8 0),
  (3, [39, 0]),
  (100, List.replicate 8 0),
  (3, [41, 0]),
  (100, List.replicate 8 0),
  (3, [43, 0]),
  (100, List.replicate 8 0),
  (3, [45, 0]),
  (100, List.replicate 8 0),
  (3, [47, 0]),
  (100, List.replicate 8 0),
  (1, [49, 51]),
  (3, [50, 0]),
  (100, List.replicate 10 0),
  (4, [54, 52]),
  (3, [53, 0]),
  (100, List.replicate 0 0),
  (105, [55, 57, 59, 61, 63, 65, 67, 69, 71, 73]),
  (3, [56, 0]),
  (100, List.replicate 8 0),
  (3, [58, 0]),
  (100, List.replicate 8 0),
  (3, [60, 0]),
  (100, List.replicate 8 0),
  (3, [62, 0]),
  (100, List.replicate 8 0),
  (3, [64, 0]),
  (100, List.replicate 8 0),
  (3, [66, 0]),
  (100, List.replicate 8 0),
  (3, [68, 0]),
  (100, List.replicate 8 0),
  (3, [70, 0]),
  (100, List.replicate 8 0),
  (3, [72, 0]),
  (100, List.replicate 8 0),
  (3, [74, 0]),
  (100, List.replicate 8 0),
  (3, [76, 0]),
  (100, List.replicate 48 0),
  (3, [78, 0]),
  (100, List.replicate 96 0),
  (3, [80, 0]),
  (100, List.replicate 8 0),
  (4, [84, 82]),
  (3, [83, 0]),
  (100, List.replicate 0 0),
  (105, [85, 87, 89, 91, 93, 95, 97, 99]),
  (3, [86, 0]),
  (100, List.replicate 10 0),
  (3, [88, 0]),
  (100, List.replicate 10 0),
  (3, [90, 0]),
  (100, List.replicate 10 0),
  (3, [92, 0]),
  (100, List.replicate 10 0),
  (3, [94, 0]),
  (100, List.replicate 10 0),
  (3, [96, 0]),
  (100, List.replicate 10 0),
  (3, [98, 0]),
  (100, List.replicate 10 0),
  (3, [100, 0]),
  (100, List.replicate 10 0),
  (2, [102, 0]),
  (3, [103, 0]),
  (100, List.replicate 80 0),
  (0, [105, 125, 0]),
  (4, [108, 106]),
  (3, [107, 0]),
  (100, List.replicate 0 0),
  (105, [109, 111, 113, 115, 117, 119, 121, 123]),
  (3, [110, 0]),
  (100, List.replicate 5 0),
  (3, [112, 0]),
  (100, List.replicate 5 0),
  (3, [114, 0]),
  (100, List.replicate 5 0),
  (3, [116, 0]),
  (100, List.replicate 5 0),
  (3, [118, 0]),
  (100, List.replicate 5 0),
  (3, [120, 0]),
  (100, List.replicate 5 0),
  (3, [122, 0]),
  (100, List.replicate 5 0),
  (3, [124, 0]),
  (100, List.replicate 5 0),
  (4, [128, 126]),
  (3, [127, 0]),
  (100, List.replicate 0 0),
  (105, [129, 131, 133, 135, 137, 139, 141, 143]),
  (3, [130, 0]),
  (100, List.replicate 10 0),
  (3, [132, 0]),
  (100, List.replicate 10 0),
  (3, [134, 0]),
  (100, List.replicate 10 0),
  (3, [136, 0]),
  (100, List.replicate 10 0),
  (3, [138, 0]),
  (100, List.replicate 10 0),
  (3, [140, 0]),
  (100, List.replicate 10 0),
  (3, [142, 0]),
  (100, List.replicate 10 0),
  (3, [144, 0]),
  (100, List.replicate 10 0),
  (0, [146, 166, 0]),
  (4, [149, 147]),
  (3, [148, 0]),
  (100, List.replicate 0 0),
  (105, [150, 152, 154, 156, 158, 160, 162, 164]),
  (3, [151, 0]),
  (100, List.replicate 5 0),
  (3, [153, 0]),
  (100, List.replicate 5 0),
  (3, [155, 0]),
  (100, List.replicate 5 0),
  (3, [157, 0]),
  (100, List.replicate 5 0),
  (3, [159, 0]),
  (100, List.replicate 5 0),
  (3, [161, 0]),
  (100, List.replicate 5 0),
  (3, [163, 0]),
  (100, List.replicate 5 0),
  (3, [165, 0]),
  (100, List.replicate 5 0),
  (4, [169, 167]),
  (3, [168, 0]),
  (100, List.replicate 0 0),
  (105, [170, 172, 174, 176, 178, 180, 182, 184]),
  (3, [171, 0]),
  (100, List.replicate 10 0),
  (3, [173, 0]),
  (100, List.replicate 10 0),
  (3, [175, 0]),
  (100, List.replicate 10 0),
  (3, [177, 0]),
  (100, List.replicate 10 0),
  (3, [179, 0]),
  (100, List.replicate 10 0),
  (3, [181, 0]),
  (100, List.replicate 10 0),
  (3, [183, 0]),
  (100, List.replicate 10 0),
  (3, [185, 0]),
  (100, List.replicate 10 0),
  (0, [187, 207, 0]),
  (4, [190, 188]),
  (3, [189, 0]),
  (100, List.replicate 0 0),
  (105, [191, 193, 195, 197, 199, 201, 203, 205]),
  (3, [192, 0]),
  (100, List.replicate 5 0),
  (3, [194, 0]),
  (100, List.replicate 5 0),
  (3, [196, 0]),
  (100, List.replicate 5 0),
  (3, [198, 0]),
  (100, List.replicate 5 0),
  (3, [200, 0]),
  (100, List.replicate 5 0),
  (3, [202, 0]),
  (100, List.replicate 5 0),
  (3, [204, 0]),
  (100, List.replicate 5 0),
  (3, [206, 0]),
  (100, List.replicate 5 0),
  (4, [210, 208]),
  (3, [209, 0]),
  (100, List.replicate 0 0),
  (105, [211, 213, 215, 217, 219, 221, 223, 225]),
  (3, [212, 0]),
  (100, List.replicate 10 0),
  (3, [214, 0]),
  (100, List.replicate 10 0),
  (3, [216, 0]),
  (100, List.replicate 10 0),
  (3, [218, 0]),
  (100, List.replicate 10 0),
  (3, [220, 0]),
  (100, List.replicate 10 0),
  (3, [222, 0]),
  (100, List.replicate 10 0),
  (3, [224, 0]),
  (100, List.replicate 10 0),
  (3, [226, 0]),
  (100, List.replicate 10 0),
  (0, [228, 248, 0]),
  (4, [231, 229]),
  (3, [230, 0]),
  (100, List.replicate 0 0),
  (105, [232, 234, 236, 238, 240, 242, 244, 246]),
  (3, [233, 0]),
  (100, List.replicate 5 0),
  (3, [235, 0]),
  (100, List.replicate 5 0),
  (3, [237, 0]),
  (100, List.replicate 5 0),
  (3, [239, 0]),
  (100, List.replicate 5 0),
  (3, [241, 0]),
  (100, List.replicate 5 0),
  (3, [243, 0]),
  (100, List.replicate 5 0),
  (3, [245, 0]),
  (100, List.replicate 5 0),
  (3, [247, 0]),
  (100, List.replicate 5 0),
  (4, [251, 249]),
  (3, [250, 0]),
  (100, List.replicate 0 0),
  (105, [252, 254, 256, 258, 260, 262, 264, 266]),
  (3, [253, 0]),
  (100, List.replicate 10 0),
  (3, [255, 0]),
  (100, List.replicate 10 0),
  (3, [257, 0]),
  (100, List.replicate 10 0),
  (3, [259, 0]),
  (100, List.replicate 10 0),
  (3, [261, 0]),
  (100, List.replicate 10 0),
  (3, [263, 0]),
  (100, List.replicate 10 0),
  (3, [265, 0]),
  (100, List.replicate 10 0),
  (3, [267, 0]),
  (100, List.replicate 10 0),
  (7, [269, 0, 0, 0, 270, 0, 271, 272, 0, 273, 0, 274, 275, 0, 276, 277, 0, 278, 0, 279, 280, 281, 0, 0, 282, 283, 1]),
  (100, List.replicate 48 0),
  (100, List.replicate 48 0),
  (100, List.replicate 4 0),
  (100, List.replicate 192 0),
  (100, List.replicate 32 0),
  (100, List.replicate 8 0),
  (100, List.replicate 96 0),
  (100, List.replicate 88 0),
  (100, List.replicate 88 0),
  (100, List.replicate 16 0),
  (100, List.replicate 100 0),
  (101, List.replicate 256 1),
  (101, List.replicate 256 1),
  (100, List.replicate 8 0),
  (100, List.replicate 100 0)]
def zkv (kd : Nat) (v : Int) : zV := match kd with
  | 0 => .inl v
  | 1 => .inr (.inl v)
  | 2 => .inr (.inr none)
  | q + 3 => .inr (.inr (some q))
def zcell (c : Nat × List Nat) (f : Int → Int) : Nat × List zV := (c.1, c.2.mapIdx fun k kd => zkv kd (f k))
abbrev zG' : Type := Nat → Int → Int
def HH (g : Nat → Int → Int) : zH := zsh.mapIdx fun q c => zcell c (g (q + 1))
def up (g : Nat → Int → Int) (p : Nat) (i v : Int) : Nat → Int → Int := fun q j => if q = p ∧ j = i then v else g q j
theorem up_same (g : Nat → Int → Int) (p : Nat) (i v : Int) : up g p i v p i = v := by simp [up]
theorem up_ne (g : Nat → Int → Int) {p q : Nat} {i j : Int} (v : Int) (h : ¬ (q = p ∧ j = i)) : up g p i v q j = g q j := by simp only [up, if_neg h]
theorem up_p (g : Nat → Int → Int) {p q : Nat} (i v : Int) (h : q ≠ p) : up g p i v q = g q := by funext j; simp [up, h]
theorem HH_get {g : Nat → Int → Int} {q : Nat} {c : Nat × List Nat} (h : zsh[q]? = some c) : (HH g)[q]? = some (zcell c (g (q + 1))) := by
  simp [HH, List.getElem?_mapIdx, h]
theorem zcell_get {c : Nat × List Nat} {f : Int → Int} {k kd : Nat} (h : c.2[k]? = some kd) : (zcell c f).2[k]? = some (zkv kd (f k)) := by
  simp [zcell, List.getElem?_mapIdx, h]
theorem HH_set {g : Nat → Int → Int} {q k kd : Nat} {c : Nat × List Nat} {v : Int} (h : zsh[q]? = some c) (hk : c.2[k]? = some kd) : (HH g).set q ((zcell c (g (q + 1))).1, (zcell c (g (q + 1))).2.set k (zkv kd v)) = HH (up g (q + 1) k v) := by
  have hl : q < zsh.length := (List.getElem?_eq_some_iff.mp h).1
  apply List.ext_getElem?
  intro n
  by_cases hn : n = q
  · subst hn
    rw [List.getElem?_set_self (by simp [HH]; exact hl), HH_get h]
    congr 1
    simp only [zcell]
    congr 1
    apply List.ext_getElem?
    intro j
    have hkl : k < c.2.length := (List.getElem?_eq_some_iff.mp hk).1
    by_cases hj : j = k
    · subst hj
      rw [List.getElem?_set_self (by simp; exact hkl)]
      simp [List.getElem?_mapIdx, hk, up]
    · rw [List.getElem?_set_ne (Ne.symm hj)]
      simp only [List.getElem?_mapIdx]
      cases c.2[j]? with
      | none => rfl
      | some kd2 =>
        simp only [Option.map_some]
        rw [up_ne]
        intro z
        exact hj (by have := z.2; omega)
  · rw [List.getElem?_set_ne (Ne.symm hn)]
    simp only [HH, List.getElem?_mapIdx]
    cases zsh[n]? with
    | none => rfl
    | some c2 =>
      simp only [Option.map_some]
      rw [up_p]
      omega
theorem HH_gi {g : Nat → Int → Int} {p ci j : Nat} {c : Nat × List Nat} (h : zsh[p - 1]? = some c) (hp : p ≠ 0) (ht : c.1 = ci) (hk : c.2[j]? = some 0) (f : Int → Option zR) : zgi (HH g) (some p) ci j f = f (g p j) := by
  obtain ⟨q, rfl⟩ : ∃ q, p = q + 1 := ⟨p - 1, by omega⟩
  have h' := HH_get (g := g) h
  simp only [Nat.add_sub_cancel] at h'
  have hk' := zcell_get (f := g (q + 1)) hk
  simp [zgi, zfd, h', hk', ht, zkv]
  simp [zcell, ht]
theorem HH_gl {g : Nat → Int → Int} {p ci j : Nat} {c : Nat × List Nat} (h : zsh[p - 1]? = some c) (hp : p ≠ 0) (ht : c.1 = ci) (hk : c.2[j]? = some 1) (f : Int → Option zR) : zgl (HH g) (some p) ci j f = f (g p j) := by
  obtain ⟨q, rfl⟩ : ∃ q, p = q + 1 := ⟨p - 1, by omega⟩
  have h' := HH_get (g := g) h
  simp only [Nat.add_sub_cancel] at h'
  have hk' := zcell_get (f := g (q + 1)) hk
  simp [zgl, zfd, h', hk', ht, zkv]
  simp [zcell, ht]
theorem HH_gr {g : Nat → Int → Int} {p ci j r : Nat} {c : Nat × List Nat} (h : zsh[p - 1]? = some c) (hp : p ≠ 0) (ht : c.1 = ci) (hk : c.2[j]? = some (r + 3)) (f : Option Nat → Option zR) : zgr (HH g) (some p) ci j f = f (some r) := by
  obtain ⟨q, rfl⟩ : ∃ q, p = q + 1 := ⟨p - 1, by omega⟩
  have h' := HH_get (g := g) h
  simp only [Nat.add_sub_cancel] at h'
  have hk' := zcell_get (f := g (q + 1)) hk
  simp [zgr, zfd, h', hk', ht, zkv]
  simp [zcell, ht]
theorem HH_pf {g : Nat → Int → Int} {p ci j : Nat} {c : Nat × List Nat} {v : Int} (h : zsh[p - 1]? = some c) (hp : p ≠ 0) (ht : c.1 = ci) (hk : c.2[j]? = some 0) (f : zH → Option zR) : zpf (HH g) (some p) ci j (.inl v) f = f (HH (up g p j v)) := by
  obtain ⟨q, rfl⟩ : ∃ q, p = q + 1 := ⟨p - 1, by omega⟩
  have h' := HH_get (g := g) h
  simp only [Nat.add_sub_cancel] at h'
  have hs := HH_set (g := g) (q := q) (v := v) h hk
  have hl : j < c.2.length := (List.getElem?_eq_some_iff.mp hk).1
  simp only [zpf, h']
  rw [if_pos ⟨ht, by simp [zcell]; exact hl⟩]
  exact congrArg f hs
theorem HH_pfl {g : Nat → Int → Int} {p ci j : Nat} {c : Nat × List Nat} {v : Int} (h : zsh[p - 1]? = some c) (hp : p ≠ 0) (ht : c.1 = ci) (hk : c.2[j]? = some 1) (f : zH → Option zR) : zpf (HH g) (some p) ci j (.inr (.inl v)) f = f (HH (up g p j v)) := by
  obtain ⟨q, rfl⟩ : ∃ q, p = q + 1 := ⟨p - 1, by omega⟩
  have h' := HH_get (g := g) h
  simp only [Nat.add_sub_cancel] at h'
  have hs := HH_set (g := g) (q := q) (v := v) h hk
  have hl : j < c.2.length := (List.getElem?_eq_some_iff.mp hk).1
  simp only [zpf, h']
  rw [if_pos ⟨ht, by simp [zcell]; exact hl⟩]
  exact congrArg f hs
theorem HH_ai {xs : List Int} {g : Nat → Int → Int} {p n : Nat} (h : zsh[p - 1]? = some (100, List.replicate n 0)) (hp : p ≠ 0) (hn : n ≤ 1000) {i : Int} (h0 : 0 ≤ i) (h1 : i < n) (f : Int → Option zR) : zai xs (HH g) (some p) i f = f (g p i) := by
  obtain ⟨q, rfl⟩ : ∃ q, p = q + 1 := ⟨p - 1, by omega⟩
  have h' := HH_get (g := g) h
  simp only [Nat.add_sub_cancel] at h'
  have hz : zw i = i := zw_id (by omega) (by omega)
  have hk : (List.replicate n 0)[i.toNat]? = some 0 := by rw [List.getElem?_replicate, if_pos (by omega)]
  have hk' := zcell_get (c := (100, List.replicate n 0)) (f := g (q + 1)) hk
  simp only [zai, zar, h', hz]
  rw [if_pos ⟨rfl, h0⟩, hk']
  simp only [zkv]
  rw [Int.toNat_of_nonneg h0]
theorem HH_al {xs : List Int} {g : Nat → Int → Int} {p n : Nat} (h : zsh[p - 1]? = some (101, List.replicate n 1)) (hp : p ≠ 0) (hn : n ≤ 1000) {i : Int} (h0 : 0 ≤ i) (h1 : i < n) (f : Int → Option zR) : zal xs (HH g) (some p) i f = f (g p i) := by
  obtain ⟨q, rfl⟩ : ∃ q, p = q + 1 := ⟨p - 1, by omega⟩
  have h' := HH_get (g := g) h
  simp only [Nat.add_sub_cancel] at h'
  have hz : zw i = i := zw_id (by omega) (by omega)
  have hk : (List.replicate n 1)[i.toNat]? = some 1 := by rw [List.getElem?_replicate, if_pos (by omega)]
  have hk' := zcell_get (c := (101, List.replicate n 1)) (f := g (q + 1)) hk
  simp only [zal, zar, h', hz]
  rw [if_pos ⟨rfl, h0⟩, hk']
  simp only [zkv]
  rw [Int.toNat_of_nonneg h0]
theorem HH_aa {xs : List Int} {g : Nat → Int → Int} {p tag n r : Nat} {rs : List Nat} (h : zsh[p - 1]? = some (tag, rs)) (hp : p ≠ 0) (ht : 101 < tag) {i : Int} (h0 : 0 ≤ i) (h1 : i < 1000) (hr : rs[i.toNat]? = some (r + 3)) (f : Option Nat → Option zR) : zaa xs (HH g) (some p) tag i f = f (some r) := by
  obtain ⟨q, rfl⟩ : ∃ q, p = q + 1 := ⟨p - 1, by omega⟩
  have h' := HH_get (g := g) h
  simp only [Nat.add_sub_cancel] at h'
  have hz : zw i = i := zw_id (by omega) (by omega)
  have hk' := zcell_get (c := (tag, rs)) (f := g (q + 1)) hr
  simp only [zaa, zar, h', hz]
  rw [if_pos ⟨rfl, h0⟩, hk']
  simp only [zkv]
theorem HH_st {g : Nat → Int → Int} {p n : Nat} {v : Int} (h : zsh[p - 1]? = some (100, List.replicate n 0)) (hp : p ≠ 0) (hn : n ≤ 1000) {i : Int} (h0 : 0 ≤ i) (h1 : i < n) (f : zH → Option zR) : zst (HH g) (some p) 100 i (.inl v) f = f (HH (up g p i v)) := by
  obtain ⟨q, rfl⟩ : ∃ q, p = q + 1 := ⟨p - 1, by omega⟩
  have h' := HH_get (g := g) h
  simp only [Nat.add_sub_cancel] at h'
  have hz : zw i = i := zw_id (by omega) (by omega)
  have hk : (List.replicate n 0)[i.toNat]? = some 0 := by rw [List.getElem?_replicate, if_pos (by omega)]
  have hs := HH_set (g := g) (q := q) (v := v) h hk
  simp only [zst, h', hz]
  rw [if_pos ⟨rfl, h0, by simp [zcell]; omega⟩]
  rw [Int.toNat_of_nonneg h0] at hs
  exact congrArg f hs
theorem HH_stl {g : Nat → Int → Int} {p n : Nat} {v : Int} (h : zsh[p - 1]? = some (101, List.replicate n 1)) (hp : p ≠ 0) (hn : n ≤ 1000) {i : Int} (h0 : 0 ≤ i) (h1 : i < n) (f : zH → Option zR) : zst (HH g) (some p) 101 i (.inr (.inl v)) f = f (HH (up g p i v)) := by
  obtain ⟨q, rfl⟩ : ∃ q, p = q + 1 := ⟨p - 1, by omega⟩
  have h' := HH_get (g := g) h
  simp only [Nat.add_sub_cancel] at h'
  have hz : zw i = i := zw_id (by omega) (by omega)
  have hk : (List.replicate n 1)[i.toNat]? = some 1 := by rw [List.getElem?_replicate, if_pos (by omega)]
  have hs := HH_set (g := g) (q := q) (v := v) h hk
  simp only [zst, h', hz]
  rw [if_pos ⟨rfl, h0, by simp [zcell]; omega⟩]
  rw [Int.toNat_of_nonneg h0] at hs
  exact congrArg f hs
theorem HH_ln {xs : List Int} {g : Nat → Int → Int} {p : Nat} {c : Nat × List Nat} (h : zsh[p - 1]? = some c) (hp : p ≠ 0) (ht : 100 ≤ c.1) (f : Int → Option zR) : zln xs (HH g) (some p) f = f (c.2.length : Int) := by
  obtain ⟨q, rfl⟩ : ∃ q, p = q + 1 := ⟨p - 1, by omega⟩
  have h' := HH_get (g := g) h
  simp only [Nat.add_sub_cancel] at h'
  simp only [zln, h']
  rw [if_pos (show 100 ≤ (zcell c _).1 from ht)]
  simp [zcell]
theorem HH_ck {g : Nat → Int → Int} {p ci : Nat} {c : Nat × List Nat} (h : zsh[p - 1]? = some c) (hp : p ≠ 0) (ht : c.1 = ci) (o : Option zR) : zck (HH g) (some p) ci o = o := by
  obtain ⟨q, rfl⟩ : ∃ q, p = q + 1 := ⟨p - 1, by omega⟩
  have h' := HH_get (g := g) h
  simp only [Nat.add_sub_cancel] at h'
  simp only [zck, h']
  rw [if_pos (show (zcell c _).1 = ci from ht)]
theorem zci_ok (v : Int) (h : zH) (f : Int → zH → Option zR) : zci (some (some (.inl v), h)) f = f v h := by rw [zci]
theorem zcl_ok' (v : Int) (h : zH) (f : Int → zH → Option zR) : zcl (some (some (.inr (.inl v)), h)) f = f v h := by rw [zcl]
theorem zcr_ok (v : Option Nat) (h : zH) (f : Option Nat → zH → Option zR) : zcr (some (some (.inr (.inr v)), h)) f = f v h := by rw [zcr]
theorem zcv_ok (h : zH) (f : zH → Option zR) : zcv (some (none, h)) f = f h := by rw [zcv]

abbrev pM : Nat := 265
theorem pM_ck (g : Nat → Int → Int) (o : Option zR) : zck (HH g) (some pM) 7 o = o := HH_ck (p := pM) rfl (by decide) rfl o
abbrev pM_page : Nat := 266
theorem pM_r_page (g : Nat → Int → Int) (f : Option Nat → Option zR) : zgr (HH g) (some pM) 7 0 f = f (some pM_page) := HH_gr (p := pM) (j := 0) rfl (by decide) rfl rfl f
theorem pM_a_page (xs : List Int) (g : Nat → Int → Int) {i : Int} (h0 : 0 ≤ i) (h1 : i < 48) (f : Int → Option zR) : zai xs (HH g) (some pM_page) i f = f (g pM_page i) := HH_ai (p := pM_page) (n := 48) rfl (by decide) (by decide) h0 h1 f
theorem pM_s_page (g : Nat → Int → Int) {i : Int} (v : Int) (h0 : 0 ≤ i) (h1 : i < 48) (f : zH → Option zR) : zst (HH g) (some pM_page) 100 i (.inl v) f = f (HH (up g pM_page i v)) := HH_st (p := pM_page) (n := 48) rfl (by decide) (by decide) h0 h1 f
theorem pM_g_pageMany (g : Nat → Int → Int) (f : Int → Option zR) : zgi (HH g) (some pM) 7 1 f = f (g pM 1) := HH_gi (p := pM) (j := 1) rfl (by decide) rfl rfl f
theorem pM_p_pageMany (g : Nat → Int → Int) (v : Int) (f : zH → Option zR) : zpf (HH g) (some pM) 7 1 (.inl v) f = f (HH (up g pM 1 v)) := HH_pf (p := pM) (j := 1) rfl (by decide) rfl rfl f
theorem pM_g_readMany (g : Nat → Int → Int) (f : Int → Option zR) : zgi (HH g) (some pM) 7 2 f = f (g pM 2) := HH_gi (p := pM) (j := 2) rfl (by decide) rfl rfl f
theorem pM_p_readMany (g : Nat → Int → Int) (v : Int) (f : zH → Option zR) : zpf (HH g) (some pM) 7 2 (.inl v) f = f (HH (up g pM 2 v)) := HH_pf (p := pM) (j := 2) rfl (by decide) rfl rfl f
theorem pM_g_readLetters (g : Nat → Int → Int) (f : Int → Option zR) : zgi (HH g) (some pM) 7 3 f = f (g pM 3) := HH_gi (p := pM) (j := 3) rfl (by decide) rfl rfl f
theorem pM_p_readLetters (g : Nat → Int → Int) (v : Int) (f : zH → Option zR) : zpf (HH g) (some pM) 7 3 (.inl v) f = f (HH (up g pM 3 v)) := HH_pf (p := pM) (j := 3) rfl (by decide) rfl rfl f
abbrev pM_readRows : Nat := 267
theorem pM_r_readRows (g : Nat → Int → Int) (f : Option Nat → Option zR) : zgr (HH g) (some pM) 7 4 f = f (some pM_readRows) := HH_gr (p := pM) (j := 4) rfl (by decide) rfl rfl f
theorem pM_a_readRows (xs : List Int) (g : Nat → Int → Int) {i : Int} (h0 : 0 ≤ i) (h1 : i < 48) (f : Int → Option zR) : zai xs (HH g) (some pM_readRows) i f = f (g pM_readRows i) := HH_ai (p := pM_readRows) (n := 48) rfl (by decide) (by decide) h0 h1 f
theorem pM_s_readRows (g : Nat → Int → Int) {i : Int} (v : Int) (h0 : 0 ≤ i) (h1 : i < 48) (f : zH → Option zR) : zst (HH g) (some pM_readRows) 100 i (.inl v) f = f (HH (up g pM_readRows i v)) := HH_st (p := pM_readRows) (n := 48) rfl (by decide) (by decide) h0 h1 f
theorem pM_g_codes (g : Nat → Int → Int) (f : Int → Option zR) : zgi (HH g) (some pM) 7 5 f = f (g pM 5) := HH_gi (p := pM) (j := 5) rfl (by decide) rfl rfl f
theorem pM_p_codes (g : Nat → Int → Int) (v : Int) (f : zH → Option zR) : zpf (HH g) (some pM) 7 5 (.inl v) f = f (HH (up g pM 5 v)) := HH_pf (p := pM) (j := 5) rfl (by decide) rfl rfl f
abbrev pM_speeches : Nat := 268
theorem pM_r_speeches (g : Nat → Int → Int) (f : Option Nat → Option zR) : zgr (HH g) (some pM) 7 6 f = f (some pM_speeches) := HH_gr (p := pM) (j := 6) rfl (by decide) rfl rfl f
theorem pM_a_speeches (xs : List Int) (g : Nat → Int → Int) {i : Int} (h0 : 0 ≤ i) (h1 : i < 4) (f : Int → Option zR) : zai xs (HH g) (some pM_speeches) i f = f (g pM_speeches i) := HH_ai (p := pM_speeches) (n := 4) rfl (by decide) (by decide) h0 h1 f
theorem pM_s_speeches (g : Nat → Int → Int) {i : Int} (v : Int) (h0 : 0 ≤ i) (h1 : i < 4) (f : zH → Option zR) : zst (HH g) (some pM_speeches) 100 i (.inl v) f = f (HH (up g pM_speeches i v)) := HH_st (p := pM_speeches) (n := 4) rfl (by decide) (by decide) h0 h1 f
abbrev pM_rows : Nat := 269
theorem pM_r_rows (g : Nat → Int → Int) (f : Option Nat → Option zR) : zgr (HH g) (some pM) 7 7 f = f (some pM_rows) := HH_gr (p := pM) (j := 7) rfl (by decide) rfl rfl f
theorem pM_a_rows (xs : List Int) (g : Nat → Int → Int) {i : Int} (h0 : 0 ≤ i) (h1 : i < 192) (f : Int → Option zR) : zai xs (HH g) (some pM_rows) i f = f (g pM_rows i) := HH_ai (p := pM_rows) (n := 192) rfl (by decide) (by decide) h0 h1 f
theorem pM_s_rows (g : Nat → Int → Int) {i : Int} (v : Int) (h0 : 0 ≤ i) (h1 : i < 192) (f : zH → Option zR) : zst (HH g) (some pM_rows) 100 i (.inl v) f = f (HH (up g pM_rows i v)) := HH_st (p := pM_rows) (n := 192) rfl (by decide) (by decide) h0 h1 f
theorem pM_g_signals (g : Nat → Int → Int) (f : Int → Option zR) : zgi (HH g) (some pM) 7 8 f = f (g pM 8) := HH_gi (p := pM) (j := 8) rfl (by decide) rfl rfl f
theorem pM_p_signals (g : Nat → Int → Int) (v : Int) (f : zH → Option zR) : zpf (HH g) (some pM) 7 8 (.inl v) f = f (HH (up g pM 8 v)) := HH_pf (p := pM) (j := 8) rfl (by decide) rfl rfl f
abbrev pM_signalRows : Nat := 270
theorem pM_r_signalRows (g : Nat → Int → Int) (f : Option Nat → Option zR) : zgr (HH g) (some pM) 7 9 f = f (some pM_signalRows) := HH_gr (p := pM) (j := 9) rfl (by decide) rfl rfl f
theorem pM_a_signalRows (xs : List Int) (g : Nat → Int → Int) {i : Int} (h0 : 0 ≤ i) (h1 : i < 32) (f : Int → Option zR) : zai xs (HH g) (some pM_signalRows) i f = f (g pM_signalRows i) := HH_ai (p := pM_signalRows) (n := 32) rfl (by decide) (by decide) h0 h1 f
theorem pM_s_signalRows (g : Nat → Int → Int) {i : Int} (v : Int) (h0 : 0 ≤ i) (h1 : i < 32) (f : zH → Option zR) : zst (HH g) (some pM_signalRows) 100 i (.inl v) f = f (HH (up g pM_signalRows i v)) := HH_st (p := pM_signalRows) (n := 32) rfl (by decide) (by decide) h0 h1 f
theorem pM_g_things (g : Nat → Int → Int) (f : Int → Option zR) : zgi (HH g) (some pM) 7 10 f = f (g pM 10) := HH_gi (p := pM) (j := 10) rfl (by decide) rfl rfl f
theorem pM_p_things (g : Nat → Int → Int) (v : Int) (f : zH → Option zR) : zpf (HH g) (some pM) 7 10 (.inl v) f = f (HH (up g pM 10 v)) := HH_pf (p := pM) (j := 10) rfl (by decide) rfl rfl f
abbrev pM_weights : Nat := 271
theorem pM_r_weights (g : Nat → Int → Int) (f : Option Nat → Option zR) : zgr (HH g) (some pM) 7 11 f = f (some pM_weights) := HH_gr (p := pM) (j := 11) rfl (by decide) rfl rfl f
theorem pM_a_weights (xs : List Int) (g : Nat → Int → Int) {i : Int} (h0 : 0 ≤ i) (h1 : i < 8) (f : Int → Option zR) : zai xs (HH g) (some pM_weights) i f = f (g pM_weights i) := HH_ai (p := pM_weights) (n := 8) rfl (by decide) (by decide) h0 h1 f
theorem pM_s_weights (g : Nat → Int → Int) {i : Int} (v : Int) (h0 : 0 ≤ i) (h1 : i < 8) (f : zH → Option zR) : zst (HH g) (some pM_weights) 100 i (.inl v) f = f (HH (up g pM_weights i v)) := HH_st (p := pM_weights) (n := 8) rfl (by decide) (by decide) h0 h1 f
abbrev pM_plain : Nat := 272
theorem pM_r_plain (g : Nat → Int → Int) (f : Option Nat → Option zR) : zgr (HH g) (some pM) 7 12 f = f (some pM_plain) := HH_gr (p := pM) (j := 12) rfl (by decide) rfl rfl f
theorem pM_a_plain (xs : List Int) (g : Nat → Int → Int) {i : Int} (h0 : 0 ≤ i) (h1 : i < 96) (f : Int → Option zR) : zai xs (HH g) (some pM_plain) i f = f (g pM_plain i) := HH_ai (p := pM_plain) (n := 96) rfl (by decide) (by decide) h0 h1 f
theorem pM_s_plain (g : Nat → Int → Int) {i : Int} (v : Int) (h0 : 0 ≤ i) (h1 : i < 96) (f : zH → Option zR) : zst (HH g) (some pM_plain) 100 i (.inl v) f = f (HH (up g pM_plain i v)) := HH_st (p := pM_plain) (n := 96) rfl (by decide) (by decide) h0 h1 f
theorem pM_g_plainMany (g : Nat → Int → Int) (f : Int → Option zR) : zgi (HH g) (some pM) 7 13 f = f (g pM 13) := HH_gi (p := pM) (j := 13) rfl (by decide) rfl rfl f
theorem pM_p_plainMany (g : Nat → Int → Int) (v : Int) (f : zH → Option zR) : zpf (HH g) (some pM) 7 13 (.inl v) f = f (HH (up g pM 13 v)) := HH_pf (p := pM) (j := 13) rfl (by decide) rfl rfl f
abbrev pM_plains : Nat := 273
theorem pM_r_plains (g : Nat → Int → Int) (f : Option Nat → Option zR) : zgr (HH g) (some pM) 7 14 f = f (some pM_plains) := HH_gr (p := pM) (j := 14) rfl (by decide) rfl rfl f
theorem pM_a_plains (xs : List Int) (g : Nat → Int → Int) {i : Int} (h0 : 0 ≤ i) (h1 : i < 88) (f : Int → Option zR) : zai xs (HH g) (some pM_plains) i f = f (g pM_plains i) := HH_ai (p := pM_plains) (n := 88) rfl (by decide) (by decide) h0 h1 f
theorem pM_s_plains (g : Nat → Int → Int) {i : Int} (v : Int) (h0 : 0 ≤ i) (h1 : i < 88) (f : zH → Option zR) : zst (HH g) (some pM_plains) 100 i (.inl v) f = f (HH (up g pM_plains i v)) := HH_st (p := pM_plains) (n := 88) rfl (by decide) (by decide) h0 h1 f
abbrev pM_ahead : Nat := 274
theorem pM_r_ahead (g : Nat → Int → Int) (f : Option Nat → Option zR) : zgr (HH g) (some pM) 7 15 f = f (some pM_ahead) := HH_gr (p := pM) (j := 15) rfl (by decide) rfl rfl f
theorem pM_a_ahead (xs : List Int) (g : Nat → Int → Int) {i : Int} (h0 : 0 ≤ i) (h1 : i < 88) (f : Int → Option zR) : zai xs (HH g) (some pM_ahead) i f = f (g pM_ahead i) := HH_ai (p := pM_ahead) (n := 88) rfl (by decide) (by decide) h0 h1 f
theorem pM_s_ahead (g : Nat → Int → Int) {i : Int} (v : Int) (h0 : 0 ≤ i) (h1 : i < 88) (f : zH → Option zR) : zst (HH g) (some pM_ahead) 100 i (.inl v) f = f (HH (up g pM_ahead i v)) := HH_st (p := pM_ahead) (n := 88) rfl (by decide) (by decide) h0 h1 f
theorem pM_g_least (g : Nat → Int → Int) (f : Int → Option zR) : zgi (HH g) (some pM) 7 16 f = f (g pM 16) := HH_gi (p := pM) (j := 16) rfl (by decide) rfl rfl f
theorem pM_p_least (g : Nat → Int → Int) (v : Int) (f : zH → Option zR) : zpf (HH g) (some pM) 7 16 (.inl v) f = f (HH (up g pM 16 v)) := HH_pf (p := pM) (j := 16) rfl (by decide) rfl rfl f
abbrev pM_heap : Nat := 275
theorem pM_r_heap (g : Nat → Int → Int) (f : Option Nat → Option zR) : zgr (HH g) (some pM) 7 17 f = f (some pM_heap) := HH_gr (p := pM) (j := 17) rfl (by decide) rfl rfl f
theorem pM_a_heap (xs : List Int) (g : Nat → Int → Int) {i : Int} (h0 : 0 ≤ i) (h1 : i < 16) (f : Int → Option zR) : zai xs (HH g) (some pM_heap) i f = f (g pM_heap i) := HH_ai (p := pM_heap) (n := 16) rfl (by decide) (by decide) h0 h1 f
theorem pM_s_heap (g : Nat → Int → Int) {i : Int} (v : Int) (h0 : 0 ≤ i) (h1 : i < 16) (f : zH → Option zR) : zst (HH g) (some pM_heap) 100 i (.inl v) f = f (HH (up g pM_heap i v)) := HH_st (p := pM_heap) (n := 16) rfl (by decide) (by decide) h0 h1 f
theorem pM_g_notes (g : Nat → Int → Int) (f : Int → Option zR) : zgi (HH g) (some pM) 7 18 f = f (g pM 18) := HH_gi (p := pM) (j := 18) rfl (by decide) rfl rfl f
theorem pM_p_notes (g : Nat → Int → Int) (v : Int) (f : zH → Option zR) : zpf (HH g) (some pM) 7 18 (.inl v) f = f (HH (up g pM 18 v)) := HH_pf (p := pM) (j := 18) rfl (by decide) rfl rfl f
abbrev pM_noteRows : Nat := 276
theorem pM_r_noteRows (g : Nat → Int → Int) (f : Option Nat → Option zR) : zgr (HH g) (some pM) 7 19 f = f (some pM_noteRows) := HH_gr (p := pM) (j := 19) rfl (by decide) rfl rfl f
theorem pM_a_noteRows (xs : List Int) (g : Nat → Int → Int) {i : Int} (h0 : 0 ≤ i) (h1 : i < 100) (f : Int → Option zR) : zai xs (HH g) (some pM_noteRows) i f = f (g pM_noteRows i) := HH_ai (p := pM_noteRows) (n := 100) rfl (by decide) (by decide) h0 h1 f
theorem pM_s_noteRows (g : Nat → Int → Int) {i : Int} (v : Int) (h0 : 0 ≤ i) (h1 : i < 100) (f : zH → Option zR) : zst (HH g) (some pM_noteRows) 100 i (.inl v) f = f (HH (up g pM_noteRows i v)) := HH_st (p := pM_noteRows) (n := 100) rfl (by decide) (by decide) h0 h1 f
abbrev pM_ways : Nat := 277
theorem pM_r_ways (g : Nat → Int → Int) (f : Option Nat → Option zR) : zgr (HH g) (some pM) 7 20 f = f (some pM_ways) := HH_gr (p := pM) (j := 20) rfl (by decide) rfl rfl f
theorem pM_a_ways (xs : List Int) (g : Nat → Int → Int) {i : Int} (h0 : 0 ≤ i) (h1 : i < 256) (f : Int → Option zR) : zal xs (HH g) (some pM_ways) i f = f (g pM_ways i) := HH_al (p := pM_ways) (n := 256) rfl (by decide) (by decide) h0 h1 f
theorem pM_s_ways (g : Nat → Int → Int) {i : Int} (v : Int) (h0 : 0 ≤ i) (h1 : i < 256) (f : zH → Option zR) : zst (HH g) (some pM_ways) 101 i (.inr (.inl v)) f = f (HH (up g pM_ways i v)) := HH_stl (p := pM_ways) (n := 256) rfl (by decide) (by decide) h0 h1 f
abbrev pM_before : Nat := 278
theorem pM_r_before (g : Nat → Int → Int) (f : Option Nat → Option zR) : zgr (HH g) (some pM) 7 21 f = f (some pM_before) := HH_gr (p := pM) (j := 21) rfl (by decide) rfl rfl f
theorem pM_a_before (xs : List Int) (g : Nat → Int → Int) {i : Int} (h0 : 0 ≤ i) (h1 : i < 256) (f : Int → Option zR) : zal xs (HH g) (some pM_before) i f = f (g pM_before i) := HH_al (p := pM_before) (n := 256) rfl (by decide) (by decide) h0 h1 f
theorem pM_s_before (g : Nat → Int → Int) {i : Int} (v : Int) (h0 : 0 ≤ i) (h1 : i < 256) (f : zH → Option zR) : zst (HH g) (some pM_before) 101 i (.inr (.inl v)) f = f (HH (up g pM_before i v)) := HH_stl (p := pM_before) (n := 256) rfl (by decide) (by decide) h0 h1 f
theorem pM_g_keptThings (g : Nat → Int → Int) (f : Int → Option zR) : zgi (HH g) (some pM) 7 22 f = f (g pM 22) := HH_gi (p := pM) (j := 22) rfl (by decide) rfl rfl f
theorem pM_p_keptThings (g : Nat → Int → Int) (v : Int) (f : zH → Option zR) : zpf (HH g) (some pM) 7 22 (.inl v) f = f (HH (up g pM 22 v)) := HH_pf (p := pM) (j := 22) rfl (by decide) rfl rfl f
theorem pM_g_keptNotes (g : Nat → Int → Int) (f : Int → Option zR) : zgi (HH g) (some pM) 7 23 f = f (g pM 23) := HH_gi (p := pM) (j := 23) rfl (by decide) rfl rfl f
theorem pM_p_keptNotes (g : Nat → Int → Int) (v : Int) (f : zH → Option zR) : zpf (HH g) (some pM) 7 23 (.inl v) f = f (HH (up g pM 23 v)) := HH_pf (p := pM) (j := 23) rfl (by decide) rfl rfl f
abbrev pM_keptWeights : Nat := 279
theorem pM_r_keptWeights (g : Nat → Int → Int) (f : Option Nat → Option zR) : zgr (HH g) (some pM) 7 24 f = f (some pM_keptWeights) := HH_gr (p := pM) (j := 24) rfl (by decide) rfl rfl f
theorem pM_a_keptWeights (xs : List Int) (g : Nat → Int → Int) {i : Int} (h0 : 0 ≤ i) (h1 : i < 8) (f : Int → Option zR) : zai xs (HH g) (some pM_keptWeights) i f = f (g pM_keptWeights i) := HH_ai (p := pM_keptWeights) (n := 8) rfl (by decide) (by decide) h0 h1 f
theorem pM_s_keptWeights (g : Nat → Int → Int) {i : Int} (v : Int) (h0 : 0 ≤ i) (h1 : i < 8) (f : zH → Option zR) : zst (HH g) (some pM_keptWeights) 100 i (.inl v) f = f (HH (up g pM_keptWeights i v)) := HH_st (p := pM_keptWeights) (n := 8) rfl (by decide) (by decide) h0 h1 f
abbrev pM_keptRows : Nat := 280
theorem pM_r_keptRows (g : Nat → Int → Int) (f : Option Nat → Option zR) : zgr (HH g) (some pM) 7 25 f = f (some pM_keptRows) := HH_gr (p := pM) (j := 25) rfl (by decide) rfl rfl f
theorem pM_a_keptRows (xs : List Int) (g : Nat → Int → Int) {i : Int} (h0 : 0 ≤ i) (h1 : i < 100) (f : Int → Option zR) : zai xs (HH g) (some pM_keptRows) i f = f (g pM_keptRows i) := HH_ai (p := pM_keptRows) (n := 100) rfl (by decide) (by decide) h0 h1 f
theorem pM_s_keptRows (g : Nat → Int → Int) {i : Int} (v : Int) (h0 : 0 ≤ i) (h1 : i < 100) (f : zH → Option zR) : zst (HH g) (some pM_keptRows) 100 i (.inl v) f = f (HH (up g pM_keptRows i v)) := HH_st (p := pM_keptRows) (n := 100) rfl (by decide) (by decide) h0 h1 f
theorem pM_g_hash (g : Nat → Int → Int) (f : Int → Option zR) : zgl (HH g) (some pM) 7 26 f = f (g pM 26) := HH_gl (p := pM) (j := 26) rfl (by decide) rfl rfl f
theorem pM_p_hash (g : Nat → Int → Int) (v : Int) (f : zH → Option zR) : zpf (HH g) (some pM) 7 26 (.inr (.inl v)) f = f (HH (up g pM 26 v)) := HH_pfl (p := pM) (j := 26) rfl (by decide) rfl rfl f
abbrev pX : Nat := 1
theorem pX_ck (g : Nat → Int → Int) (o : Option zR) : zck (HH g) (some pX) 6 o = o := HH_ck (p := pX) rfl (by decide) rfl o
abbrev pX_signals : Nat := 2
theorem pX_r_signals (g : Nat → Int → Int) (f : Option Nat → Option zR) : zgr (HH g) (some pX) 6 0 f = f (some pX_signals) := HH_gr (p := pX) (j := 0) rfl (by decide) rfl rfl f
abbrev pX_weights : Nat := 11
theorem pX_r_weights (g : Nat → Int → Int) (f : Option Nat → Option zR) : zgr (HH g) (some pX) 6 1 f = f (some pX_weights) := HH_gr (p := pX) (j := 1) rfl (by decide) rfl rfl f
abbrev pX_codes : Nat := 13
theorem pX_r_codes (g : Nat → Int → Int) (f : Option Nat → Option zR) : zgr (HH g) (some pX) 6 2 f = f (some pX_codes) := HH_gr (p := pX) (j := 2) rfl (by decide) rfl rfl f
theorem pX_g_codesRead (g : Nat → Int → Int) (f : Int → Option zR) : zgi (HH g) (some pX) 6 3 f = f (g pX 3) := HH_gi (p := pX) (j := 3) rfl (by decide) rfl rfl f
theorem pX_p_codesRead (g : Nat → Int → Int) (v : Int) (f : zH → Option zR) : zpf (HH g) (some pX) 6 3 (.inl v) f = f (HH (up g pX 3 v)) := HH_pf (p := pX) (j := 3) rfl (by decide) rfl rfl f
abbrev pX_page : Nat := 14
theorem pX_r_page (g : Nat → Int → Int) (f : Option Nat → Option zR) : zgr (HH g) (some pX) 6 4 f = f (some pX_page) := HH_gr (p := pX) (j := 4) rfl (by decide) rfl rfl f
abbrev pX_notes : Nat := 16
theorem pX_r_notes (g : Nat → Int → Int) (f : Option Nat → Option zR) : zgr (HH g) (some pX) 6 5 f = f (some pX_notes) := HH_gr (p := pX) (j := 5) rfl (by decide) rfl rfl f
abbrev pX_keptWeights : Nat := 43
theorem pX_r_keptWeights (g : Nat → Int → Int) (f : Option Nat → Option zR) : zgr (HH g) (some pX) 6 6 f = f (some pX_keptWeights) := HH_gr (p := pX) (j := 6) rfl (by decide) rfl rfl f
abbrev pX_keptNotes : Nat := 45
theorem pX_r_keptNotes (g : Nat → Int → Int) (f : Option Nat → Option zR) : zgr (HH g) (some pX) 6 7 f = f (some pX_keptNotes) := HH_gr (p := pX) (j := 7) rfl (by decide) rfl rfl f
theorem pX_g_kept (g : Nat → Int → Int) (f : Int → Option zR) : zgi (HH g) (some pX) 6 8 f = f (g pX 8) := HH_gi (p := pX) (j := 8) rfl (by decide) rfl rfl f
theorem pX_p_kept (g : Nat → Int → Int) (v : Int) (f : zH → Option zR) : zpf (HH g) (some pX) 6 8 (.inl v) f = f (HH (up g pX 8 v)) := HH_pf (p := pX) (j := 8) rfl (by decide) rfl rfl f
abbrev pX_said : Nat := 72
theorem pX_r_said (g : Nat → Int → Int) (f : Option Nat → Option zR) : zgr (HH g) (some pX) 6 9 f = f (some pX_said) := HH_gr (p := pX) (j := 9) rfl (by decide) rfl rfl f
abbrev pX_heard : Nat := 74
theorem pX_r_heard (g : Nat → Int → Int) (f : Option Nat → Option zR) : zgr (HH g) (some pX) 6 10 f = f (some pX_heard) := HH_gr (p := pX) (j := 10) rfl (by decide) rfl rfl f
abbrev pX_pool : Nat := 76
theorem pX_r_pool (g : Nat → Int → Int) (f : Option Nat → Option zR) : zgr (HH g) (some pX) 6 11 f = f (some pX_pool) := HH_gr (p := pX) (j := 11) rfl (by decide) rfl rfl f
abbrev pX_struck : Nat := 78
theorem pX_r_struck (g : Nat → Int → Int) (f : Option Nat → Option zR) : zgr (HH g) (some pX) 6 12 f = f (some pX_struck) := HH_gr (p := pX) (j := 12) rfl (by decide) rfl rfl f
abbrev pX_readings : Nat := 98
theorem pX_r_readings (g : Nat → Int → Int) (f : Option Nat → Option zR) : zgr (HH g) (some pX) 6 13 f = f (some pX_readings) := HH_gr (p := pX) (j := 13) rfl (by decide) rfl rfl f
