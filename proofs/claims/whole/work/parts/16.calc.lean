/-! ===== what the questions compute ===== -/
theorem ltl {j : Nat} (N : Nat) (h : j < N) (hN : N < 2 ^ 31) : ¬ nI N ≤ nI j := nI_ge h hN
theorem lt12 {j : Nat} (h : j < 12) : ¬ (12 : Int32) ≤ nI j := nI_ge (b := 12) h (by decide)
theorem lt5 {j : Nat} (h : j < 5) : ¬ (5 : Int32) ≤ nI j := nI_ge (b := 5) h (by decide)
theorem lt6 {j : Nat} (h : j < 6) : ¬ (6 : Int32) ≤ nI j := nI_ge (b := 6) h (by decide)
theorem or0 (x : Int32) : x ||| (0 : Int32) = x := by simp
theorem add0 (x : Int32) : x + (0 : Int32) = x := by simp
def bit (j : Nat) : Int32 := (1 : Int32) <<< (nI j &&& 31)
def hb (s : Int32) (j : Nat) : Bool := decide ((s >>> (nI j &&& 31)) &&& (1 : Int32) = (1 : Int32))
def hp (s : Int32) (j : Nat) : Bool := decide (0 < j) && hb s (j - 1)
theorem has_eq (s : Int32) {j : Nat} (hj : j < 2 ^ 31) (μ : Mem) : f_X9_has s (nI j) μ = some (bI (hb s j), μ) := by
  rw [f_X9_has, if_neg (nI_pos hj)]
  unfold hb bI
  by_cases h : (s >>> (nI j &&& 31)) &&& (1 : Int32) = (1 : Int32) <;> simp [h]
theorem m_has_eq (s : Int32) (j : Nat) (μ : Mem) : f_X10_has s (nI j) μ = some (bI (hb s j), μ) := by
  rw [f_X10_has]
  unfold hb bI
  by_cases h : (s >>> (nI j &&& 31)) &&& (1 : Int32) = (1 : Int32) <;> simp [h]
theorem nI_m1 {j : Nat} (h : 0 < j) : nI j - 1 = nI (j - 1) := by
  obtain ⟨q, rfl⟩ : ∃ q, j = q + 1 := ⟨j - 1, by omega⟩
  rw [nI_pred]; rfl
theorem hasp_eq (s : Int32) {j : Nat} (hj : j < 2 ^ 31) (μ : Mem) : f_X9_has s (nI j - 1) μ = some (bI (hp s j), μ) := by
  rcases Nat.eq_zero_or_pos j with rfl | h
  · rw [f_X9_has, if_pos (show nI 0 - 1 < 0 from by decide)]; rfl
  · rw [nI_m1 h, has_eq s (by omega)]
    unfold hp
    simp [h]
def mid (x : Int32) : Bool := inR x 4 7
theorem mid_eq (x : Int32) (μ : Mem) : f_X9_isMiddle x μ = some (bI (mid x), μ) := by
  unfold f_X9_isMiddle bI mid inR
  by_cases h : x < 4 <;> by_cases h2 : (7 : Int32) < x <;> simp [h, h2]
def val (k : Nat) (x : Int32) (a : Bool) : Int32 :=
  if k = 1 then (if (3 : Int32) ≤ x then 3 else 5) else if k = 2 then (if mid x = true then 6 else 3) else if k = 3 then (if a = true then 5 else 3) else if k = 4 then (if mid x = true then 0 else if (3 : Int32) ≤ x then 3 else 5) else if k = 5 then (if a = true then (if x = 11 then 7 else 4) else (if x = 11 then 5 else 2)) else 3
theorem ofCell_eq {k : Nat} (hk : k < 6) (x : Int32) (a : Bool) (μ : Mem) : f_ofCell (30 + k) x (bI a) μ = some (val k x a, μ) := by
  rcases (show k = 0 ∨ k = 1 ∨ k = 2 ∨ k = 3 ∨ k = 4 ∨ k = 5 by omega) with rfl | rfl | rfl | rfl | rfl | rfl
  · show f_X3_ofCell 30 x (bI a) μ = _
    rfl
  · show f_X7_ofCell 31 x (bI a) μ = _
    rw [f_X7_ofCell, f_X3_ofCell, zbind_eq]
    unfold val
    by_cases h : (3 : Int32) ≤ x <;> simp [h]
  · show f_X4_ofCell 32 x (bI a) μ = _
    rw [f_X4_ofCell, f_X3_ofCell, zbind_eq, mid_eq, zbind_eq]
    unfold val
    cases h : mid x <;> simp [bI]
  · show f_X6_ofCell 33 x (bI a) μ = _
    rw [f_X6_ofCell, f_X3_ofCell, zbind_eq]
    unfold val
    cases a <;> simp [bI]
  · show f_X0_ofCell 34 x (bI a) μ = _
    rw [f_X0_ofCell, mid_eq, zbind_eq]
    rw [f_X7_ofCell, f_X3_ofCell, zbind_eq]
    unfold val
    cases h : mid x
    · by_cases h : (3 : Int32) ≤ x <;> simp [bI, h, zbind_eq]
    · simp [bI]
  · show f_X5_ofCell 35 x (bI a) μ = _
    rw [f_X5_ofCell, f_X6_ofCell, f_X3_ofCell, zbind_eq]
    unfold val
    cases a <;> by_cases h : x = 11 <;> simp [bI, h, zbind_eq]
theorem valueBy_eq {k : Nat} (hk : k < 6) (x : Int32) (a : Bool) (μ : Mem) : f_X10_valueBy (nI k) x (bI a) μ = some (val k x a, μ) := by
  rw [f_X10_valueBy]
  have e : ∀ x3 s0 : Int32, f_X10_valueBy_20 (nI k) x x3 s0 μ = some (if k = 1 then x3 else if k = 2 then (if mid x = true then 6 else 3) else if k = 3 then s0 else if k = 4 then (if mid x = true then 0 else x3) else if k = 5 then (if x = 11 then s0 - 1 + 3 else s0 - 1 + 0) else 3, μ) := by
    intro x3 s0
    rw [f_X10_valueBy_20, in_eq, zbind_eq, show inR x 4 7 = mid x from rfl]
    rcases (show k = 0 ∨ k = 1 ∨ k = 2 ∨ k = 3 ∨ k = 4 ∨ k = 5 by omega) with rfl | rfl | rfl | rfl | rfl | rfl <;> cases mid x <;> by_cases h : x = 11 <;> simp [h, bI, nI]
  rw [e, e, e, e]
  unfold val
  rcases (show k = 0 ∨ k = 1 ∨ k = 2 ∨ k = 3 ∨ k = 4 ∨ k = 5 by omega) with rfl | rfl | rfl | rfl | rfl | rfl <;> cases a <;> by_cases h : (3 : Int32) ≤ x <;> simp [bI, h]
/-- whose cells, as bits -/
def setC (f : Nat → Int32) (b : Int32) : Int32 := iter (fun j a => if f j = b then a ||| bit j else a) 0 12 0
theorem cellsOf_eq (o : Nat) (b : Int32) (μ : Mem) : f_X1_cellsOf o b μ = some (setC (μ.1 (o + 4)) b, μ) := by
  rw [f_X1_cellsOf]
  have h := loop0 (fun n a c => f_X1_cellsOf_4 o n b a c μ) (fun j a => if μ.1 (o + 4) j = b then a ||| bit j else a) 12 (by decide) (fun a => some (a, μ)) (fun n a => by
    show f_X1_cellsOf_4 o (n + 1) b a (nI 12) μ = _
    rw [f_X1_cellsOf_4, if_pos (by decide)]) (fun n j a hj => by
    show f_X1_cellsOf_4 o (n + 1) b a (nI j) μ = f_X1_cellsOf_4 o n b _ (nI (j + 1)) μ
    rw [f_X1_cellsOf_4, if_neg (lt12 hj), zck_t (zin_nI hj (by decide)), nI_clamp (by omega), nI_1]
    by_cases q : μ.1 (o + 4) j = b
    · rw [if_pos q, if_pos q]; rfl
    · rw [if_neg q, if_neg q]) 0
  rw [nI_0] at h
  exact h
theorem setOf_eq (b : Int32) (μ : Mem) : f_X10_setOf b μ = some (setC (μ.1 5) b, μ) := by
  rw [f_X10_setOf]
  have h := loop0 (fun n a c => f_X10_setOf_4 n b a c μ) (fun j a => if μ.1 5 j = b then a ||| bit j else a) 12 (by decide) (fun a => some (a, μ)) (fun n a => by
    show f_X10_setOf_4 (n + 1) b a (nI 12) μ = _
    rw [f_X10_setOf_4, if_pos (by decide)]) (fun n j a hj => by
    show f_X10_setOf_4 (n + 1) b a (nI j) μ = f_X10_setOf_4 n b _ (nI (j + 1)) μ
    rw [f_X10_setOf_4, if_neg (lt12 hj), zck_t (zin_nI hj (by decide)), nI_clamp (by omega), nI_1, or0]
    by_cases q : μ.1 5 j = b
    · rw [if_pos q, if_pos q]; rfl
    · rw [if_neg q, if_neg q]) 0
  rw [nI_0] at h
  exact h
theorem setC_congr {f g : Nat → Int32} (b : Int32) (h : ∀ j, j < 12 → f j = g j) : setC f b = setC g b :=
  iter_congr 12 0 0 (fun i _ hi a => by rw [h i (by omega)])
/-- what a set of cells is worth to a kind -/
def wsum (k : Nat) (s : Int32) : Int32 := iter (fun j a => if hb s j = true then a + val k (nI j) (hp s j) else a) 0 12 0
theorem kindOf_eq {o i k : Nat} {μ : Mem} (hi : i < 5) (hk : k < 6) (h : μ.1 (o + 1) i = nI k) : f_X1_kindOf o (nI i) μ = some (30 + k, μ) := by
  rw [f_X1_kindOf, zck_t (zin_nI hi (by decide)), nI_clamp (by omega), h, zck_t (zin_nI hk (by decide)), nI_clamp (by omega)]
theorem worthTo_eq {o i k : Nat} {μ : Mem} (hi : i < 5) (hk : k < 6) (h : μ.1 (o + 1) i = nI k) (s : Int32) : f_X1_worthTo o (nI i) s μ = some (wsum k s, μ) := by
  rw [f_X1_worthTo, kindOf_eq hi hk h, zbind_eq]
  have h := loop0 (fun n a c => f_X1_worthTo_12 o n s (30 + k) a c μ) (fun j a => if hb s j = true then a + val k (nI j) (hp s j) else a) 12 (by decide) (fun a => some (a, μ)) (fun n a => by
    show f_X1_worthTo_12 o (n + 1) s (30 + k) a (nI 12) μ = _
    rw [f_X1_worthTo_12, if_pos (by decide)]) (fun n j a hj => by
    show f_X1_worthTo_12 o (n + 1) s (30 + k) a (nI j) μ = f_X1_worthTo_12 o n s (30 + k) _ (nI (j + 1)) μ
    rw [f_X1_worthTo_12, if_neg (lt12 hj), has_eq s (by omega), zbind_eq, hasp_eq s (by omega), zbind_eq, ofCell_eq hk, zbind_eq, nI_1]
    cases q : hb s j
    · rw [if_pos (by rfl), if_neg (by decide)]
    · rw [if_neg (by decide), if_pos rfl]) 0
  rw [nI_0] at h
  exact h
theorem valueIn_eq {i k : Nat} {μ : Mem} (hi : i < 5) (hk : k < 6) (h : μ.1 2 i = nI k) (s : Int32) {j : Nat} (hj : j < 2 ^ 31) : f_X10_valueIn (nI i) (nI j) s μ = some (val k (nI j) (hp s j), μ) := by
  rw [f_X10_valueIn, zck_t (zin_nI hi (by decide)), nI_clamp (by omega), h]
  rcases Nat.eq_zero_or_pos j with rfl | q
  · rw [if_pos (by decide), ← bI_f, valueBy_eq hk, zbind_eq]; rfl
  · rw [if_neg (by rw [show (0 : Int32) = nI 0 from rfl]; exact nI_ge q hj), nI_m1 q, m_has_eq, zbind_eq]
    have e : hp s j = hb s (j - 1) := by unfold hp; simp [q]
    rw [e]
    cases hb s (j - 1)
    · rw [if_pos (by rfl), ← bI_f, valueBy_eq hk, zbind_eq]
    · rw [if_neg (by decide), ← bI_t, valueBy_eq hk, zbind_eq]
theorem worthOf_eq {i k : Nat} {μ : Mem} (hi : i < 5) (hk : k < 6) (h : μ.1 2 i = nI k) (s : Int32) : f_X10_worthOf (nI i) s μ = some (wsum k s, μ) := by
  rw [f_X10_worthOf]
  have h := loop0 (fun n a c => f_X10_worthOf_5 n (nI i) s a c μ) (fun j a => if hb s j = true then a + val k (nI j) (hp s j) else a) 12 (by decide) (fun a => some (a, μ)) (fun n a => by
    show f_X10_worthOf_5 (n + 1) (nI i) s a (nI 12) μ = _
    rw [f_X10_worthOf_5, if_pos (by decide)]) (fun n j a hj => by
    show f_X10_worthOf_5 (n + 1) (nI i) s a (nI j) μ = f_X10_worthOf_5 n (nI i) s _ (nI (j + 1)) μ
    rw [f_X10_worthOf_5, if_neg (lt12 hj), m_has_eq, zbind_eq, valueIn_eq hi hk h s (by omega), zbind_eq, nI_1, add0]
    cases q : hb s j
    · rw [if_pos (by rfl), if_neg (by decide)]
    · rw [if_neg (by decide), if_pos rfl]) 0
  rw [nI_0] at h
  exact h
/-- how many bits of 12 -/
def pc12 (s : Int32) : Int32 := iter (fun j a => a + ((s >>> (nI j &&& 31)) &&& (1 : Int32))) 0 12 0
theorem bits_eq (s : Int32) (μ : Mem) : f_X10_bits s μ = some (pc12 s, μ) := by
  rw [f_X10_bits]
  have h := loop0 (fun n a c => f_X10_bits_4 n s a c μ) (fun j a => a + ((s >>> (nI j &&& 31)) &&& (1 : Int32))) 12 (by decide) (fun a => some (a, μ)) (fun n a => by
    show f_X10_bits_4 (n + 1) s a (nI 12) μ = _
    rw [f_X10_bits_4, if_pos (by decide)]) (fun n j a hj => by
    show f_X10_bits_4 (n + 1) s a (nI j) μ = f_X10_bits_4 n s _ (nI (j + 1)) μ
    rw [f_X10_bits_4, if_neg (lt12 hj), nI_1]) 0
  rw [nI_0] at h
  exact h
def bcu (x y : Int32) : Int32 := (x.toUInt32 >>> (y.toUInt32 &&& Int32.toUInt32 31)).toInt32
def bc1 (x : Int32) : Int32 := x - (bcu x 1 &&& 1431655765)
def bc2 (x : Int32) : Int32 := (x &&& 858993459) + (bcu x 2 &&& 858993459)
def bc3 (x : Int32) : Int32 := (x + bcu x 4) &&& 252645135
def bc4 (x : Int32) : Int32 := x + bcu x 8
def bc5 (x : Int32) : Int32 := x + bcu x 16
theorem bc_all : (List.range 4096).all (fun n => decide (bc5 (bc4 (bc3 (bc2 (bc1 (nI n))))) &&& 63 = pc12 (nI n))) = true := by decide +kernel
theorem bitCount_eq {n : Nat} (hn : n < 4096) (μ : Mem) : f_J6_bitCount_0f7a4 (nI n) μ = some (pc12 (nI n), μ) := by
  rw [f_J6_bitCount_0f7a4, zlet_eq, zlet_eq, zlet_eq, zlet_eq, zlet_eq]
  have h := of_decide_eq_true (List.all_eq_true.mp bc_all n (List.mem_range.mpr hn))
  rw [← h]
  rfl
theorem bit_nI {j : Nat} (hj : j < 31) : bit j = nI (2 ^ j) := by
  have h : ∀ j : Fin 31, bit j.val = nI (2 ^ j.val) := by decide +kernel
  exact h ⟨j, hj⟩
theorem or_bit {a j : Nat} (h : a < 2 ^ j) : nI a ||| nI (2 ^ j) = nI (a + 2 ^ j) := by
  apply Int32.toBitVec_inj.mp
  apply BitVec.eq_of_toNat_eq
  have e : a ||| 2 ^ j = a + 2 ^ j := by
    have := Nat.two_pow_add_eq_or_of_lt h 1
    rw [Nat.mul_one] at this
    rw [Nat.or_comm, ← this, Nat.add_comm]
  show ((nI a).toBitVec ||| (nI (2 ^ j)).toBitVec).toNat = (nI (a + 2 ^ j)).toBitVec.toNat
  rw [BitVec.toNat_or]
  show (a % 2 ^ 32) ||| (2 ^ j % 2 ^ 32) = (a + 2 ^ j) % 2 ^ 32
  rw [← e, Nat.or_mod_two_pow]
/-- bits set one after the other -/
def bset (p : Nat → Bool) (n : Nat) : Int32 := iter (fun j a => if p j = true then a ||| bit j else a) 0 n 0
theorem bset_lt (p : Nat → Bool) {n : Nat} (hn : n ≤ 12) : ∃ q, q < 2 ^ n ∧ bset p n = nI q := by
  have h := iter_inv (f := fun j a => if p j = true then a ||| bit j else a) (P := fun j a => ∃ q, q < 2 ^ j ∧ a = nI q) n 0 0 (fun i _ hi a ha => by
    obtain ⟨q, hq, rfl⟩ := ha
    show ∃ z, z < 2 ^ (i + 1) ∧ (if p i = true then nI q ||| bit i else nI q) = nI z
    by_cases c : p i = true
    · rw [if_pos c, bit_nI (by omega), or_bit hq]
      exact ⟨_, by rw [Nat.pow_succ]; omega, rfl⟩
    · rw [if_neg c]
      exact ⟨q, by rw [Nat.pow_succ]; omega, rfl⟩) ⟨0, by decide, rfl⟩
  rw [Nat.zero_add] at h
  exact h
theorem setC_bset (f : Nat → Int32) (b : Int32) : setC f b = bset (fun j => decide (f j = b)) 12 := iter_congr 12 0 0 (fun i _ _ a => by simp)
theorem setC_lt (f : Nat → Int32) (b : Int32) : ∃ q, q < 4096 ∧ setC f b = nI q := by
  rw [setC_bset]; exact bset_lt _ (Nat.le_refl _)
theorem grey_eq (o : Nat) (μ : Mem) : f_X1_greyCells o μ = some (pc12 (setC (μ.1 (o + 4)) (-1)), μ) := by
  rw [f_X1_greyCells, cellsOf_eq, zbind_eq]
  obtain ⟨q, hq, e⟩ := setC_lt (μ.1 (o + 4)) (-1)
  rw [e, bitCount_eq hq, zbind_eq]
theorem m_grey_eq (μ : Mem) : f_X10_greyMany μ = some (pc12 (setC (μ.1 5) (-1)), μ) := by
  rw [f_X10_greyMany, setOf_eq, zbind_eq, bits_eq, zbind_eq]
