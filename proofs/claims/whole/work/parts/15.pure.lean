/-! ===== the pure side: basics ===== -/
def iter {σ : Type} (f : Nat → σ → σ) : Nat → Nat → σ → σ
  | _, 0, a => a
  | j, k + 1, a => iter f (j + 1) k (f j a)
theorem iter_congr {σ : Type} {f g : Nat → σ → σ} : ∀ (k j : Nat) (a : σ), (∀ i, j ≤ i → i < j + k → ∀ a, f i a = g i a) → iter f j k a = iter g j k a := by
  intro k
  induction k with
  | zero => intro j a _; rfl
  | succ k ih =>
    intro j a h
    show iter f (j + 1) k (f j a) = iter g (j + 1) k (g j a)
    rw [h j (Nat.le_refl _) (by omega)]
    exact ih (j + 1) _ (fun i h1 h2 => h i (by omega) (by omega))
theorem iter_inv {σ : Type} {f : Nat → σ → σ} {P : Nat → σ → Prop} : ∀ (k j : Nat) (a : σ), (∀ i, j ≤ i → i < j + k → ∀ a, P i a → P (i + 1) (f i a)) → P j a → P (j + k) (iter f j k a) := by
  intro k
  induction k with
  | zero => intro j a _ h; exact h
  | succ k ih =>
    intro j a h hP
    have := ih (j + 1) (f j a) (fun i h1 h2 => h i (by omega) (by omega)) (h j (Nat.le_refl _) (by omega) a hP)
    rw [show j + (k + 1) = j + 1 + k by omega]
    exact this
/-- a loop from nI j to N: each step keeps P, the end is K -/
theorem loopI {σ β : Type} (F : Nat → σ → Int32 → β) (step : Nat → σ → σ) (N : Nat) (K : σ → β) (P : Nat → σ → Prop) (hend : ∀ n a, P N a → F (n + 1) a (nI N) = K a) (hstep : ∀ n j a, j < N → P j a → F (n + 1) a (nI j) = F n (step j a) (nI (j + 1)) ∧ P (j + 1) (step j a)) : ∀ (k j n : Nat) (a : σ), j + k = N → k < n → P j a → F n a (nI j) = K (iter step j k a) ∧ P N (iter step j k a) := by
  intro k
  induction k with
  | zero =>
    intro j n a hj hn hP
    obtain ⟨n, rfl⟩ : ∃ q, n = q + 1 := ⟨n - 1, by omega⟩
    have e : j = N := by omega
    subst e
    exact ⟨hend n a hP, hP⟩
  | succ k ih =>
    intro j n a hj hn hP
    obtain ⟨n, rfl⟩ : ∃ q, n = q + 1 := ⟨n - 1, by omega⟩
    obtain ⟨e1, e2⟩ := hstep n j a (by omega) hP
    rw [e1]
    exact ih (j + 1) n (step j a) (by omega) (by omega) e2
/-- the same, no invariant, from 0, with the loops' own fuel -/
theorem loop0 {σ β : Type} (F : Nat → σ → Int32 → β) (step : Nat → σ → σ) (N : Nat) (hN : N < 400) (K : σ → β) (hend : ∀ n a, F (n + 1) a (nI N) = K a) (hstep : ∀ n j a, j < N → F (n + 1) a (nI j) = F n (step j a) (nI (j + 1))) (a : σ) : F zFU a (nI 0) = K (iter step 0 N a) :=
  (loopI F step N K (fun _ _ => True) (fun n a _ => hend n a) (fun n j a h _ => ⟨hstep n j a h, trivial⟩) N 0 zFU a (by omega) (zFU_lt hN) trivial).1
def bI (b : Bool) : Int32 := if b then 1 else 0
theorem bI_0 (b : Bool) : bI b = 0 ↔ b = false := by cases b <;> simp [bI]
theorem bI_t : bI true = 1 := rfl
theorem bI_f : bI false = 0 := rfl
theorem zbo_bI (b : Bool) : zbo (bI b) = true := by cases b <;> rfl
def inR (x lo m : Int32) : Bool := decide (¬ x < lo ∧ ¬ m < x)
theorem within_eq (x m : Int32) (μ : Mem) : f_X9_within x m μ = some (bI (inR x 0 m), μ) := by
  unfold f_X9_within bI inR
  by_cases h : x < 0 <;> by_cases h2 : m < x <;> simp [h, h2]
theorem in_eq (x lo m : Int32) (μ : Mem) : f_X10_in x lo m μ = some (bI (inR x lo m), μ) := by
  unfold f_X10_in bI inR
  by_cases h : x < lo <;> by_cases h2 : m < x <;> simp [h, h2]
theorem inR_nI {x : Int32} {m : Nat} (hm : m < 2 ^ 31) (h : inR x 0 (nI m) = true) : ∃ j : Nat, j ≤ m ∧ x = nI j := by
  have h : ¬ x < 0 ∧ ¬ nI m < x := of_decide_eq_true h
  obtain ⟨j, hj, rfl⟩ := nI_of h.1
  refine ⟨j, ?_, rfl⟩
  rcases Nat.lt_or_ge m j with q | q
  · exact absurd (nI_lt q hj) h.2
  · exact q
theorem inR_of {j m : Nat} (h : j ≤ m) (hm : m < 2 ^ 31) : inR (nI j) 0 (nI m) = true := decide_eq_true ⟨nI_pos (by omega), nI_nlt h hm⟩
theorem inR_boy {x : Int32} {n : Nat} (hn : n < 2 ^ 30) (h : inR x 0 (nI n - 1) = true) : ∃ j : Nat, j < n ∧ x = nI j := by
  have h : ¬ x < 0 ∧ ¬ nI n - 1 < x := of_decide_eq_true h
  obtain ⟨j, hj, rfl⟩ := nI_of h.1
  refine ⟨j, ?_, rfl⟩
  rcases Nat.lt_or_ge j n with q | q
  · exact q
  · exfalso
    apply h.2
    rw [Int32.lt_iff_toInt_lt, show (1 : Int32) = nI 1 from rfl, pk_sub_toInt hn (by omega), nI_toInt hj]
    omega
theorem inR_boy_of {j n : Nat} (h : j < n) (hn : n < 2 ^ 30) : inR (nI j) 0 (nI n - 1) = true := by
  refine decide_eq_true ⟨nI_pos (by omega), fun q => ?_⟩
  rw [Int32.lt_iff_toInt_lt, show (1 : Int32) = nI 1 from rfl, pk_sub_toInt hn (by omega), nI_toInt (by omega)] at q
  omega
theorem isCell_eq (x : Int32) (μ : Mem) : f_X9_isCell x μ = some (bI (inR x 0 11), μ) := by
  rw [f_X9_isCell, within_eq, zbind_eq, zck_t (zbo_bI _)]
theorem isBoy_eq (x : Int32) (μ : Mem) : f_X9_isBoy x μ = some (bI (inR x 0 (μ.1 1 7 - 1)), μ) := by
  rw [f_X9_isBoy, within_eq, zbind_eq, zck_t (zbo_bI _)]
theorem m_isCell_eq (x : Int32) (μ : Mem) : f_X10_isCell x μ = some (bI (inR x 0 11), μ) := by
  rw [f_X10_isCell, in_eq, zbind_eq, zck_t (zbo_bI _)]
theorem m_isBoy_eq (x : Int32) (μ : Mem) : f_X10_isBoy x μ = some (bI (inR x 0 (μ.1 0 1 - 1)), μ) := by
  rw [f_X10_isBoy, in_eq, zbind_eq, zck_t (zbo_bI _)]
theorem bad_eq (μ : Mem) : f_X9_bad μ = some (-2, zI μ 0 8 (μ.1 0 8 + 1)) := by rw [f_X9_bad, zlet_eq]
theorem obad_eq (μ : Mem) : f_X9_otherBad μ = some (-10, zI μ 0 8 (μ.1 0 8 + 1)) := by rw [f_X9_otherBad, zlet_eq]
theorem no_eq (μ : Mem) : f_X9_no μ = some (-3, zI μ 0 9 (μ.1 0 9 + 1)) := by rw [f_X9_no, zlet_eq]
theorem full_eq (μ : Mem) : f_X9_full μ = some (-4, zI μ 0 10 (μ.1 0 10 + 1)) := by rw [f_X9_full, zlet_eq]
theorem cl0 : (0 : Int32).toNatClampNeg = 0 := rfl
theorem cl1 : (1 : Int32).toNatClampNeg = 1 := rfl
theorem cl2 : (2 : Int32).toNatClampNeg = 2 := rfl
theorem m_bad_eq (μ : Mem) : f_X10_bad μ = some (-2, zI μ 1 0 (μ.1 1 0 + 1)) := by rw [f_X10_bad, zck_t (by decide), zck_t (by decide), zlet_eq, cl0]
theorem m_ten_eq (μ : Mem) : f_X10_ten μ = some (-10, zI μ 1 0 (μ.1 1 0 + 1)) := by rw [f_X10_ten, zck_t (by decide), zck_t (by decide), zlet_eq, cl0]
theorem m_no_eq (μ : Mem) : f_X10_no μ = some (-3, zI μ 1 1 (μ.1 1 1 + 1)) := by rw [f_X10_no, zck_t (by decide), zck_t (by decide), zlet_eq, cl1]
theorem m_full_eq (μ : Mem) : f_X10_full μ = some (-4, zI μ 1 2 (μ.1 1 2 + 1)) := by rw [f_X10_full, zck_t (by decide), zck_t (by decide), zlet_eq, cl2]
/-! memory -/
theorem zA_at (μ : Mem) (o a : Nat) (g : Nat → Int32) : (zA μ o g).1 a = if a = o then g else μ.1 a := rfl
theorem zA_2 (μ : Mem) (o : Nat) (g : Nat → Int32) : (zA μ o g).2 = μ.2 := rfl
theorem zI_at (μ : Mem) (o k a : Nat) (x : Int32) : (zI μ o k x).1 a = if a = o then upd (μ.1 o) k x else μ.1 a := rfl
theorem zI_2 (μ : Mem) (o k : Nat) (x : Int32) : (zI μ o k x).2 = μ.2 := rfl
theorem zL_1 (μ : Mem) (o k : Nat) (x : Int64) : (zL μ o k x).1 = μ.1 := rfl
theorem zL_at (μ : Mem) (o k a : Nat) (x : Int64) : (zL μ o k x).2 a = if a = o then vp_updL (μ.2 o) k x else μ.2 a := rfl
theorem upd_at (f : Nat → Int32) (k j : Nat) (x : Int32) : upd f k x j = if j = k then x else f j := rfl
theorem updL_at (f : Nat → Int64) (k j : Nat) (x : Int64) : vp_updL f k x j = if j = k then x else f j := rfl
/-! the relation -/
abbrev NV : Type := Nat → Nat → Int32
def cv (μ : Mem) (o : Nat) : NV := fun a k => if a = 0 then μ.1 o (7 + k) else if a ≤ 4 then μ.1 (o + a) k else if a ≤ 8 then μ.1 (o + 5) (4 * k + (a - 5)) else μ.1 (o + 6) k
def mv (μ : Mem) : NV := fun a k => if a = 0 then (if k = 0 then μ.1 0 1 else if k = 1 then μ.1 0 2 else μ.1 0 19) else if a ≤ 8 then μ.1 (a + 1) k else μ.1 13 k
def ivo (a : Nat) : Nat := if a = 0 then 0 else if a = 1 then 3 else if a = 2 then 8 else if a = 3 then 13 else if a = 4 then 18 else if a = 5 then 30 else if a = 6 then 36 else if a = 7 then 42 else if a = 8 then 48 else 54
def iv (μ : Mem) (i : Nat) : NV := fun a k => μ.1 17 (192 * i + ivo a + k)
/-- a night of the class and one of the reference that are alike; nb BOYS, nn NOTES, nu that may be undone -/
def NR (C M : NV) (nb nn nu : Nat) : Prop := nb ≤ 5 ∧ nn ≤ 6 ∧ nu ≤ 8 ∧ C 0 0 = nI nb ∧ M 0 0 = nI nb ∧ C 0 1 = nI nn ∧ M 0 1 = nI nn ∧ C 0 2 = nI nu ∧ M 0 2 = nI nu ∧
  (∀ b, b < nb → (∃ k, k < 6 ∧ C 1 b = nI k) ∧ M 1 b = C 1 b ∧ M 2 b = C 2 b ∧ M 3 b = C 3 b) ∧
  (∀ j, j < 12 → M 4 j = C 4 j ∧ (C 4 j = -1 ∨ ∃ b, b < nb ∧ C 4 j = nI b)) ∧
  (∀ k, k < nn → M 5 k = C 5 k ∧ M 6 k = C 6 k ∧ M 7 k = C 7 k ∧ M 8 k = C 8 k) ∧
  (∀ u, u < nu → (∀ j, j < 12 → M 9 (17 * u + j) = C 9 (17 * u + j) ∧ (C 9 (17 * u + j) = -1 ∨ ∃ b, b < nb ∧ C 9 (17 * u + j) = nI b)) ∧ ∀ b, b < nb → M 9 (17 * u + 12 + b) = C 9 (17 * u + 12 + b))
def RI (μC μM : Mem) (i : Nat) : Prop := μM.1 18 i = μC.1 37 i ∧ (μC.1 37 i ≠ 0 → ∃ nb nn nu, NR (cv μC (15 + 7 * i)) (iv μM i) nb nn nu)
def RT (μC μM : Mem) : Prop := ∃ tl : Nat, tl ≤ 150 ∧ μC.1 41 1 = nI tl ∧ μM.1 0 12 = nI tl ∧ ∀ k, k < tl → μM.1 10 k = μC.1 42 k ∧ ∃ v : Nat, v < 128 ∧ μC.1 42 k = nI v
def RS (μC μM : Mem) : Prop := μM.1 1 0 = μC.1 0 8 ∧ μM.1 1 1 = μC.1 0 9 ∧ μM.1 1 2 = μC.1 0 10 ∧ μM.2 0 23 = μC.2 0 6 ∧ μM.2 0 24 = μC.2 0 7
def Rel (μC μM : Mem) : Prop := (∃ nb nn nu, NR (cv μC 1) (mv μM) nb nn nu) ∧ RI μC μM 0 ∧ RI μC μM 1 ∧ RT μC μM ∧ RS μC μM
theorem Rel_init (μC μM : Mem) (hC : InitC μC) (hM : InitM μM) : Rel μC μM := by
  obtain ⟨c1, c2, c3, c4, c5, c6, c7⟩ := hC
  obtain ⟨m1, m2, m3, m4, m5, m6⟩ := hM
  refine ⟨⟨0, 0, 0, by decide, by decide, by decide, ?_, ?_, ?_, ?_, ?_, ?_, fun b h => absurd h (Nat.not_lt_zero _), fun j hj => ?_, fun b h => absurd h (Nat.not_lt_zero _), fun b h => absurd h (Nat.not_lt_zero _)⟩, ⟨by rw [m6, c6], fun h => absurd (c6 0) h⟩, ⟨by rw [m6, c6], fun h => absurd (c6 1) h⟩, ⟨0, by decide, c7 1, m1 12, fun k h => absurd h (Nat.not_lt_zero _)⟩, ?_, ?_, ?_, ?_, ?_⟩
  all_goals first | (simp [cv, mv, c1, c4, m1, nI_0]; done) | skip
  · simp only [cv, mv]
    simp [c5 j hj, m5 j hj]
  · rw [m4, c1]
  · rw [m4, c1]
  · rw [m4, c1]
  · rw [m2, c2]
  · rw [m3, c3]
