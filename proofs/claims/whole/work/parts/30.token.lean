/-! ===== read: the tokens ===== -/
def endP (q : Nat → Bool) : Nat → Nat → Nat
  | j, 0 => j
  | j, k + 1 => if q j = true then endP q (j + 1) k else j
theorem endP_spec (q : Nat → Bool) : ∀ (k j : Nat), j ≤ endP q j k ∧ endP q j k ≤ j + k ∧ (∀ i, j ≤ i → i < endP q j k → q i = true) ∧ (endP q j k = j + k ∨ q (endP q j k) = false)
  | 0, j => ⟨Nat.le_refl _, Nat.le_refl _, fun i h1 h2 => absurd h2 (Nat.not_lt.mpr h1), Or.inl rfl⟩
  | k + 1, j => by
    show _ ≤ (if q j = true then endP q (j + 1) k else j) ∧ (if q j = true then endP q (j + 1) k else j) ≤ _ ∧ (∀ i, j ≤ i → i < (if q j = true then endP q (j + 1) k else j) → q i = true) ∧ ((if q j = true then endP q (j + 1) k else j) = _ ∨ q (if q j = true then endP q (j + 1) k else j) = false)
    obtain ⟨h1, h2, h3, h4⟩ := endP_spec q k (j + 1)
    by_cases z : q j = true
    · rw [if_pos z]
      refine ⟨by omega, by omega, fun i hi1 hi2 => ?_, ?_⟩
      · rcases Nat.eq_or_lt_of_le hi1 with e | e
        · rw [← e]; exact z
        · exact h3 i e hi2
      · rcases h4 with e | e
        · exact Or.inl (by omega)
        · exact Or.inr e
    · rw [if_neg z]
      exact ⟨Nat.le_refl _, by omega, fun i h1 h2 => absurd h2 (Nat.not_lt.mpr h1), Or.inr (Bool.eq_false_iff.mpr z)⟩
def eo (q : Nat → Bool) (tl i : Nat) : Nat := endP q i (tl - i)
theorem eo_spec (q : Nat → Bool) {tl i : Nat} (h : i ≤ tl) : i ≤ eo q tl i ∧ eo q tl i ≤ tl ∧ (∀ j, i ≤ j → j < eo q tl i → q j = true) ∧ (eo q tl i = tl ∨ q (eo q tl i) = false) := by
  obtain ⟨h1, h2, h3, h4⟩ := endP_spec q (tl - i) i
  rw [show i + (tl - i) = tl by omega] at h2 h4
  exact ⟨h1, h2, h3, h4⟩
theorem eo_end (q : Nat → Bool) (tl : Nat) : eo q tl tl = tl := by unfold eo; rw [Nat.sub_self]; rfl
theorem eo_f (q : Nat → Bool) {tl i : Nat} (hq : q i = false) : eo q tl i = i := by
  unfold eo
  cases tl - i with
  | zero => rfl
  | succ k => show (if q i = true then _ else i) = i; rw [hq]; rfl
theorem eo_t (q : Nat → Bool) {tl i : Nat} (h : i < tl) (hq : q i = true) : eo q tl i = eo q tl (i + 1) := by
  unfold eo
  rw [show tl - i = (tl - (i + 1)) + 1 by omega]
  show (if q i = true then endP q (i + 1) (tl - (i + 1)) else i) = _
  rw [if_pos hq]
theorem eo_eo (q : Nat → Bool) {tl i : Nat} (h : i ≤ tl) : eo q tl (eo q tl i) = eo q tl i := by
  rcases (eo_spec q h).2.2.2 with e | e
  · rw [e, eo_end]
  · exact eo_f q e
def spB (X : Nat → Int32) (i : Nat) : Bool := decide (X i = 32)
def ltB (X : Nat → Int32) (i : Nat) : Bool := inR (X i) 97 122
def fgB (X : Nat → Int32) (i : Nat) : Bool := inR (X i) 48 57
theorem c_isLetter (x : Int32) (μ : Mem) : f_X8_isLetter x μ = some (bI (inR x 97 122), μ) := by
  unfold f_X8_isLetter bI inR
  by_cases h : x < 97 <;> by_cases h2 : (122 : Int32) < x <;> simp [h, h2]
theorem c_isFigure (x : Int32) (μ : Mem) : f_X8_isFigure x μ = some (bI (inR x 48 57), μ) := by
  unfold f_X8_isFigure bI inR
  by_cases h : x < 48 <;> by_cases h2 : (57 : Int32) < x <;> simp [h, h2]
theorem m_isLetter (x : Int32) (μ : Mem) : f_X10_isLetter x μ = some (bI (inR x 97 122), μ) := by rw [f_X10_isLetter, in_eq, zbind_eq, zck_t (zbo_bI _)]
theorem m_isFigure (x : Int32) (μ : Mem) : f_X10_isFigure x μ = some (bI (inR x 48 57), μ) := by rw [f_X10_isFigure, in_eq, zbind_eq, zck_t (zbo_bI _)]
def CT (μ : Mem) (tl : Nat) (X : Nat → Int32) : Prop := tl ≤ 150 ∧ μ.1 41 1 = nI tl ∧ ∀ k, k < tl → μ.1 42 k = X k
def MT (μ : Mem) (tl : Nat) (X : Nat → Int32) : Prop := tl ≤ 150 ∧ μ.1 0 12 = nI tl ∧ ∀ k, k < tl → μ.1 10 k = X k
def TF (μ μ' : Mem) : Prop := (∀ a, a ≠ 41 → μ'.1 a = μ.1 a) ∧ μ'.2 = μ.2 ∧ ∀ k, k ≠ 2 → k ≠ 3 → k ≠ 4 → μ'.1 41 k = μ.1 41 k
theorem TF.refl (μ : Mem) : TF μ μ := ⟨fun _ _ => rfl, rfl, fun _ _ _ _ => rfl⟩
theorem TF.trans {μ μ' μ'' : Mem} (h : TF μ μ') (h' : TF μ' μ'') : TF μ μ'' := ⟨fun a ha => (h'.1 a ha).trans (h.1 a ha), h'.2.1.trans h.2.1, fun k h2 h3 h4 => (h'.2.2 k h2 h3 h4).trans (h.2.2 k h2 h3 h4)⟩
theorem CT_fr {μ μ' : Mem} {tl : Nat} {X : Nat → Int32} (h : CT μ tl X) (f : TF μ μ') : CT μ' tl X := ⟨h.1, by rw [f.2.2 1 (by decide) (by decide) (by decide)]; exact h.2.1, fun k hk => by rw [f.1 42 (by decide)]; exact h.2.2 k hk⟩
theorem tf_st (μ : Mem) (k : Nat) (x : Int32) (hk : k = 2 ∨ k = 3 ∨ k = 4) : TF μ (zI μ 41 k x) := by
  obtain ⟨e1, e2, e3, -⟩ := st1 μ 41 k x
  exact ⟨e1, e2, fun j h2 h3 h4 => e3 j (by omega)⟩
/-- a loop of the class that moves the place over a run -/
theorem c_run_eo {tl : Nat} {X : Nat → Int32} (q : Nat → Bool) (F : Nat → Mem → Option (Int32 × Mem)) (G : Mem → Option (Int32 × Mem)) (hend : ∀ n μ, CT μ tl X → ∀ p, p ≤ tl → μ.1 41 2 = nI p → (p = tl ∨ q p = false) → F (n + 1) μ = G μ) (hstep : ∀ n μ, CT μ tl X → ∀ p, p < tl → μ.1 41 2 = nI p → q p = true → F (n + 1) μ = F n (zI μ 41 2 (nI (p + 1)))) : ∀ (k p n : Nat) (μ : Mem), CT μ tl X → p + k = tl → k < n → μ.1 41 2 = nI p → ∃ μ', F n μ = G μ' ∧ TF μ μ' ∧ μ'.1 41 2 = nI (eo q tl p) ∧ μ'.1 41 3 = μ.1 41 3 ∧ μ'.1 41 4 = μ.1 41 4 := by
  intro k
  induction k with
  | zero =>
    intro p n μ hC h1 h2 hp
    obtain ⟨n, rfl⟩ : ∃ q, n = q + 1 := ⟨n - 1, by omega⟩
    obtain rfl : p = tl := by omega
    exact ⟨μ, hend n μ hC p (Nat.le_refl _) hp (Or.inl rfl), TF.refl μ, by rw [eo_end]; exact hp, rfl, rfl⟩
  | succ k ih =>
    intro p n μ hC h1 h2 hp
    obtain ⟨n, rfl⟩ : ∃ q, n = q + 1 := ⟨n - 1, by omega⟩
    cases hq : q p
    · exact ⟨μ, hend n μ hC p (by omega) hp (Or.inr hq), TF.refl μ, by rw [eo_f q hq]; exact hp, rfl, rfl⟩
    · rw [hstep n μ hC p (by omega) hp hq, eo_t q (by omega) hq]
      have f1 := tf_st μ 2 (nI (p + 1)) (by omega)
      obtain ⟨μ', e1, e2, e3, e4, e5⟩ := ih (p + 1) n (zI μ 41 2 (nI (p + 1))) (CT_fr hC f1) (by omega) (by omega) rfl
      exact ⟨μ', e1, f1.trans e2, e3, e4, e5⟩
def kd (tl : Nat) (X : Nat → Int32) (s : Nat) : Nat := if s < tl then (if ltB X s = true then 1 else if fgB X s = true then (if 2 < eo (fgB X) tl s - s then 4 else 2) else if X s = 59 then 3 else 4) else 0
def en (tl : Nat) (X : Nat → Int32) (s : Nat) : Nat := if s < tl then (if ltB X s = true then eo (ltB X) tl s else if fgB X s = true then eo (fgB X) tl s else s + 1) else s
theorem en_le {tl : Nat} {X : Nat → Int32} {s : Nat} (h : s ≤ tl) : s ≤ en tl X s ∧ en tl X s ≤ tl ∧ (s < tl → s < en tl X s) := by
  unfold en
  by_cases q : s < tl
  · rw [if_pos q]
    by_cases q1 : ltB X s = true
    · rw [if_pos q1, eo_t _ q q1]
      obtain ⟨h1, h2, -⟩ := eo_spec (ltB X) (show s + 1 ≤ tl by omega)
      exact ⟨by omega, h2, fun _ => by omega⟩
    · rw [if_neg q1]
      by_cases q2 : fgB X s = true
      · rw [if_pos q2, eo_t _ q q2]
        obtain ⟨h1, h2, -⟩ := eo_spec (fgB X) (show s + 1 ≤ tl by omega)
        exact ⟨by omega, h2, fun _ => by omega⟩
      · rw [if_neg q2]; exact ⟨by omega, by omega, fun _ => by omega⟩
  · rw [if_neg q]; exact ⟨Nat.le_refl _, h, fun z => absurd z q⟩
theorem c_token {μ : Mem} {tl s : Nat} {X : Nat → Int32} (hC : CT μ tl X) (hs : s ≤ tl) (h2 : μ.1 41 2 = nI s) (h4 : μ.1 41 4 = nI s) : ∃ μ', f_X8_tokenAt μ = some (nI (kd tl X s), μ') ∧ TF μ μ' ∧ μ'.1 41 2 = nI (en tl X s) ∧ μ'.1 41 4 = nI s := by
  have hl := hC.1
  rw [f_X8_tokenAt, h2, hC.2.1]
  unfold kd en
  by_cases q : s < tl
  · rw [if_pos (nI_lt q (by omega)), if_pos q, if_pos q, zck_t (zin_nI (by omega) (by decide)), nI_clamp (by omega), hC.2.2 s q, c_isLetter, zbind_eq]
    show ∃ μ', (if bI (ltB X s) = 0 then _ else _) = _ ∧ _
    cases ql : ltB X s
    · rw [if_pos bIf, if_neg Bool.false_ne_true, if_neg Bool.false_ne_true, h2, zck_t (zin_nI (by omega) (by decide)), nI_clamp (by omega), hC.2.2 s q, c_isFigure, zbind_eq]
      show ∃ μ', (if bI (fgB X s) = 0 then _ else _) = _ ∧ _
      cases qf : fgB X s
      · rw [if_pos bIf, if_neg Bool.false_ne_true, if_neg Bool.false_ne_true, h2, nI_1, zlet_eq]
        have f1 := tf_st μ 2 (nI (s + 1)) (by omega)
        have e4 : (zI μ 41 2 (nI (s + 1))).1 41 4 = nI s := h4
        have e2 : (zI μ 41 2 (nI (s + 1))).1 41 2 = nI (s + 1) := rfl
        generalize zI μ 41 2 (nI (s + 1)) = μ1 at f1 e4 e2 ⊢
        rw [e4, zck_t (zin_nI (by omega) (by decide)), nI_clamp (by omega), (CT_fr hC f1).2.2 s q]
        by_cases q5 : X s = 59
        · rw [if_pos q5, if_pos q5]; exact ⟨μ1, rfl, f1, e2, e4⟩
        · rw [if_neg q5, if_neg q5]; exact ⟨μ1, rfl, f1, e2, e4⟩
      · rw [if_neg bIt, if_pos rfl, if_pos rfl]
        obtain ⟨μ1, e1, e2, e3, -, e5⟩ := c_run_eo (tl := tl) (X := X) (fgB X) f_X8_tokenAt_84 f_X8_tokenAt_123 (fun n μ hC p hp hpl hq => by
          rw [f_X8_tokenAt_84, hC.2.1, hpl]
          by_cases z : p = tl
          · rw [if_pos (nI_le (by omega) (by omega))]
          · have hq : fgB X p = false := hq.resolve_left z
            rw [if_neg (nI_ge (by omega) (by omega)), zck_t (zin_nI (by have := hC.1; omega) (by decide)), nI_clamp (by omega), hC.2.2 p (by omega), c_isFigure, zbind_eq, show inR (X p) 48 57 = false from hq, if_pos bIf]) (fun n μ hC p hp hpl hq => by
          rw [f_X8_tokenAt_84, hC.2.1, hpl, if_neg (nI_ge (by omega) (by omega)), zck_t (zin_nI (by have := hC.1; omega) (by decide)), nI_clamp (by omega), hC.2.2 p (by omega), c_isFigure, zbind_eq, show inR (X p) 48 57 = true from hq, if_neg bIt, hpl, nI_1, zlet_eq]) (tl - s) s zFU μ hC (by omega) (zFU_lt (by omega)) h2
        obtain ⟨z1, z2, -⟩ := eo_spec (fgB X) hs
        rw [e1, f_X8_tokenAt_123, e3, e5, h4, pk_sub z1]
        by_cases q3 : 2 < eo (fgB X) tl s - s
        · rw [if_pos (show (2 : Int32) < nI (eo (fgB X) tl s - s) from nI_lt (a := 2) q3 (by omega)), if_pos q3]
          exact ⟨μ1, rfl, e2, e3, e5.trans h4⟩
        · rw [if_neg (show ¬ (2 : Int32) < nI (eo (fgB X) tl s - s) from nI_nlt (a := 2) (by omega) (by decide)), if_neg q3]
          exact ⟨μ1, rfl, e2, e3, e5.trans h4⟩
    · rw [if_neg bIt, if_pos rfl, if_pos rfl]
      obtain ⟨μ1, e1, e2, e3, -, e5⟩ := c_run_eo (tl := tl) (X := X) (ltB X) f_X8_tokenAt_28 (fun μ => some (1, μ)) (fun n μ hC p hp hpl hq => by
        rw [f_X8_tokenAt_28, hC.2.1, hpl]
        by_cases z : p = tl
        · rw [if_pos (nI_le (by omega) (by omega))]
        · have hq : ltB X p = false := hq.resolve_left z
          rw [if_neg (nI_ge (by omega) (by omega)), zck_t (zin_nI (by have := hC.1; omega) (by decide)), nI_clamp (by omega), hC.2.2 p (by omega), c_isLetter, zbind_eq, show inR (X p) 97 122 = false from hq, if_pos bIf]) (fun n μ hC p hp hpl hq => by
        rw [f_X8_tokenAt_28, hC.2.1, hpl, if_neg (nI_ge (by omega) (by omega)), zck_t (zin_nI (by have := hC.1; omega) (by decide)), nI_clamp (by omega), hC.2.2 p (by omega), c_isLetter, zbind_eq, show inR (X p) 97 122 = true from hq, if_neg bIt, hpl, nI_1, zlet_eq]) (tl - s) s zFU μ hC (by omega) (zFU_lt (by omega)) h2
      exact ⟨μ1, e1, e2, e3, e5.trans h4⟩
  · rw [if_neg (nI_nlt (by omega) (by omega)), if_neg q, if_neg q]
    exact ⟨μ, rfl, TF.refl μ, h2, h4⟩
/-- the token after place p -/
theorem c_next {μ : Mem} {tl p : Nat} {X : Nat → Int32} (hC : CT μ tl X) (hp : p ≤ tl) (h2 : μ.1 41 2 = nI p) : ∃ μ', f_X8_next μ = some ((), μ') ∧ TF μ μ' ∧ μ'.1 41 4 = nI (eo (spB X) tl p) ∧ μ'.1 41 3 = nI (kd tl X (eo (spB X) tl p)) ∧ μ'.1 41 2 = nI (en tl X (eo (spB X) tl p)) := by
  have hl := hC.1
  rw [f_X8_next]
  have e : ∀ (k p n : Nat) (μ : Mem), CT μ tl X → p + k = tl → k < n → μ.1 41 2 = nI p → ∃ μ', f_X8_next_0 n μ = f_X8_next_38 μ' ∧ TF μ μ' ∧ μ'.1 41 2 = nI (eo (spB X) tl p) := by
    intro k
    induction k with
    | zero =>
      intro p n μ hC h1 h2 hpl
      obtain ⟨n, rfl⟩ : ∃ q, n = q + 1 := ⟨n - 1, by omega⟩
      obtain rfl : p = tl := by omega
      refine ⟨μ, ?_, TF.refl μ, by rw [eo_end]; exact hpl⟩
      rw [f_X8_next_0, hC.2.1, hpl, if_pos (ile _)]
    | succ k ih =>
      intro p n μ hC h1 h2 hpl
      obtain ⟨n, rfl⟩ : ∃ q, n = q + 1 := ⟨n - 1, by omega⟩
      rw [f_X8_next_0, hC.2.1, hpl, if_neg (nI_ge (by omega) (by omega)), zck_t (zin_nI (by omega) (by decide)), nI_clamp (by omega), hC.2.2 p (by omega)]
      by_cases q : X p = 32
      · rw [if_pos q, nI_1, zlet_eq, eo_t (spB X) (by omega) (decide_eq_true q)]
        have f1 := tf_st μ 2 (nI (p + 1)) (by omega)
        obtain ⟨μ', e1, e2, e3⟩ := ih (p + 1) n (zI μ 41 2 (nI (p + 1))) (CT_fr hC f1) (by omega) (by omega) rfl
        exact ⟨μ', e1, f1.trans e2, e3⟩
      · rw [if_neg q, eo_f (spB X) (decide_eq_false q)]
        exact ⟨μ, rfl, TF.refl μ, hpl⟩
  obtain ⟨μ1, e1, e2, e3⟩ := e (tl - p) p zFU μ hC (by omega) (zFU_lt (by omega)) h2
  obtain ⟨z1, z2, -⟩ := eo_spec (spB X) hp
  rw [e1, f_X8_next_38, zlet_eq, e3]
  have f1 := tf_st μ1 4 (nI (eo (spB X) tl p)) (by omega)
  obtain ⟨μ2, t1, t2, t3, t4⟩ := c_token (CT_fr (CT_fr hC e2) f1) z2 (show (zI μ1 41 4 (nI (eo (spB X) tl p))).1 41 2 = nI (eo (spB X) tl p) from e3) rfl
  rw [t1, zbind_eq, zlet_eq]
  have f2 := tf_st μ2 3 (nI (kd tl X (eo (spB X) tl p))) (by omega)
  exact ⟨_, rfl, ((e2.trans f1).trans t2).trans f2, t4, rfl, t3⟩
/-! the reference's places -/
def MF (ν ν' : Mem) : Prop := (∀ a, a ≠ 0 → ν'.1 a = ν.1 a) ∧ ν'.2 = ν.2 ∧ ∀ k, k ≠ 13 → ν'.1 0 k = ν.1 0 k
theorem MF.refl (μ : Mem) : MF μ μ := ⟨fun _ _ => rfl, rfl, fun _ _ => rfl⟩
theorem MF.trans {μ μ' μ'' : Mem} (h : MF μ μ') (h' : MF μ' μ'') : MF μ μ'' := ⟨fun a ha => (h'.1 a ha).trans (h.1 a ha), h'.2.1.trans h.2.1, fun k hk => (h'.2.2 k hk).trans (h.2.2 k hk)⟩
theorem MT_fr {μ μ' : Mem} {tl : Nat} {X : Nat → Int32} (h : MT μ tl X) (f : MF μ μ') : MT μ' tl X := ⟨h.1, by rw [f.2.2 12 (by decide)]; exact h.2.1, fun k hk => by rw [f.1 10 (by decide)]; exact h.2.2 k hk⟩
theorem mf_st (μ : Mem) (x : Int32) : MF μ (zI μ 0 13 x) := by
  obtain ⟨e1, e2, e3, -⟩ := st1 μ 0 13 x
  exact ⟨e1, e2, e3⟩
theorem m_here {ν : Mem} {tl p : Nat} {X : Nat → Int32} (hM : MT ν tl X) (h13 : ν.1 0 13 = nI p) (hp : p ≤ tl) : f_X10_here ν = some (if p < tl then X p else -1, ν) := by
  have hl := hM.1
  rw [f_X10_here, hM.2.1, h13]
  by_cases q : p < tl
  · rw [if_neg (nI_ge q (by omega)), if_pos q, zck_t (zin_nI (by omega) (by decide)), nI_clamp (by omega), hM.2.2 p q]
  · rw [if_pos (nI_le (by omega) (by omega)), if_neg q]
theorem m_skip {ν : Mem} {tl p : Nat} {X : Nat → Int32} (hM : MT ν tl X) (hp : p ≤ tl) (h13 : ν.1 0 13 = nI p) : ∃ ν', f_X10_skip ν = some ((), ν') ∧ MF ν ν' ∧ ν'.1 0 13 = nI (eo (spB X) tl p) := by
  have hl := hM.1
  rw [f_X10_skip]
  have e : ∀ (k p n : Nat) (μ : Mem), MT μ tl X → p + k = tl → k < n → μ.1 0 13 = nI p → ∃ μ', f_X10_skip_0 n μ = some ((), μ') ∧ MF μ μ' ∧ μ'.1 0 13 = nI (eo (spB X) tl p) := by
    intro k
    induction k with
    | zero =>
      intro p n μ hC h1 h2 hpl
      obtain ⟨n, rfl⟩ : ∃ q, n = q + 1 := ⟨n - 1, by omega⟩
      obtain rfl : p = tl := by omega
      refine ⟨μ, ?_, MF.refl μ, by rw [eo_end]; exact hpl⟩
      rw [f_X10_skip_0, m_here hC hpl (Nat.le_refl _), zbind_eq, if_neg (Nat.lt_irrefl _), if_neg (by decide)]
    | succ k ih =>
      intro p n μ hC h1 h2 hpl
      obtain ⟨n, rfl⟩ : ∃ q, n = q + 1 := ⟨n - 1, by omega⟩
      rw [f_X10_skip_0, m_here hC hpl (by omega), zbind_eq, if_pos (show p < tl by omega)]
      by_cases q : X p = 32
      · rw [if_pos q, hpl, nI_1, zlet_eq, eo_t (spB X) (by omega) (decide_eq_true q)]
        have f1 := mf_st μ (nI (p + 1))
        obtain ⟨μ', e1, e2, e3⟩ := ih (p + 1) n (zI μ 0 13 (nI (p + 1))) (MT_fr hC f1) (by omega) (by omega) rfl
        exact ⟨μ', e1, f1.trans e2, e3⟩
      · rw [if_neg q, eo_f (spB X) (decide_eq_false q)]
        exact ⟨μ, rfl, MF.refl μ, hpl⟩
  exact e (tl - p) p zFU ν hM (by omega) (zFU_lt (by omega)) h13
theorem m_size {ν : Mem} {tl p : Nat} {X : Nat → Int32} (hM : MT ν tl X) (hp : p ≤ tl) (h13 : ν.1 0 13 = nI p) : f_X10_wordSize ν = some (nI (eo (ltB X) tl p - p), ν) := by
  have hl := hM.1
  rw [f_X10_wordSize]
  have e : ∀ (k x n : Nat), p + x + k = tl → k < n → f_X10_wordSize_2 n (nI x) ν = some (nI (eo (ltB X) tl (p + x) - p), ν) := by
    intro k
    induction k with
    | zero =>
      intro x n h1 h2
      obtain ⟨n, rfl⟩ : ∃ q, n = q + 1 := ⟨n - 1, by omega⟩
      rw [f_X10_wordSize_2, hM.2.1, h13, nI_add, if_pos (nI_le (by omega) (by omega)), show p + x = tl by omega, eo_end, show tl - p = x by omega]
    | succ k ih =>
      intro x n h1 h2
      obtain ⟨n, rfl⟩ : ∃ q, n = q + 1 := ⟨n - 1, by omega⟩
      rw [f_X10_wordSize_2, hM.2.1, h13, nI_add, if_neg (nI_ge (by omega) (by omega)), zck_t (zin_nI (by omega) (by decide)), nI_clamp (by omega), hM.2.2 (p + x) (by omega), m_isLetter, zbind_eq, nI_1]
      cases q : inR (X (p + x)) 97 122
      · rw [if_pos bIf, eo_f (ltB X) q, show p + x - p = x by omega]
      · rw [if_neg bIt, eo_t (ltB X) (by omega) q]
        exact ih (x + 1) n (by omega) (by omega)
  exact e (tl - p) 0 zFU (by omega) (zFU_lt (by omega))
