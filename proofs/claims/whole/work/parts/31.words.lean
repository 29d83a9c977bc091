/-! ===== read: numbers, stops, words ===== -/
def acc (X : Nat → Int32) (s x : Nat) : Int32 := if x = 0 then 0 else if x = 1 then 10 * 0 + X s - 48 else 10 * (10 * 0 + X s - 48) + X (s + 1) - 48
def fl (tl : Nat) (X : Nat → Int32) (s : Nat) : Nat := eo (fgB X) tl s - s
def nv (tl : Nat) (X : Nat → Int32) (s : Nat) : Int32 := acc X s (fl tl X s)
def numOk (tl : Nat) (X : Nat → Int32) (s : Nat) (m : Int32) : Bool := decide (kd tl X s = 2) && inR (nv tl X s) 0 m
theorem fg_lt {X : Nat → Int32} {s : Nat} (h : fgB X s = true) : ltB X s = false := by
  have h : ¬ X s < 48 ∧ ¬ (57 : Int32) < X s := of_decide_eq_true h
  refine decide_eq_false (fun z => h.2 ?_)
  have z1 := z.1
  rw [Int32.lt_iff_toInt_lt] at z1 ⊢
  have e1 : (97 : Int32).toInt = 97 := by decide
  have e2 : (57 : Int32).toInt = 57 := by decide
  omega
theorem fl_0 {tl s : Nat} {X : Nat → Int32} (h : fgB X s = false) : fl tl X s = 0 := by unfold fl; rw [eo_f _ h]; omega
theorem kd2 {tl s : Nat} {X : Nat → Int32} (hs : s ≤ tl) : kd tl X s = 2 ↔ (1 ≤ fl tl X s ∧ fl tl X s ≤ 2) := by
  unfold kd
  by_cases q : s < tl
  · rw [if_pos q]
    cases qf : fgB X s
    · rw [fl_0 qf]
      cases ltB X s
      · rw [if_neg Bool.false_ne_true, if_neg Bool.false_ne_true]
        by_cases q5 : X s = 59
        · rw [if_pos q5]; omega
        · rw [if_neg q5]; omega
      · rw [if_pos rfl]; omega
    · rw [fg_lt qf, if_neg Bool.false_ne_true, if_pos rfl]
      have h1 := (eo_spec (fgB X) (show s + 1 ≤ tl by omega)).1
      have h2 : fl tl X s = eo (fgB X) tl s - s := rfl
      rw [eo_t _ q qf] at h2
      rw [show eo (fgB X) tl s - s = fl tl X s from rfl]
      by_cases q3 : 2 < fl tl X s
      · rw [if_pos q3]; omega
      · rw [if_neg q3]; omega
  · rw [if_neg q]
    obtain rfl : s = tl := by omega
    have : fl s X s = 0 := by unfold fl; rw [eo_end]; omega
    omega
theorem kd_le (tl : Nat) (X : Nat → Int32) (s : Nat) : kd tl X s ≤ 4 := by
  unfold kd
  repeat' split
  all_goals omega
theorem kd2_en {tl s : Nat} {X : Nat → Int32} (h : kd tl X s = 2) : en tl X s = eo (fgB X) tl s ∧ s < tl ∧ fgB X s = true := by
  unfold kd at h
  by_cases q : s < tl
  · rw [if_pos q] at h
    cases ql : ltB X s
    · rw [ql, if_neg Bool.false_ne_true] at h
      cases qf : fgB X s
      · rw [qf, if_neg Bool.false_ne_true] at h
        by_cases q5 : X s = 59
        · rw [if_pos q5] at h; omega
        · rw [if_neg q5] at h; omega
      · refine ⟨?_, q, rfl⟩
        unfold en
        rw [if_pos q, ql, if_neg Bool.false_ne_true, qf, if_pos rfl]
    · rw [ql, if_pos rfl] at h; omega
  · rw [if_neg q] at h; omega
theorem fig_nat {X : Nat → Int32} {s : Nat} (h : fgB X s = true) : ∃ d, d ≤ 9 ∧ X s = nI (48 + d) := by
  have h : ¬ X s < 48 ∧ ¬ (57 : Int32) < X s := of_decide_eq_true h
  have h0 : ¬ X s < 0 := fun z => h.1 (by
    rw [Int32.lt_iff_toInt_lt] at z ⊢
    have e1 : (48 : Int32).toInt = 48 := by decide
    have e2 : (0 : Int32).toInt = 0 := by decide
    omega)
  obtain ⟨j, hj, e⟩ := nI_of h0
  rw [e] at h
  have h1 : 48 ≤ j := by
    rcases Nat.lt_or_ge j 48 with z | z
    · exact absurd (nI_lt (b := 48) z (by decide)) h.1
    · exact z
  have h2 : j ≤ 57 := by
    rcases Nat.lt_or_ge 57 j with z | z
    · exact absurd (nI_lt (a := 57) z hj) h.2
    · exact z
  exact ⟨j - 48, by omega, by rw [e]; congr 1; omega⟩
theorem acc_step (a d : Nat) : 10 * nI a + nI (48 + d) - 48 = nI (10 * a + d) := by
  rw [show (10 : Int32) = nI 10 from rfl, nI_mul, nI_add, show (48 : Int32) = nI 48 from rfl, pk_sub (by omega)]
  congr 1; omega
theorem nv_nat {tl s : Nat} {X : Nat → Int32} (hs : s ≤ tl) (h : kd tl X s = 2) : ∃ w, w < 100 ∧ nv tl X s = nI w := by
  obtain ⟨e, h1, h2⟩ := kd2_en h
  obtain ⟨f1, f2⟩ := (kd2 hs).mp h
  obtain ⟨d, hd, ed⟩ := fig_nat h2
  unfold nv acc
  rw [if_neg (by omega)]
  have e0 : (10 : Int32) * 0 + X s - 48 = nI d := by
    have := acc_step 0 d
    rw [nI_0] at this
    rw [ed, this]
    congr 1; omega
  rw [e0]
  by_cases q : fl tl X s = 1
  · rw [if_pos q]; exact ⟨d, by omega, rfl⟩
  · have h3 : fgB X (s + 1) = true := (eo_spec (fgB X) hs).2.2.1 (s + 1) (by omega) (by unfold fl at f2 q f1; omega)
    obtain ⟨d2, hd2, ed2⟩ := fig_nat h3
    rw [if_neg q, ed2, acc_step]
    exact ⟨_, by omega, rfl⟩
theorem c_num {μ : Mem} {tl p : Nat} {X : Nat → Int32} (m : Int32) (hC : CT μ tl X) (hp : p ≤ tl) (h2 : μ.1 41 2 = nI p) : ∃ μ', f_X8_number m μ = some (if numOk tl X (eo (spB X) tl p) m = true then nv tl X (eo (spB X) tl p) else -1, μ') ∧ TF μ μ' ∧ μ'.1 41 4 = nI (eo (spB X) tl p) ∧ μ'.1 41 3 = nI (kd tl X (eo (spB X) tl p)) ∧ μ'.1 41 2 = nI (en tl X (eo (spB X) tl p)) := by
  have hl := hC.1
  obtain ⟨μ', e1, e2, e3, e4, e5⟩ := c_next hC hp h2
  obtain ⟨-, hs, -⟩ := eo_spec (spB X) hp
  generalize eo (spB X) tl p = s at e3 e4 e5 hs ⊢
  rw [f_X8_number, e1, zbind_eq, e4]
  refine ⟨μ', ?_, e2, e3, e4, e5⟩
  unfold numOk
  have hC' := CT_fr hC e2
  by_cases q : kd tl X s = 2
  · obtain ⟨k1, k2, k3⟩ := kd2_en q
    obtain ⟨f1, f2⟩ := (kd2 hs).mp q
    obtain ⟨w, hw, ew⟩ := nv_nat hs q
    obtain ⟨z1, z2, -⟩ := eo_spec (fgB X) hs
    have hfl : eo (fgB X) tl s = s + fl tl X s := by unfold fl; omega
    rw [q, if_pos (show nI 2 = 2 from rfl), e3, decide_eq_true rfl, Bool.true_and]
    have lp : ∀ (k x n : Nat), x + k = fl tl X s → k < n → f_X8_number_21 n m (acc X s x) (nI (s + x)) μ' = if m < nv tl X s then some (-1, μ') else some (nv tl X s, μ') := by
      intro k
      induction k with
      | zero =>
        intro x n h1 h2
        obtain ⟨n, rfl⟩ : ∃ q, n = q + 1 := ⟨n - 1, by omega⟩
        rw [f_X8_number_21, e5, k1, hfl, if_pos (nI_le (by omega) (by omega)), show x = fl tl X s by omega]; rfl
      | succ k ih =>
        intro x n h1 h2
        obtain ⟨n, rfl⟩ : ∃ q, n = q + 1 := ⟨n - 1, by omega⟩
        rw [f_X8_number_21, e5, k1, hfl, if_neg (nI_ge (by omega) (by omega)), hC'.2.1, if_neg (nI_ge (by omega) (by omega)), zck_t (zin_nI (by omega) (by decide)), nI_clamp (by omega), hC'.2.2 (s + x) (by omega), nI_1]
        have ea : 10 * acc X s x + X (s + x) - 48 = acc X s (x + 1) := by
          rcases (show x = 0 ∨ x = 1 by omega) with rfl | rfl <;> rfl
        rw [ea]
        exact ih (x + 1) n (by omega) (by omega)
    have := lp (fl tl X s) 0 zFU (by omega) (zFU_lt (by omega))
    refine Eq.trans this ?_
    have hi : inR (nv tl X s) 0 m = decide (¬ m < nv tl X s) := by
      unfold inR
      rw [ew]
      have := nI_pos (show w < 2 ^ 31 by omega)
      by_cases z : m < nI w <;> simp [z, this]
    rw [hi]
    by_cases z : m < nv tl X s
    · rw [if_pos z, if_neg (by rw [decide_eq_false (not_not_intro z)]; decide)]
    · rw [if_neg z, if_pos (decide_eq_true z)]
  · rw [decide_eq_false q, Bool.false_and, if_neg Bool.false_ne_true]
    have hk : kd tl X s ≤ 4 := kd_le tl X s
    rw [if_neg (show ¬ nI (kd tl X s) = 2 from nIne (b := 2) q (by omega) (by decide))]
theorem c_stops {μ : Mem} {tl p : Nat} {X : Nat → Int32} (hC : CT μ tl X) (hp : p ≤ tl) (h2 : μ.1 41 2 = nI p) : ∃ μ', f_X8_stops μ = some (bI (decide (kd tl X (eo (spB X) tl p) = 3)), μ') ∧ TF μ μ' ∧ μ'.1 41 4 = nI (eo (spB X) tl p) ∧ μ'.1 41 3 = nI (kd tl X (eo (spB X) tl p)) ∧ μ'.1 41 2 = nI (en tl X (eo (spB X) tl p)) := by
  obtain ⟨μ', e1, e2, e3, e4, e5⟩ := c_next hC hp h2
  generalize eo (spB X) tl p = s at e3 e4 e5 ⊢
  rw [f_X8_stops, e1, zbind_eq, e4]
  refine ⟨μ', ?_, e2, e3, e4, e5⟩
  have hk : kd tl X s ≤ 4 := kd_le tl X s
  by_cases q : kd tl X s = 3
  · rw [q, if_pos (by rfl)]; rfl
  · rw [if_neg (show ¬ nI (kd tl X s) = 3 from nIne (b := 3) q (by omega) (by decide)), decide_eq_false q]; rfl
theorem kd3 {tl s : Nat} {X : Nat → Int32} : kd tl X s = 3 ↔ (s < tl ∧ X s = 59) := by
  unfold kd
  by_cases q : s < tl
  · rw [if_pos q]
    by_cases q5 : X s = 59
    · have h1 : ltB X s = false := by unfold ltB; rw [q5]; decide
      have h2 : fgB X s = false := by unfold fgB; rw [q5]; decide
      rw [h1, h2, if_neg Bool.false_ne_true, if_neg Bool.false_ne_true, if_pos q5]
      exact ⟨fun _ => ⟨q, q5⟩, fun _ => rfl⟩
    · constructor
      · intro h
        exfalso
        revert h
        repeat' split
        all_goals (intro h; omega)
      · intro h; exact absurd h.2 q5
  · rw [if_neg q]
    exact ⟨fun h => by omega, fun h => absurd h.1 q⟩
theorem kd3_en {tl s : Nat} {X : Nat → Int32} (h : kd tl X s = 3) : en tl X s = s + 1 := by
  obtain ⟨q, q5⟩ := kd3.mp h
  have h1 : ltB X s = false := by unfold ltB; rw [q5]; decide
  have h2 : fgB X s = false := by unfold fgB; rw [q5]; decide
  unfold en
  rw [if_pos q, h1, h2, if_neg Bool.false_ne_true, if_neg Bool.false_ne_true]
def NF (ν ν' : Mem) : Prop := (∀ a, a ≠ 0 → ν'.1 a = ν.1 a) ∧ ν'.2 = ν.2 ∧ ∀ k, k ≠ 13 → k ≠ 17 → ν'.1 0 k = ν.1 0 k
theorem MF.nf {μ μ' : Mem} (h : MF μ μ') : NF μ μ' := ⟨h.1, h.2.1, fun k hk _ => h.2.2 k hk⟩
theorem NF.trans {μ μ' μ'' : Mem} (h : NF μ μ') (h' : NF μ' μ'') : NF μ μ'' := ⟨fun a ha => (h'.1 a ha).trans (h.1 a ha), h'.2.1.trans h.2.1, fun k hk hk2 => (h'.2.2 k hk hk2).trans (h.2.2 k hk hk2)⟩
theorem MT_nf {μ μ' : Mem} {tl : Nat} {X : Nat → Int32} (h : MT μ tl X) (f : NF μ μ') : MT μ' tl X := ⟨h.1, by rw [f.2.2 12 (by decide) (by decide)]; exact h.2.1, fun k hk => by rw [f.1 10 (by decide)]; exact h.2.2 k hk⟩
theorem m_num {ν : Mem} {tl p : Nat} {X : Nat → Int32} (m : Int32) (hM : MT ν tl X) (hp : p ≤ tl) (h13 : ν.1 0 13 = nI p) : ∃ ν', f_X10_number 0 m ν = some (bI (numOk tl X (eo (spB X) tl p) m), ν') ∧ NF ν ν' ∧ (numOk tl X (eo (spB X) tl p) m = true → ν'.1 0 17 = nv tl X (eo (spB X) tl p) ∧ ν'.1 0 13 = nI (en tl X (eo (spB X) tl p))) ∧ (numOk tl X (eo (spB X) tl p) m = false → ν'.1 0 13 = nI (eo (spB X) tl p)) := by
  have hl := hM.1
  obtain ⟨ν1, e1, e2, e3⟩ := m_skip hM hp h13
  obtain ⟨-, hs, -⟩ := eo_spec (spB X) hp
  generalize eo (spB X) tl p = s at e3 hs ⊢
  have hM1 := MT_fr hM e2
  obtain ⟨z1, z2, z3, z4⟩ := eo_spec (fgB X) hs
  have hfl : eo (fgB X) tl s = s + fl tl X s := by unfold fl; omega
  rw [f_X10_number, e1, zbind_eq]
  have lp : ∀ (k x n : Nat), x + k = fl tl X s → k < n → f_X10_number_9 n 0 m (nI x) (acc X s x) ν1 = f_X10_number_77 0 m (nI (fl tl X s)) (acc X s (fl tl X s)) ν1 := by
    intro k
    induction k with
    | zero =>
      intro x n h1 h2
      obtain ⟨n, rfl⟩ : ∃ q, n = q + 1 := ⟨n - 1, by omega⟩
      obtain rfl : x = fl tl X s := by omega
      rw [f_X10_number_9, hM1.2.1, e3, nI_add, ← hfl]
      rcases z4 with q | q
      · rw [if_pos (nI_le (by omega) (by omega))]
      · by_cases q2 : eo (fgB X) tl s = tl
        · rw [if_pos (nI_le (by omega) (by omega))]
        · rw [if_neg (nI_ge (by omega) (by omega)), zck_t (zin_nI (by omega) (by decide)), nI_clamp (by omega), hM1.2.2 _ (by omega), m_isFigure, zbind_eq, show inR (X (eo (fgB X) tl s)) 48 57 = false from q, if_pos bIf]
    | succ k ih =>
      intro x n h1 h2
      obtain ⟨n, rfl⟩ : ∃ q, n = q + 1 := ⟨n - 1, by omega⟩
      rw [f_X10_number_9, hM1.2.1, e3, nI_add, if_neg (nI_ge (by omega) (by omega)), zck_t (zin_nI (by omega) (by decide)), nI_clamp (by omega), hM1.2.2 (s + x) (by omega), m_isFigure, zbind_eq, show inR (X (s + x)) 48 57 = true from z3 (s + x) (by omega) (by omega), if_neg bIt, e3, nI_add, nI_1]
      by_cases q : 2 ≤ x
      · rw [if_pos (show (2 : Int32) ≤ nI x from nI_le (a := 2) q (by omega))]
        have ea : acc X s x = acc X s (x + 1) := by unfold acc; rw [if_neg (by omega), if_neg (by omega), if_neg (by omega), if_neg (by omega)]
        rw [ea]
        exact ih (x + 1) n (by omega) (by omega)
      · rw [if_neg (show ¬ (2 : Int32) ≤ nI x from nI_ge (b := 2) (by omega) (by decide)), zck_t (zin_nI (by omega) (by decide)), nI_clamp (by omega), hM1.2.2 (s + x) (by omega), zlet_eq]
        have ea : 10 * acc X s x + X (s + x) - 48 = acc X s (x + 1) := by
          rcases (show x = 0 ∨ x = 1 by omega) with rfl | rfl <;> rfl
        rw [ea]
        exact ih (x + 1) n (by omega) (by omega)
  have e := lp (fl tl X s) 0 zFU (by omega) (zFU_lt (by omega))
  rw [nI_0, show acc X s 0 = 0 from rfl, show acc X s (fl tl X s) = nv tl X s from rfl] at e
  rw [e, f_X10_number_77, in_eq, zbind_eq]
  have hk : inR (nI (fl tl X s)) 1 2 = decide (kd tl X s = 2) := by
    by_cases q : kd tl X s = 2
    · obtain ⟨f1, f2⟩ := (kd2 hs).mp q
      rw [decide_eq_true q]
      exact decide_eq_true ⟨nI_nlt (b := 1) f1 (by omega), nI_nlt (a := 2) f2 (by decide)⟩
    · rw [decide_eq_false q]
      refine decide_eq_false (fun z => q ((kd2 hs).mpr ⟨?_, ?_⟩))
      · rcases Nat.lt_or_ge (fl tl X s) 1 with w | w
        · exact absurd (nI_lt (b := 1) w (by decide)) z.1
        · exact w
      · rcases Nat.lt_or_ge 2 (fl tl X s) with w | w
        · exact absurd (nI_lt (a := 2) w (by omega)) z.2
        · exact w
  rw [hk]
  unfold numOk
  by_cases q : kd tl X s = 2
  · obtain ⟨k1, k2, k3⟩ := kd2_en q
    rw [decide_eq_true q, Bool.true_and, if_neg bIt, in_eq, zbind_eq]
    cases qr : inR (nv tl X s) 0 m
    · rw [if_pos bIf]
      exact ⟨ν1, rfl, e2.nf, fun z => absurd z (by decide), fun _ => e3⟩
    · rw [if_neg bIt, zlet_eq]
      obtain ⟨a1, b1, c1, d1⟩ := st1 ν1 0 17 (nv tl X s)
      generalize zI ν1 0 17 (nv tl X s) = ν2 at a1 b1 c1 d1 ⊢
      rw [zlet_eq, c1 13 (by decide), e3, nI_add, ← hfl, ← k1]
      obtain ⟨a3, b3, c3, d3⟩ := st1 ν2 0 13 (nI (en tl X s))
      generalize zI ν2 0 13 (nI (en tl X s)) = ν3 at a3 b3 c3 d3 ⊢
      exact ⟨ν3, rfl, ⟨fun a ha => by rw [a3 a ha, a1 a ha, e2.1 a ha], by rw [b3, b1, e2.2.1], fun k h1 h2 => by rw [c3 k h1, c1 k h2, e2.2.2 k h1]⟩, fun _ => ⟨by rw [c3 17 (by decide), d1], d3⟩, fun z => absurd z (by decide)⟩
  · rw [decide_eq_false q, Bool.false_and, if_pos bIf]
    exact ⟨ν1, rfl, e2.nf, fun z => absurd z (by decide), fun _ => e3⟩
theorem m_ends {ν : Mem} {tl p : Nat} {X : Nat → Int32} (hM : MT ν tl X) (hp : p ≤ tl) (h13 : ν.1 0 13 = nI p) : ∃ ν', f_X10_ends ν = some (bI (decide (kd tl X (eo (spB X) tl p) = 3)), ν') ∧ MF ν ν' ∧ ν'.1 0 13 = nI (if kd tl X (eo (spB X) tl p) = 3 then en tl X (eo (spB X) tl p) else eo (spB X) tl p) := by
  have hl := hM.1
  obtain ⟨ν1, e1, e2, e3⟩ := m_skip hM hp h13
  obtain ⟨-, hs, -⟩ := eo_spec (spB X) hp
  generalize eo (spB X) tl p = s at e3 hs ⊢
  rw [f_X10_ends, e1, zbind_eq, m_here (MT_fr hM e2) e3 hs, zbind_eq]
  by_cases q : kd tl X s = 3
  · obtain ⟨q1, q2⟩ := kd3.mp q
    rw [if_pos q1, if_pos q2, decide_eq_true q, if_pos q, e3, nI_1, zlet_eq, kd3_en q]
    exact ⟨_, rfl, e2.trans (mf_st ν1 _), rfl⟩
  · have : ¬ (if s < tl then X s else -1) = 59 := by
      by_cases q1 : s < tl
      · rw [if_pos q1]; exact fun z => q (kd3.mpr ⟨q1, z⟩)
      · rw [if_neg q1]; decide
    rw [if_neg this, decide_eq_false q, if_neg q]
    exact ⟨ν1, rfl, e2, e3⟩
/-! words -/
def wl (k : Nat) : Nat := zSl.getD k 0
def wc (k i : Nat) : Int32 := (zSb.getD k []).getD i 0
def wB (tl : Nat) (X : Nat → Int32) (s k : Nat) : Bool := decide (eo (ltB X) tl s - s = wl k) && allN (fun i => decide (X (s + i) = wc k i)) 0 (wl k)
theorem wl_pos {k : Nat} (h : k < 3) : 3 ≤ wl k ∧ wl k ≤ 5 := by
  have : ∀ k : Fin 3, 3 ≤ wl k.val ∧ wl k.val ≤ 5 := by decide +kernel
  exact this ⟨k, h⟩
theorem kd1 {tl s : Nat} {X : Nat → Int32} (hs : s ≤ tl) : kd tl X s = 1 ↔ 1 ≤ eo (ltB X) tl s - s := by
  unfold kd
  by_cases q : s < tl
  · rw [if_pos q]
    cases ql : ltB X s
    · rw [eo_f _ ql, if_neg Bool.false_ne_true]
      constructor
      · intro h
        exfalso
        revert h
        repeat' split
        all_goals (intro h; omega)
      · intro h; omega
    · rw [if_pos rfl, eo_t _ q ql]
      have := (eo_spec (ltB X) (show s + 1 ≤ tl by omega)).1
      constructor
      · intro _; omega
      · intro _; rfl
  · rw [if_neg q]
    obtain rfl : s = tl := by omega
    rw [eo_end]
    constructor
    · intro h; omega
    · intro h; omega
theorem kd1_en {tl s : Nat} {X : Nat → Int32} (h : kd tl X s = 1) : en tl X s = eo (ltB X) tl s := by
  unfold kd at h
  by_cases q : s < tl
  · rw [if_pos q] at h
    cases ql : ltB X s
    · exfalso
      rw [ql, if_neg Bool.false_ne_true] at h
      revert h
      repeat' split
      all_goals (intro h; omega)
    · unfold en
      rw [if_pos q, ql, if_pos rfl]
  · rw [if_neg q] at h; omega
theorem c_word {μ : Mem} {tl s k : Nat} {X : Nat → Int32} (hC : CT μ tl X) (hs : s ≤ tl) (hk : k < 3) (h4 : μ.1 41 4 = nI s) (h3 : μ.1 41 3 = nI (kd tl X s)) (h2 : μ.1 41 2 = nI (en tl X s)) : f_X8_isWord k μ = some (bI (wB tl X s k), μ) := by
  have hl := hC.1
  obtain ⟨w3, w5⟩ := wl_pos hk
  rw [f_X8_isWord, h3, f_J0_length_8abf5, zbind_eq, h2, h4]
  show (if nI (kd tl X s) = 1 then (if nI (en tl X s) - nI s = nI (wl k) then f_X8_isWord_28 k zFU 0 μ else some (0, μ)) else some (0, μ)) = _
  have hk4 : kd tl X s ≤ 4 := kd_le tl X s
  unfold wB
  by_cases q : kd tl X s = 1
  · obtain ⟨z1, z2, -⟩ := eo_spec (ltB X) hs
    rw [q, if_pos (by rfl), kd1_en q, pk_sub z1]
    by_cases ql : eo (ltB X) tl s - s = wl k
    · rw [ql, if_pos rfl, decide_eq_true rfl, Bool.true_and]
      have e : ∀ (r i n : Nat), i + r = wl k → r < n → f_X8_isWord_28 k n (nI i) μ = some (bI (allN (fun i => decide (X (s + i) = wc k i)) i r), μ) := by
        intro r
        induction r with
        | zero =>
          intro i n h1 h2
          obtain ⟨n, rfl⟩ : ∃ q, n = q + 1 := ⟨n - 1, by omega⟩
          rw [f_X8_isWord_28, f_J0_length_8abf5, zbind_eq, if_pos (show nI (zSl.getD k 0) ≤ nI i from nI_le (show wl k ≤ i by omega) (by omega))]; rfl
        | succ r ih =>
          intro i n h1 h2
          obtain ⟨n, rfl⟩ : ∃ q, n = q + 1 := ⟨n - 1, by omega⟩
          rw [f_X8_isWord_28, f_J0_length_8abf5, zbind_eq, if_neg (show ¬ nI (zSl.getD k 0) ≤ nI i from nI_ge (show i < wl k by omega) (show wl k < 2 ^ 31 by omega)), hC.2.1, h4, nI_add, if_neg (nI_ge (by omega) (by omega)), zck_t (zin_nI (by omega) (by decide)), f_J0_charAt_5068e, zck_t (show zin (nI i) (zSl.getD k 0) = true from zin_nI (show i < wl k by omega) (show wl k < 2 ^ 31 by omega)), zbind_eq, nI_clamp (by omega), nI_clamp (by omega), hC.2.2 (s + i) (by omega), nI_1, ih (i + 1) n (by omega) (by omega)]
          show (if X (s + i) = wc k i then _ else _) = some (bI (decide (X (s + i) = wc k i) && allN (fun i => decide (X (s + i) = wc k i)) (i + 1) r), μ)
          by_cases c : X (s + i) = wc k i
          · rw [if_pos c, decide_eq_true c, Bool.true_and]
          · rw [if_neg c, decide_eq_false c]; rfl
      exact e (wl k) 0 zFU (by omega) (zFU_lt (by omega))
    · rw [if_neg (nIne ql (by omega) (by omega)), decide_eq_false ql]; rfl
  · have : ¬ eo (ltB X) tl s - s = wl k := fun e => q ((kd1 hs).mpr (by omega))
    rw [if_neg (show ¬ nI (kd tl X s) = 1 from nIne (b := 1) q (by omega) (by decide)), decide_eq_false this]; rfl
