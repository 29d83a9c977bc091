/-! ===== read: the items ===== -/
theorem m_letter {ν : Mem} {tl s i : Nat} {X : Nat → Int32} {x : Int32} (hM : MT ν tl X) (h13 : ν.1 0 13 = nI s) (hi : s + i < tl) (hx : x = nI i) : f_X10_letter x ν = some (X (s + i), ν) := by
  have hl := hM.1
  rw [f_X10_letter, h13, hx, nI_add, zck_t (zin_nI (by omega) (by decide)), nI_clamp (by omega), hM.2.2 _ hi]
theorem wB5 (tl : Nat) (X : Nat → Int32) (s k : Nat) (h : wl k = 5) : wB tl X s k = (decide (eo (ltB X) tl s - s = 5) && (decide (X (s + 0) = wc k 0) && (decide (X (s + 1) = wc k 1) && (decide (X (s + 2) = wc k 2) && (decide (X (s + 3) = wc k 3) && decide (X (s + 4) = wc k 4)))))) := by
  unfold wB
  rw [h]
  simp [allN]
theorem wB3 (tl : Nat) (X : Nat → Int32) (s k : Nat) (h : wl k = 3) : wB tl X s k = (decide (eo (ltB X) tl s - s = 3) && (decide (X (s + 0) = wc k 0) && (decide (X (s + 1) = wc k 1) && decide (X (s + 2) = wc k 2)))) := by
  unfold wB
  rw [h]
  simp [allN]
theorem five {α : Type} {a b c d e : Prop} [Decidable a] [Decidable b] [Decidable c] [Decidable d] [Decidable e] (f : Int32 → α) : (if a then (if b then (if c then (if d then (if e then f 1 else f 0) else f 0) else f 0) else f 0) else f 0) = f (bI (decide a && (decide b && (decide c && (decide d && decide e))))) := by
  by_cases ha : a <;> by_cases hb : b <;> by_cases hc : c <;> by_cases hd : d <;> by_cases he : e <;> simp [ha, hb, hc, hd, he, bI]
theorem three {α : Type} {a b c : Prop} [Decidable a] [Decidable b] [Decidable c] (f : Int32 → α) : (if a then (if b then (if c then f 1 else f 0) else f 0) else f 0) = f (bI (decide a && (decide b && decide c))) := by
  by_cases ha : a <;> by_cases hb : b <;> by_cases hc : c <;> simp [ha, hb, hc, bI]
theorem m_word {ν : Mem} {tl s : Nat} {X : Nat → Int32} (hM : MT ν tl X) (hs : s ≤ tl) (h13 : ν.1 0 13 = nI s) : f_X10_wordHere ν = some (if wB tl X s 0 = true then 0 else if wB tl X s 1 = true then 1 else if wB tl X s 2 = true then 2 else -1, ν) := by
  have hl := hM.1
  obtain ⟨z1, z2, -⟩ := eo_spec (ltB X) hs
  rw [f_X10_wordHere, m_size hM hs h13, zbind_eq]
  have e0 : (if nI (eo (ltB X) tl s - s) = 5 then zbind (f_X10_letter (0 : Int32) ν) (fun r4 μ3 => (if r4 = (110 : Int32) then zbind (f_X10_letter (1 : Int32) μ3) (fun r6 μ5 => (if r6 = (105 : Int32) then zbind (f_X10_letter (2 : Int32) μ5) (fun r8 μ7 => (if r8 = (103 : Int32) then zbind (f_X10_letter (3 : Int32) μ7) (fun r10 μ9 => (if r10 = (104 : Int32) then zbind (f_X10_letter (4 : Int32) μ9) (fun r12 μ11 => (if r12 = (116 : Int32) then f_X10_wordHere_65 (nI (eo (ltB X) tl s - s)) (1 : Int32) μ11 else f_X10_wordHere_65 (nI (eo (ltB X) tl s - s)) (0 : Int32) μ11)) else f_X10_wordHere_65 (nI (eo (ltB X) tl s - s)) (0 : Int32) μ9)) else f_X10_wordHere_65 (nI (eo (ltB X) tl s - s)) (0 : Int32) μ7)) else f_X10_wordHere_65 (nI (eo (ltB X) tl s - s)) (0 : Int32) μ5)) else f_X10_wordHere_65 (nI (eo (ltB X) tl s - s)) (0 : Int32) μ3)) else f_X10_wordHere_65 (nI (eo (ltB X) tl s - s)) (0 : Int32) ν) = f_X10_wordHere_65 (nI (eo (ltB X) tl s - s)) (bI (wB tl X s 0)) ν := by
    rw [wB5 tl X s 0 (by decide)]
    by_cases q : eo (ltB X) tl s - s = 5
    · rw [if_pos (show nI (eo (ltB X) tl s - s) = 5 by rw [q]; rfl), m_letter (x := 0) hM h13 (i := 0) (by omega) rfl, zbind_eq, m_letter (x := 1) hM h13 (i := 1) (by omega) rfl, zbind_eq, m_letter (x := 2) hM h13 (i := 2) (by omega) rfl, zbind_eq, m_letter (x := 3) hM h13 (i := 3) (by omega) rfl, zbind_eq, m_letter (x := 4) hM h13 (i := 4) (by omega) rfl, zbind_eq, decide_eq_true q, Bool.true_and]
      exact five (fun z => f_X10_wordHere_65 (nI (eo (ltB X) tl s - s)) z ν)
    · rw [if_neg (show ¬ nI (eo (ltB X) tl s - s) = 5 from nIne (b := 5) q (by omega) (by decide)), decide_eq_false q]; rfl
  rw [e0, f_X10_wordHere_65]
  have e1 : ∀ y : Int32, (if nI (eo (ltB X) tl s - s) = 3 then zbind (f_X10_letter (0 : Int32) ν) (fun r2 μ1 => (if r2 = (98 : Int32) then zbind (f_X10_letter (1 : Int32) μ1) (fun r4 μ3 => (if r4 = (111 : Int32) then zbind (f_X10_letter (2 : Int32) μ3) (fun r6 μ5 => (if r6 = (121 : Int32) then f_X10_wordHere_106 (nI (eo (ltB X) tl s - s)) y (1 : Int32) μ5 else f_X10_wordHere_106 (nI (eo (ltB X) tl s - s)) y (0 : Int32) μ5)) else f_X10_wordHere_106 (nI (eo (ltB X) tl s - s)) y (0 : Int32) μ3)) else f_X10_wordHere_106 (nI (eo (ltB X) tl s - s)) y (0 : Int32) μ1)) else f_X10_wordHere_106 (nI (eo (ltB X) tl s - s)) y (0 : Int32) ν) = f_X10_wordHere_106 (nI (eo (ltB X) tl s - s)) y (bI (wB tl X s 1)) ν := by
    intro y
    rw [wB3 tl X s 1 (by decide)]
    by_cases q : eo (ltB X) tl s - s = 3
    · rw [if_pos (show nI (eo (ltB X) tl s - s) = 3 by rw [q]; rfl), m_letter (x := 0) hM h13 (i := 0) (by omega) rfl, zbind_eq, m_letter (x := 1) hM h13 (i := 1) (by omega) rfl, zbind_eq, m_letter (x := 2) hM h13 (i := 2) (by omega) rfl, zbind_eq, decide_eq_true q, Bool.true_and]
      exact three (fun z => f_X10_wordHere_106 (nI (eo (ltB X) tl s - s)) y z ν)
    · rw [if_neg (show ¬ nI (eo (ltB X) tl s - s) = 3 from nIne (b := 3) q (by omega) (by decide)), decide_eq_false q]; rfl
  rw [e1, f_X10_wordHere_106]
  have e2 : ∀ y y2 : Int32, (if nI (eo (ltB X) tl s - s) = 5 then zbind (f_X10_letter (0 : Int32) ν) (fun r2 μ1 => (if r2 = (99 : Int32) then zbind (f_X10_letter (1 : Int32) μ1) (fun r4 μ3 => (if r4 = (101 : Int32) then zbind (f_X10_letter (2 : Int32) μ3) (fun r6 μ5 => (if r6 = (108 : Int32) then zbind (f_X10_letter (3 : Int32) μ5) (fun r8 μ7 => (if r8 = (108 : Int32) then zbind (f_X10_letter (4 : Int32) μ7) (fun r10 μ9 => (if r10 = (115 : Int32) then f_X10_wordHere_167 y y2 (1 : Int32) μ9 else f_X10_wordHere_167 y y2 (0 : Int32) μ9)) else f_X10_wordHere_167 y y2 (0 : Int32) μ7)) else f_X10_wordHere_167 y y2 (0 : Int32) μ5)) else f_X10_wordHere_167 y y2 (0 : Int32) μ3)) else f_X10_wordHere_167 y y2 (0 : Int32) μ1)) else f_X10_wordHere_167 y y2 (0 : Int32) ν) = f_X10_wordHere_167 y y2 (bI (wB tl X s 2)) ν := by
    intro y y2
    rw [wB5 tl X s 2 (by decide)]
    by_cases q : eo (ltB X) tl s - s = 5
    · rw [if_pos (show nI (eo (ltB X) tl s - s) = 5 by rw [q]; rfl), m_letter (x := 0) hM h13 (i := 0) (by omega) rfl, zbind_eq, m_letter (x := 1) hM h13 (i := 1) (by omega) rfl, zbind_eq, m_letter (x := 2) hM h13 (i := 2) (by omega) rfl, zbind_eq, m_letter (x := 3) hM h13 (i := 3) (by omega) rfl, zbind_eq, m_letter (x := 4) hM h13 (i := 4) (by omega) rfl, zbind_eq, decide_eq_true q, Bool.true_and]
      exact five (fun z => f_X10_wordHere_167 y y2 z ν)
    · rw [if_neg (show ¬ nI (eo (ltB X) tl s - s) = 5 from nIne (b := 5) q (by omega) (by decide)), decide_eq_false q]; rfl
  rw [e2, f_X10_wordHere_167]
  cases wB tl X s 0 <;> cases wB tl X s 1 <;> cases wB tl X s 2 <;> rfl
theorem wB_en {tl s k : Nat} {X : Nat → Int32} (hs : s ≤ tl) (hk : k < 3) (h : wB tl X s k = true) : en tl X s = s + wl k ∧ s < tl := by
  obtain ⟨w3, w5⟩ := wl_pos hk
  unfold wB at h
  rw [Bool.and_eq_true] at h
  have h1 := of_decide_eq_true h.1
  obtain ⟨z1, z2, -⟩ := eo_spec (ltB X) hs
  rw [kd1_en ((kd1 hs).mpr (by omega))]
  exact ⟨by omega, by omega⟩
/-! the two as they read -/
def PS (μ ν : Mem) (tl : Nat) (X : Nat → Int32) (nb : Nat) : Prop := CT μ tl X ∧ MT ν tl X ∧ nb ≤ 5 ∧ μ.1 8 7 = nI nb ∧ ν.1 0 14 = nI nb ∧ μ.1 8 8 = 0 ∧ μ.1 8 9 = 0 ∧ (∀ b, b < nb → (∃ k, k < 6 ∧ μ.1 9 b = nI k) ∧ ν.1 11 (3 * b) = μ.1 9 b ∧ ν.1 11 (3 * b + 1) = μ.1 10 b ∧ ν.1 11 (3 * b + 2) = μ.1 11 b) ∧ ∀ j, j < 12 → ν.1 12 j = μ.1 12 j ∧ (μ.1 12 j = -1 ∨ ∃ b, b < nb ∧ μ.1 12 j = nI b)
def CF (μ μ' : Mem) : Prop := (∀ a, (a < 8 ∨ 15 ≤ a) → a ≠ 41 → μ'.1 a = μ.1 a) ∧ μ'.2 = μ.2 ∧ ∀ k, k ≠ 2 → k ≠ 3 → k ≠ 4 → μ'.1 41 k = μ.1 41 k
def GF (ν ν' : Mem) : Prop := (∀ a, a ≠ 0 → a ≠ 11 → a ≠ 12 → ν'.1 a = ν.1 a) ∧ ν'.2 = ν.2 ∧ ∀ k, k ≠ 13 → k ≠ 14 → k ≠ 17 → ν'.1 0 k = ν.1 0 k
theorem TF.cf {μ μ' : Mem} (h : TF μ μ') : CF μ μ' := ⟨fun a _ ha => h.1 a ha, h.2.1, h.2.2⟩
theorem NF.gf {μ μ' : Mem} (h : NF μ μ') : GF μ μ' := ⟨fun a ha _ _ => h.1 a ha, h.2.1, fun k h1 _ h3 => h.2.2 k h1 h3⟩
theorem CF.trans {μ μ' μ'' : Mem} (h : CF μ μ') (h' : CF μ' μ'') : CF μ μ'' := ⟨fun a ha hb => (h'.1 a ha hb).trans (h.1 a ha hb), h'.2.1.trans h.2.1, fun k h2 h3 h4 => (h'.2.2 k h2 h3 h4).trans (h.2.2 k h2 h3 h4)⟩
theorem GF.trans {μ μ' μ'' : Mem} (h : GF μ μ') (h' : GF μ' μ'') : GF μ μ'' := ⟨fun a ha hb hc => (h'.1 a ha hb hc).trans (h.1 a ha hb hc), h'.2.1.trans h.2.1, fun k h2 h3 h4 => (h'.2.2 k h2 h3 h4).trans (h.2.2 k h2 h3 h4)⟩
theorem CF.refl (μ : Mem) : CF μ μ := (TF.refl μ).cf
theorem GF.refl (μ : Mem) : GF μ μ := (MF.refl μ).nf.gf
theorem PS_fr {μ μ' ν ν' : Mem} {tl nb : Nat} {X : Nat → Int32} (h : PS μ ν tl X nb) (f : TF μ μ') (g : NF ν ν') : PS μ' ν' tl X nb := by
  obtain ⟨p1, p2, p3, p4, p5, p6, p7, p8, p9⟩ := h
  refine ⟨CT_fr p1 f, MT_nf p2 g, p3, by rw [f.1 8 (by decide)]; exact p4, by rw [g.2.2 14 (by decide) (by decide)]; exact p5, by rw [f.1 8 (by decide)]; exact p6, by rw [f.1 8 (by decide)]; exact p7, fun b hb => ?_, fun j hj => ?_⟩
  · rw [f.1 9 (by decide), f.1 10 (by decide), f.1 11 (by decide), g.1 11 (by decide)]; exact p8 b hb
  · rw [f.1 12 (by decide), g.1 12 (by decide)]; exact p9 j hj
/-- what an item leaves: it fits and both stand at p, or it doesn't and both tell the same place -/
def IR (tl : Nat) (X : Nat → Int32) (s : Nat) (μ ν μ' ν' : Mem) (ok : Bool) : Prop := CF μ μ' ∧ GF ν ν' ∧ (ok = true → ∃ nb p, PS μ' ν' tl X nb ∧ s < p ∧ p ≤ tl ∧ μ'.1 41 2 = nI p ∧ ν'.1 0 13 = nI p) ∧ (ok = false → ∃ s', s' ≤ tl ∧ μ'.1 41 4 = nI s' ∧ ν'.1 0 13 = nI s')
theorem cell_loop {tl nb b : Nat} {X : Nat → Int32} (hb : b < nb) : ∀ (k s c n m : Nat) (μ ν : Mem), tl - s ≤ k → s ≤ tl → eo (spB X) tl s = s → c ≤ s → k < n → k < m → PS μ ν tl X nb → μ.1 41 4 = nI s → μ.1 41 3 = nI (kd tl X s) → μ.1 41 2 = nI (en tl X s) → ν.1 0 13 = nI s → ∃ (ok : Bool) (μ' ν' : Mem), f_X8_cellsItem_28 8 n (nI b) (if numOk tl X s 11 = true then nv tl X s else -1) (nI c) μ = some (bI ok, μ') ∧ f_X10_readsCells_25 m (nI b) ν = some (bI ok, ν') ∧ CF μ μ' ∧ GF ν ν' ∧ (ok = true → ∃ p, PS μ' ν' tl X nb ∧ s < p ∧ p ≤ tl ∧ μ'.1 41 2 = nI p ∧ ν'.1 0 13 = nI p) ∧ (ok = false → ∃ s', s' ≤ tl ∧ μ'.1 41 4 = nI s' ∧ ν'.1 0 13 = nI s') := by
  intro k
  induction k with
  | zero =>
    intro s c n m μ ν hk hs hsp hc hn hm hP h4 h3 h2 h13
    obtain ⟨n, rfl⟩ : ∃ q, n = q + 1 := ⟨n - 1, by omega⟩
    obtain ⟨m, rfl⟩ : ∃ q, m = q + 1 := ⟨m - 1, by omega⟩
    have hst : ¬ s < tl := by omega
    have hkd : kd tl X s = 0 := by unfold kd; rw [if_neg hst]
    have hno : numOk tl X s 11 = false := by unfold numOk; rw [hkd]; rfl
    obtain ⟨ν', e1, e2, e3⟩ := m_ends hP.2.1 hs h13
    rw [hsp, hkd] at e1 e3
    rw [hno, if_neg Bool.false_ne_true, f_X8_cellsItem_28, if_pos rfl, f_X8_cellsItem_62, h3, hkd, if_neg (by decide), f_X10_readsCells_25, m_here hP.2.1 h13 hs, zbind_eq, if_neg hst, m_isFigure, zbind_eq, show inR (-1) 48 57 = false from by decide, if_pos bIf, e1, zbind_eq, zck_t (zbo_bI _)]
    exact ⟨false, μ, ν', rfl, rfl, CF.refl μ, e2.nf.gf, fun z => absurd z (by decide), fun _ => ⟨s, hs, h4, e3⟩⟩
  | succ k ih =>
    intro s c n m μ ν hk hs hsp hc hn hm hP h4 h3 h2 h13
    obtain ⟨n, rfl⟩ : ∃ q, n = q + 1 := ⟨n - 1, by omega⟩
    obtain ⟨m, rfl⟩ : ∃ q, m = q + 1 := ⟨m - 1, by omega⟩
    obtain ⟨p1, p2, p3, p4, p5, p6, p7, p8, p9⟩ := id hP
    have hl := p1.1
    rw [f_X10_readsCells_25, m_here p2 h13 hs, zbind_eq, m_isFigure, zbind_eq]
    cases hno : numOk tl X s 11
    · rw [if_neg Bool.false_ne_true, f_X8_cellsItem_28, if_pos rfl, f_X8_cellsItem_62, h3]
      have hc3 : (if nI (kd tl X s) = 3 then some ((1 : Int32), μ) else some (0, μ)) = some (bI (decide (kd tl X s = 3)), μ) := by
        have hk4 := kd_le tl X s
        by_cases q : kd tl X s = 3
        · rw [q, if_pos (by rfl)]; rfl
        · rw [if_neg (show ¬ nI (kd tl X s) = 3 from nIne (b := 3) q (by omega) (by decide)), decide_eq_false q]; rfl
      rw [hc3]
      cases hf : inR (if s < tl then X s else -1) 48 57
      · rw [if_pos bIf]
        obtain ⟨ν', e1, e2, e3⟩ := m_ends p2 hs h13
        rw [hsp] at e1 e3
        rw [e1, zbind_eq, zck_t (zbo_bI _)]
        refine ⟨_, μ, ν', rfl, rfl, CF.refl μ, e2.nf.gf, fun z => ?_, fun z => ?_⟩
        · have z := of_decide_eq_true z
          rw [if_pos z] at e3
          obtain ⟨u1, u2, u3⟩ := en_le (X := X) hs
          exact ⟨en tl X s, PS_fr hP (TF.refl μ) e2.nf, u3 (kd3.mp z).1, u2, h2, e3⟩
        · have z := of_decide_eq_false z
          rw [if_neg z] at e3
          exact ⟨s, hs, h4, e3⟩
      · rw [if_neg bIt]
        obtain ⟨ν', e1, e2, e3, e4⟩ := m_num 11 p2 hs h13
        rw [hsp] at e1 e3 e4
        rw [e1, zbind_eq, hno, if_pos bIf]
        have hst : s < tl := by
          rcases Nat.lt_or_ge s tl with z | z
          · exact z
          · rw [if_neg (by omega)] at hf; exact absurd hf (by decide)
        rw [if_pos hst] at hf
        have k3 : ¬ kd tl X s = 3 := fun z => by
          rw [(kd3.mp z).2] at hf; exact absurd hf (by decide)
        rw [decide_eq_false k3]
        exact ⟨false, μ, ν', rfl, rfl, CF.refl μ, e2.gf, fun z => absurd z (by decide), fun _ => ⟨s, hs, h4, e4 hno⟩⟩
    · have hno' := hno
      unfold numOk at hno'
      rw [Bool.and_eq_true] at hno'
      have hk2 : kd tl X s = 2 := of_decide_eq_true hno'.1
      obtain ⟨w, hw, ew⟩ := inR_nI (m := 11) (by decide) hno'.2
      obtain ⟨k1, k2, k3⟩ := kd2_en hk2
      obtain ⟨u1, u2, u3⟩ := en_le (X := X) hs
      have u3 := u3 k2
      have hf : inR (if s < tl then X s else -1) 48 57 = true := by rw [if_pos k2]; exact k3
      obtain ⟨ν1, e1, e2, e3, -⟩ := m_num 11 p2 hs h13
      rw [hsp] at e1 e3
      obtain ⟨e3a, e3b⟩ := e3 hno
      rw [hf, if_neg bIt, e1, zbind_eq, hno, if_neg bIt, if_pos rfl, ew, f_X8_cellsItem_28, if_neg (nI_ne_m1 (by omega)), p1.2.1, if_neg (nI_ge (by omega) (by omega)), zck_t (zin_nI (by omega) (by decide)), zlet_eq, nI_clamp (by omega), e3a, ew, zck_t (zin_nI (by omega) (by decide)), zlet_eq, nI_clamp (by omega), nI_1]
      obtain ⟨x1, x2, x3, x4⟩ := st1 μ (8 + 4) w (nI b)
      generalize zI μ (8 + 4) w (nI b) = μ1 at x1 x2 x3 x4 ⊢
      obtain ⟨y1, y2, y3, y4⟩ := st1 ν1 12 w (nI b)
      generalize zI ν1 12 w (nI b) = ν2 at y1 y2 y3 y4 ⊢
      have x1 : ∀ a, a ≠ 12 → μ1.1 a = μ.1 a := x1
      have x3 : ∀ j, j ≠ w → μ1.1 12 j = μ.1 12 j := x3
      have x4 : μ1.1 12 w = nI b := x4
      have hP1 : PS μ1 ν2 tl X nb := by
        obtain ⟨r1, r2, r3, r4, r5, r6, r7, r8, r9⟩ := PS_fr hP (TF.refl μ) e2
        refine ⟨⟨r1.1, by rw [x1 41 (by decide)]; exact r1.2.1, fun k hk => by rw [x1 42 (by decide)]; exact r1.2.2 k hk⟩, ⟨r2.1, by rw [y1 0 (by decide)]; exact r2.2.1, fun k hk => by rw [y1 10 (by decide)]; exact r2.2.2 k hk⟩, r3, by rw [x1 8 (by decide)]; exact r4, by rw [y1 0 (by decide)]; exact r5, by rw [x1 8 (by decide)]; exact r6, by rw [x1 8 (by decide)]; exact r7, fun b hb => ?_, fun j hj => ?_⟩
        · rw [x1 9 (by decide), x1 10 (by decide), x1 11 (by decide), y1 11 (by decide)]; exact r8 b hb
        · by_cases q : j = w
          · subst q
            rw [x4, y4]
            exact ⟨rfl, Or.inr ⟨b, hb, rfl⟩⟩
          · rw [x3 j q, y3 j q]; exact r9 j hj
      have hCF1 : CF μ μ1 := ⟨fun a ha _ => x1 a (by omega), x2, fun k _ _ _ => by rw [x1 41 (by decide)]⟩
      have hGF1 : GF ν ν2 := e2.gf.trans ⟨fun a _ _ h12 => y1 a h12, y2, fun k _ _ _ => by rw [y1 0 (by decide)]⟩
      obtain ⟨μ2, c1, c2, c3, c4, c5⟩ := c_num 11 hP1.1 u2 (show μ1.1 41 2 = nI (en tl X s) by rw [x1 41 (by decide)]; exact h2)
      obtain ⟨ν3, d1, d2, d3⟩ := m_skip hP1.2.1 u2 (show ν2.1 0 13 = nI (en tl X s) by rw [y1 0 (by decide)]; exact e3b)
      obtain ⟨v1, v2, -⟩ := eo_spec (spB X) u2
      have v3 := eo_eo (spB X) u2
      generalize eo (spB X) tl (en tl X s) = s' at c1 c3 c4 c5 d3 v1 v2 v3
      rw [c1, zbind_eq, d1, zbind_eq]
      obtain ⟨ok, μ', ν', g1, g2, g3, g4, g5, g6⟩ := ih s' (c + 1) n m μ2 ν3 (by omega) v2 v3 (by omega) (by omega) (by omega) (PS_fr hP1 c2 d2.nf) c3 c4 c5 d3
      refine ⟨ok, μ', ν', g1, g2, (hCF1.trans c2.cf).trans g3, (hGF1.trans d2.nf.gf).trans g4, fun z => ?_, g6⟩
      obtain ⟨p, q1, q2, q3⟩ := g5 z
      exact ⟨p, q1, by omega, q3⟩
