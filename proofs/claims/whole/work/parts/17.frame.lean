/-! ===== what may change and leave the two alike ===== -/
theorem NR_congr {C C' M M' : NV} {nb nn nu : Nat} (hC : ∀ a k, (a = 4 → k < 12) → C' a k = C a k) (hM : ∀ a k, (a = 4 → k < 12) → M' a k = M a k) (h : NR C M nb nn nu) : NR C' M' nb nn nu := by
  obtain ⟨h1, h2, h3, h4, h5, h6, h7, h8, h9, hB, hW, hN, hU⟩ := h
  refine ⟨h1, h2, h3, by rw [hC _ _ (by omega)]; exact h4, by rw [hM _ _ (by omega)]; exact h5, by rw [hC _ _ (by omega)]; exact h6, by rw [hM _ _ (by omega)]; exact h7, by rw [hC _ _ (by omega)]; exact h8, by rw [hM _ _ (by omega)]; exact h9, fun b hb => ?_, fun j hj => ?_, fun k hk => ?_, fun u hu => ⟨fun j hj => ?_, fun b hb => ?_⟩⟩
  · rw [hC 1 b (by omega), hC 2 b (by omega), hC 3 b (by omega), hM 1 b (by omega), hM 2 b (by omega), hM 3 b (by omega)]; exact hB b hb
  · rw [hC 4 j (fun _ => hj), hM 4 j (fun _ => hj)]; exact hW j hj
  · rw [hC 5 k (by omega), hC 6 k (by omega), hC 7 k (by omega), hC 8 k (by omega), hM 5 k (by omega), hM 6 k (by omega), hM 7 k (by omega), hM 8 k (by omega)]; exact hN k hk
  · rw [hC 9 _ (by omega), hM 9 _ (by omega)]; exact (hU u hu).1 j hj
  · rw [hC 9 _ (by omega), hM 9 _ (by omega)]; exact (hU u hu).2 b hb
theorem cv_same {μ μ' : Mem} {o : Nat} (h : ∀ a, o ≤ a → a ≤ o + 6 → μ'.1 a = μ.1 a) : cv μ' o = cv μ o := by
  funext a k
  unfold cv
  by_cases h0 : a = 0
  · rw [if_pos h0, if_pos h0, h o (by omega) (by omega)]
  · rw [if_neg h0, if_neg h0]
    by_cases h4 : a ≤ 4
    · rw [if_pos h4, if_pos h4, h (o + a) (by omega) (by omega)]
    · rw [if_neg h4, if_neg h4, h (o + 5) (by omega) (by omega), h (o + 6) (by omega) (by omega)]
def SameC (μ μ' : Mem) : Prop := (∀ a, (1 ≤ a ∧ a ≤ 7) ∨ (15 ≤ a ∧ a ≤ 28) ∨ a = 37 ∨ a = 42 → μ'.1 a = μ.1 a) ∧ μ'.1 0 8 = μ.1 0 8 ∧ μ'.1 0 9 = μ.1 0 9 ∧ μ'.1 0 10 = μ.1 0 10 ∧ μ'.1 41 1 = μ.1 41 1 ∧ μ'.2 0 6 = μ.2 0 6 ∧ μ'.2 0 7 = μ.2 0 7
def SameM (μ μ' : Mem) : Prop := (∀ a, (1 ≤ a ∧ a ≤ 4) ∨ (6 ≤ a ∧ a ≤ 10) ∨ a = 13 ∨ a = 17 ∨ a = 18 → μ'.1 a = μ.1 a) ∧ (∀ j, j < 12 → μ'.1 5 j = μ.1 5 j) ∧ μ'.1 0 1 = μ.1 0 1 ∧ μ'.1 0 2 = μ.1 0 2 ∧ μ'.1 0 12 = μ.1 0 12 ∧ μ'.1 0 19 = μ.1 0 19 ∧ μ'.2 0 23 = μ.2 0 23 ∧ μ'.2 0 24 = μ.2 0 24
theorem SameC.refl (μ : Mem) : SameC μ μ := ⟨fun _ _ => rfl, rfl, rfl, rfl, rfl, rfl, rfl⟩
theorem SameM.refl (μ : Mem) : SameM μ μ := ⟨fun _ _ => rfl, fun _ _ => rfl, rfl, rfl, rfl, rfl, rfl, rfl⟩
theorem mv_same {μ μ' : Mem} (h : SameM μ μ') (a k : Nat) (hk : a = 4 → k < 12) : mv μ' a k = mv μ a k := by
  obtain ⟨h1, h2, h3, h4, h5, h6, h7, h8⟩ := h
  unfold mv
  by_cases h0 : a = 0
  · rw [if_pos h0, if_pos h0, h3, h4, h6]
  · rw [if_neg h0, if_neg h0]
    by_cases q : a ≤ 8
    · rw [if_pos q, if_pos q]
      by_cases e : a = 4
      · subst e; exact h2 k (hk rfl)
      · rw [h1 (a + 1) (by omega)]
    · rw [if_neg q, if_neg q, h1 13 (by omega)]
theorem iv_same {μ μ' : Mem} (h : μ'.1 17 = μ.1 17) (i : Nat) : iv μ' i = iv μ i := by
  funext a k
  unfold iv
  rw [h]
theorem Rel_same {μC μC' μM μM' : Mem} (hC : SameC μC μC') (hM : SameM μM μM') (h : Rel μC μM) : Rel μC' μM' := by
  obtain ⟨⟨nb, nn, nu, hn⟩, h0, h1, ⟨tl, t1, t2, t3, t4⟩, s1, s2, s3, s4, s5⟩ := h
  obtain ⟨c1, c2, c3, c4, c5, c6, c7⟩ := id hC
  obtain ⟨m1, m2, m3, m4, m5, m6, m7, m8⟩ := id hM
  refine ⟨⟨nb, nn, nu, NR_congr (fun a k _ => by rw [cv_same (fun a h1 h2 => c1 a (by omega))]) (fun a k hk => mv_same hM a k hk) hn⟩, ?_, ?_, ⟨tl, t1, by rw [c5]; exact t2, by rw [m5]; exact t3, fun k hk => by rw [m1 10 (by omega), c1 42 (by omega)]; exact t4 k hk⟩, by rw [m1 1 (by omega), c2]; exact s1, by rw [m1 1 (by omega), c3]; exact s2, by rw [m1 1 (by omega), c4]; exact s3, by rw [m7, c6]; exact s4, by rw [m8, c7]; exact s5⟩
  · unfold RI at h0 ⊢
    rw [m1 18 (by omega), c1 37 (by omega), iv_same (m1 17 (by omega)), cv_same (fun a h1 h2 => c1 a (by omega))]
    exact h0
  · unfold RI at h1 ⊢
    rw [m1 18 (by omega), c1 37 (by omega), iv_same (m1 17 (by omega)), cv_same (fun a h1 h2 => c1 a (by omega))]
    exact h1
/-- only the counts of what went wrong change -/
theorem Rel_stat {μC μM : Mem} (h : Rel μC μM) (p q : Nat) (hpq : (p = 8 ∧ q = 0) ∨ (p = 9 ∧ q = 1) ∨ (p = 10 ∧ q = 2)) : Rel (zI μC 0 p (μC.1 0 p + 1)) (zI μM 1 q (μM.1 1 q + 1)) := by
  obtain ⟨⟨nb, nn, nu, hn⟩, h0, h1, ⟨tl, t1, t2, t3, t4⟩, s1, s2, s3, s4, s5⟩ := h
  have ec : ∀ a, a ≠ 0 → (zI μC 0 p (μC.1 0 p + 1)).1 a = μC.1 a := fun a ha => by rw [zI_at, if_neg ha]
  have em : ∀ a, a ≠ 1 → (zI μM 1 q (μM.1 1 q + 1)).1 a = μM.1 a := fun a ha => by rw [zI_at, if_neg ha]
  refine ⟨⟨nb, nn, nu, NR_congr (fun a k _ => by rw [cv_same (fun a h1 h2 => ec a (by omega))]) (fun a k _ => ?_) hn⟩, ?_, ?_, ⟨tl, t1, by rw [ec 41 (by decide)]; exact t2, by rw [em 0 (by decide)]; exact t3, fun k hk => by rw [em 10 (by decide), ec 42 (by decide)]; exact t4 k hk⟩, ?_, ?_, ?_, s4, s5⟩
  · unfold mv
    rw [em 0 (by decide), em 13 (by decide)]
    by_cases q : a = 0
    · rw [if_pos q, if_pos q]
    · rw [if_neg q, if_neg q, em (a + 1) (by omega)]
  · unfold RI at h0 ⊢
    rw [em 18 (by decide), ec 37 (by decide), iv_same (em 17 (by decide)), cv_same (fun a h1 h2 => ec a (by omega))]
    exact h0
  · unfold RI at h1 ⊢
    rw [em 18 (by decide), ec 37 (by decide), iv_same (em 17 (by decide)), cv_same (fun a h1 h2 => ec a (by omega))]
    exact h1
  · rcases hpq with ⟨rfl, rfl⟩ | ⟨rfl, rfl⟩ | ⟨rfl, rfl⟩
    · show μM.1 1 0 + 1 = μC.1 0 8 + 1
      rw [s1]
    · exact s1
    · exact s1
  · rcases hpq with ⟨rfl, rfl⟩ | ⟨rfl, rfl⟩ | ⟨rfl, rfl⟩
    · exact s2
    · show μM.1 1 1 + 1 = μC.1 0 9 + 1
      rw [s2]
    · exact s2
  · rcases hpq with ⟨rfl, rfl⟩ | ⟨rfl, rfl⟩ | ⟨rfl, rfl⟩
    · exact s3
    · exact s3
    · show μM.1 1 2 + 1 = μC.1 0 10 + 1
      rw [s3]
theorem Rel_bad {μC μM : Mem} (h : Rel μC μM) : Rel (zI μC 0 8 (μC.1 0 8 + 1)) (zI μM 1 0 (μM.1 1 0 + 1)) := Rel_stat h 8 0 (by omega)
theorem Rel_no {μC μM : Mem} (h : Rel μC μM) : Rel (zI μC 0 9 (μC.1 0 9 + 1)) (zI μM 1 1 (μM.1 1 1 + 1)) := Rel_stat h 9 1 (by omega)
theorem Rel_full {μC μM : Mem} (h : Rel μC μM) : Rel (zI μC 0 10 (μC.1 0 10 + 1)) (zI μM 1 2 (μM.1 1 2 + 1)) := Rel_stat h 10 2 (by omega)
/-! ===== what the questions see ===== -/
def CN (μ : Mem) (o nb : Nat) (K : Nat → Nat) (W : Nat → Int32) : Prop := nb ≤ 5 ∧ μ.1 o 7 = nI nb ∧ (∀ b, b < nb → K b < 6 ∧ μ.1 (o + 1) b = nI (K b)) ∧ ∀ j, j < 12 → μ.1 (o + 4) j = W j
def MN (μ : Mem) (nb : Nat) (K : Nat → Nat) (W : Nat → Int32) : Prop := nb ≤ 5 ∧ μ.1 0 1 = nI nb ∧ (∀ b, b < nb → K b < 6 ∧ μ.1 2 b = nI (K b)) ∧ ∀ j, j < 12 → μ.1 5 j = W j
def OW (nb : Nat) (W : Nat → Int32) : Prop := ∀ j, j < 12 → W j = -1 ∨ ∃ b, b < nb ∧ W j = nI b
theorem Rel_q {μC μM : Mem} (h : Rel μC μM) : ∃ (nb nn nu : Nat) (K : Nat → Nat) (W : Nat → Int32), NR (cv μC 1) (mv μM) nb nn nu ∧ CN μC 1 nb K W ∧ MN μM nb K W ∧ OW nb W ∧ (∀ b, b < nb → μM.1 3 b = μC.1 3 b ∧ μM.1 4 b = μC.1 4 b) ∧ nn ≤ 6 ∧ μC.1 1 8 = nI nn ∧ μM.1 0 2 = nI nn ∧ (∀ k, k < nn → μM.1 6 k = μC.1 6 (4 * k) ∧ μM.1 7 k = μC.1 6 (4 * k + 1) ∧ μM.1 8 k = μC.1 6 (4 * k + 2) ∧ μM.1 9 k = μC.1 6 (4 * k + 3)) := by
  obtain ⟨⟨nb, nn, nu, hn⟩, -, -, -, -⟩ := h
  obtain ⟨h1, h2, h3, h4, h5, h6, h7, h8, h9, hB, hW, hN, hU⟩ := id hn
  refine ⟨nb, nn, nu, fun b => (μC.1 2 b).toNatClampNeg, μC.1 5, hn, ⟨h1, h4, fun b hb => ?_, fun j hj => rfl⟩, ⟨h1, h5, fun b hb => ?_, fun j hj => (hW j hj).1⟩, fun j hj => (hW j hj).2, fun b hb => ⟨(hB b hb).2.2.1, (hB b hb).2.2.2⟩, h2, h6, h7, fun k hk => ⟨(hN k hk).1, (hN k hk).2.1, (hN k hk).2.2.1, (hN k hk).2.2.2⟩⟩
  · obtain ⟨⟨k, hk, e⟩, -⟩ := hB b hb
    have e : μC.1 2 b = nI k := e
    show (μC.1 2 b).toNatClampNeg < 6 ∧ μC.1 2 b = nI (μC.1 2 b).toNatClampNeg
    rw [e, nI_clamp (by omega)]
    exact ⟨hk, rfl⟩
  · obtain ⟨⟨k, hk, e⟩, e2, -⟩ := hB b hb
    have e : μC.1 2 b = nI k := e
    have e2 : μM.1 2 b = μC.1 2 b := e2
    show (μC.1 2 b).toNatClampNeg < 6 ∧ μM.1 2 b = nI (μC.1 2 b).toNatClampNeg
    rw [e2, e, nI_clamp (by omega)]
    exact ⟨hk, rfl⟩
theorem CN_boy {μ : Mem} {nb : Nat} {K W} (h : CN μ 1 nb K W) (x : Int32) : f_X9_isBoy x μ = some (bI (inR x 0 (nI nb - 1)), μ) := by rw [isBoy_eq, h.2.1]
theorem MN_boy {μ : Mem} {nb : Nat} {K W} (h : MN μ nb K W) (x : Int32) : f_X10_isBoy x μ = some (bI (inR x 0 (nI nb - 1)), μ) := by rw [m_isBoy_eq, h.2.1]
theorem c_cells {μ : Mem} {o nb : Nat} {K W} (h : CN μ o nb K W) (b : Int32) : f_X1_cellsOf o b μ = some (setC W b, μ) := by rw [cellsOf_eq, setC_congr b h.2.2.2]
theorem m_cells {μ : Mem} {nb : Nat} {K W} (h : MN μ nb K W) (b : Int32) : f_X10_setOf b μ = some (setC W b, μ) := by rw [setOf_eq, setC_congr b h.2.2.2]
theorem c_worth {μ : Mem} {o nb b : Nat} {K W} (h : CN μ o nb K W) (hb : b < nb) (s : Int32) : f_X1_worthTo o (nI b) s μ = some (wsum (K b) s, μ) := worthTo_eq (by have := h.1; omega) (h.2.2.1 b hb).1 (h.2.2.1 b hb).2 s
theorem m_worth {μ : Mem} {nb b : Nat} {K W} (h : MN μ nb K W) (hb : b < nb) (s : Int32) : f_X10_worthOf (nI b) s μ = some (wsum (K b) s, μ) := worthOf_eq (by have := h.1; omega) (h.2.2.1 b hb).1 (h.2.2.1 b hb).2 s
theorem c_own {μ : Mem} {o nb b : Nat} {K W} (h : CN μ o nb K W) (hb : b < nb) : f_X1_ownWorth o (nI b) μ = some (wsum (K b) (setC W (nI b)), μ) := by rw [f_X1_ownWorth, c_cells h, zbind_eq, c_worth h hb, zbind_eq]
theorem m_own {μ : Mem} {nb b : Nat} {K W} (h : MN μ nb K W) (hb : b < nb) : f_X10_ownWorth (nI b) μ = some (wsum (K b) (setC W (nI b)), μ) := by rw [f_X10_ownWorth, m_cells h, zbind_eq, m_worth h hb, zbind_eq]
theorem bc_set (W : Nat → Int32) (b : Int32) (μ : Mem) : f_J6_bitCount_0f7a4 (setC W b) μ = some (pc12 (setC W b), μ) := by
  obtain ⟨q, hq, e⟩ := setC_lt W b
  rw [e, bitCount_eq hq]
theorem ile (x : Int32) : x ≤ x := Int32.le_refl x
/-- asked and answered, and nothing changed -/
theorem ask {α : Type} {μC μM : Mem} {x y : Option (α × Mem)} (h : Rel μC μM) (r : α) (e1 : x = some (r, μC)) (e2 : y = some (r, μM)) : ∃ (r : α) (μC' μM' : Mem), x = some (r, μC') ∧ y = some (r, μM') ∧ Rel μC' μM' := ⟨r, μC, μM, e1, e2, h⟩
theorem isbad {μC μM : Mem} {x y : Option (Int32 × Mem)} (h : Rel μC μM) (e1 : x = zbind (f_X9_bad μC) (fun r μ => some (r, μ))) (e2 : y = zbind (f_X10_bad μM) (fun r μ => some (r, μ))) : ∃ (r : Int32) (μC' μM' : Mem), x = some (r, μC') ∧ y = some (r, μM') ∧ Rel μC' μM' :=
  ⟨-2, _, _, by rw [e1, bad_eq, zbind_eq], by rw [e2, m_bad_eq, zbind_eq], Rel_bad h⟩
theorem isten {μC μM : Mem} {x y : Option (Int32 × Mem)} (h : Rel μC μM) (e1 : x = zbind (f_X9_otherBad μC) (fun r μ => some (r, μ))) (e2 : y = zbind (f_X10_ten μM) (fun r μ => some (r, μ))) : ∃ (r : Int32) (μC' μM' : Mem), x = some (r, μC') ∧ y = some (r, μM') ∧ Rel μC' μM' :=
  ⟨-10, _, _, by rw [e1, obad_eq, zbind_eq], by rw [e2, m_ten_eq, zbind_eq], Rel_bad h⟩
theorem isno {μC μM : Mem} {x y : Option (Int32 × Mem)} (h : Rel μC μM) (e1 : x = zbind (f_X9_no μC) (fun r μ => some (r, μ))) (e2 : y = zbind (f_X10_no μM) (fun r μ => some (r, μ))) : ∃ (r : Int32) (μC' μM' : Mem), x = some (r, μC') ∧ y = some (r, μM') ∧ Rel μC' μM' :=
  ⟨-3, _, _, by rw [e1, no_eq, zbind_eq], by rw [e2, m_no_eq, zbind_eq], Rel_no h⟩
theorem isfull {μC μM : Mem} {x y : Option (Int32 × Mem)} (h : Rel μC μM) (e1 : x = zbind (f_X9_full μC) (fun r μ => some (r, μ))) (e2 : y = zbind (f_X10_full μM) (fun r μ => some (r, μ))) : ∃ (r : Int32) (μC' μM' : Mem), x = some (r, μC') ∧ y = some (r, μM') ∧ Rel μC' μM' :=
  ⟨-4, _, _, by rw [e1, full_eq, zbind_eq], by rw [e2, m_full_eq, zbind_eq], Rel_full h⟩
theorem bIt : ¬ bI true = 0 := by decide
theorem bIf : bI false = 0 := rfl
