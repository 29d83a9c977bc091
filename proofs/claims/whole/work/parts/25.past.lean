/-! ===== give, swap, sell, undo ===== -/
def shOk (nu sh nu' : Nat) : Prop := (nu < 8 ∧ sh = 0 ∧ nu' = nu + 1) ∨ (nu = 8 ∧ sh = 1 ∧ nu' = 8)
theorem NR_note {C C' M M' : NV} {nb nn nu : Nat} (h : NR C M nb nn nu) {sh nu' : Nat} (hs : shOk nu sh nu') (c : ∀ a k, a ≤ 8 → (a = 0 → k < 2) → C' a k = C a k) (m : ∀ a k, a ≤ 8 → (a = 0 → k < 2) → M' a k = M a k) (c0 : C' 0 2 = nI nu') (m0 : M' 0 2 = nI nu') (cp : ∀ u, u + 1 < nu' → ∀ i, i < 17 → C' 9 (17 * u + i) = C 9 (17 * (u + sh) + i)) (mp : ∀ u, u + 1 < nu' → ∀ i, i < 17 → M' 9 (17 * u + i) = M 9 (17 * (u + sh) + i)) (cw : ∀ j, j < 12 → C' 9 (17 * (nu' - 1) + j) = C 4 j) (mw : ∀ j, j < 12 → M' 9 (17 * (nu' - 1) + j) = M 4 j) (cj : ∀ b, b < 5 → C' 9 (17 * (nu' - 1) + 12 + b) = C 3 b) (mj : ∀ b, b < 5 → M' 9 (17 * (nu' - 1) + 12 + b) = M 3 b) : NR C' M' nb nn nu' := by
  obtain ⟨h1, h2, h3, h4, h5, h6, h7, h8, h9, hB, hW, hN, hU⟩ := h
  unfold shOk at hs
  refine ⟨h1, h2, by omega, by rw [c _ _ (by omega) (by omega)]; exact h4, by rw [m _ _ (by omega) (by omega)]; exact h5, by rw [c _ _ (by omega) (by omega)]; exact h6, by rw [m _ _ (by omega) (by omega)]; exact h7, c0, m0, fun b hb => ?_, fun j hj => ?_, fun k hk => ?_, fun u hu => ⟨fun j hj => ?_, fun b hb => ?_⟩⟩
  · rw [c 1 b (by omega) (by omega), c 2 b (by omega) (by omega), c 3 b (by omega) (by omega), m 1 b (by omega) (by omega), m 2 b (by omega) (by omega), m 3 b (by omega) (by omega)]; exact hB b hb
  · rw [c 4 j (by omega) (by omega), m 4 j (by omega) (by omega)]; exact hW j hj
  · rw [c 5 k (by omega) (by omega), c 6 k (by omega) (by omega), c 7 k (by omega) (by omega), c 8 k (by omega) (by omega), m 5 k (by omega) (by omega), m 6 k (by omega) (by omega), m 7 k (by omega) (by omega), m 8 k (by omega) (by omega)]; exact hN k hk
  · by_cases q : u + 1 = nu'
    · rw [show 17 * u = 17 * (nu' - 1) by omega, cw j hj, mw j hj]
      exact hW j hj
    · rw [cp u (by omega) j (by omega), mp u (by omega) j (by omega)]
      exact (hU (u + sh) (by omega)).1 j hj
  · by_cases q : u + 1 = nu'
    · rw [show 17 * u = 17 * (nu' - 1) by omega, cj b (by omega), mj b (by omega)]
      exact (hB b hb).2.2.2
    · rw [show 17 * u + 12 + b = 17 * u + (12 + b) by omega, cp u (by omega) (12 + b) (by omega), mp u (by omega) (12 + b) (by omega), ← Nat.add_assoc]
      exact (hU (u + sh) (by omega)).2 b hb
theorem NR_WJ {C C' M M' : NV} {nb nn nu : Nat} (h : NR C M nb nn nu) (c : ∀ a k, a ≠ 3 → a ≠ 4 → C' a k = C a k) (m : ∀ a k, a ≠ 3 → a ≠ 4 → M' a k = M a k) (hj : ∀ b, b < nb → M' 3 b = C' 3 b) (hw : ∀ j, j < 12 → M' 4 j = C' 4 j ∧ (C' 4 j = -1 ∨ ∃ b, b < nb ∧ C' 4 j = nI b)) : NR C' M' nb nn nu := by
  obtain ⟨h1, h2, h3, h4, h5, h6, h7, h8, h9, hB, hW, hN, hU⟩ := h
  refine ⟨h1, h2, h3, by rw [c _ _ (by omega) (by omega)]; exact h4, by rw [m _ _ (by omega) (by omega)]; exact h5, by rw [c _ _ (by omega) (by omega)]; exact h6, by rw [m _ _ (by omega) (by omega)]; exact h7, by rw [c _ _ (by omega) (by omega)]; exact h8, by rw [m _ _ (by omega) (by omega)]; exact h9, fun b hb => ?_, hw, fun k hk => ?_, fun u hu => ⟨fun j hj => ?_, fun b hb => ?_⟩⟩
  · rw [c 1 b (by omega) (by omega), c 2 b (by omega) (by omega), m 1 b (by omega) (by omega), m 2 b (by omega) (by omega)]
    exact ⟨(hB b hb).1, (hB b hb).2.1, (hB b hb).2.2.1, hj b hb⟩
  · rw [c 5 k (by omega) (by omega), c 6 k (by omega) (by omega), c 7 k (by omega) (by omega), c 8 k (by omega) (by omega), m 5 k (by omega) (by omega), m 6 k (by omega) (by omega), m 7 k (by omega) (by omega), m 8 k (by omega) (by omega)]; exact hN k hk
  · rw [c 9 _ (by omega) (by omega), m 9 _ (by omega) (by omega)]; exact (hU u hu).1 j hj
  · rw [c 9 _ (by omega) (by omega), m 9 _ (by omega) (by omega)]; exact (hU u hu).2 b hb
theorem nI_m17 (q : Nat) : nI q * 17 = nI (17 * q) := by rw [show (17 : Int32) = nI 17 from rfl, nI_mul, Nat.mul_comm]
theorem nI_17m (q : Nat) : 17 * nI q = nI (17 * q) := by rw [show (17 : Int32) = nI 17 from rfl, nI_mul]
theorem nI_p12 (a : Nat) : nI a + 12 = nI (a + 12) := nI_add a 12
theorem zcp_w {q : Nat} (hq : q < 8) : zcp (0 : Int32) (nI (17 * q)) (12 : Int32) 12 136 = true ∧ zcp (0 : Int32) (nI (17 * q + 12)) (5 : Int32) 5 136 = true ∧ zcp (nI (17 * q)) (0 : Int32) (12 : Int32) 136 12 = true ∧ zcp (nI (17 * q + 12)) (0 : Int32) (5 : Int32) 136 5 = true := by
  have h : ∀ q : Fin 8, zcp (0 : Int32) (nI (17 * q.val)) (12 : Int32) 12 136 = true ∧ zcp (0 : Int32) (nI (17 * q.val + 12)) (5 : Int32) 5 136 = true ∧ zcp (nI (17 * q.val)) (0 : Int32) (12 : Int32) 136 12 = true ∧ zcp (nI (17 * q.val + 12)) (0 : Int32) (5 : Int32) 136 5 = true := by decide +kernel
  exact h ⟨q, hq⟩
theorem cl12 : (12 : Int32).toNatClampNeg = 12 := rfl
theorem cl5 : (5 : Int32).toNatClampNeg = 5 := rfl
theorem cpd (ν : Mem) (p q d n : Nat) : (∀ a, a ≠ p → (zA ν p (va_cpy (ν.1 q) (ν.1 p) 0 d n)).1 a = ν.1 a) ∧ (zA ν p (va_cpy (ν.1 q) (ν.1 p) 0 d n)).2 = ν.2 ∧ ∀ k, (zA ν p (va_cpy (ν.1 q) (ν.1 p) 0 d n)).1 p k = if d ≤ k ∧ k < d + n then ν.1 q (k - d) else ν.1 p k := by
  refine ⟨fun a h => by rw [zA_at, if_neg h], rfl, fun k => ?_⟩
  rw [zA_at, if_pos rfl]
  show (if d ≤ k ∧ k < d + n then ν.1 q (0 + (k - d)) else ν.1 p k) = _
  rw [Nat.zero_add]
theorem cps (ν : Mem) (p q s n : Nat) : (∀ a, a ≠ p → (zA ν p (va_cpy (ν.1 q) (ν.1 p) s 0 n)).1 a = ν.1 a) ∧ (zA ν p (va_cpy (ν.1 q) (ν.1 p) s 0 n)).2 = ν.2 ∧ ∀ k, k < n → (zA ν p (va_cpy (ν.1 q) (ν.1 p) s 0 n)).1 p k = ν.1 q (s + k) := by
  refine ⟨fun a h => by rw [zA_at, if_neg h], rfl, fun k hk => ?_⟩
  rw [zA_at, if_pos rfl]
  show (if 0 ≤ k ∧ k < 0 + n then ν.1 q (s + (k - 0)) else ν.1 p k) = _
  rw [if_pos ⟨Nat.zero_le _, by omega⟩, Nat.sub_zero]
theorem c_rem36 {q : Nat} {μ : Mem} (hq : q < 8) (h9 : μ.1 1 9 = nI q) : ∃ μ', f_X1_remember_36 1 μ = some ((), μ') ∧ (∀ a, a ≠ 1 → a ≠ 7 → μ'.1 a = μ.1 a) ∧ μ'.2 = μ.2 ∧ (∀ k, k ≠ 9 → μ'.1 1 k = μ.1 1 k) ∧ μ'.1 1 9 = nI (q + 1) ∧ (∀ k, k < 17 * q → μ'.1 7 k = μ.1 7 k) ∧ (∀ j, j < 12 → μ'.1 7 (17 * q + j) = μ.1 5 j) ∧ ∀ b, b < 5 → μ'.1 7 (17 * q + 12 + b) = μ.1 4 b := by
  rw [f_X1_remember_36, h9, nI_m17, nI_p12, zck_t (zcp_w hq).1, zlet_eq, nI_clamp (by omega), cl0, cl12]
  obtain ⟨a1, b1, c1⟩ := cpd μ (1 + 6) (1 + 4) (17 * q) 12
  generalize zA μ (1 + 6) _ = μ1 at a1 b1 c1 ⊢
  rw [zck_t (zcp_w hq).2.1, zlet_eq, nI_clamp (by omega), cl5]
  obtain ⟨a2, b2, c2⟩ := cpd μ1 (1 + 6) (1 + 3) (17 * q + 12) 5
  generalize zA μ1 (1 + 6) _ = μ2 at a2 b2 c2 ⊢
  rw [zlet_eq, a2 1 (by decide), a1 1 (by decide), h9, nI_1]
  obtain ⟨a3, b3, c3, d3⟩ := st1 μ2 1 9 (nI (q + 1))
  generalize zI μ2 1 9 (nI (q + 1)) = μ3 at a3 b3 c3 d3 ⊢
  refine ⟨μ3, rfl, fun a h1 h7 => by rw [a3 a h1, a2 a h7, a1 a h7], by rw [b3, b2, b1], fun k hk => by rw [c3 k hk, a2 1 (by decide), a1 1 (by decide)], d3, fun k hk => ?_, fun j hj => ?_, fun b hb => ?_⟩
  · rw [a3 7 (by decide)]
    refine (c2 k).trans ?_
    rw [if_neg (by omega)]
    refine (c1 k).trans ?_
    rw [if_neg (by omega)]
  · rw [a3 7 (by decide)]
    refine (c2 _).trans ?_
    rw [if_neg (by omega)]
    refine (c1 _).trans ?_
    rw [if_pos (by omega), show 17 * q + j - 17 * q = j by omega]
  · rw [a3 7 (by decide)]
    refine (c2 _).trans ?_
    rw [if_pos (by omega), show 17 * q + 12 + b - (17 * q + 12) = b by omega, a1 _ (by decide)]
theorem c_rem {nu : Nat} {μ : Mem} (hu : nu ≤ 8) (h9 : μ.1 1 9 = nI nu) : ∃ μ' sh nu', f_X1_remember 1 μ = some ((), μ') ∧ (∀ a, a ≠ 1 → a ≠ 7 → μ'.1 a = μ.1 a) ∧ μ'.2 = μ.2 ∧ (∀ k, k ≠ 9 → μ'.1 1 k = μ.1 1 k) ∧ shOk nu sh nu' ∧ μ'.1 1 9 = nI nu' ∧ (∀ u, u + 1 < nu' → ∀ i, i < 17 → μ'.1 7 (17 * u + i) = μ.1 7 (17 * (u + sh) + i)) ∧ (∀ j, j < 12 → μ'.1 7 (17 * (nu' - 1) + j) = μ.1 5 j) ∧ ∀ b, b < 5 → μ'.1 7 (17 * (nu' - 1) + 12 + b) = μ.1 4 b := by
  rw [f_X1_remember, h9]
  by_cases hn : nu = 8
  · subst hn
    rw [if_neg (by decide), zlet_eq]
    obtain ⟨a1, b1, c1, d1⟩ := st1 μ 1 9 7
    generalize zI μ 1 9 7 = μ1 at a1 b1 c1 d1 ⊢
    rw [d1, show (7 : Int32) * 17 = nI 119 from rfl, zck_t (by decide +kernel), zlet_eq, nI_clamp (by omega), cl0, show (17 : Int32).toNatClampNeg = 17 from rfl]
    obtain ⟨a2, b2, c2⟩ := cps μ1 (1 + 6) (1 + 6) 17 119
    generalize zA μ1 (1 + 6) _ = μ2 at a2 b2 c2 ⊢
    obtain ⟨μ3, e1, e2, e3, e4, e5, e6, e7, e8⟩ := c_rem36 (q := 7) (μ := μ2) (by decide) (by rw [a2 1 (by decide), d1]; rfl)
    refine ⟨μ3, 1, 8, e1, fun a h1 h7 => by rw [e2 a h1 h7, a2 a h7, a1 a h1], by rw [e3, b2, b1], fun k hk => by rw [e4 k hk, a2 1 (by decide), c1 k hk], Or.inr ⟨rfl, rfl, rfl⟩, e5, fun u hu i hi => ?_, fun j hj => ?_, fun b hb => ?_⟩
    · rw [e6 _ (by omega)]
      refine (c2 _ (by omega)).trans ?_
      rw [a1 (1 + 6) (by decide)]
      exact congrArg (μ.1 7) (show 17 + (17 * u + i) = 17 * (u + 1) + i by omega)
    · refine (e7 j hj).trans ?_
      rw [a2 5 (by decide), a1 5 (by decide)]
    · refine (e8 b hb).trans ?_
      rw [a2 4 (by decide), a1 4 (by decide)]
  · rw [if_pos (show nI nu < 8 from nI_lt (b := 8) (by omega) (by decide))]
    obtain ⟨μ3, e1, e2, e3, e4, e5, e6, e7, e8⟩ := c_rem36 (q := nu) (μ := μ) (by omega) h9
    exact ⟨μ3, 0, nu + 1, e1, e2, e3, e4, Or.inl ⟨by omega, rfl, rfl⟩, e5, fun u hu i hi => e6 _ (by omega), e7, e8⟩
theorem m_notes58 {q : Nat} {μ : Mem} (hq : q < 8) (h9 : μ.1 0 19 = nI q) : ∃ μ', f_X10_notes_58 zFU (nI (17 * q)) 0 μ = some ((), μ') ∧ (∀ a, a ≠ 0 → a ≠ 13 → μ'.1 a = μ.1 a) ∧ μ'.2 = μ.2 ∧ (∀ k, k ≠ 19 → μ'.1 0 k = μ.1 0 k) ∧ μ'.1 0 19 = nI (q + 1) ∧ (∀ k, k < 17 * q → μ'.1 13 k = μ.1 13 k) ∧ (∀ j, j < 12 → μ'.1 13 (17 * q + j) = μ.1 5 j) ∧ ∀ b, b < 5 → μ'.1 13 (17 * q + 12 + b) = μ.1 4 b := by
  have e := loop0 (fun n (ν : Mem) c => f_X10_notes_58 n (nI (17 * q)) c ν) (fun j ν => zI ν 13 (17 * q + j) (ν.1 5 j)) 12 (by decide) (fun ν => f_X10_notes_86 zFU (nI (17 * q)) 0 ν) (fun n ν => by
    show f_X10_notes_58 (n + 1) _ (nI 12) ν = _
    rw [f_X10_notes_58, if_pos (by decide)]) (fun n j ν hj => by
    show f_X10_notes_58 (n + 1) _ (nI j) ν = f_X10_notes_58 n _ (nI (j + 1)) _
    rw [f_X10_notes_58, if_neg (lt12 hj), nI_add, zck_t (zin_nI hj (by decide)), zck_t (zin_nI (by omega) (by decide)), zlet_eq, nI_clamp (by omega), nI_clamp (by omega), nI_1]) μ
  obtain ⟨a1, b1, c1, d1⟩ := cpy_iter 13 5 (fun j => 17 * q + j) (fun j => j) (by decide) (fun _ _ h => by omega) 12 μ
  generalize iter (fun j ν => zI ν 13 (17 * q + j) (ν.1 5 j)) 0 12 μ = μ1 at e a1 b1 c1 d1
  have e2 := loop0 (fun n (ν : Mem) c => f_X10_notes_86 n (nI (17 * q)) c ν) (fun j ν => zI ν 13 (17 * q + 12 + j) (ν.1 4 j)) 5 (by decide) (fun ν => some ((), zI ν 0 19 (ν.1 0 19 + 1))) (fun n ν => by
    show f_X10_notes_86 (n + 1) _ (nI 5) ν = _
    rw [f_X10_notes_86, if_pos (by decide), zlet_eq]) (fun n j ν hj => by
    show f_X10_notes_86 (n + 1) _ (nI j) ν = f_X10_notes_86 n _ (nI (j + 1)) _
    rw [f_X10_notes_86, if_neg (lt5 hj), nI_p12, nI_add, zck_t (zin_nI hj (by decide)), zck_t (zin_nI (by omega) (by decide)), zlet_eq, nI_clamp (by omega), nI_clamp (by omega), nI_1]) μ1
  obtain ⟨a2, b2, c2, d2⟩ := cpy_iter 13 4 (fun j => 17 * q + 12 + j) (fun j => j) (by decide) (fun _ _ h => by omega) 5 μ1
  generalize iter (fun j ν => zI ν 13 (17 * q + 12 + j) (ν.1 4 j)) 0 5 μ1 = μ2 at e2 a2 b2 c2 d2
  have h19 : μ2.1 0 19 = nI q := by rw [a2 0 (by decide), a1 0 (by decide), h9]
  rw [nI_0] at e e2
  rw [h19, nI_1] at e2
  obtain ⟨a3, b3, c3, d3⟩ := st1 μ2 0 19 (nI (q + 1))
  generalize zI μ2 0 19 (nI (q + 1)) = μ3 at e2 a3 b3 c3 d3
  refine ⟨μ3, e.trans e2, fun a h0 h13 => by rw [a3 a h0, a2 a h13, a1 a h13], by rw [b3, b2, b1], fun k hk => by rw [c3 k hk, a2 0 (by decide), a1 0 (by decide)], d3, fun k hk => ?_, fun j hj => ?_, fun b hb => ?_⟩
  · rw [a3 13 (by decide), d2 k (fun j hj => by omega), d1 k (fun j hj => by omega)]
  · rw [a3 13 (by decide), d2 _ (fun i hi => by omega)]
    exact c1 j hj
  · rw [a3 13 (by decide)]
    refine (c2 b hb).trans ?_
    rw [a1 4 (by decide)]
theorem m_rem {nu : Nat} {μ : Mem} (hu : nu ≤ 8) (h9 : μ.1 0 19 = nI nu) : ∃ μ' sh nu', f_X10_notes μ = some ((), μ') ∧ (∀ a, a ≠ 0 → a ≠ 13 → μ'.1 a = μ.1 a) ∧ μ'.2 = μ.2 ∧ (∀ k, k ≠ 19 → μ'.1 0 k = μ.1 0 k) ∧ shOk nu sh nu' ∧ μ'.1 0 19 = nI nu' ∧ (∀ u, u + 1 < nu' → ∀ i, i < 17 → μ'.1 13 (17 * u + i) = μ.1 13 (17 * (u + sh) + i)) ∧ (∀ j, j < 12 → μ'.1 13 (17 * (nu' - 1) + j) = μ.1 5 j) ∧ ∀ b, b < 5 → μ'.1 13 (17 * (nu' - 1) + 12 + b) = μ.1 4 b := by
  rw [f_X10_notes, h9]
  by_cases hn : nu = 8
  · subst hn
    rw [if_pos (by decide)]
    obtain ⟨e, a1, b1, c1, -⟩ := loopI (fun n (ν : Mem) c => f_X10_notes_11 n c ν) (fun j ν => zI ν 13 j (ν.1 13 (j + 17))) 119 (fun ν => f_X10_notes_58 zFU (17 * (zI ν 0 19 (ν.1 0 19 - 1)).1 0 19) 0 (zI ν 0 19 (ν.1 0 19 - 1))) (fun i (ν : Mem) => (∀ a, a ≠ 13 → ν.1 a = μ.1 a) ∧ ν.2 = μ.2 ∧ (∀ k, k < i → ν.1 13 k = μ.1 13 (k + 17)) ∧ ∀ k, i ≤ k → ν.1 13 k = μ.1 13 k) (fun n ν _ => by
      show f_X10_notes_11 (n + 1) (nI 119) ν = _
      rw [f_X10_notes_11, if_pos (by decide), zlet_eq]) (fun n j ν hj hν => by
      refine ⟨?_, ?_⟩
      · show f_X10_notes_11 (n + 1) (nI j) ν = f_X10_notes_11 n (nI (j + 1)) _
        rw [f_X10_notes_11, if_neg (show ¬ (119 : Int32) ≤ nI j from nI_ge (b := 119) hj (by decide)), show nI j + 17 = nI (j + 17) from nI_add j 17, zck_t (zin_nI (by omega) (by decide)), zck_t (zin_nI (by omega) (by decide)), zlet_eq, nI_clamp (by omega), nI_clamp (by omega), nI_1]
      · obtain ⟨h1, h2, h3, h4⟩ := hν
        obtain ⟨e1, e2, e3, e4⟩ := st1 ν 13 j (ν.1 13 (j + 17))
        refine ⟨fun a ha => (e1 a ha).trans (h1 a ha), e2.trans h2, fun k hk => ?_, fun k hk => (e3 k (by omega)).trans (h4 k (by omega))⟩
        by_cases q : k = j
        · subst q
          exact e4.trans (h4 (k + 17) (by omega))
        · exact (e3 k q).trans (h3 k (by omega))) 119 0 zFU μ rfl (zFU_lt (by decide)) ⟨fun _ _ => rfl, rfl, fun k hk => absurd hk (Nat.not_lt_zero _), fun _ _ => rfl⟩
    generalize iter (fun j ν => zI ν 13 j (ν.1 13 (j + 17))) 0 119 μ = μ1 at e a1 b1 c1
    rw [nI_0, a1 0 (by decide), h9, show nI 8 - 1 = nI 7 from by decide] at e
    obtain ⟨a2, b2, c2, d2⟩ := st1 μ1 0 19 (nI 7)
    generalize zI μ1 0 19 (nI 7) = μ2 at e a2 b2 c2 d2
    rw [d2, nI_17m] at e
    obtain ⟨μ3, e1, e2, e3, e4, e5, e6, e7, e8⟩ := m_notes58 (q := 7) (μ := μ2) (by decide) d2
    refine ⟨μ3, 1, 8, e.trans e1, fun a h0 h13 => by rw [e2 a h0 h13, a2 a h0, a1 a h13], by rw [e3, b2, b1], fun k hk => by rw [e4 k hk, c2 k hk, a1 0 (by decide)], Or.inr ⟨rfl, rfl, rfl⟩, e5, fun u hu i hi => ?_, fun j hj => ?_, fun b hb => ?_⟩
    · rw [e6 _ (by omega), a2 13 (by decide), c1 _ (by omega)]
      exact congrArg (μ.1 13) (by omega)
    · refine (e7 j hj).trans ?_
      rw [a2 5 (by decide), a1 5 (by decide)]
    · refine (e8 b hb).trans ?_
      rw [a2 4 (by decide), a1 4 (by decide)]
  · rw [if_neg (show ¬ nI nu = 8 from nIne (b := 8) hn (by omega) (by decide)), nI_17m]
    obtain ⟨μ3, e1, e2, e3, e4, e5, e6, e7, e8⟩ := m_notes58 (q := nu) (μ := μ) (by omega) h9
    exact ⟨μ3, 0, nu + 1, e1, e2, e3, e4, Or.inl ⟨by omega, rfl, rfl⟩, e5, fun u hu i hi => e6 _ (by omega), e7, e8⟩
/-- both have noted the state: what they then have -/
theorem both_note {μC μM : Mem} {nb nn nu : Nat} (hNR : NR (cv μC 1) (mv μM) nb nn nu) : ∃ μ ν nu', f_X1_remember 1 μC = some ((), μ) ∧ f_X10_notes μM = some ((), ν) ∧ NR (cv μ 1) (mv ν) nb nn nu' ∧ (∀ a, a ≠ 1 → a ≠ 7 → μ.1 a = μC.1 a) ∧ μ.2 = μC.2 ∧ (∀ a, a ≠ 0 → a ≠ 13 → ν.1 a = μM.1 a) ∧ ν.2 = μM.2 ∧ (∀ k, k ≠ 9 → μ.1 1 k = μC.1 1 k) ∧ ∀ k, k ≠ 19 → ν.1 0 k = μM.1 0 k := by
  obtain ⟨h1, h2, h3, e4, e5, e6, e7, e8, e9, hB, hW, hN, hU⟩ := id hNR
  obtain ⟨μ, sh, nu', c1, c2, c3, c4, c5, c6, c7, c8, c9⟩ := c_rem h3 e8
  obtain ⟨ν, sh2, nu2, m1, m2, m3, m4, m5, m6, m7, m8, m9⟩ := m_rem h3 e9
  obtain ⟨rfl, rfl⟩ : sh2 = sh ∧ nu2 = nu' := by unfold shOk at c5 m5; omega
  refine ⟨μ, ν, nu2, c1, m1, NR_note hNR c5 (fun a k ha hk => ?_) (fun a k ha hk => ?_) c6 m6 c7 m7 c8 m8 c9 m9, c2, c3, m2, m3, c4, m4⟩
  · unfold cv
    by_cases q : a = 0
    · rw [if_pos q, if_pos q]; exact c4 _ (by have := hk q; omega)
    · rw [if_neg q, if_neg q]
      by_cases q4 : a ≤ 4
      · rw [if_pos q4, if_pos q4, c2 (1 + a) (by omega) (by omega)]
      · rw [if_neg q4, if_neg q4, if_pos ha, if_pos ha, c2 (1 + 5) (by omega) (by omega)]
  · unfold mv
    by_cases q : a = 0
    · rw [if_pos q, if_pos q]
      have := hk q
      rcases (show k = 0 ∨ k = 1 by omega) with rfl | rfl
      · exact m4 1 (by decide)
      · exact m4 2 (by decide)
    · rw [if_neg q, if_neg q, if_pos ha, if_pos ha, m2 (a + 1) (by omega) (by omega)]
theorem cv_ne {μ μ' : Mem} (h : ∀ a, a ≠ 4 → a ≠ 5 → μ'.1 a = μ.1 a) (a k : Nat) (h3 : a ≠ 3) (h4 : a ≠ 4) : cv μ' 1 a k = cv μ 1 a k := by
  unfold cv
  by_cases q : a = 0
  · rw [if_pos q, if_pos q, h 1 (by decide) (by decide)]
  · rw [if_neg q, if_neg q]
    by_cases q4 : a ≤ 4
    · rw [if_pos q4, if_pos q4, h (1 + a) (by omega) (by omega)]
    · rw [if_neg q4, if_neg q4, h (1 + 5) (by omega) (by omega), h (1 + 6) (by omega) (by omega)]
theorem mv_ne {μ μ' : Mem} (h : ∀ a, a ≠ 4 → a ≠ 5 → μ'.1 a = μ.1 a) (a k : Nat) (h3 : a ≠ 3) (h4 : a ≠ 4) : mv μ' a k = mv μ a k := by
  unfold mv
  by_cases q : a = 0
  · rw [if_pos q, if_pos q, h 0 (by decide) (by decide)]
  · rw [if_neg q, if_neg q]
    by_cases q8 : a ≤ 8
    · rw [if_pos q8, if_pos q8, h (a + 1) (by omega) (by omega)]
    · rw [if_neg q8, if_neg q8, h 13 (by omega) (by omega)]
/-- noted, and then owners and jam changed alike -/
theorem Rel_after {μC μM μ ν μ' ν' : Mem} {nb nn nu : Nat} (h : Rel μC μM) (hNR : NR (cv μ 1) (mv ν) nb nn nu) (c : ∀ a, a ≠ 1 → a ≠ 7 → μ.1 a = μC.1 a) (c2 : μ.2 = μC.2) (m : ∀ a, a ≠ 0 → a ≠ 13 → ν.1 a = μM.1 a) (m2 : ν.2 = μM.2) (m0 : ∀ k, k ≠ 19 → ν.1 0 k = μM.1 0 k) (c' : ∀ a, a ≠ 4 → a ≠ 5 → μ'.1 a = μ.1 a) (c2' : μ'.2 = μ.2) (m' : ∀ a, a ≠ 4 → a ≠ 5 → ν'.1 a = ν.1 a) (m2' : ν'.2 = ν.2) (hj : ∀ b, b < nb → ν'.1 4 b = μ'.1 4 b) (hw : ∀ j, j < 12 → ν'.1 5 j = μ'.1 5 j ∧ (μ'.1 5 j = -1 ∨ ∃ b, b < nb ∧ μ'.1 5 j = nI b)) : Rel μ' ν' := by
  refine Rel_night h ⟨nb, nn, nu, NR_WJ hNR (cv_ne c') (mv_ne m') hj hw⟩ (fun a ha => by rw [c' a (by omega) (by omega), c a (by omega) (by omega)]) (by rw [c2', c2]) (fun a ha => by rw [m' a (by omega) (by omega), m a (by omega) (by omega)]) (by rw [m' 0 (by omega) (by omega), m0 12 (by decide)]) (by rw [m2', m2])
theorem give25 {μC μM : Mem} {j : Nat} {v : Int32} (h : Rel μC μM) (hj : j < 12) (hv : ∀ nb, μC.1 1 7 = nI nb → nb ≤ 5 → v = -1 ∨ ∃ b, b < nb ∧ v = nI b) : ∃ (r : Int32) (μC' μM' : Mem), f_X9_give_25 (nI j) v μC = some (r, μC') ∧ f_X10_give_25 (nI j) v μM = some (r, μM') ∧ Rel μC' μM' := by
  obtain ⟨nb, nn, nu, K, W, hNR, hC, hM, hO, hJ, -⟩ := Rel_q h
  have hv := hv nb hC.2.1 hC.1
  obtain ⟨μ, ν, nu', c1, m1, n1, c2, c3, m2, m3, c4, m4⟩ := both_note hNR
  rw [f_X9_give_25, zck_t (zin_nI hj (by decide)), c1, zbind_eq, zck_t (zin_nI hj (by decide)), zlet_eq, f_X10_give_25, m1, zbind_eq, zck_t (zin_nI hj (by decide)), zck_t (zin_nI hj (by decide)), zlet_eq, nI_clamp (by omega), hC.2.2.2 j hj, m2 5 (by decide) (by decide), hM.2.2.2 j hj]
  obtain ⟨x1, x2, x3, x4⟩ := st1 μ (1 + 4) j v
  generalize zI μ (1 + 4) j v = μ' at x1 x2 x3 x4 ⊢
  obtain ⟨y1, y2, y3, y4⟩ := st1 ν 5 j v
  generalize zI ν 5 j v = ν' at y1 y2 y3 y4 ⊢
  refine ⟨_, μ', ν', rfl, rfl, Rel_after h n1 c2 c3 m2 m3 m4 (fun a h4 h5 => x1 a h5) x2 (fun a h4 h5 => y1 a h5) y2 (fun b hb => ?_) (fun k hk => ?_)⟩
  · rw [x1 4 (by decide), y1 4 (by decide), c2 4 (by decide) (by decide), m2 4 (by decide) (by decide)]
    exact (hJ b hb).2
  · have x3 : ∀ k, k ≠ j → μ'.1 5 k = μ.1 5 k := x3
    have x4 : μ'.1 5 j = v := x4
    by_cases q : k = j
    · subst q
      rw [x4, y4]
      exact ⟨rfl, hv⟩
    · rw [x3 k q, y3 k q, c2 5 (by decide) (by decide), m2 5 (by decide) (by decide), hM.2.2.2 k hk, show μC.1 5 k = W k from hC.2.2.2 k hk]
      exact ⟨rfl, hO k hk⟩
theorem Sp_give_ok : Sp_give Rel := by
  intro μC μM a1 a2 h
  obtain ⟨nb, nn, nu, K, W, hNR, hC, hM, hO, hJ, -⟩ := Rel_q h
  have h5 := hC.1
  rw [f_X9_give, isCell_eq, zbind_eq, f_X10_give, m_isCell_eq, zbind_eq]
  cases hq : inR a1 0 11
  · exact isten h (if_pos rfl) (if_pos rfl)
  · obtain ⟨j, hj, rfl⟩ := inR_nI (m := 11) (by decide) hq
    rw [if_neg bIt, if_neg bIt]
    by_cases e : a2 = -1
    · rw [if_pos e, if_pos e]
      exact give25 h (by omega) (fun _ _ _ => Or.inl e)
    · rw [if_neg e, if_neg e, CN_boy hC, zbind_eq, MN_boy hM, zbind_eq]
      cases hq2 : inR a2 0 (nI nb - 1)
      · exact isten h (if_pos rfl) (if_pos rfl)
      · obtain ⟨b, hb, rfl⟩ := inR_boy (by omega) hq2
        rw [if_neg bIt, if_neg bIt]
        refine give25 h (by omega) (fun nb' e1 e2 => Or.inr ⟨b, ?_, rfl⟩)
        rw [hC.2.1] at e1
        have := (nI_eq (show nb < 2 ^ 31 by omega) (show nb' < 2 ^ 31 by omega)).mp e1
        omega
theorem Sp_swap_ok : Sp_swap Rel := by
  intro μC μM a1 a2 h
  obtain ⟨nb, nn, nu, K, W, hNR, hC, hM, hO, hJ, -⟩ := Rel_q h
  have h5 := hC.1
  rw [f_X9_swap, isCell_eq, zbind_eq, f_X10_swap, m_isCell_eq, zbind_eq]
  cases hq : inR a1 0 11
  · exact isbad h (if_pos rfl) (if_pos rfl)
  obtain ⟨i, hi, rfl⟩ := inR_nI (m := 11) (by decide) hq
  rw [if_neg bIt, if_neg bIt, isCell_eq, zbind_eq, m_isCell_eq, zbind_eq]
  cases hq2 : inR a2 0 11
  · exact isbad h (if_pos rfl) (if_pos rfl)
  obtain ⟨j, hj, rfl⟩ := inR_nI (m := 11) (by decide) hq2
  rw [if_neg bIt, if_neg bIt]
  by_cases e : nI i = nI j
  · exact isbad h (if_pos e) (if_pos e)
  have hi : i < 12 := by omega
  have hj : j < 12 := by omega
  rw [if_neg e, if_neg e, f_X1_ofUnlikeBoys, zck_t (zin_nI hi (by decide)), zck_t (zin_nI hj (by decide)), zck_t (zin_nI hi (by decide)), zck_t (zin_nI hj (by decide)), zck_t (zin_nI hi (by decide)), zck_t (zin_nI hj (by decide)), zck_t (zin_nI hi (by decide)), zck_t (zin_nI hj (by decide)), nI_clamp (by omega), nI_clamp (by omega), hC.2.2.2 i hi, hC.2.2.2 j hj, hM.2.2.2 i hi, hM.2.2.2 j hj]
  by_cases q1 : W i = -1
  · rw [if_pos q1, if_pos q1, zbind_eq, if_pos rfl]; exact isno h rfl rfl
  rw [if_neg q1, if_neg q1]
  by_cases q2 : W j = -1
  · rw [if_pos q2, if_pos q2, zbind_eq, if_pos rfl]; exact isno h rfl rfl
  rw [if_neg q2, if_neg q2]
  by_cases q3 : W i = W j
  · rw [if_pos q3, if_pos q3, zbind_eq, if_pos rfl]; exact isno h rfl rfl
  obtain ⟨μ, ν, nu', c1, m1, n1, c2, c3, m2, m3, c4, m4⟩ := both_note hNR
  have hC' : CN μ 1 nb K W := ⟨hC.1, (c4 7 (by decide)).trans hC.2.1, fun b hb => by rw [c2 (1 + 1) (by decide) (by decide)]; exact hC.2.2.1 b hb, fun k hk => by rw [c2 (1 + 4) (by decide) (by decide)]; exact hC.2.2.2 k hk⟩
  have hM' : MN ν nb K W := ⟨hM.1, (m4 1 (by decide)).trans hM.2.1, fun b hb => by rw [m2 2 (by decide) (by decide)]; exact hM.2.2.1 b hb, fun k hk => by rw [m2 5 (by decide) (by decide)]; exact hM.2.2.2 k hk⟩
  obtain ⟨μ', x1, x2, x3, x4⟩ := c_chg hC' hi hj
  obtain ⟨ν', y1, y2, y3, y4⟩ := m_chg hM' hi hj
  rw [if_neg q3, if_neg q3, zbind_eq, if_neg (by decide), c1, zbind_eq, x1, zbind_eq, m1, zbind_eq, y1, zbind_eq]
  refine ⟨_, μ', ν', rfl, rfl, Rel_after h n1 c2 c3 m2 m3 m4 (fun a h4 h5 => x3 a h5) x4 (fun a h4 h5 => y3 a h5) y4 (fun b hb => ?_) (fun k hk => ?_)⟩
  · rw [x3 4 (by decide), y3 4 (by decide), c2 4 (by decide) (by decide), m2 4 (by decide) (by decide)]
    exact (hJ b hb).2
  · rw [y2.2.2.2 k hk, show μ'.1 5 k = _ from x2.2.2.2 k hk]
    exact ⟨rfl, OW_swp hO hi hj k hk⟩
theorem Sp_undo_ok : Sp_undo Rel := by
  intro μC μM h
  obtain ⟨nb, nn, nu, K, W, hNR, hC, hM, hO, hJ, -⟩ := Rel_q h
  obtain ⟨h1, h2, h3, e4, e5, e6, e7, e8, e9, hB, hW, hN, hU⟩ := id hNR
  have e8 : μC.1 1 9 = nI nu := e8
  have e9 : μM.1 0 19 = nI nu := e9
  rw [f_X9_undo, f_X10_undo, e8, e9]
  rcases Nat.eq_zero_or_pos nu with rfl | hp
  · rw [if_neg (by decide), if_pos (by decide)]
    exact isno h rfl rfl
  · obtain ⟨q, rfl⟩ : ∃ q, nu = q + 1 := ⟨nu - 1, by omega⟩
    have hq : q < 8 := by omega
    have hpos : (0 : Int32) < nI (q + 1) := nI_lt (a := 0) (by omega) (by omega)
    rw [if_pos hpos, if_neg (nI_ne0 (by omega) (by omega)), f_X1_goBack, e8, if_pos hpos, zlet_eq, nI_pred, zlet_eq]
    obtain ⟨a1, b1, c1, d1⟩ := st1 μC 1 9 (nI q)
    generalize zI μC 1 9 (nI q) = μ1 at a1 b1 c1 d1 ⊢
    rw [d1, nI_m17, nI_p12, zck_t (zcp_w hq).2.2.1, zlet_eq, nI_clamp (by omega), cl0, cl12]
    obtain ⟨a2, b2, c2⟩ := cps μ1 (1 + 4) (1 + 6) (17 * q) 12
    generalize zA μ1 (1 + 4) _ = μ2 at a2 b2 c2 ⊢
    rw [zck_t (zcp_w hq).2.2.2, zlet_eq, nI_clamp (by omega), cl5]
    obtain ⟨a3, b3, c3⟩ := cps μ2 (1 + 3) (1 + 6) (17 * q + 12) 5
    generalize zA μ2 (1 + 3) _ = μ3 at a3 b3 c3 ⊢
    rw [zbind_eq]
    obtain ⟨x1, x2, x3, x4⟩ := st1 μM 0 19 (nI q)
    generalize zI μM 0 19 (nI q) = ν1 at x1 x2 x3 x4 ⊢
    rw [x4, nI_17m]
    have e := loop0 (fun n (ν : Mem) c => f_X10_undo_32 n (nI (17 * q)) c ν) (fun j ν => zI ν 5 j (ν.1 13 (17 * q + j))) 12 (by decide) (fun ν => f_X10_undo_60 zFU (nI (17 * q)) 0 ν) (fun n ν => by
      show f_X10_undo_32 (n + 1) _ (nI 12) ν = _
      rw [f_X10_undo_32, if_pos (by decide)]) (fun n j ν hj => by
      show f_X10_undo_32 (n + 1) _ (nI j) ν = f_X10_undo_32 n _ (nI (j + 1)) _
      rw [f_X10_undo_32, if_neg (lt12 hj), nI_add, zck_t (zin_nI (by omega) (by decide)), zck_t (zin_nI hj (by decide)), zlet_eq, nI_clamp (by omega), nI_clamp (by omega), nI_1]) ν1
    obtain ⟨y1, y2, y3, -⟩ := cpy_iter 5 13 (fun j => j) (fun j => 17 * q + j) (by decide) (fun _ _ h => h) 12 ν1
    generalize iter (fun j ν => zI ν 5 j (ν.1 13 (17 * q + j))) 0 12 ν1 = ν2 at e y1 y2 y3
    have e2 := loop0 (fun n (ν : Mem) c => f_X10_undo_60 n (nI (17 * q)) c ν) (fun j ν => zI ν 4 j (ν.1 13 (17 * q + 12 + j))) 5 (by decide) (fun ν => zbind (f_X10_greyMany ν) (fun r2 μ1 => some (r2, μ1))) (fun n ν => by
      show f_X10_undo_60 (n + 1) _ (nI 5) ν = _
      rw [f_X10_undo_60, if_pos (by decide)]) (fun n j ν hj => by
      show f_X10_undo_60 (n + 1) _ (nI j) ν = f_X10_undo_60 n _ (nI (j + 1)) _
      rw [f_X10_undo_60, if_neg (lt5 hj), nI_p12, nI_add, zck_t (zin_nI (by omega) (by decide)), zck_t (zin_nI hj (by decide)), zlet_eq, nI_clamp (by omega), nI_clamp (by omega), nI_1]) ν2
    obtain ⟨z1, z2, z3, -⟩ := cpy_iter 4 13 (fun j => j) (fun j => 17 * q + 12 + j) (by decide) (fun _ _ h => h) 5 ν2
    generalize iter (fun j ν => zI ν 4 j (ν.1 13 (17 * q + 12 + j))) 0 5 ν2 = ν3 at e2 z1 z2 z3
    rw [nI_0] at e e2
    rw [e, e2]
    have gc : ∀ a, a ≠ 1 → a ≠ 4 → a ≠ 5 → μ3.1 a = μC.1 a := fun a h1 h4 h5 => by rw [a3 a h4, a2 a h5, a1 a h1]
    have gc1 : ∀ k, k ≠ 9 → μ3.1 1 k = μC.1 1 k := fun k hk => by rw [a3 1 (by decide), a2 1 (by decide), c1 k hk]
    have gm : ∀ a, a ≠ 0 → a ≠ 4 → a ≠ 5 → ν3.1 a = μM.1 a := fun a h1 h4 h5 => by rw [z1 a h4, y1 a h5, x1 a h1]
    have gm0 : ∀ k, k ≠ 19 → ν3.1 0 k = μM.1 0 k := fun k hk => by rw [z1 0 (by decide), y1 0 (by decide), x3 k hk]
    have gW : ∀ j, j < 12 → μ3.1 5 j = μC.1 7 (17 * q + j) := fun j hj => by
      rw [a3 5 (by decide)]
      refine (c2 j hj).trans ?_
      rw [a1 _ (by decide)]
    have gJ : ∀ b, b < 5 → μ3.1 4 b = μC.1 7 (17 * q + 12 + b) := fun b hb => by
      refine (c3 b hb).trans ?_
      rw [a2 _ (by decide), a1 _ (by decide)]
    have mW : ∀ j, j < 12 → ν3.1 5 j = μM.1 13 (17 * q + j) := fun j hj => by
      rw [z1 5 (by decide)]
      refine (y3 j hj).trans ?_
      rw [x1 _ (by decide)]
    have mJ : ∀ b, b < 5 → ν3.1 4 b = μM.1 13 (17 * q + 12 + b) := fun b hb => by
      refine (z3 b hb).trans ?_
      rw [y1 _ (by decide), x1 _ (by decide)]
    have hR : Rel μ3 ν3 := by
      refine Rel_night h ⟨nb, nn, q, h1, h2, by omega, (gc1 7 (by decide)).trans e4, (gm0 1 (by decide)).trans e5, (gc1 8 (by decide)).trans e6, (gm0 2 (by decide)).trans e7, ?_, ?_, fun b hb => ?_, fun j hj => ?_, fun k hk => ?_, fun u hu => ?_⟩ (fun a ha => gc a (by omega) (by omega) (by omega)) (by rw [b3, b2, b1]) (fun a ha => gm a (by omega) (by omega) (by omega)) (gm0 12 (by decide)) (by rw [z2, y2, x2])
      · show μ3.1 1 9 = nI q
        rw [a3 1 (by decide), a2 1 (by decide), d1]
      · show ν3.1 0 19 = nI q
        rw [z1 0 (by decide), y1 0 (by decide), x4]
      · show (∃ k, k < 6 ∧ μ3.1 2 b = nI k) ∧ ν3.1 2 b = μ3.1 2 b ∧ ν3.1 3 b = μ3.1 3 b ∧ ν3.1 4 b = μ3.1 4 b
        rw [gc 2 (by decide) (by decide) (by decide), gc 3 (by decide) (by decide) (by decide), gm 2 (by decide) (by decide) (by decide), gm 3 (by decide) (by decide) (by decide), gJ b (by omega), mJ b (by omega)]
        exact ⟨(hB b hb).1, (hB b hb).2.1, (hB b hb).2.2.1, (hU q (by omega)).2 b hb⟩
      · show ν3.1 5 j = μ3.1 5 j ∧ (μ3.1 5 j = -1 ∨ ∃ b, b < nb ∧ μ3.1 5 j = nI b)
        rw [gW j hj, mW j hj]
        exact (hU q (by omega)).1 j hj
      · show ν3.1 6 k = μ3.1 6 (4 * k + 0) ∧ ν3.1 7 k = μ3.1 6 (4 * k + 1) ∧ ν3.1 8 k = μ3.1 6 (4 * k + 2) ∧ ν3.1 9 k = μ3.1 6 (4 * k + 3)
        rw [gc 6 (by decide) (by decide) (by decide), gm 6 (by decide) (by decide) (by decide), gm 7 (by decide) (by decide) (by decide), gm 8 (by decide) (by decide) (by decide), gm 9 (by decide) (by decide) (by decide)]
        exact hN k hk
      · show (∀ j, j < 12 → ν3.1 13 (17 * u + j) = μ3.1 7 (17 * u + j) ∧ (μ3.1 7 (17 * u + j) = -1 ∨ ∃ b, b < nb ∧ μ3.1 7 (17 * u + j) = nI b)) ∧ ∀ b, b < nb → ν3.1 13 (17 * u + 12 + b) = μ3.1 7 (17 * u + 12 + b)
        rw [gc 7 (by decide) (by decide) (by decide), gm 13 (by decide) (by decide) (by decide)]
        exact hU u (by omega)
    obtain ⟨nb', nn', nu', K', W', -, hC', hM', -⟩ := Rel_q hR
    rw [c_grey hC', zbind_eq, m_grey hM', zbind_eq]
    exact ⟨_, μ3, ν3, rfl, rfl, hR⟩
