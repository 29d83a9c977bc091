/-! ===== from ===== -/
theorem m_fr5 {B : Nat} (hB : B ≤ 192) (μ : Mem) : ∃ μ', f_X10_from_70 zFU (nI B) 0 μ = f_X10_from_133 zFU (nI B) 0 μ' ∧ (∀ a, a ≠ 2 → a ≠ 3 → a ≠ 4 → μ'.1 a = μ.1 a) ∧ μ'.2 = μ.2 ∧ ∀ j, j < 5 → μ'.1 2 j = μ.1 17 (B + 3 + j) ∧ μ'.1 3 j = μ.1 17 (B + 8 + j) ∧ μ'.1 4 j = μ.1 17 (B + 13 + j) := by
  have hS : ∀ (n j : Nat) (ν : Mem), j < 5 → ∃ ν', f_X10_from_70 (n + 1) (nI B) (nI j) ν = f_X10_from_70 n (nI B) (nI (j + 1)) ν' ∧ (∀ a, a ≠ 2 → a ≠ 3 → a ≠ 4 → ν'.1 a = ν.1 a) ∧ ν'.2 = ν.2 ∧ (ν'.1 2 j = ν.1 17 (B + 3 + j) ∧ ν'.1 3 j = ν.1 17 (B + 8 + j) ∧ ν'.1 4 j = ν.1 17 (B + 13 + j)) ∧ ∀ k, k ≠ j → ν'.1 2 k = ν.1 2 k ∧ ν'.1 3 k = ν.1 3 k ∧ ν'.1 4 k = ν.1 4 k := by
    intro n j ν hj
    rw [f_X10_from_70, if_neg (lt5 hj), nI_p3, show nI B + 8 = nI (B + 8) from nI_add B 8, show nI B + 13 = nI (B + 13) from nI_add B 13, nI_add, nI_add, nI_add, zck_t (zin_nI (by omega) (by decide)), zck_t (zin_nI hj (by decide)), zlet_eq, nI_clamp (by omega), nI_clamp (by omega), nI_clamp (by omega), nI_clamp (by omega), nI_1]
    obtain ⟨a1, b1, c1, d1⟩ := st1 ν 2 j (ν.1 17 (B + 3 + j))
    generalize zI ν 2 j (ν.1 17 (B + 3 + j)) = ν1 at a1 b1 c1 d1 ⊢
    rw [zck_t (zin_nI (by omega) (by decide)), zck_t (zin_nI hj (by decide)), zlet_eq]
    obtain ⟨a2, b2, c2, d2⟩ := st1 ν1 3 j (ν1.1 17 (B + 8 + j))
    generalize zI ν1 3 j (ν1.1 17 (B + 8 + j)) = ν2 at a2 b2 c2 d2 ⊢
    rw [zck_t (zin_nI (by omega) (by decide)), zck_t (zin_nI hj (by decide)), zlet_eq]
    obtain ⟨a3, b3, c3, d3⟩ := st1 ν2 4 j (ν2.1 17 (B + 13 + j))
    generalize zI ν2 4 j (ν2.1 17 (B + 13 + j)) = ν3 at a3 b3 c3 d3 ⊢
    refine ⟨ν3, rfl, fun a h2 h3 h4 => by rw [a3 a h4, a2 a h3, a1 a h2], by rw [b3, b2, b1], ⟨?_, ?_, ?_⟩, fun k hk => ⟨?_, ?_, ?_⟩⟩
    · rw [a3 2 (by decide), a2 2 (by decide), d1]
    · rw [a3 3 (by decide), d2, a1 17 (by decide)]
    · rw [d3, a2 17 (by decide), a1 17 (by decide)]
    · rw [a3 2 (by decide), a2 2 (by decide), c1 k hk]
    · rw [a3 3 (by decide), c2 k hk, a1 3 (by decide)]
    · rw [c3 k hk, a2 4 (by decide), a1 4 (by decide)]
  have e : ∀ (k j n : Nat) (ν : Mem), j + k = 5 → k < n → ∃ μ', f_X10_from_70 n (nI B) (nI j) ν = f_X10_from_133 zFU (nI B) 0 μ' ∧ (∀ a, a ≠ 2 → a ≠ 3 → a ≠ 4 → μ'.1 a = ν.1 a) ∧ μ'.2 = ν.2 ∧ (∀ i, j ≤ i → i < 5 → μ'.1 2 i = ν.1 17 (B + 3 + i) ∧ μ'.1 3 i = ν.1 17 (B + 8 + i) ∧ μ'.1 4 i = ν.1 17 (B + 13 + i)) ∧ ∀ k, k < j → μ'.1 2 k = ν.1 2 k ∧ μ'.1 3 k = ν.1 3 k ∧ μ'.1 4 k = ν.1 4 k := by
    intro k
    induction k with
    | zero =>
      intro j n ν h1 h2
      obtain ⟨n, rfl⟩ : ∃ q, n = q + 1 := ⟨n - 1, by omega⟩
      obtain rfl : j = 5 := by omega
      exact ⟨ν, by rw [f_X10_from_70, if_pos (by decide)], fun _ _ _ _ => rfl, rfl, fun i hi hi2 => absurd hi2 (by omega), fun _ _ => ⟨rfl, rfl, rfl⟩⟩
    | succ k ih =>
      intro j n ν h1 h2
      obtain ⟨n, rfl⟩ : ∃ q, n = q + 1 := ⟨n - 1, by omega⟩
      obtain ⟨ν1, s1, s2, s3, s4, s5⟩ := hS n j ν (by omega)
      obtain ⟨μ', t1, t2, t3, t4, t5⟩ := ih (j + 1) n ν1 (by omega) (by omega)
      refine ⟨μ', s1.trans t1, fun a h2 h3 h4 => (t2 a h2 h3 h4).trans (s2 a h2 h3 h4), t3.trans s3, fun i hi1 hi2 => ?_, fun k hk => ?_⟩
      · by_cases q : i = j
        · subst q
          obtain ⟨u1, u2, u3⟩ := t5 i (by omega)
          rw [u1, u2, u3]
          exact s4
        · rw [← s2 17 (by decide) (by decide) (by decide)]
          exact t4 i (by omega) hi2
      · obtain ⟨u1, u2, u3⟩ := t5 k (by omega)
        rw [u1, u2, u3]
        exact s5 k (by omega)
  obtain ⟨μ', t1, t2, t3, t4, t5⟩ := e 5 0 zFU μ rfl (zFU_lt (by decide))
  rw [nI_0] at t1
  exact ⟨μ', t1, t2, t3, fun j hj => t4 j (Nat.zero_le _) hj⟩
theorem m_fr12 {B : Nat} (hB : B ≤ 192) (μ : Mem) : ∃ μ', f_X10_from_133 zFU (nI B) 0 μ = f_X10_from_164 zFU (nI B) 0 μ' ∧ (∀ a, a ≠ 5 → μ'.1 a = μ.1 a) ∧ μ'.2 = μ.2 ∧ ∀ j, j < 12 → μ'.1 5 j = μ.1 17 (B + 18 + j) := by
  have e := loop0 (fun n (ν : Mem) c => f_X10_from_133 n (nI B) c ν) (fun j ν => zI ν 5 j (ν.1 17 (B + 18 + j))) 12 (by decide) (fun ν => f_X10_from_164 zFU (nI B) 0 ν) (fun n ν => by
    show f_X10_from_133 (n + 1) _ (nI 12) ν = _
    rw [f_X10_from_133, if_pos (by decide)]) (fun n j ν hj => by
    show f_X10_from_133 (n + 1) _ (nI j) ν = f_X10_from_133 n _ (nI (j + 1)) _
    rw [f_X10_from_133, if_neg (lt12 hj), show nI B + 18 = nI (B + 18) from nI_add B 18, nI_add, zck_t (zin_nI (by omega) (by decide)), zck_t (zin_nI hj (by decide)), zlet_eq, nI_clamp (by omega), nI_clamp (by omega), nI_1]) μ
  rw [nI_0] at e
  obtain ⟨h1, h2, h3, h4⟩ := cpy_iter 5 17 (fun j => j) (fun j => B + 18 + j) (by decide) (fun _ _ h => h) 12 μ
  exact ⟨_, e, h1, h2, h3⟩
theorem m_fr6 {B : Nat} (hB : B ≤ 192) (μ : Mem) : ∃ μ', f_X10_from_164 zFU (nI B) 0 μ = f_X10_from_246 zFU (nI B) 0 μ' ∧ (∀ a, a ≠ 6 → a ≠ 7 → a ≠ 8 → a ≠ 9 → μ'.1 a = μ.1 a) ∧ μ'.2 = μ.2 ∧ ∀ j, j < 6 → μ'.1 6 j = μ.1 17 (B + 30 + j) ∧ μ'.1 7 j = μ.1 17 (B + 36 + j) ∧ μ'.1 8 j = μ.1 17 (B + 42 + j) ∧ μ'.1 9 j = μ.1 17 (B + 48 + j) := by
  have hS : ∀ (n j : Nat) (ν : Mem), j < 6 → ∃ ν', f_X10_from_164 (n + 1) (nI B) (nI j) ν = f_X10_from_164 n (nI B) (nI (j + 1)) ν' ∧ (∀ a, a ≠ 6 → a ≠ 7 → a ≠ 8 → a ≠ 9 → ν'.1 a = ν.1 a) ∧ ν'.2 = ν.2 ∧ (ν'.1 6 j = ν.1 17 (B + 30 + j) ∧ ν'.1 7 j = ν.1 17 (B + 36 + j) ∧ ν'.1 8 j = ν.1 17 (B + 42 + j) ∧ ν'.1 9 j = ν.1 17 (B + 48 + j)) ∧ ∀ k, k ≠ j → ν'.1 6 k = ν.1 6 k ∧ ν'.1 7 k = ν.1 7 k ∧ ν'.1 8 k = ν.1 8 k ∧ ν'.1 9 k = ν.1 9 k := by
    intro n j ν hj
    rw [f_X10_from_164, if_neg (lt6 hj), show nI B + 30 = nI (B + 30) from nI_add B 30, show nI B + 36 = nI (B + 36) from nI_add B 36, show nI B + 42 = nI (B + 42) from nI_add B 42, show nI B + 48 = nI (B + 48) from nI_add B 48, nI_add, nI_add, nI_add, nI_add, zck_t (zin_nI (by omega) (by decide)), zck_t (zin_nI hj (by decide)), zlet_eq, nI_clamp (by omega), nI_clamp (by omega), nI_clamp (by omega), nI_clamp (by omega), nI_clamp (by omega), nI_1]
    obtain ⟨a1, b1, c1, d1⟩ := st1 ν 6 j (ν.1 17 (B + 30 + j))
    generalize zI ν 6 j (ν.1 17 (B + 30 + j)) = ν1 at a1 b1 c1 d1 ⊢
    rw [zck_t (zin_nI (by omega) (by decide)), zck_t (zin_nI hj (by decide)), zlet_eq]
    obtain ⟨a2, b2, c2, d2⟩ := st1 ν1 7 j (ν1.1 17 (B + 36 + j))
    generalize zI ν1 7 j (ν1.1 17 (B + 36 + j)) = ν2 at a2 b2 c2 d2 ⊢
    rw [zck_t (zin_nI (by omega) (by decide)), zck_t (zin_nI hj (by decide)), zlet_eq]
    obtain ⟨a3, b3, c3, d3⟩ := st1 ν2 8 j (ν2.1 17 (B + 42 + j))
    generalize zI ν2 8 j (ν2.1 17 (B + 42 + j)) = ν3 at a3 b3 c3 d3 ⊢
    rw [zck_t (zin_nI (by omega) (by decide)), zck_t (zin_nI hj (by decide)), zlet_eq]
    obtain ⟨a4, b4, c4, d4⟩ := st1 ν3 9 j (ν3.1 17 (B + 48 + j))
    generalize zI ν3 9 j (ν3.1 17 (B + 48 + j)) = ν4 at a4 b4 c4 d4 ⊢
    refine ⟨ν4, rfl, fun a h6 h7 h8 h9 => by rw [a4 a h9, a3 a h8, a2 a h7, a1 a h6], by rw [b4, b3, b2, b1], ⟨?_, ?_, ?_, ?_⟩, fun k hk => ⟨?_, ?_, ?_, ?_⟩⟩
    · rw [a4 6 (by decide), a3 6 (by decide), a2 6 (by decide), d1]
    · rw [a4 7 (by decide), a3 7 (by decide), d2, a1 17 (by decide)]
    · rw [a4 8 (by decide), d3, a2 17 (by decide), a1 17 (by decide)]
    · rw [d4, a3 17 (by decide), a2 17 (by decide), a1 17 (by decide)]
    · rw [a4 6 (by decide), a3 6 (by decide), a2 6 (by decide), c1 k hk]
    · rw [a4 7 (by decide), a3 7 (by decide), c2 k hk, a1 7 (by decide)]
    · rw [a4 8 (by decide), c3 k hk, a2 8 (by decide), a1 8 (by decide)]
    · rw [c4 k hk, a3 9 (by decide), a2 9 (by decide), a1 9 (by decide)]
  have e : ∀ (k j n : Nat) (ν : Mem), j + k = 6 → k < n → ∃ μ', f_X10_from_164 n (nI B) (nI j) ν = f_X10_from_246 zFU (nI B) 0 μ' ∧ (∀ a, a ≠ 6 → a ≠ 7 → a ≠ 8 → a ≠ 9 → μ'.1 a = ν.1 a) ∧ μ'.2 = ν.2 ∧ (∀ i, j ≤ i → i < 6 → μ'.1 6 i = ν.1 17 (B + 30 + i) ∧ μ'.1 7 i = ν.1 17 (B + 36 + i) ∧ μ'.1 8 i = ν.1 17 (B + 42 + i) ∧ μ'.1 9 i = ν.1 17 (B + 48 + i)) ∧ ∀ k, k < j → μ'.1 6 k = ν.1 6 k ∧ μ'.1 7 k = ν.1 7 k ∧ μ'.1 8 k = ν.1 8 k ∧ μ'.1 9 k = ν.1 9 k := by
    intro k
    induction k with
    | zero =>
      intro j n ν h1 h2
      obtain ⟨n, rfl⟩ : ∃ q, n = q + 1 := ⟨n - 1, by omega⟩
      obtain rfl : j = 6 := by omega
      exact ⟨ν, by rw [f_X10_from_164, if_pos (by decide)], fun _ _ _ _ _ => rfl, rfl, fun i hi hi2 => absurd hi2 (by omega), fun _ _ => ⟨rfl, rfl, rfl, rfl⟩⟩
    | succ k ih =>
      intro j n ν h1 h2
      obtain ⟨n, rfl⟩ : ∃ q, n = q + 1 := ⟨n - 1, by omega⟩
      obtain ⟨ν1, s1, s2, s3, s4, s5⟩ := hS n j ν (by omega)
      obtain ⟨μ', t1, t2, t3, t4, t5⟩ := ih (j + 1) n ν1 (by omega) (by omega)
      refine ⟨μ', s1.trans t1, fun a h6 h7 h8 h9 => (t2 a h6 h7 h8 h9).trans (s2 a h6 h7 h8 h9), t3.trans s3, fun i hi1 hi2 => ?_, fun k hk => ?_⟩
      · by_cases q : i = j
        · subst q
          obtain ⟨u1, u2, u3, u4⟩ := t5 i (by omega)
          rw [u1, u2, u3, u4]
          exact s4
        · rw [← s2 17 (by decide) (by decide) (by decide) (by decide)]
          exact t4 i (by omega) hi2
      · obtain ⟨u1, u2, u3, u4⟩ := t5 k (by omega)
        rw [u1, u2, u3, u4]
        exact s5 k (by omega)
  obtain ⟨μ', t1, t2, t3, t4, t5⟩ := e 6 0 zFU μ rfl (zFU_lt (by decide))
  rw [nI_0] at t1
  exact ⟨μ', t1, t2, t3, fun j hj => t4 j (Nat.zero_le _) hj⟩
theorem m_fr136 {B : Nat} (hB : B ≤ 192) (μ : Mem) : ∃ μ', f_X10_from_246 zFU (nI B) 0 μ = some (1, μ') ∧ (∀ a, a ≠ 13 → μ'.1 a = μ.1 a) ∧ μ'.2 = μ.2 ∧ ∀ j, j < 136 → μ'.1 13 j = μ.1 17 (B + 54 + j) := by
  have e := loop0 (fun n (ν : Mem) c => f_X10_from_246 n (nI B) c ν) (fun j ν => zI ν 13 j (ν.1 17 (B + 54 + j))) 136 (by decide) (fun ν => some (1, ν)) (fun n ν => by
    show f_X10_from_246 (n + 1) _ (nI 136) ν = _
    rw [f_X10_from_246, if_pos (by decide)]) (fun n j ν hj => by
    show f_X10_from_246 (n + 1) _ (nI j) ν = f_X10_from_246 n _ (nI (j + 1)) _
    rw [f_X10_from_246, if_neg (show ¬ (136 : Int32) ≤ nI j from nI_ge (b := 136) hj (by decide)), show nI B + 54 = nI (B + 54) from nI_add B 54, nI_add, zck_t (zin_nI (by omega) (by decide)), zck_t (zin_nI hj (by decide)), zlet_eq, nI_clamp (by omega), nI_clamp (by omega), nI_1]) μ
  rw [nI_0] at e
  obtain ⟨h1, h2, h3, h4⟩ := cpy_iter 13 17 (fun j => j) (fun j => B + 54 + j) (by decide) (fun _ _ h => h) 136 μ
  exact ⟨_, e, h1, h2, h3⟩
theorem Sp_from_ok : Sp_from Rel := by
  intro μC μM a1 h
  rw [f_X9_from, within_eq, zbind_eq, f_X10_from, in_eq, zbind_eq]
  cases hq : inR a1 0 1
  · exact isbad h (if_pos rfl) (if_pos rfl)
  obtain ⟨i, hi, rfl⟩ := inR_nI (m := 1) (by decide) hq
  have hi : i < 2 := by omega
  have hB : 192 * i ≤ 192 := by omega
  have hRI : RI μC μM i := by
    rcases (show i = 0 ∨ i = 1 by omega) with rfl | rfl
    · exact h.2.1
    · exact h.2.2.1
  rw [if_neg bIt, if_neg bIt, zck_t (zin_nI hi (by decide)), zck_t (zin_nI hi (by decide)), zck_t (zin_nI hi (by decide)), nI_clamp (by omega), hRI.1]
  by_cases q : μC.1 37 i = 0
  · rw [if_pos q, if_pos q]; exact isno h rfl rfl
  obtain ⟨nb, nn, nu, hn⟩ := hRI.2 q
  obtain ⟨μ, b1, b2, b3, b4⟩ := becomes_ok 1 (15 + 7 * i) (by omega) μC
  rw [if_neg q, if_neg q, b1, zbind_eq, show (192 : Int32) * nI i = nI (192 * i) from nI_mul 192 i, nI_1, nI_p2, zck_t (zin_nI (by omega) (by decide)), zlet_eq, nI_clamp (by omega), nI_clamp (by omega), nI_clamp (by omega)]
  obtain ⟨a1, c1, d1, e1⟩ := st1 μM 0 1 (μM.1 17 (192 * i))
  generalize zI μM 0 1 (μM.1 17 (192 * i)) = ν1 at a1 c1 d1 e1 ⊢
  rw [zck_t (zin_nI (by omega) (by decide)), zlet_eq]
  obtain ⟨a2, c2, d2, e2⟩ := st1 ν1 0 2 (ν1.1 17 (192 * i + 1))
  generalize zI ν1 0 2 (ν1.1 17 (192 * i + 1)) = ν2 at a2 c2 d2 e2 ⊢
  rw [zck_t (zin_nI (by omega) (by decide)), zlet_eq]
  obtain ⟨a3, c3, d3, e3⟩ := st1 ν2 0 19 (ν2.1 17 (192 * i + 2))
  generalize zI ν2 0 19 (ν2.1 17 (192 * i + 2)) = ν3 at a3 c3 d3 e3 ⊢
  obtain ⟨ν4, x4, y4, z4, w4⟩ := m_fr5 hB ν3
  obtain ⟨ν5, x5, y5, z5, w5⟩ := m_fr12 hB ν4
  obtain ⟨ν6, x6, y6, z6, w6⟩ := m_fr6 hB ν5
  obtain ⟨ν7, x7, y7, z7, w7⟩ := m_fr136 hB ν6
  rw [x4, x5, x6, x7]
  have h17 : ν3.1 17 = μM.1 17 := by rw [a3 17 (by decide), a2 17 (by decide), a1 17 (by decide)]
  have h0 : ν7.1 0 = ν3.1 0 := by rw [y7 0 (by decide), y6 0 (by decide) (by decide) (by decide) (by decide), y5 0 (by decide), y4 0 (by decide) (by decide) (by decide)]
  have F : ∀ a, a = 1 ∨ a = 10 ∨ a = 17 ∨ a = 18 → ν7.1 a = μM.1 a := fun a ha => by
    rw [y7 a (by omega), y6 a (by omega) (by omega) (by omega) (by omega), y5 a (by omega), y4 a (by omega) (by omega) (by omega), a3 a (by omega), a2 a (by omega), a1 a (by omega)]
  refine ⟨1, μ, ν7, rfl, rfl, Rel_night h ⟨nb, nn, nu, NR_congr2 b4 (fun a k hr => ?_) hn⟩ (fun a ha => b2 a (by omega)) b3 F (by rw [h0, d3 12 (by decide), d2 12 (by decide), d1 12 (by decide)]) (by rw [z7, z6, z5, z4, c3, c2, c1])⟩
  rcases hr with ⟨rfl, hk⟩ | ⟨z1, z2, hk⟩ | ⟨rfl, hk⟩ | ⟨z1, z2, hk⟩ | ⟨z1, hk⟩
  · rcases (show k = 0 ∨ k = 1 ∨ k = 2 by omega) with rfl | rfl | rfl
    · show ν7.1 0 1 = μM.1 17 (192 * i + 0 + 0)
      rw [h0, d3 1 (by decide), d2 1 (by decide), e1]; rfl
    · show ν7.1 0 2 = μM.1 17 (192 * i + 0 + 1)
      rw [h0, d3 2 (by decide), e2, a1 17 (by decide)]
    · show ν7.1 0 19 = μM.1 17 (192 * i + 0 + 2)
      rw [h0, e3, a2 17 (by decide), a1 17 (by decide)]
  · rcases (show a = 1 ∨ a = 2 ∨ a = 3 by omega) with rfl | rfl | rfl
    · show ν7.1 2 k = μM.1 17 (192 * i + 3 + k)
      rw [y7 2 (by decide), y6 2 (by decide) (by decide) (by decide) (by decide), y5 2 (by decide), (w4 k hk).1, h17]
    · show ν7.1 3 k = μM.1 17 (192 * i + 8 + k)
      rw [y7 3 (by decide), y6 3 (by decide) (by decide) (by decide) (by decide), y5 3 (by decide), (w4 k hk).2.1, h17]
    · show ν7.1 4 k = μM.1 17 (192 * i + 13 + k)
      rw [y7 4 (by decide), y6 4 (by decide) (by decide) (by decide) (by decide), y5 4 (by decide), (w4 k hk).2.2, h17]
  · show ν7.1 5 k = μM.1 17 (192 * i + 18 + k)
    rw [y7 5 (by decide), y6 5 (by decide) (by decide) (by decide) (by decide), w5 k hk, y4 17 (by decide) (by decide) (by decide), h17]
  · have g17 : ν5.1 17 = μM.1 17 := by rw [y5 17 (by decide), y4 17 (by decide) (by decide) (by decide), h17]
    rcases (show a = 5 ∨ a = 6 ∨ a = 7 ∨ a = 8 by omega) with rfl | rfl | rfl | rfl
    · show ν7.1 6 k = μM.1 17 (192 * i + 30 + k)
      rw [y7 6 (by decide), (w6 k hk).1, g17]
    · show ν7.1 7 k = μM.1 17 (192 * i + 36 + k)
      rw [y7 7 (by decide), (w6 k hk).2.1, g17]
    · show ν7.1 8 k = μM.1 17 (192 * i + 42 + k)
      rw [y7 8 (by decide), (w6 k hk).2.2.1, g17]
    · show ν7.1 9 k = μM.1 17 (192 * i + 48 + k)
      rw [y7 9 (by decide), (w6 k hk).2.2.2, g17]
  · have g17 : ν6.1 17 = μM.1 17 := by rw [y6 17 (by decide) (by decide) (by decide) (by decide), y5 17 (by decide), y4 17 (by decide) (by decide) (by decide), h17]
    have ea : ivo a = 54 := by unfold ivo; rw [if_neg (by omega), if_neg (by omega), if_neg (by omega), if_neg (by omega), if_neg (by omega), if_neg (by omega), if_neg (by omega), if_neg (by omega), if_neg (by omega)]
    have em : mv ν7 a k = ν7.1 13 k := by unfold mv; rw [if_neg (by omega), if_neg (by omega)]
    rw [em]
    show ν7.1 13 k = μM.1 17 (192 * i + ivo a + k)
    rw [ea, w7 k hk, g17]
