/-! ===== sell, image, from ===== -/
theorem Sp_sell_ok : Sp_sell Rel := by
  intro μC μM a1 a2 a3 h
  obtain ⟨nb, nn, nu, K, W, hNR, hC, hM, hO, hJ, -⟩ := Rel_q h
  have h5 := hC.1
  rw [f_X9_sell, isCell_eq, zbind_eq, f_X10_sell, m_isCell_eq, zbind_eq]
  cases hq : inR a1 0 11
  · exact isbad h (if_pos rfl) (if_pos rfl)
  obtain ⟨j, hj, rfl⟩ := inR_nI (m := 11) (by decide) hq
  have hj : j < 12 := by omega
  rw [if_neg bIt, if_neg bIt, CN_boy hC, zbind_eq, MN_boy hM, zbind_eq]
  cases hq2 : inR a2 0 (nI nb - 1)
  · exact isbad h (if_pos rfl) (if_pos rfl)
  obtain ⟨b, hb, rfl⟩ := inR_boy (by omega) hq2
  have hb5 : b < 5 := by omega
  rw [if_neg bIt, if_neg bIt, within_eq, zbind_eq, in_eq, zbind_eq]
  cases hq3 : inR a3 0 40
  · exact isbad h (if_pos rfl) (if_pos rfl)
  rw [if_neg bIt, if_neg bIt, zck_t (zin_nI hj (by decide)), zck_t (zin_nI hj (by decide)), nI_clamp (by omega), hC.2.2.2 j hj, hM.2.2.2 j hj]
  by_cases q1 : W j = nI b
  · rw [if_pos q1, if_pos q1]; exact isno h rfl rfl
  rw [if_neg q1, if_neg q1, zck_t (zin_nI hb5 (by decide)), zck_t (zin_nI hb5 (by decide)), nI_clamp (by omega), (hJ b hb).2]
  by_cases q2 : a3 ≤ μC.1 4 b
  · have q2' : a3 ≤ μC.1 (1 + 3) b := q2
    rw [if_pos q2', if_pos q2]
    obtain ⟨μ, ν, nu', c1, m1, n1, c2, c3, m2, m3, c4, m4⟩ := both_note hNR
    rw [c1, zbind_eq, zck_t (zin_nI hj (by decide)), zlet_eq, m1, zbind_eq, zck_t (zin_nI hb5 (by decide)), zck_t (zin_nI hb5 (by decide)), zlet_eq]
    obtain ⟨x1, x2, x3, x4⟩ := st1 μ (1 + 4) j (nI b)
    generalize zI μ (1 + 4) j (nI b) = μ1 at x1 x2 x3 x4 ⊢
    have g1 : ∀ k, μ1.1 (1 + 3) k = μC.1 4 k := fun k => by rw [x1 _ (by decide), c2 _ (by decide) (by decide)]
    rw [zck_t (zin_nI hb5 (by decide)), zck_t (zin_nI hb5 (by decide)), zlet_eq, g1 b]
    obtain ⟨x5, x6, x7, x8⟩ := st1 μ1 (1 + 3) b (μC.1 4 b - a3)
    generalize zI μ1 (1 + 3) b (μC.1 4 b - a3) = μ2 at x5 x6 x7 x8 ⊢
    have h7 : μ2.1 1 7 = nI nb := by rw [x5 1 (by decide), x1 1 (by decide), c4 7 (by decide)]; exact hC.2.1
    have hν4 : ∀ k, ν.1 4 k = μM.1 4 k := fun k => by rw [m2 4 (by decide) (by decide)]
    rw [isBoy_eq, h7, zbind_eq, hν4 b, (hJ b hb).2]
    obtain ⟨y1, y2, y3, y4⟩ := st1 ν 4 b (μC.1 4 b - a3)
    generalize zI ν 4 b (μC.1 4 b - a3) = ν1 at y1 y2 y3 y4 ⊢
    have hν5 : ∀ k, k < 12 → ν1.1 5 k = W k := fun k hk => by rw [y1 5 (by decide), m2 5 (by decide) (by decide), hM.2.2.2 k hk]
    rw [zck_t (zin_nI hj (by decide)), zck_t (zin_nI hj (by decide)), hν5 j hj]
    have hμ5 : ∀ k, k < 12 → k ≠ j → μ2.1 5 k = W k := fun k hk hne => by
      rw [x5 5 (by decide)]
      refine (x3 k hne).trans ?_
      rw [c2 _ (by decide) (by decide)]
      exact hC.2.2.2 k hk
    have hμ5j : μ2.1 5 j = nI b := by rw [x5 5 (by decide)]; exact x4
    by_cases q3 : W j = -1
    · have hf : inR (W j) 0 (nI nb - 1) = false := by rw [q3]; exact decide_eq_false (fun z => z.1 (by decide))
      rw [hf, if_pos bIf, if_pos q3, f_X10_sell_94, zck_t (zin_nI hj (by decide)), zlet_eq, zck_t (zin_nI hb5 (by decide)), zck_t (zin_nI hb5 (by decide)), nI_clamp (by omega), nI_clamp (by omega), x8]
      obtain ⟨y5, y6, y7, y8⟩ := st1 ν1 5 j (nI b)
      generalize zI ν1 5 j (nI b) = ν2 at y5 y6 y7 y8 ⊢
      rw [y5 4 (by decide), y4]
      refine ⟨_, μ2, ν2, rfl, rfl, Rel_after h n1 c2 c3 m2 m3 m4 (fun a h4 h5 => by rw [x5 a h4, x1 a h5]) (by rw [x6, x2]) (fun a h4 h5 => by rw [y5 a h5, y1 a h4]) (by rw [y6, y2]) (fun k hk => ?_) (fun k hk => ?_)⟩
      · rw [y5 4 (by decide)]
        by_cases q : k = b
        · subst q; rw [y4]; exact x8.symm
        · rw [y3 k q, hν4 k, (hJ k hk).2, show μ2.1 4 k = _ from x7 k q, g1 k]
      · by_cases q : k = j
        · subst q
          rw [y8, hμ5j]
          exact ⟨rfl, Or.inr ⟨b, hb, rfl⟩⟩
        · rw [y7 k q, hν5 k hk, hμ5 k hk q]
          exact ⟨rfl, hO k hk⟩
    · obtain ⟨o1, o2⟩ := own_of hC.1 hO hj q3
      generalize own W j = w at o1 o2
      have hwb : w ≠ b := fun e => q1 (by rw [o2, e])
      have hw5 : w < 5 := by omega
      rw [o2, inR_boy_of o1 (by omega), if_neg bIt, if_neg (nI_ne_m1 (by omega)), zck_t (zin_nI hw5 (by decide)), zck_t (zin_nI hw5 (by decide)), zck_t (zin_nI hw5 (by decide)), zck_t (zin_nI hw5 (by decide)), zlet_eq, zlet_eq, nI_clamp (by omega)]
      have g2 : μ2.1 (1 + 3) w = μC.1 4 w := (x7 w hwb).trans (g1 w)
      have g3 : ν1.1 4 w = μC.1 4 w := by rw [y3 w hwb, hν4 w, (hJ w o1).2]
      rw [g2, g3]
      obtain ⟨x9, x10, x11, x12⟩ := st1 μ2 (1 + 3) w (μC.1 4 w + a3)
      generalize zI μ2 (1 + 3) w (μC.1 4 w + a3) = μ3 at x9 x10 x11 x12 ⊢
      obtain ⟨y9, y10, y11, y12⟩ := st1 ν1 4 w (μC.1 4 w + a3)
      generalize zI ν1 4 w (μC.1 4 w + a3) = ν2 at y9 y10 y11 y12 ⊢
      rw [zck_t (zin_nI hb5 (by decide)), f_X10_sell_94, zck_t (zin_nI hj (by decide)), zlet_eq, zck_t (zin_nI hb5 (by decide)), nI_clamp (by omega), nI_clamp (by omega), x11 b (fun e => hwb e.symm), x8]
      obtain ⟨y5, y6, y7, y8⟩ := st1 ν2 5 j (nI b)
      generalize zI ν2 5 j (nI b) = ν3 at y5 y6 y7 y8 ⊢
      rw [y5 4 (by decide), y11 b (fun e => hwb e.symm), y4]
      refine ⟨_, μ3, ν3, rfl, rfl, Rel_after h n1 c2 c3 m2 m3 m4 (fun a h4 h5 => by rw [x9 a h4, x5 a h4, x1 a h5]) (by rw [x10, x6, x2]) (fun a h4 h5 => by rw [y5 a h5, y9 a h4, y1 a h4]) (by rw [y6, y10, y2]) (fun k hk => ?_) (fun k hk => ?_)⟩
      · rw [y5 4 (by decide)]
        by_cases qw : k = w
        · subst qw; rw [y12]; exact x12.symm
        · rw [y11 k qw, show μ3.1 4 k = _ from x11 k qw]
          by_cases q : k = b
          · subst q; rw [y4]; exact x8.symm
          · rw [y3 k q, hν4 k, (hJ k hk).2, x7 k q, g1 k]
      · rw [x9 5 (by decide)]
        by_cases q : k = j
        · subst q
          rw [y8, hμ5j]
          exact ⟨rfl, Or.inr ⟨b, hb, rfl⟩⟩
        · rw [y7 k q, y9 5 (by decide), hν5 k hk, hμ5 k hk q]
          exact ⟨rfl, hO k hk⟩
  · have q2' : ¬ a3 ≤ μC.1 (1 + 3) b := q2
    rw [if_neg q2', if_neg q2]
    exact isno h rfl rfl
/-! the reference's images -/
theorem m_img5 {B : Nat} (hB : B ≤ 192) (μ : Mem) : ∃ μ', f_X10_image_63 zFU (nI B) 0 μ = f_X10_image_126 zFU (nI B) 0 μ' ∧ (∀ a, a ≠ 17 → μ'.1 a = μ.1 a) ∧ μ'.2 = μ.2 ∧ (∀ j, j < 5 → μ'.1 17 (B + 3 + j) = μ.1 2 j ∧ μ'.1 17 (B + 8 + j) = μ.1 3 j ∧ μ'.1 17 (B + 13 + j) = μ.1 4 j) ∧ ∀ k, (k < B + 3 ∨ B + 18 ≤ k) → μ'.1 17 k = μ.1 17 k := by
  have e := loopI (fun n (ν : Mem) c => f_X10_image_63 n (nI B) c ν) (fun j ν => zI (zI (zI ν 17 (B + 3 + j) (ν.1 2 j)) 17 (B + 8 + j) ((zI ν 17 (B + 3 + j) (ν.1 2 j)).1 3 j)) 17 (B + 13 + j) ((zI (zI ν 17 (B + 3 + j) (ν.1 2 j)) 17 (B + 8 + j) ((zI ν 17 (B + 3 + j) (ν.1 2 j)).1 3 j)).1 4 j)) 5 (fun ν => f_X10_image_126 zFU (nI B) 0 ν) (fun i (ν : Mem) => (∀ a, a ≠ 17 → ν.1 a = μ.1 a) ∧ ν.2 = μ.2 ∧ (∀ j, j < i → ν.1 17 (B + 3 + j) = μ.1 2 j ∧ ν.1 17 (B + 8 + j) = μ.1 3 j ∧ ν.1 17 (B + 13 + j) = μ.1 4 j) ∧ ∀ k, (k < B + 3 ∨ B + 18 ≤ k) → ν.1 17 k = μ.1 17 k) (fun n ν _ => by
    show f_X10_image_63 (n + 1) _ (nI 5) ν = _
    rw [f_X10_image_63, if_pos (by decide)]) (fun n j ν hj hν => by
    refine ⟨?_, ?_⟩
    · show f_X10_image_63 (n + 1) _ (nI j) ν = f_X10_image_63 n _ (nI (j + 1)) _
      rw [f_X10_image_63, if_neg (lt5 hj), nI_p3, show nI B + 8 = nI (B + 8) from nI_add B 8, show nI B + 13 = nI (B + 13) from nI_add B 13, nI_add, nI_add, nI_add, zck_t (zin_nI hj (by decide)), zck_t (zin_nI (by omega) (by decide)), zlet_eq, zck_t (zin_nI hj (by decide)), zck_t (zin_nI (by omega) (by decide)), zlet_eq, zck_t (zin_nI hj (by decide)), zck_t (zin_nI (by omega) (by decide)), zlet_eq, nI_clamp (by omega), nI_clamp (by omega), nI_clamp (by omega), nI_clamp (by omega), nI_1]
    · obtain ⟨h1, h2, h3, h4⟩ := hν
      obtain ⟨a1, b1, c1, d1⟩ := st1 ν 17 (B + 3 + j) (ν.1 2 j)
      generalize zI ν 17 (B + 3 + j) (ν.1 2 j) = ν1 at a1 b1 c1 d1 ⊢
      obtain ⟨a2, b2, c2, d2⟩ := st1 ν1 17 (B + 8 + j) (ν1.1 3 j)
      generalize zI ν1 17 (B + 8 + j) (ν1.1 3 j) = ν2 at a2 b2 c2 d2 ⊢
      obtain ⟨a3, b3, c3, d3⟩ := st1 ν2 17 (B + 13 + j) (ν2.1 4 j)
      generalize zI ν2 17 (B + 13 + j) (ν2.1 4 j) = ν3 at a3 b3 c3 d3 ⊢
      refine ⟨fun a ha => by rw [a3 a ha, a2 a ha, a1 a ha, h1 a ha], by rw [b3, b2, b1, h2], fun i hi => ?_, fun k hk => by rw [c3 k (by omega), c2 k (by omega), c1 k (by omega), h4 k hk]⟩
      by_cases q : i = j
      · subst q
        refine ⟨?_, ?_, ?_⟩
        · rw [c3 _ (by omega), c2 _ (by omega), d1, h1 2 (by decide)]
        · rw [c3 _ (by omega), d2, a1 3 (by decide), h1 3 (by decide)]
        · rw [d3, a2 4 (by decide), a1 4 (by decide), h1 4 (by decide)]
      · rw [c3 _ (by omega), c2 _ (by omega), c1 _ (by omega), c3 _ (by omega), c2 _ (by omega), c1 _ (by omega), c3 _ (by omega), c2 _ (by omega), c1 _ (by omega)]
        exact h3 i (by omega)) 5 0 zFU μ rfl (zFU_lt (by decide)) ⟨fun _ _ => rfl, rfl, fun j hj => absurd hj (Nat.not_lt_zero _), fun _ _ => rfl⟩
  obtain ⟨e, h1, h2, h3, h4⟩ := e
  rw [nI_0] at e
  exact ⟨_, e, h1, h2, h3, h4⟩
theorem m_img12 {B : Nat} (hB : B ≤ 192) (μ : Mem) : ∃ μ', f_X10_image_126 zFU (nI B) 0 μ = f_X10_image_157 zFU (nI B) 0 μ' ∧ (∀ a, a ≠ 17 → μ'.1 a = μ.1 a) ∧ μ'.2 = μ.2 ∧ (∀ j, j < 12 → μ'.1 17 (B + 18 + j) = μ.1 5 j) ∧ ∀ k, (k < B + 18 ∨ B + 30 ≤ k) → μ'.1 17 k = μ.1 17 k := by
  have e := loop0 (fun n (ν : Mem) c => f_X10_image_126 n (nI B) c ν) (fun j ν => zI ν 17 (B + 18 + j) (ν.1 5 j)) 12 (by decide) (fun ν => f_X10_image_157 zFU (nI B) 0 ν) (fun n ν => by
    show f_X10_image_126 (n + 1) _ (nI 12) ν = _
    rw [f_X10_image_126, if_pos (by decide)]) (fun n j ν hj => by
    show f_X10_image_126 (n + 1) _ (nI j) ν = f_X10_image_126 n _ (nI (j + 1)) _
    rw [f_X10_image_126, if_neg (lt12 hj), show nI B + 18 = nI (B + 18) from nI_add B 18, nI_add, zck_t (zin_nI hj (by decide)), zck_t (zin_nI (by omega) (by decide)), zlet_eq, nI_clamp (by omega), nI_clamp (by omega), nI_1]) μ
  rw [nI_0] at e
  obtain ⟨h1, h2, h3, h4⟩ := cpy_iter 17 5 (fun j => B + 18 + j) (fun j => j) (by decide) (fun _ _ h => by omega) 12 μ
  exact ⟨_, e, h1, h2, h3, fun k hk => h4 k (fun j hj => by omega)⟩
theorem m_img6 {B : Nat} (hB : B ≤ 192) (μ : Mem) : ∃ μ', f_X10_image_157 zFU (nI B) 0 μ = f_X10_image_239 zFU (nI B) 0 μ' ∧ (∀ a, a ≠ 17 → μ'.1 a = μ.1 a) ∧ μ'.2 = μ.2 ∧ (∀ j, j < 6 → μ'.1 17 (B + 30 + j) = μ.1 6 j ∧ μ'.1 17 (B + 36 + j) = μ.1 7 j ∧ μ'.1 17 (B + 42 + j) = μ.1 8 j ∧ μ'.1 17 (B + 48 + j) = μ.1 9 j) ∧ ∀ k, (k < B + 30 ∨ B + 54 ≤ k) → μ'.1 17 k = μ.1 17 k := by
  have hS : ∀ (n j : Nat) (ν : Mem), j < 6 → ∃ ν', f_X10_image_157 (n + 1) (nI B) (nI j) ν = f_X10_image_157 n (nI B) (nI (j + 1)) ν' ∧ (∀ a, a ≠ 17 → ν'.1 a = ν.1 a) ∧ ν'.2 = ν.2 ∧ (ν'.1 17 (B + 30 + j) = ν.1 6 j ∧ ν'.1 17 (B + 36 + j) = ν.1 7 j ∧ ν'.1 17 (B + 42 + j) = ν.1 8 j ∧ ν'.1 17 (B + 48 + j) = ν.1 9 j) ∧ ∀ k, k ≠ B + 30 + j → k ≠ B + 36 + j → k ≠ B + 42 + j → k ≠ B + 48 + j → ν'.1 17 k = ν.1 17 k := by
    intro n j ν hj
    rw [f_X10_image_157, if_neg (lt6 hj), show nI B + 30 = nI (B + 30) from nI_add B 30, show nI B + 36 = nI (B + 36) from nI_add B 36, show nI B + 42 = nI (B + 42) from nI_add B 42, show nI B + 48 = nI (B + 48) from nI_add B 48, nI_add, nI_add, nI_add, nI_add, zck_t (zin_nI hj (by decide)), zck_t (zin_nI (by omega) (by decide)), zlet_eq, nI_clamp (by omega), nI_clamp (by omega), nI_clamp (by omega), nI_clamp (by omega), nI_clamp (by omega), nI_1]
    obtain ⟨a1, b1, c1, d1⟩ := st1 ν 17 (B + 30 + j) (ν.1 6 j)
    generalize zI ν 17 (B + 30 + j) (ν.1 6 j) = ν1 at a1 b1 c1 d1 ⊢
    rw [zck_t (zin_nI hj (by decide)), zck_t (zin_nI (by omega) (by decide)), zlet_eq]
    obtain ⟨a2, b2, c2, d2⟩ := st1 ν1 17 (B + 36 + j) (ν1.1 7 j)
    generalize zI ν1 17 (B + 36 + j) (ν1.1 7 j) = ν2 at a2 b2 c2 d2 ⊢
    rw [zck_t (zin_nI hj (by decide)), zck_t (zin_nI (by omega) (by decide)), zlet_eq]
    obtain ⟨a3, b3, c3, d3⟩ := st1 ν2 17 (B + 42 + j) (ν2.1 8 j)
    generalize zI ν2 17 (B + 42 + j) (ν2.1 8 j) = ν3 at a3 b3 c3 d3 ⊢
    rw [zck_t (zin_nI hj (by decide)), zck_t (zin_nI (by omega) (by decide)), zlet_eq]
    obtain ⟨a4, b4, c4, d4⟩ := st1 ν3 17 (B + 48 + j) (ν3.1 9 j)
    generalize zI ν3 17 (B + 48 + j) (ν3.1 9 j) = ν4 at a4 b4 c4 d4 ⊢
    refine ⟨ν4, rfl, fun a ha => by rw [a4 a ha, a3 a ha, a2 a ha, a1 a ha], by rw [b4, b3, b2, b1], ⟨?_, ?_, ?_, ?_⟩, fun k k1 k2 k3 k4 => by rw [c4 k k4, c3 k k3, c2 k k2, c1 k k1]⟩
    · rw [c4 _ (by omega), c3 _ (by omega), c2 _ (by omega), d1]
    · rw [c4 _ (by omega), c3 _ (by omega), d2, a1 7 (by decide)]
    · rw [c4 _ (by omega), d3, a2 8 (by decide), a1 8 (by decide)]
    · rw [d4, a3 9 (by decide), a2 9 (by decide), a1 9 (by decide)]
  have e : ∀ (k j n : Nat) (ν : Mem), j + k = 6 → k < n → ∃ μ', f_X10_image_157 n (nI B) (nI j) ν = f_X10_image_239 zFU (nI B) 0 μ' ∧ (∀ a, a ≠ 17 → μ'.1 a = ν.1 a) ∧ μ'.2 = ν.2 ∧ (∀ i, j ≤ i → i < 6 → μ'.1 17 (B + 30 + i) = ν.1 6 i ∧ μ'.1 17 (B + 36 + i) = ν.1 7 i ∧ μ'.1 17 (B + 42 + i) = ν.1 8 i ∧ μ'.1 17 (B + 48 + i) = ν.1 9 i) ∧ ∀ k, (∀ i, j ≤ i → i < 6 → k ≠ B + 30 + i ∧ k ≠ B + 36 + i ∧ k ≠ B + 42 + i ∧ k ≠ B + 48 + i) → μ'.1 17 k = ν.1 17 k := by
    intro k
    induction k with
    | zero =>
      intro j n ν h1 h2
      obtain ⟨n, rfl⟩ : ∃ q, n = q + 1 := ⟨n - 1, by omega⟩
      obtain rfl : j = 6 := by omega
      refine ⟨ν, by rw [f_X10_image_157, if_pos (by decide)], fun _ _ => rfl, rfl, fun i hi hi2 => absurd hi2 (by omega), fun _ _ => rfl⟩
    | succ k ih =>
      intro j n ν h1 h2
      obtain ⟨n, rfl⟩ : ∃ q, n = q + 1 := ⟨n - 1, by omega⟩
      obtain ⟨ν1, s1, s2, s3, s4, s5⟩ := hS n j ν (by omega)
      obtain ⟨μ', t1, t2, t3, t4, t5⟩ := ih (j + 1) n ν1 (by omega) (by omega)
      refine ⟨μ', s1.trans t1, fun a ha => (t2 a ha).trans (s2 a ha), t3.trans s3, fun i hi1 hi2 => ?_, fun k hk => ?_⟩
      · by_cases q : i = j
        · subst q
          rw [t5 _ (fun z hz1 hz2 => by omega), t5 _ (fun z hz1 hz2 => by omega), t5 _ (fun z hz1 hz2 => by omega), t5 _ (fun z hz1 hz2 => by omega)]
          exact s4
        · rw [← s2 6 (by decide), ← s2 7 (by decide), ← s2 8 (by decide), ← s2 9 (by decide)]
          exact t4 i (by omega) hi2
      · rw [t5 k (fun z hz1 hz2 => hk z (by omega) hz2)]
        obtain ⟨k1, k2, k3, k4⟩ := hk j (Nat.le_refl _) (by omega)
        exact s5 k k1 k2 k3 k4
  obtain ⟨μ', t1, t2, t3, t4, t5⟩ := e 6 0 zFU μ rfl (zFU_lt (by decide))
  rw [nI_0] at t1
  exact ⟨μ', t1, t2, t3, fun j hj => t4 j (Nat.zero_le _) hj, fun k hk => t5 k (fun i _ hi => by omega)⟩
theorem m_img136 {B : Nat} (hB : B ≤ 192) (μ : Mem) : ∃ μ', f_X10_image_239 zFU (nI B) 0 μ = some (1, μ') ∧ (∀ a, a ≠ 17 → μ'.1 a = μ.1 a) ∧ μ'.2 = μ.2 ∧ (∀ j, j < 136 → μ'.1 17 (B + 54 + j) = μ.1 13 j) ∧ ∀ k, (k < B + 54 ∨ B + 190 ≤ k) → μ'.1 17 k = μ.1 17 k := by
  have e := loop0 (fun n (ν : Mem) c => f_X10_image_239 n (nI B) c ν) (fun j ν => zI ν 17 (B + 54 + j) (ν.1 13 j)) 136 (by decide) (fun ν => some (1, ν)) (fun n ν => by
    show f_X10_image_239 (n + 1) _ (nI 136) ν = _
    rw [f_X10_image_239, if_pos (by decide)]) (fun n j ν hj => by
    show f_X10_image_239 (n + 1) _ (nI j) ν = f_X10_image_239 n _ (nI (j + 1)) _
    rw [f_X10_image_239, if_neg (show ¬ (136 : Int32) ≤ nI j from nI_ge (b := 136) hj (by decide)), show nI B + 54 = nI (B + 54) from nI_add B 54, nI_add, zck_t (zin_nI hj (by decide)), zck_t (zin_nI (by omega) (by decide)), zlet_eq, nI_clamp (by omega), nI_clamp (by omega), nI_1]) μ
  rw [nI_0] at e
  obtain ⟨h1, h2, h3, h4⟩ := cpy_iter 17 13 (fun j => B + 54 + j) (fun j => j) (by decide) (fun _ _ h => by omega) 136 μ
  exact ⟨_, e, h1, h2, h3, fun k hk => h4 k (fun j hj => by omega)⟩
theorem m_image {i : Nat} (hi : i < 2) (μ : Mem) : ∃ μ', f_X10_image (nI i) μ = some (1, μ') ∧ (∀ a, a ≠ 17 → a ≠ 18 → μ'.1 a = μ.1 a) ∧ μ'.2 = μ.2 ∧ (∀ k, k ≠ i → μ'.1 18 k = μ.1 18 k) ∧ μ'.1 18 i = 1 ∧ (∀ a k, rng a k → iv μ' i a k = mv μ a k) ∧ ∀ k, (k < 192 * i ∨ 192 * i + 190 ≤ k) → μ'.1 17 k = μ.1 17 k := by
  have hB : 192 * i ≤ 192 := by omega
  rw [f_X10_image, in_eq, zbind_eq, show inR (nI i) 0 1 = true from inR_of (m := 1) (by omega) (by decide), if_neg bIt, zck_t (zin_nI hi (by decide)), zlet_eq, nI_clamp (by omega), show (192 : Int32) * nI i = nI (192 * i) from nI_mul 192 i, zck_t (zin_nI (by omega) (by decide)), nI_1, nI_p2]
  obtain ⟨a1, b1, c1, d1⟩ := st1 μ 18 i 1
  generalize zI μ 18 i 1 = μ1 at a1 b1 c1 d1 ⊢
  rw [zlet_eq, nI_clamp (by omega)]
  obtain ⟨a2, b2, c2, d2⟩ := st1 μ1 17 (192 * i) (μ1.1 0 1)
  generalize zI μ1 17 (192 * i) (μ1.1 0 1) = μ2 at a2 b2 c2 d2 ⊢
  rw [zck_t (zin_nI (by omega) (by decide)), zlet_eq, nI_clamp (by omega)]
  obtain ⟨a3, b3, c3, d3⟩ := st1 μ2 17 (192 * i + 1) (μ2.1 0 2)
  generalize zI μ2 17 (192 * i + 1) (μ2.1 0 2) = μ3 at a3 b3 c3 d3 ⊢
  rw [zck_t (zin_nI (by omega) (by decide)), zlet_eq, nI_clamp (by omega)]
  obtain ⟨a4, b4, c4, d4⟩ := st1 μ3 17 (192 * i + 2) (μ3.1 0 19)
  generalize zI μ3 17 (192 * i + 2) (μ3.1 0 19) = μ4 at a4 b4 c4 d4 ⊢
  obtain ⟨μ5, e5, f5, g5, h5, k5⟩ := m_img5 hB μ4
  obtain ⟨μ6, e6, f6, g6, h6, k6⟩ := m_img12 hB μ5
  obtain ⟨μ7, e7, f7, g7, h7, k7⟩ := m_img6 hB μ6
  obtain ⟨μ8, e8, f8, g8, h8, k8⟩ := m_img136 hB μ7
  have F : ∀ a, a ≠ 17 → μ8.1 a = μ1.1 a := fun a ha => by rw [f8 a ha, f7 a ha, f6 a ha, f5 a ha, a4 a ha, a3 a ha, a2 a ha]
  have F4 : ∀ a, a ≠ 17 → a ≠ 18 → μ4.1 a = μ.1 a := fun a ha ha2 => by rw [a4 a ha, a3 a ha, a2 a ha, a1 a ha2]
  refine ⟨μ8, by rw [e5, e6, e7, e8], fun a h17 h18 => (F a h17).trans (a1 a h18), by rw [g8, g7, g6, g5, b4, b3, b2, b1], fun k hk => by rw [F 18 (by decide), c1 k hk], by rw [F 18 (by decide), d1], fun a k hr => ?_, fun k hk => by rw [k8 k (by omega), k7 k (by omega), k6 k (by omega), k5 k (by omega), c4 k (by omega), c3 k (by omega), c2 k (by omega), a1 17 (by decide)]⟩
  rcases hr with ⟨rfl, hk⟩ | ⟨z1, z2, hk⟩ | ⟨rfl, hk⟩ | ⟨z1, z2, hk⟩ | ⟨z1, hk⟩
  · show μ8.1 17 (192 * i + 0 + k) = mv μ 0 k
    rw [k8 _ (by omega), k7 _ (by omega), k6 _ (by omega), k5 _ (by omega)]
    rcases (show k = 0 ∨ k = 1 ∨ k = 2 by omega) with rfl | rfl | rfl
    · rw [c4 _ (by omega), c3 _ (by omega)]
      show μ2.1 17 (192 * i) = μ.1 0 1
      rw [d2, a1 0 (by decide)]
    · rw [c4 _ (by omega)]
      show μ3.1 17 (192 * i + 1) = μ.1 0 2
      rw [d3, a2 0 (by decide), a1 0 (by decide)]
    · show μ4.1 17 (192 * i + 2) = μ.1 0 19
      rw [d4, a3 0 (by decide), a2 0 (by decide), a1 0 (by decide)]
  · rcases (show a = 1 ∨ a = 2 ∨ a = 3 by omega) with rfl | rfl | rfl
    · show μ8.1 17 (192 * i + 3 + k) = μ.1 2 k
      rw [k8 _ (by omega), k7 _ (by omega), k6 _ (by omega), (h5 k hk).1, F4 2 (by decide) (by decide)]
    · show μ8.1 17 (192 * i + 8 + k) = μ.1 3 k
      rw [k8 _ (by omega), k7 _ (by omega), k6 _ (by omega), (h5 k hk).2.1, F4 3 (by decide) (by decide)]
    · show μ8.1 17 (192 * i + 13 + k) = μ.1 4 k
      rw [k8 _ (by omega), k7 _ (by omega), k6 _ (by omega), (h5 k hk).2.2, F4 4 (by decide) (by decide)]
  · show μ8.1 17 (192 * i + 18 + k) = μ.1 5 k
    rw [k8 _ (by omega), k7 _ (by omega), h6 k hk, f5 5 (by decide), F4 5 (by decide) (by decide)]
  · rcases (show a = 5 ∨ a = 6 ∨ a = 7 ∨ a = 8 by omega) with rfl | rfl | rfl | rfl
    · show μ8.1 17 (192 * i + 30 + k) = μ.1 6 k
      rw [k8 _ (by omega), (h7 k hk).1, f6 6 (by decide), f5 6 (by decide), F4 6 (by decide) (by decide)]
    · show μ8.1 17 (192 * i + 36 + k) = μ.1 7 k
      rw [k8 _ (by omega), (h7 k hk).2.1, f6 7 (by decide), f5 7 (by decide), F4 7 (by decide) (by decide)]
    · show μ8.1 17 (192 * i + 42 + k) = μ.1 8 k
      rw [k8 _ (by omega), (h7 k hk).2.2.1, f6 8 (by decide), f5 8 (by decide), F4 8 (by decide) (by decide)]
    · show μ8.1 17 (192 * i + 48 + k) = μ.1 9 k
      rw [k8 _ (by omega), (h7 k hk).2.2.2, f6 9 (by decide), f5 9 (by decide), F4 9 (by decide) (by decide)]
  · have ea : ivo a = 54 := by unfold ivo; rw [if_neg (by omega), if_neg (by omega), if_neg (by omega), if_neg (by omega), if_neg (by omega), if_neg (by omega), if_neg (by omega), if_neg (by omega), if_neg (by omega)]
    have em : mv μ a k = μ.1 13 k := by unfold mv; rw [if_neg (by omega), if_neg (by omega)]
    rw [em]
    show μ8.1 17 (192 * i + ivo a + k) = μ.1 13 k
    rw [ea, h8 k hk, f7 13 (by decide), f6 13 (by decide), f5 13 (by decide), F4 13 (by decide) (by decide)]
theorem ivo_rng {a k : Nat} (h : rng a k) : ivo a + k < 190 := by
  unfold rng at h
  unfold ivo
  repeat' split
  all_goals omega
theorem Sp_image_ok : Sp_image Rel := by
  intro μC μM a1 h
  by_cases hq : inR a1 0 1 = true
  · obtain ⟨i, hi, rfl⟩ := inR_nI (m := 1) (by decide) hq
    have hi : i < 2 := by omega
    obtain ⟨ν, m1, m2, m3, m4, m5, m6, m7⟩ := m_image hi μM
    obtain ⟨μ, b1, b2, b3, b4⟩ := becomes_ok (15 + 7 * i) 1 (by omega) μC
    rw [f_X9_image, within_eq, zbind_eq, hq, if_neg bIt, zck_t (zin_nI hi (by decide)), nI_clamp (by omega), b1, zbind_eq, zck_t (zin_nI hi (by decide)), zlet_eq, m1, show vp_nar .boolean (1 : Int32) = 1 from by decide +kernel]
    obtain ⟨x1, x2, x3, x4⟩ := st1 μ 37 i 1
    generalize zI μ 37 i 1 = μ' at x1 x2 x3 x4 ⊢
    refine ⟨1, μ', ν, rfl, rfl, ?_⟩
    obtain ⟨⟨nb, nn, nu, hn⟩, h0, h1, ⟨tl, t1, t2, t3, t4⟩, s1, s2, s3, s4, s5⟩ := id h
    have gc : ∀ a, a ≠ 37 → a < 15 + 7 * i ∨ 15 + 7 * i + 7 ≤ a → μ'.1 a = μC.1 a := fun a h1 h2 => by rw [x1 a h1, b2 a h2]
    have hRI : ∀ z, z < 2 → RI μC μM z → RI μ' ν z := by
      intro z hz hr
      by_cases q : z = i
      · subst q
        refine ⟨by rw [x4, m5], fun _ => ⟨nb, nn, nu, NR_congr2 (fun a k hr => ?_) (fun a k hr => m6 a k hr) hn⟩⟩
        rw [cv_same (μ := μ) (fun a h1 h2 => x1 a (by omega))]
        exact b4 a k hr
      · refine ⟨by rw [x3 z q, m4 z q, b2 37 (by omega)]; exact hr.1, fun hz0 => ?_⟩
        rw [x3 z q, b2 37 (by omega)] at hz0
        obtain ⟨p1, p2, p3, p4⟩ := hr.2 hz0
        refine ⟨p1, p2, p3, NR_congr2 (fun a k _ => by rw [cv_same (fun a h1 h2 => gc a (by omega) (by omega))]) (fun a k hr => ?_) p4⟩
        have := ivo_rng hr
        show ν.1 17 (192 * z + ivo a + k) = μM.1 17 (192 * z + ivo a + k)
        exact m7 _ (by omega)
    refine ⟨⟨nb, nn, nu, NR_congr (fun a k _ => by rw [cv_same (fun a h1 h2 => gc a (by omega) (by omega))]) (fun a k _ => ?_) hn⟩, hRI 0 (by decide) h0, hRI 1 (by decide) h1, ⟨tl, t1, by rw [gc 41 (by omega) (by omega)]; exact t2, by rw [m2 0 (by decide) (by decide)]; exact t3, fun k hk => by rw [m2 10 (by decide) (by decide), gc 42 (by omega) (by omega)]; exact t4 k hk⟩, by rw [m2 1 (by omega) (by omega), gc 0 (by omega) (by omega)]; exact s1, by rw [m2 1 (by omega) (by omega), gc 0 (by omega) (by omega)]; exact s2, by rw [m2 1 (by omega) (by omega), gc 0 (by omega) (by omega)]; exact s3, by rw [m3, x2, b3]; exact s4, by rw [m3, x2, b3]; exact s5⟩
    unfold mv
    rw [m2 0 (by decide) (by decide), m2 13 (by decide) (by decide)]
    by_cases q : a = 0
    · rw [if_pos q, if_pos q]
    · rw [if_neg q, if_neg q]
      by_cases q8 : a ≤ 8
      · rw [if_pos q8, if_pos q8, m2 (a + 1) (by omega) (by omega)]
      · rw [if_neg q8, if_neg q8]
  · rw [f_X9_image, within_eq, zbind_eq, f_X10_image, in_eq, zbind_eq, Bool.eq_false_iff.mpr hq]
    exact isbad h (if_pos rfl) (if_pos rfl)
