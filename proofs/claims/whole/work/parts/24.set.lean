/-! ===== night, boy, type, clear, note, forget ===== -/
theorem Rel_night {μC μC' μM μM' : Mem} (h : Rel μC μM) (hN : ∃ nb nn nu, NR (cv μC' 1) (mv μM') nb nn nu) (c : ∀ a, (15 ≤ a ∧ a ≤ 28) ∨ a = 37 ∨ a = 42 ∨ a = 41 ∨ a = 0 → μC'.1 a = μC.1 a) (c2 : μC'.2 = μC.2) (m : ∀ a, a = 1 ∨ a = 10 ∨ a = 17 ∨ a = 18 → μM'.1 a = μM.1 a) (m0 : μM'.1 0 12 = μM.1 0 12) (m2 : μM'.2 = μM.2) : Rel μC' μM' := by
  obtain ⟨-, h0, h1, ⟨tl, t1, t2, t3, t4⟩, s1, s2, s3, s4, s5⟩ := h
  refine ⟨hN, ?_, ?_, ⟨tl, t1, by rw [c 41 (by omega)]; exact t2, by rw [m0]; exact t3, fun k hk => by rw [m 10 (by omega), c 42 (by omega)]; exact t4 k hk⟩, by rw [m 1 (by omega), c 0 (by omega)]; exact s1, by rw [m 1 (by omega), c 0 (by omega)]; exact s2, by rw [m 1 (by omega), c 0 (by omega)]; exact s3, by rw [m2, c2]; exact s4, by rw [m2, c2]; exact s5⟩
  · unfold RI at h0 ⊢
    rw [m 18 (by omega), c 37 (by omega), iv_same (m 17 (by omega)), cv_same (fun a h1 h2 => c a (by omega))]
    exact h0
  · unfold RI at h1 ⊢
    rw [m 18 (by omega), c 37 (by omega), iv_same (m 17 (by omega)), cv_same (fun a h1 h2 => c a (by omega))]
    exact h1
theorem wipe_ok (o : Nat) (μ : Mem) : ∃ μ', f_X1_wipe o μ = some ((), μ') ∧ (∀ a, a ≠ o → a ≠ o + 4 → μ'.1 a = μ.1 a) ∧ μ'.2 = μ.2 ∧ μ'.1 o 7 = 0 ∧ μ'.1 o 8 = 0 ∧ μ'.1 o 9 = 0 ∧ ∀ j, j < 12 → μ'.1 (o + 4) j = -1 := by
  obtain ⟨μ1, f1, f2, f3, f4⟩ := fill_all (o + 4) (-1) μ
  rw [f_X1_wipe, f1, zbind_eq, zlet_eq]
  obtain ⟨a7, b7, c7, d7⟩ := st1 μ1 o 7 0
  generalize zI μ1 o 7 _ = μ7 at a7 b7 c7 d7 ⊢
  rw [zlet_eq]
  obtain ⟨a8, b8, c8, d8⟩ := st1 μ7 o 8 0
  generalize zI μ7 o 8 _ = μ8 at a8 b8 c8 d8 ⊢
  rw [zlet_eq]
  obtain ⟨a9, b9, c9, d9⟩ := st1 μ8 o 9 0
  generalize zI μ8 o 9 _ = μ9 at a9 b9 c9 d9 ⊢
  refine ⟨μ9, rfl, fun a h1 h2 => ?_, ?_, ?_, ?_, d9, fun j hj => ?_⟩
  · rw [a9 a h1, a8 a h1, a7 a h1, f3 a h2]
  · rw [b9, b8, b7, f4]
  · rw [c9 7 (by decide), c8 7 (by decide), d7]
  · rw [c9 8 (by decide), d8]
  · rw [a9 _ (by omega), a8 _ (by omega), a7 _ (by omega), f2 j hj]
theorem Sp_night_ok : Sp_night Rel := by
  intro μC μM h
  obtain ⟨nb, nn, nu, K, W, hNR, hC, hM, hO, hJ, -⟩ := Rel_q h
  obtain ⟨μ, w1, w2, w3, w4, w5, w6, w7⟩ := wipe_ok 1 μC
  obtain ⟨ν, b1, b2, b3, b4, b5⟩ := begin_all μM
  rw [f_X9_night, w1, zbind_eq, f_X10_night, b1, zbind_eq, hC.2.1, hM.2.1]
  refine ⟨_, μ, ν, rfl, rfl, Rel_night h ⟨0, 0, 0, by decide, by decide, by decide, w4, (b2 1).trans (if_pos (by decide)), w5, (b2 2).trans (if_pos (by decide)), w6, (b2 19).trans (if_pos (by decide)), fun b h => absurd h (Nat.not_lt_zero _), fun j hj => ?_, fun b h => absurd h (Nat.not_lt_zero _), fun b h => absurd h (Nat.not_lt_zero _)⟩ (fun a ha => w2 a (by omega) (by omega)) w3 (fun a ha => b4 a (by omega) (by omega)) ((b2 12).trans (if_neg (by decide))) b5⟩
  exact ⟨(b3 j hj).trans (w7 j hj).symm, Or.inl (w7 j hj)⟩
theorem comes_ok {o nb : Nat} {μ : Mem} (x1 x2 x3 : Int32) (hn : nb < 5) (h7 : μ.1 o 7 = nI nb) : ∃ μ', f_X1_comes o x1 x2 x3 μ = some (nI nb, μ') ∧ (∀ a, a ≠ o → a ≠ o + 1 → a ≠ o + 2 → a ≠ o + 3 → μ'.1 a = μ.1 a) ∧ μ'.2 = μ.2 ∧ μ'.1 o 7 = nI (nb + 1) ∧ μ'.1 o 9 = 0 ∧ μ'.1 o 8 = μ.1 o 8 ∧ (∀ k, μ'.1 (o + 1) k = if k = nb then x1 else μ.1 (o + 1) k) ∧ (∀ k, μ'.1 (o + 2) k = if k = nb then x2 else μ.1 (o + 2) k) ∧ ∀ k, μ'.1 (o + 3) k = if k = nb then x3 else μ.1 (o + 3) k := by
  rw [f_X1_comes, h7, if_pos (show nI nb < 5 from nI_lt (b := 5) hn (by decide)), zck_t (zin_nI hn (by decide)), zlet_eq, nI_clamp (by omega)]
  obtain ⟨a1, b1, c1, d1⟩ := st1 μ (o + 1) nb x1
  generalize zI μ (o + 1) nb x1 = μ1 at a1 b1 c1 d1 ⊢
  rw [a1 o (by omega), h7, zck_t (zin_nI hn (by decide)), zlet_eq, nI_clamp (by omega)]
  obtain ⟨a2, b2, c2, d2⟩ := st1 μ1 (o + 2) nb x2
  generalize zI μ1 (o + 2) nb x2 = μ2 at a2 b2 c2 d2 ⊢
  rw [a2 o (by omega), a1 o (by omega), h7, zck_t (zin_nI hn (by decide)), zlet_eq, nI_clamp (by omega)]
  obtain ⟨a3, b3, c3, d3⟩ := st1 μ2 (o + 3) nb x3
  generalize zI μ2 (o + 3) nb x3 = μ3 at a3 b3 c3 d3 ⊢
  rw [zlet_eq]
  obtain ⟨a4, b4, c4, d4⟩ := st1 μ3 o 9 0
  generalize zI μ3 o 9 0 = μ4 at a4 b4 c4 d4 ⊢
  have e7 : μ4.1 o 7 = nI nb := by rw [c4 7 (by decide), a3 o (by omega), a2 o (by omega), a1 o (by omega), h7]
  rw [zlet_eq, e7, nI_1]
  obtain ⟨a5, b5, c5, d5⟩ := st1 μ4 o 7 (nI (nb + 1))
  generalize zI μ4 o 7 (nI (nb + 1)) = μ5 at a5 b5 c5 d5 ⊢
  refine ⟨μ5, by rw [d5, nI_pred], fun a h0 h1 h2 h3 => by rw [a5 a h0, a4 a h0, a3 a h3, a2 a h2, a1 a h1], by rw [b5, b4, b3, b2, b1], d5, by rw [c5 9 (by decide), d4], by rw [c5 8 (by decide), c4 8 (by decide), a3 o (by omega), a2 o (by omega), a1 o (by omega)], fun k => ?_, fun k => ?_, fun k => ?_⟩
  · rw [a5 _ (by omega), a4 _ (by omega), a3 _ (by omega), a2 _ (by omega)]
    by_cases q : k = nb
    · rw [if_pos q, q, d1]
    · rw [if_neg q, c1 k q]
  · rw [a5 _ (by omega), a4 _ (by omega), a3 _ (by omega)]
    by_cases q : k = nb
    · rw [if_pos q, q, d2]
    · rw [if_neg q, c2 k q, a1 _ (by omega)]
  · rw [a5 _ (by omega), a4 _ (by omega)]
    by_cases q : k = nb
    · rw [if_pos q, q, d3]
    · rw [if_neg q, c3 k q, a2 _ (by omega), a1 _ (by omega)]
theorem addBoy_ok {nb : Nat} {μ : Mem} (x1 x2 x3 : Int32) (hn : nb < 5) (h7 : μ.1 0 1 = nI nb) : ∃ μ', f_X10_addBoy x1 x2 x3 μ = some (nI nb, μ') ∧ (∀ a, a ≠ 0 → a ≠ 2 → a ≠ 3 → a ≠ 4 → μ'.1 a = μ.1 a) ∧ μ'.2 = μ.2 ∧ μ'.1 0 1 = nI (nb + 1) ∧ μ'.1 0 19 = 0 ∧ (∀ k, k ≠ 1 → k ≠ 19 → μ'.1 0 k = μ.1 0 k) ∧ (∀ k, μ'.1 2 k = if k = nb then x1 else μ.1 2 k) ∧ (∀ k, μ'.1 3 k = if k = nb then x2 else μ.1 3 k) ∧ ∀ k, μ'.1 4 k = if k = nb then x3 else μ.1 4 k := by
  rw [f_X10_addBoy, h7, zck_t (zin_nI hn (by decide)), zlet_eq, nI_clamp (by omega)]
  obtain ⟨a1, b1, c1, d1⟩ := st1 μ 2 nb x1
  generalize zI μ 2 nb x1 = μ1 at a1 b1 c1 d1 ⊢
  rw [a1 0 (by omega), h7, zck_t (zin_nI hn (by decide)), zlet_eq, nI_clamp (by omega)]
  obtain ⟨a2, b2, c2, d2⟩ := st1 μ1 3 nb x2
  generalize zI μ1 3 nb x2 = μ2 at a2 b2 c2 d2 ⊢
  rw [a2 0 (by omega), a1 0 (by omega), h7, zck_t (zin_nI hn (by decide)), zlet_eq, nI_clamp (by omega)]
  obtain ⟨a3, b3, c3, d3⟩ := st1 μ2 4 nb x3
  generalize zI μ2 4 nb x3 = μ3 at a3 b3 c3 d3 ⊢
  rw [a3 0 (by omega), a2 0 (by omega), a1 0 (by omega), h7, zlet_eq, nI_1]
  obtain ⟨a4, b4, c4, d4⟩ := st1 μ3 0 1 (nI (nb + 1))
  generalize zI μ3 0 1 (nI (nb + 1)) = μ4 at a4 b4 c4 d4 ⊢
  rw [zlet_eq]
  obtain ⟨a5, b5, c5, d5⟩ := st1 μ4 0 19 0
  generalize zI μ4 0 19 0 = μ5 at a5 b5 c5 d5 ⊢
  have e1 : μ5.1 0 1 = nI (nb + 1) := by rw [c5 1 (by decide), d4]
  refine ⟨μ5, by rw [e1, nI_pred], fun a h0 h2 h3 h4 => by rw [a5 a h0, a4 a h0, a3 a h4, a2 a h3, a1 a h2], by rw [b5, b4, b3, b2, b1], e1, d5, fun k h1 h19 => by rw [c5 k h19, c4 k h1, a3 0 (by omega), a2 0 (by omega), a1 0 (by omega)], fun k => ?_, fun k => ?_, fun k => ?_⟩
  · rw [a5 _ (by omega), a4 _ (by omega), a3 _ (by omega), a2 _ (by omega)]
    by_cases q : k = nb
    · rw [if_pos q, q, d1]
    · rw [if_neg q, c1 k q]
  · rw [a5 _ (by omega), a4 _ (by omega), a3 _ (by omega)]
    by_cases q : k = nb
    · rw [if_pos q, q, d2]
    · rw [if_neg q, c2 k q, a1 _ (by omega)]
  · rw [a5 _ (by omega), a4 _ (by omega)]
    by_cases q : k = nb
    · rw [if_pos q, q, d3]
    · rw [if_neg q, c3 k q, a2 _ (by omega), a1 _ (by omega)]
theorem Sp_boy_ok : Sp_boy Rel := by
  intro μC μM a1 a2 a3 h
  obtain ⟨nb, nn, nu, K, W, hNR, hC, hM, hO, hJ, -⟩ := Rel_q h
  have h5 := hC.1
  rw [f_X9_boy, within_eq, zbind_eq, f_X10_boy, in_eq, zbind_eq]
  cases hq : inR a1 0 5
  · exact isbad h (if_pos rfl) (if_pos rfl)
  · obtain ⟨kd, hkd, rfl⟩ := inR_nI (m := 5) (by decide) hq
    rw [if_neg bIt, if_neg bIt, within_eq, zbind_eq, in_eq, zbind_eq]
    cases hq2 : inR a2 0 12
    · exact isbad h (if_pos rfl) (if_pos rfl)
    · rw [if_neg bIt, if_neg bIt, within_eq, zbind_eq, in_eq, zbind_eq]
      cases hq3 : inR a3 0 40
      · exact isbad h (if_pos rfl) (if_pos rfl)
      · rw [if_neg bIt, if_neg bIt, hC.2.1, hM.2.1]
        by_cases hn : nb = 5
        · subst hn
          exact isfull h (if_neg (by decide)) (if_pos (by decide))
        · have hn5 : nb < 5 := by omega
          obtain ⟨μ, c1, c2, c3, c4, c5, c6, c7, c8, c9⟩ := comes_ok (o := 1) (nI kd) a2 a3 hn5 hC.2.1
          obtain ⟨ν, m1, m2, m3, m4, m5, m6, m7, m8, m9⟩ := addBoy_ok (nI kd) a2 a3 hn5 hM.2.1
          rw [if_pos (show nI nb < 5 from nI_lt (b := 5) hn5 (by decide)), if_neg (show ¬ nI nb = 5 from nIne (b := 5) hn (by omega) (by decide)), c1, zbind_eq, m1, zbind_eq]
          obtain ⟨h1, h2, h3, e4, e5, e6, e7, e8, e9, hB, hW, hN, hU⟩ := id hNR
          refine ⟨_, μ, ν, rfl, rfl, Rel_night h ⟨nb + 1, nn, 0, by omega, h2, by omega, c4, m4, c6.trans e6, (m6 2 (by decide) (by decide)).trans e7, c5, m5, fun b hb => ?_, fun j hj => ?_, fun k hk => ?_, fun b h => absurd h (Nat.not_lt_zero _)⟩ (fun a ha => c2 a (by omega) (by omega) (by omega) (by omega)) c3 (fun a ha => m2 a (by omega) (by omega) (by omega) (by omega)) (m6 12 (by decide) (by decide)) m3⟩
          · show (∃ k, k < 6 ∧ μ.1 2 b = nI k) ∧ ν.1 2 b = μ.1 2 b ∧ ν.1 3 b = μ.1 3 b ∧ ν.1 4 b = μ.1 4 b
            rw [c7 b, c8 b, c9 b, m7 b, m8 b, m9 b]
            by_cases q : b = nb
            · rw [if_pos q, if_pos q, if_pos q, if_pos q, if_pos q, if_pos q]
              exact ⟨⟨kd, by omega, rfl⟩, rfl, rfl, rfl⟩
            · rw [if_neg q, if_neg q, if_neg q, if_neg q, if_neg q, if_neg q]
              exact hB b (by omega)
          · show ν.1 5 j = μ.1 5 j ∧ (μ.1 5 j = -1 ∨ ∃ b, b < nb + 1 ∧ μ.1 5 j = nI b)
            rw [c2 5 (by decide) (by decide) (by decide) (by decide), m2 5 (by decide) (by decide) (by decide) (by decide)]
            obtain ⟨w1, w2⟩ := hW j hj
            refine ⟨w1, ?_⟩
            rcases w2 with e | ⟨b, hb, e⟩
            · exact Or.inl e
            · exact Or.inr ⟨b, by omega, e⟩
          · show ν.1 6 k = μ.1 6 (4 * k + 0) ∧ ν.1 7 k = μ.1 6 (4 * k + 1) ∧ ν.1 8 k = μ.1 6 (4 * k + 2) ∧ ν.1 9 k = μ.1 6 (4 * k + 3)
            rw [c2 6 (by decide) (by decide) (by decide) (by decide), m2 6 (by decide) (by decide) (by decide) (by decide), m2 7 (by decide) (by decide) (by decide) (by decide), m2 8 (by decide) (by decide) (by decide) (by decide), m2 9 (by decide) (by decide) (by decide) (by decide)]
            exact hN k hk
theorem Rel_text {μC μC' μM μM' : Mem} (h : Rel μC μM) (hT : RT μC' μM') (c : ∀ a, a ≠ 41 → a ≠ 42 → μC'.1 a = μC.1 a) (c2 : μC'.2 = μC.2) (m : ∀ a, a ≠ 0 → a ≠ 10 → μM'.1 a = μM.1 a) (m0 : ∀ k, k ≠ 12 → μM'.1 0 k = μM.1 0 k) (m2 : μM'.2 = μM.2) : Rel μC' μM' := by
  obtain ⟨⟨nb, nn, nu, hn⟩, h0, h1, -, s1, s2, s3, s4, s5⟩ := h
  refine ⟨⟨nb, nn, nu, NR_congr (fun a k _ => by rw [cv_same (fun a h1 h2 => c a (by omega) (by omega))]) (fun a k _ => ?_) hn⟩, ?_, ?_, hT, by rw [m 1 (by omega) (by omega), c 0 (by omega) (by omega)]; exact s1, by rw [m 1 (by omega) (by omega), c 0 (by omega) (by omega)]; exact s2, by rw [m 1 (by omega) (by omega), c 0 (by omega) (by omega)]; exact s3, by rw [m2, c2]; exact s4, by rw [m2, c2]; exact s5⟩
  · unfold mv
    rw [m0 1 (by decide), m0 2 (by decide), m0 19 (by decide), m 13 (by decide) (by decide)]
    by_cases q : a = 0
    · rw [if_pos q, if_pos q]
    · rw [if_neg q, if_neg q]
      by_cases q8 : a ≤ 8
      · rw [if_pos q8, if_pos q8, m (a + 1) (by omega) (by omega)]
      · rw [if_neg q8, if_neg q8]
  · unfold RI at h0 ⊢
    rw [m 18 (by decide) (by decide), c 37 (by decide) (by decide), iv_same (m 17 (by decide) (by decide)), cv_same (fun a h1 h2 => c a (by omega) (by omega))]
    exact h0
  · unfold RI at h1 ⊢
    rw [m 18 (by decide) (by decide), c 37 (by decide) (by decide), iv_same (m 17 (by decide) (by decide)), cv_same (fun a h1 h2 => c a (by omega) (by omega))]
    exact h1
theorem nar_byte {v : Nat} (hv : v < 128) : vp_nar .byte ((nI v).toInt8.toInt32) = nI v := by
  have h : ∀ v : Fin 128, vp_nar .byte ((nI v.val).toInt8.toInt32) = nI v.val := by decide +kernel
  exact h ⟨v, hv⟩
theorem Sp_type_ok : Sp_type Rel := by
  intro μC μM a1 h
  obtain ⟨-, -, -, ⟨tl, t1, t2, t3, t4⟩, -⟩ := id h
  rw [f_X9_type, within_eq, zbind_eq, f_X10_type, in_eq, zbind_eq]
  cases hq : inR a1 0 127
  · exact isbad h (if_pos rfl) (if_pos rfl)
  · obtain ⟨v, hv, rfl⟩ := inR_nI (m := 127) (by decide) hq
    rw [if_neg bIt, if_neg bIt, t2, t3]
    by_cases hn : tl = 150
    · subst hn
      exact isfull h (if_neg (by decide)) (if_pos (by decide))
    · have hl : tl < 150 := by omega
      have hlt : nI tl < 150 := nI_lt (b := 150) hl (by decide)
      rw [if_pos hlt, if_neg (show ¬ nI tl = 150 from nIne (b := 150) hn (by omega) (by decide)), f_X8_put, t2, if_pos hlt, zck_t (zin_nI hl (by decide)), zck_t (zin_nI hl (by decide)), zlet_eq, zlet_eq, nI_clamp (by omega), nar_byte (by omega)]
      obtain ⟨x1, x2, x3, x4⟩ := st1 μC 42 tl (nI v)
      generalize zI μC 42 tl (nI v) = μ at x1 x2 x3 x4 ⊢
      obtain ⟨y1, y2, y3, y4⟩ := st1 μM 10 tl (nI v)
      generalize zI μM 10 tl (nI v) = ν at y1 y2 y3 y4 ⊢
      rw [x1 41 (by decide), t2, nI_1, zlet_eq, y1 0 (by decide), t3, nI_1, zlet_eq]
      obtain ⟨z1, z2, z3, z4⟩ := st1 μ 41 1 (nI (tl + 1))
      generalize zI μ 41 1 (nI (tl + 1)) = μ' at z1 z2 z3 z4 ⊢
      obtain ⟨u1, u2, u3, u4⟩ := st1 ν 0 12 (nI (tl + 1))
      generalize zI ν 0 12 (nI (tl + 1)) = ν' at u1 u2 u3 u4 ⊢
      rw [z4, u4, zbind_eq]
      refine ⟨_, μ', ν', rfl, rfl, Rel_text h ⟨tl + 1, by omega, z4, u4, fun k hk => ?_⟩ (fun a h1 h2 => by rw [z1 a h1, x1 a h2]) (by rw [z2, x2]) (fun a h1 h2 => by rw [u1 a h1, y1 a h2]) (fun k hk => by rw [u3 k hk, y1 0 (by decide)]) (by rw [u2, y2])⟩
      rw [z1 42 (by decide), u1 10 (by decide)]
      by_cases q : k = tl
      · subst q
        rw [x4, y4]
        exact ⟨rfl, v, by omega, rfl⟩
      · rw [x3 k q, y3 k q]
        exact t4 k (by omega)
theorem Sp_clear_ok : Sp_clear Rel := by
  intro μC μM h
  obtain ⟨-, -, -, ⟨tl, t1, t2, t3, t4⟩, -⟩ := id h
  rw [f_X9_clear, zlet_eq, f_X10_clear, zlet_eq, t2, t3]
  obtain ⟨z1, z2, z3, z4⟩ := st1 μC 41 1 0
  generalize zI μC 41 1 0 = μ' at z1 z2 z3 z4 ⊢
  obtain ⟨u1, u2, u3, u4⟩ := st1 μM 0 12 0
  generalize zI μM 0 12 0 = ν' at u1 u2 u3 u4 ⊢
  exact ⟨_, μ', ν', rfl, rfl, Rel_text h ⟨0, by omega, z4, u4, fun k hk => absurd hk (Nat.not_lt_zero _)⟩ (fun a h1 h2 => z1 a h1) z2 (fun a h1 h2 => u1 a h1) u3 u2⟩
theorem Sp_forget_ok : Sp_forget Rel := by
  intro μC μM h
  obtain ⟨nb, nn, nu, K, W, hNR, hC, hM, hO, hJ, h6, h8, m8, hN⟩ := Rel_q h
  rw [f_X9_forget, zlet_eq, f_X10_forget, zlet_eq, h8, m8]
  obtain ⟨z1, z2, z3, z4⟩ := st1 μC 1 8 0
  generalize zI μC 1 8 0 = μ' at z1 z2 z3 z4 ⊢
  obtain ⟨u1, u2, u3, u4⟩ := st1 μM 0 2 0
  generalize zI μM 0 2 0 = ν' at u1 u2 u3 u4 ⊢
  obtain ⟨h1, h2, h3, e4, e5, e6, e7, e8, e9, hB, hW, hN, hU⟩ := id hNR
  refine ⟨_, μ', ν', rfl, rfl, Rel_night h ⟨nb, 0, nu, h1, by omega, h3, (z3 7 (by decide)).trans e4, (u3 1 (by decide)).trans e5, z4, u4, (z3 9 (by decide)).trans e8, (u3 19 (by decide)).trans e9, fun b hb => ?_, fun j hj => ?_, fun k hk => absurd hk (Nat.not_lt_zero _), fun u hu => ?_⟩ (fun a ha => z1 a (by omega)) z2 (fun a ha => u1 a (by omega)) (u3 12 (by decide)) u2⟩
  · show (∃ k, k < 6 ∧ μ'.1 2 b = nI k) ∧ ν'.1 2 b = μ'.1 2 b ∧ ν'.1 3 b = μ'.1 3 b ∧ ν'.1 4 b = μ'.1 4 b
    rw [z1 2 (by decide), z1 3 (by decide), z1 4 (by decide), u1 2 (by decide), u1 3 (by decide), u1 4 (by decide)]
    exact hB b hb
  · show ν'.1 5 j = μ'.1 5 j ∧ (μ'.1 5 j = -1 ∨ ∃ b, b < nb ∧ μ'.1 5 j = nI b)
    rw [z1 5 (by decide), u1 5 (by decide)]
    exact hW j hj
  · show (∀ j, j < 12 → ν'.1 13 (17 * u + j) = μ'.1 7 (17 * u + j) ∧ (μ'.1 7 (17 * u + j) = -1 ∨ ∃ b, b < nb ∧ μ'.1 7 (17 * u + j) = nI b)) ∧ ∀ b, b < nb → ν'.1 13 (17 * u + 12 + b) = μ'.1 7 (17 * u + 12 + b)
    rw [z1 7 (by decide), u1 13 (by decide)]
    exact hU u hu
theorem Sp_note_ok : Sp_note Rel := by
  intro μC μM a1 a2 a3 a4 h
  obtain ⟨nb, nn, nu, K, W, hNR, hC, hM, hO, hJ, h6, h8, m8, hN⟩ := Rel_q h
  rw [f_X9_note, CN_boy hC, zbind_eq, f_X10_note, MN_boy hM, zbind_eq]
  cases hq : inR a1 0 (nI nb - 1)
  · exact isbad h (if_pos rfl) (if_pos rfl)
  rw [if_neg bIt, if_neg bIt, isCell_eq, zbind_eq, m_isCell_eq, zbind_eq]
  cases hq2 : inR a2 0 11
  · exact isbad h (if_pos rfl) (if_pos rfl)
  rw [if_neg bIt, if_neg bIt, within_eq, zbind_eq, in_eq, zbind_eq]
  cases hq3 : inR a3 0 20
  · exact isbad h (if_pos rfl) (if_pos rfl)
  rw [if_neg bIt, if_neg bIt, within_eq, zbind_eq, in_eq, zbind_eq]
  cases hq4 : inR a4 0 1
  · exact isbad h (if_pos rfl) (if_pos rfl)
  rw [if_neg bIt, if_neg bIt, h8, m8]
  by_cases hn : nn = 6
  · subst hn
    exact isfull h (if_neg (by decide)) (if_pos (by decide))
  have hl : nn < 6 := by omega
  have hlt : nI nn < 6 := nI_lt (b := 6) hl (by decide)
  rw [if_pos hlt, if_neg (show ¬ nI nn = 6 from nIne (b := 6) hn (by omega) (by decide)), f_X1_putDown, h8, if_pos hlt, nI_m4, nI_1, nI_p2, nI_p3, zck_t (zin_nI (by omega) (by decide)), zlet_eq, nI_clamp (by omega)]
  obtain ⟨x1, x2, x3, x4⟩ := st1 μC (1 + 5) (4 * nn) a1
  generalize zI μC (1 + 5) (4 * nn) a1 = μ1 at x1 x2 x3 x4 ⊢
  rw [zck_t (zin_nI (by omega) (by decide)), zlet_eq, nI_clamp (by omega)]
  obtain ⟨x5, x6, x7, x8⟩ := st1 μ1 (1 + 5) (4 * nn + 1) a2
  generalize zI μ1 (1 + 5) (4 * nn + 1) a2 = μ2 at x5 x6 x7 x8 ⊢
  rw [zck_t (zin_nI (by omega) (by decide)), zlet_eq, nI_clamp (by omega)]
  obtain ⟨x9, x10, x11, x12⟩ := st1 μ2 (1 + 5) (4 * nn + 2) a3
  generalize zI μ2 (1 + 5) (4 * nn + 2) a3 = μ3 at x9 x10 x11 x12 ⊢
  rw [zck_t (zin_nI (by omega) (by decide)), zlet_eq, nI_clamp (by omega)]
  obtain ⟨x13, x14, x15, x16⟩ := st1 μ3 (1 + 5) (4 * nn + 3) a4
  generalize zI μ3 (1 + 5) (4 * nn + 3) a4 = μ4 at x13 x14 x15 x16 ⊢
  rw [zlet_eq, x13 1 (by decide), x9 1 (by decide), x5 1 (by decide), x1 1 (by decide), h8, nI_1]
  obtain ⟨x17, x18, x19, x20⟩ := st1 μ4 1 8 (nI (nn + 1))
  generalize zI μ4 1 8 (nI (nn + 1)) = μ5 at x17 x18 x19 x20 ⊢
  rw [x20, zbind_eq, zck_t (zin_nI hl (by decide)), zlet_eq, nI_clamp (by omega)]
  obtain ⟨y1, y2, y3, y4⟩ := st1 μM 6 nn a1
  generalize zI μM 6 nn a1 = ν1 at y1 y2 y3 y4 ⊢
  rw [y1 0 (by decide), m8, zck_t (zin_nI hl (by decide)), zlet_eq, nI_clamp (by omega)]
  obtain ⟨y5, y6, y7, y8⟩ := st1 ν1 7 nn a2
  generalize zI ν1 7 nn a2 = ν2 at y5 y6 y7 y8 ⊢
  rw [y5 0 (by decide), y1 0 (by decide), m8, zck_t (zin_nI hl (by decide)), zlet_eq, nI_clamp (by omega)]
  obtain ⟨y9, y10, y11, y12⟩ := st1 ν2 8 nn a3
  generalize zI ν2 8 nn a3 = ν3 at y9 y10 y11 y12 ⊢
  rw [y9 0 (by decide), y5 0 (by decide), y1 0 (by decide), m8, zck_t (zin_nI hl (by decide)), zlet_eq, nI_clamp (by omega)]
  obtain ⟨y13, y14, y15, y16⟩ := st1 ν3 9 nn a4
  generalize zI ν3 9 nn a4 = ν4 at y13 y14 y15 y16 ⊢
  rw [y13 0 (by decide), y9 0 (by decide), y5 0 (by decide), y1 0 (by decide), m8, nI_1, zlet_eq]
  obtain ⟨y17, y18, y19, y20⟩ := st1 ν4 0 2 (nI (nn + 1))
  generalize zI ν4 0 2 (nI (nn + 1)) = ν5 at y17 y18 y19 y20 ⊢
  rw [y20]
  have gc : ∀ a, a ≠ 1 → a ≠ 6 → μ5.1 a = μC.1 a := fun a h1 h2 => by rw [x17 a h1, x13 a h2, x9 a h2, x5 a h2, x1 a h2]
  have gc1 : ∀ k, k ≠ 8 → μ5.1 1 k = μC.1 1 k := fun k hk => by rw [x19 k hk, x13 1 (by decide), x9 1 (by decide), x5 1 (by decide), x1 1 (by decide)]
  have gm : ∀ a, a ≠ 0 → a ≠ 6 → a ≠ 7 → a ≠ 8 → a ≠ 9 → ν5.1 a = μM.1 a := fun a h0 h6 h7 h8 h9 => by rw [y17 a h0, y13 a h9, y9 a h8, y5 a h7, y1 a h6]
  have gm0 : ∀ k, k ≠ 2 → ν5.1 0 k = μM.1 0 k := fun k hk => by rw [y19 k hk, y13 0 (by decide), y9 0 (by decide), y5 0 (by decide), y1 0 (by decide)]
  obtain ⟨h1, h2, h3, e4, e5, e6, e7, e8, e9, hB, hW, hN', hU⟩ := id hNR
  refine ⟨_, μ5, ν5, rfl, rfl, Rel_night h ⟨nb, nn + 1, nu, h1, by omega, h3, (gc1 7 (by decide)).trans e4, (gm0 1 (by decide)).trans e5, x20, y20, (gc1 9 (by decide)).trans e8, (gm0 19 (by decide)).trans e9, fun b hb => ?_, fun j hj => ?_, fun k hk => ?_, fun u hu => ?_⟩ (fun a ha => gc a (by omega) (by omega)) (by rw [x18, x14, x10, x6, x2]) (fun a ha => gm a (by omega) (by omega) (by omega) (by omega) (by omega)) (gm0 12 (by decide)) (by rw [y18, y14, y10, y6, y2])⟩
  · show (∃ k, k < 6 ∧ μ5.1 2 b = nI k) ∧ ν5.1 2 b = μ5.1 2 b ∧ ν5.1 3 b = μ5.1 3 b ∧ ν5.1 4 b = μ5.1 4 b
    rw [gc 2 (by decide) (by decide), gc 3 (by decide) (by decide), gc 4 (by decide) (by decide), gm 2 (by decide) (by decide) (by decide) (by decide) (by decide), gm 3 (by decide) (by decide) (by decide) (by decide) (by decide), gm 4 (by decide) (by decide) (by decide) (by decide) (by decide)]
    exact hB b hb
  · show ν5.1 5 j = μ5.1 5 j ∧ (μ5.1 5 j = -1 ∨ ∃ b, b < nb ∧ μ5.1 5 j = nI b)
    rw [gc 5 (by decide) (by decide), gm 5 (by decide) (by decide) (by decide) (by decide) (by decide)]
    exact hW j hj
  · show ν5.1 6 k = μ5.1 6 (4 * k + 0) ∧ ν5.1 7 k = μ5.1 6 (4 * k + 1) ∧ ν5.1 8 k = μ5.1 6 (4 * k + 2) ∧ ν5.1 9 k = μ5.1 6 (4 * k + 3)
    rw [x17 6 (by decide), y17 6 (by decide), y17 7 (by decide), y17 8 (by decide), y17 9 (by decide), y13 6 (by decide), y13 7 (by decide), y13 8 (by decide), y9 6 (by decide), y9 7 (by decide), y5 6 (by decide)]
    by_cases q : k = nn
    · subst q
      exact ⟨by rw [y4]; exact ((x15 (4 * k) (by omega)).trans ((x11 (4 * k) (by omega)).trans ((x7 (4 * k) (by omega)).trans x4))).symm, by rw [y8]; exact ((x15 (4 * k + 1) (by omega)).trans ((x11 (4 * k + 1) (by omega)).trans x8)).symm, by rw [y12]; exact ((x15 (4 * k + 2) (by omega)).trans x12).symm, by rw [y16]; exact x16.symm⟩
    · have g : ∀ z, z < 4 → μ4.1 6 (4 * k + z) = μC.1 6 (4 * k + z) := fun z hz => ((x15 (4 * k + z) (by omega)).trans ((x11 (4 * k + z) (by omega)).trans ((x7 (4 * k + z) (by omega)).trans (x3 (4 * k + z) (by omega)))))
      rw [g 0 (by decide), g 1 (by decide), g 2 (by decide), g 3 (by decide), y3 k q, y7 k q, y11 k q, y15 k q, y1 7 (by decide), y5 8 (by decide), y1 8 (by decide), y9 9 (by decide), y5 9 (by decide), y1 9 (by decide)]
      exact hN' k (by omega)
  · show (∀ j, j < 12 → ν5.1 13 (17 * u + j) = μ5.1 7 (17 * u + j) ∧ (μ5.1 7 (17 * u + j) = -1 ∨ ∃ b, b < nb ∧ μ5.1 7 (17 * u + j) = nI b)) ∧ ∀ b, b < nb → ν5.1 13 (17 * u + 12 + b) = μ5.1 7 (17 * u + 12 + b)
    rw [gc 7 (by decide) (by decide), gm 13 (by decide) (by decide) (by decide) (by decide) (by decide)]
    exact hU u hu
