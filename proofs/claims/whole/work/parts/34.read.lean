/-! ===== read ===== -/
def CG (μ μ' : Mem) : Prop := (∀ a, (a < 8 ∨ 15 ≤ a) → a ≠ 41 → μ'.1 a = μ.1 a) ∧ μ'.2 = μ.2 ∧ μ'.1 41 1 = μ.1 41 1
theorem CF.cg {μ μ' : Mem} (h : CF μ μ') : CG μ μ' := ⟨h.1, h.2.1, h.2.2 1 (by decide) (by decide) (by decide)⟩
theorem CG.trans {μ μ' μ'' : Mem} (h : CG μ μ') (h' : CG μ' μ'') : CG μ μ'' := ⟨fun a ha hb => (h'.1 a ha hb).trans (h.1 a ha hb), h'.2.1.trans h.2.1, h'.2.2.trans h.2.2⟩
theorem cg_5 (μ : Mem) (k : Nat) (x : Int32) (hk : k ≠ 1) : CG μ (zI μ 41 k x) := by
  obtain ⟨e1, e2, e3, -⟩ := st1 μ 41 k x
  exact ⟨fun a _ h => e1 a h, e2, e3 1 (fun e => hk e.symm)⟩
theorem PS_5 {μ ν : Mem} {tl nb : Nat} {X : Nat → Int32} (h : PS μ ν tl X nb) (x : Int32) : PS (zI μ 41 5 x) ν tl X nb := by
  obtain ⟨p1, p2, p3, p4, p5, p6, p7, p8, p9⟩ := h
  obtain ⟨e1, e2, e3, -⟩ := st1 μ 41 5 x
  exact ⟨⟨p1.1, by rw [e3 1 (by decide)]; exact p1.2.1, fun k hk => by rw [e1 42 (by decide)]; exact p1.2.2 k hk⟩, p2, p3, by rw [e1 8 (by decide)]; exact p4, p5, by rw [e1 8 (by decide)]; exact p6, by rw [e1 8 (by decide)]; exact p7, fun b hb => by rw [e1 9 (by decide), e1 10 (by decide), e1 11 (by decide)]; exact p8 b hb, fun j hj => by rw [e1 12 (by decide)]; exact p9 j hj⟩
def TR (tl : Nat) (X : Nat → Int32) (μ' ν' : Mem) (y z : Option (Int32 × Mem)) : Prop := (∃ c nb, 1 ≤ c ∧ c ≤ 151 ∧ y = some (nI c, μ') ∧ z = some (nI c, ν') ∧ PS μ' ν' tl X nb) ∨ ∃ s', s' ≤ tl ∧ y = some (-10 - nI s', μ') ∧ z = some (-1, ν') ∧ ν'.1 0 13 = nI s'
noncomputable def tellR (n : Nat) (μ : Mem) : Option (Int32 × Mem) := (if (μ.1 41 5) ≤ 0 then f_X8_tell_48 8 (fun  ν => f_X8_tell_14 8 n  ν) μ else (if (μ.1 41 3) = 0 then some ((μ.1 41 5), μ) else f_X8_tell_48 8 (fun  ν => f_X8_tell_14 8 n  ν) μ))
theorem tell_14 (n : Nat) (μ : Mem) : f_X8_tell_14 8 (n + 1) μ = (if (μ.1 41 1) < (μ.1 41 5) then some ((μ.1 41 5), μ) else zbind (f_X8_next μ) (fun _ μ1 => tellR n μ1)) := by
  rw [f_X8_tell_14]; rfl
theorem tell_loop {tl : Nat} {X : Nat → Int32} : ∀ (k s c n m nb : Nat) (μ ν : Mem), tl - s ≤ k → s ≤ tl → 1 ≤ c → c ≤ s → k < n → k < m → PS μ ν tl X nb → μ.1 41 5 = nI c → μ.1 41 4 = nI s → μ.1 41 3 = nI (kd tl X s) → μ.1 41 2 = nI (en tl X s) → ν.1 0 13 = nI s → ∃ μ' ν', TR tl X μ' ν' (tellR n μ) (f_X10_readsNight_69 m (nI c) ν) ∧ CG μ μ' ∧ GF ν ν' := by
  intro k
  induction k with
  | zero =>
    intro s c n m nb μ ν hk hs hc hcs hn hm hP h5 h4 h3 h2 h13
    obtain ⟨n, rfl⟩ : ∃ q, n = q + 1 := ⟨n - 1, by omega⟩
    obtain ⟨m, rfl⟩ : ∃ q, m = q + 1 := ⟨m - 1, by omega⟩
    have hl := hP.1.1
    have hkd : kd tl X s = 0 := by unfold kd; rw [if_neg (by omega)]
    refine ⟨μ, ν, Or.inl ⟨c, nb, hc, by omega, ?_, ?_, hP⟩, (CF.refl μ).cg, GF.refl ν⟩
    · rw [tellR, h5, if_neg (nI_nle (by omega) (by omega)), h3, hkd, if_pos (by rfl)]
    · rw [f_X10_readsNight_69, hP.2.1.2.1, h13, if_pos (nI_le (by omega) (by omega))]
  | succ k ih =>
    intro s c n m nb μ ν hk hs hc hcs hn hm hP h5 h4 h3 h2 h13
    obtain ⟨n, rfl⟩ : ∃ q, n = q + 1 := ⟨n - 1, by omega⟩
    obtain ⟨m, rfl⟩ : ∃ q, m = q + 1 := ⟨m - 1, by omega⟩
    have hl := hP.1.1
    rw [tellR, h5, if_neg (nI_nle (by omega) (by omega)), h3, f_X10_readsNight_69, hP.2.1.2.1, h13]
    by_cases hst : s < tl
    · have hkd : kd tl X s ≠ 0 := by
        unfold kd
        rw [if_pos hst]
        repeat' split
        all_goals omega
      have hk4 := kd_le tl X s
      rw [if_neg (show ¬ nI (kd tl X s) = 0 from nI_ne0 (by omega) (by omega)), if_neg (nI_ge hst (by omega)), f_X8_tell_48]
      obtain ⟨ok, μ1, ν1, x1, x2, x3, x4, x5, x6⟩ := item_ok hP hs (by rw [h5]; exact nI_ne0 (by omega) (by omega)) h4 h3 h2 h13
      rw [x1, zbind_eq, x2, zbind_eq]
      cases ok
      · obtain ⟨s', y1, y2, y3⟩ := x6 rfl
        rw [if_pos bIf, if_pos bIf, y2]
        exact ⟨μ1, ν1, Or.inr ⟨s', y1, rfl, rfl, y3⟩, x3.cg, x4⟩
      · obtain ⟨nb', p, y1, y2, y3, y4, y5⟩ := x5 rfl
        rw [if_neg bIt, if_neg bIt, x3.2.2 5 (by decide) (by decide) (by decide), h5, nI_1, zlet_eq]
        have hlen : (zI μ1 41 5 (nI (c + 1))).1 41 1 = nI tl := (PS_5 y1 (nI (c + 1))).1.2.1
        have hit : (zI μ1 41 5 (nI (c + 1))).1 41 5 = nI (c + 1) := (st1 μ1 41 5 (nI (c + 1))).2.2.2
        rw [tell_14, hlen, hit, if_neg (nI_nlt (by omega) (by omega))]
        have f5 := cg_5 μ1 5 (nI (c + 1)) (by decide)
        have hP2 := PS_5 y1 (nI (c + 1))
        obtain ⟨μ2, c1, c2, c3, c4, c5⟩ := c_next hP2.1 y3 (show (zI μ1 41 5 (nI (c + 1))).1 41 2 = nI p from y4)
        obtain ⟨ν2, d1, d2, d3⟩ := m_skip y1.2.1 y3 y5
        obtain ⟨v1, v2, -⟩ := eo_spec (spB X) y3
        generalize eo (spB X) tl p = s2 at c3 c4 c5 d3 v1 v2
        rw [c1, zbind_eq, d1, zbind_eq]
        obtain ⟨μ', ν', g1, g2, g3⟩ := ih s2 (c + 1) n m nb' μ2 ν2 (by omega) v2 (by omega) (by omega) (by omega) (by omega) (PS_fr hP2 c2 d2.nf) (by rw [c2.2.2 5 (by decide) (by decide) (by decide)]; rfl) c3 c4 c5 d3
        exact ⟨μ', ν', g1, ((x3.cg.trans f5).trans c2.cf.cg).trans g2, (x4.trans d2.nf.gf).trans g3⟩
    · have hkd : kd tl X s = 0 := by unfold kd; rw [if_neg hst]
      rw [hkd, if_pos (by rfl), if_pos (nI_le (by omega) (by omega))]
      exact ⟨μ, ν, Or.inl ⟨c, nb, hc, by omega, rfl, rfl, hP⟩, (CF.refl μ).cg, GF.refl ν⟩
theorem tell_all {μC μM : Mem} {tl : Nat} {X : Nat → Int32} (hC : CT μC tl X) (hM : MT μM tl X) : ∃ μ' ν', TR tl X μ' ν' (f_X8_tell 8 μC) (f_X10_readsNight μM) ∧ CG μC μ' ∧ GF μM ν' := by
  have hl := hC.1
  rw [f_X8_tell, zlet_eq]
  have f1 := cg_5 μC 2 0 (by decide)
  have g2 : (zI μC 41 2 0).1 41 2 = 0 := rfl
  generalize zI μC 41 2 0 = μ1 at f1 g2 ⊢
  obtain ⟨μ2, w1, w2, w3, w4, w5, w6, w7⟩ := wipe_ok 8 μ1
  have f2 : CG μC μ2 := f1.trans ⟨fun a ha _ => w2 a (by omega) (by omega), w3, by rw [w2 41 (by decide) (by decide)]⟩
  have hC2 : CT μ2 tl X := ⟨hl, by rw [f2.2.2]; exact hC.2.1, fun k hk => by rw [f2.1 42 (by decide) (by decide)]; exact hC.2.2 k hk⟩
  rw [w1, zbind_eq, zlet_eq, f_X10_readsNight, zlet_eq, zlet_eq]
  -- the reference makes all grey
  obtain ⟨a1, b1, c1, d1⟩ := st1 μM 0 13 0
  generalize zI μM 0 13 0 = ν1 at a1 b1 c1 d1 ⊢
  obtain ⟨a2, b2, c2, d2⟩ := st1 ν1 0 14 0
  generalize zI ν1 0 14 0 = ν2 at a2 b2 c2 d2 ⊢
  have e := loopI (fun n (ν : Mem) c => f_X10_readsNight_12 n c ν) (fun j ν => zI ν 12 j (-1)) 12 (fun ν => zbind (f_X10_skip ν) (fun _ μ1 => zbind (f_X10_wordHere μ1) (fun r3 μ2 => (if r3 = 0 then zlet (zI μ2 0 13 ((μ2.1 0 13) + (5 : Int32))) (fun μ4 => zbind (f_X10_ends μ4) (fun r6 μ5 => (if r6 = 0 then some ((-1 : Int32), μ5) else zbind (f_X10_skip μ5) (fun _ μ7 => f_X10_readsNight_69 zFU (1 : Int32) μ7)))) else some ((-1 : Int32), μ2))))) (fun i (ν : Mem) => (∀ a, a ≠ 12 → ν.1 a = ν2.1 a) ∧ ν.2 = ν2.2 ∧ ∀ k, k < i → ν.1 12 k = -1) (fun n ν _ => by
    show f_X10_readsNight_12 (n + 1) (nI 12) ν = _
    rw [f_X10_readsNight_12, if_pos (by decide)]) (fun n j ν hj hν => ⟨by
    show f_X10_readsNight_12 (n + 1) (nI j) ν = f_X10_readsNight_12 n (nI (j + 1)) _
    rw [f_X10_readsNight_12, if_neg (lt12 hj), zck_t (zin_nI hj (by decide)), zlet_eq, nI_clamp (by omega), nI_1], by
    obtain ⟨e1, e2, e3, e4⟩ := st1 ν 12 j (-1)
    refine ⟨fun a ha => (e1 a ha).trans (hν.1 a ha), e2.trans hν.2.1, fun k hk => ?_⟩
    by_cases q : k = j
    · subst q; exact e4
    · exact (e3 k q).trans (hν.2.2 k (by omega))⟩) 12 0 zFU ν2 rfl (zFU_lt (by decide)) ⟨fun _ _ => rfl, rfl, fun k hk => absurd hk (Nat.not_lt_zero _)⟩
  obtain ⟨e, i1, i2, i3⟩ := e
  generalize iter (fun j ν => zI ν 12 j (-1)) 0 12 ν2 = ν3 at e i1 i2 i3
  rw [nI_0] at e
  rw [e]
  have h0 : ∀ k, k ≠ 13 → k ≠ 14 → ν3.1 0 k = μM.1 0 k := fun k h1 h2 => by rw [i1 0 (by decide), c2 k h2, c1 k h1]
  have G3 : GF μM ν3 := ⟨fun a h0 _ h12 => by rw [i1 a h12, a2 a h0, a1 a h0], by rw [i2, b2, b1], fun k h1 h2 _ => h0 k h1 h2⟩
  have hM3 : MT ν3 tl X := ⟨hl, by rw [h0 12 (by decide) (by decide)]; exact hM.2.1, fun k hk => by rw [G3.1 10 (by decide) (by decide) (by decide)]; exact hM.2.2 k hk⟩
  have hP0 : PS μ2 ν3 tl X 0 := ⟨hC2, hM3, by omega, w4, by rw [i1 0 (by decide)]; exact d2, w5, w6, fun b hb => absurd hb (Nat.not_lt_zero _), fun j hj => ⟨by rw [i3 j hj]; exact (w7 j hj).symm, Or.inl (w7 j hj)⟩⟩
  have h13 : ν3.1 0 13 = nI 0 := by rw [i1 0 (by decide), c2 13 (by decide), d1]; rfl
  have h2' : μ2.1 41 2 = nI 0 := by rw [w2 41 (by decide) (by decide), g2]; rfl
  have hP := PS_5 hP0 0
  obtain ⟨o1, o2, o3, o4⟩ := st1 μ2 41 5 0
  have f3 : CG μC (zI μ2 41 5 0) := f2.trans (cg_5 μ2 5 0 (by decide))
  generalize zI μ2 41 5 0 = μ3 at hP o1 o2 o3 o4 f3 ⊢
  have h2 : μ3.1 41 2 = nI 0 := by rw [o3 2 (by decide)]; exact h2'
  have h5 : μ3.1 41 5 = 0 := o4
  have h1 : μ3.1 41 1 = nI tl := hP.1.2.1
  obtain ⟨μ4, n1, n2, n3, n4, n5⟩ := c_next hP.1 (Nat.zero_le tl) h2
  obtain ⟨ν4, s1, s2, s3⟩ := m_skip hM3 (Nat.zero_le tl) h13
  obtain ⟨-, v2, -⟩ := eo_spec (spB X) (Nat.zero_le tl)
  generalize eo (spB X) tl 0 = s at n3 n4 n5 s3 v2
  have hP4 := PS_fr hP n2 s2.nf
  obtain ⟨n, hf⟩ : ∃ n, zFU = n + 1 + 1 := ⟨398, by rw [zFU_eq]⟩
  have h54 : μ4.1 41 5 = 0 := by rw [n2.2.2 5 (by decide) (by decide) (by decide)]; exact h5
  rw [hf, tell_14, h1, h5, if_neg (show ¬ nI tl < 0 from nI_nlt (a := tl) (b := 0) (Nat.zero_le _) (by omega)), n1, zbind_eq, s1, zbind_eq, tellR, h54, if_pos (by decide), f_X8_tell_48, f_X8_item, h54, if_pos rfl, c_word hP4.1 v2 (by decide) n3 n4 n5, zbind_eq, m_word hP4.2.1 v2 s3, zbind_eq]
  have F4 := f3.trans n2.cf.cg
  have G4 := G3.trans s2.nf.gf
  cases w0 : wB tl X s 0
  · rw [if_pos bIf, zbind_eq, if_pos rfl, n3, if_neg Bool.false_ne_true]
    have ne : ¬ (if wB tl X s 1 = true then (1 : Int32) else if wB tl X s 2 = true then 2 else -1) = 0 := by
      cases wB tl X s 1 <;> cases wB tl X s 2 <;> decide
    rw [if_neg ne]
    exact ⟨μ4, ν4, Or.inr ⟨s, v2, rfl, rfl, s3⟩, F4, G4⟩
  · obtain ⟨q1, q2⟩ := wB_en v2 (by decide) w0
    rw [show wl 0 = 5 from by decide] at q1
    obtain ⟨u1, u2, u3⟩ := en_le (X := X) v2
    rw [if_neg bIt, if_pos rfl, if_pos rfl, s3, show nI s + 5 = nI (s + 5) from nI_add s 5, ← q1, zlet_eq]
    have f6 := mf_st ν4 (nI (en tl X s))
    obtain ⟨μ5, t1, t2, t3, t4, t5⟩ := c_stops hP4.1 u2 n5
    obtain ⟨ν5, r1, r2, r3⟩ := m_ends (MT_fr hP4.2.1 f6) u2 rfl
    obtain ⟨v3, v4, -⟩ := eo_spec (spB X) u2
    generalize eo (spB X) tl (en tl X s) = s2 at t1 t3 t4 t5 r1 r3 v3 v4
    rw [t1, zbind_eq, r1, zbind_eq]
    by_cases k3 : kd tl X s2 = 3
    · rw [if_pos k3] at r3
      rw [decide_eq_true k3, if_neg bIt, if_neg bIt, zbind_eq, if_neg (by decide), t2.2.2 5 (by decide) (by decide) (by decide), h54, show (0 : Int32) + 1 = nI 1 from rfl, zlet_eq]
      obtain ⟨u4, u5, u6⟩ := en_le (X := X) v4
      have u6 := u6 (kd3.mp k3).1
      have hP5 := PS_5 (PS_fr hP4 t2 (f6.trans r2).nf) (nI 1)
      have f5 := cg_5 μ5 5 (nI 1) (by decide)
      have hlen : (zI μ5 41 5 (nI 1)).1 41 1 = nI tl := hP5.1.2.1
      have hit : (zI μ5 41 5 (nI 1)).1 41 5 = nI 1 := (st1 μ5 41 5 (nI 1)).2.2.2
      rw [tell_14, hlen, hit, if_neg (nI_nlt (by omega) (by omega))]
      obtain ⟨μ6, y1, y2, y3, y4, y5⟩ := c_next hP5.1 u5 (show (zI μ5 41 5 (nI 1)).1 41 2 = nI (en tl X s2) from t5)
      obtain ⟨ν6, z1, z2, z3⟩ := m_skip hP5.2.1 u5 r3
      obtain ⟨v5, v6, -⟩ := eo_spec (spB X) u5
      generalize eo (spB X) tl (en tl X s2) = s3 at y3 y4 y5 z3 v5 v6
      rw [y1, zbind_eq, z1, zbind_eq]
      have hn : n = 398 := by have := zFU_eq; omega
      obtain ⟨μ', ν', l1, l2, l3⟩ := tell_loop (tl - s3) s3 1 n (n + 1 + 1) 0 μ6 ν6 (Nat.le_refl _) v6 (by omega) (by omega) (by omega) (by omega) (PS_fr hP5 y2 z2.nf) (by rw [y2.2.2 5 (by decide) (by decide) (by decide)]; rfl) y3 y4 y5 z3
      exact ⟨μ', ν', l1, (((F4.trans t2.cf.cg).trans f5).trans y2.cf.cg).trans l2, ((G4.trans (f6.trans r2).nf.gf).trans z2.nf.gf).trans l3⟩
    · rw [if_neg k3] at r3
      rw [decide_eq_false k3, if_pos bIf, if_pos bIf, zbind_eq, if_pos rfl, t3]
      exact ⟨μ5, ν5, Or.inr ⟨s2, v4, rfl, rfl, r3⟩, F4.trans t2.cf.cg, G4.trans (f6.trans r2).nf.gf⟩
theorem m_boys {nb : Nat} {x1 : Int32} {ν0 : Mem} (h5 : nb ≤ 5) (h14 : ν0.1 0 14 = nI nb) : ∀ (k j n : Nat) (ν : Mem), j + k = nb → k < n → (∀ a, a ≠ 0 → a ≠ 2 → a ≠ 3 → a ≠ 4 → ν.1 a = ν0.1 a) → ν.2 = ν0.2 → ν.1 0 1 = nI j → ν.1 0 19 = 0 → (∀ k, k ≠ 1 → k ≠ 19 → ν.1 0 k = ν0.1 0 k) → (∀ b, b < j → ν.1 2 b = ν0.1 11 (3 * b) ∧ ν.1 3 b = ν0.1 11 (3 * b + 1) ∧ ν.1 4 b = ν0.1 11 (3 * b + 2)) → ∃ ν', f_X10_read_23 n x1 (nI j) ν = f_X10_read_72 zFU x1 0 ν' ∧ (∀ a, a ≠ 0 → a ≠ 2 → a ≠ 3 → a ≠ 4 → ν'.1 a = ν0.1 a) ∧ ν'.2 = ν0.2 ∧ ν'.1 0 1 = nI nb ∧ ν'.1 0 19 = 0 ∧ (∀ k, k ≠ 1 → k ≠ 19 → ν'.1 0 k = ν0.1 0 k) ∧ ∀ b, b < nb → ν'.1 2 b = ν0.1 11 (3 * b) ∧ ν'.1 3 b = ν0.1 11 (3 * b + 1) ∧ ν'.1 4 b = ν0.1 11 (3 * b + 2) := by
  intro k
  induction k with
  | zero =>
    intro j n ν h1 h2 q1 q2 q3 q4 q5 q6
    obtain ⟨n, rfl⟩ : ∃ q, n = q + 1 := ⟨n - 1, by omega⟩
    obtain rfl : j = nb := by omega
    refine ⟨ν, ?_, q1, q2, q3, q4, q5, q6⟩
    rw [f_X10_read_23, q5 14 (by decide) (by decide), h14, if_pos (ile _)]
  | succ k ih =>
    intro j n ν h1 h2 q1 q2 q3 q4 q5 q6
    obtain ⟨n, rfl⟩ : ∃ q, n = q + 1 := ⟨n - 1, by omega⟩
    rw [f_X10_read_23, q5 14 (by decide) (by decide), h14, if_neg (nI_ge (by omega) (by omega)), show (3 : Int32) * nI j = nI (3 * j) from nI_mul 3 j, nI_1, nI_p2, zck_t (zin_nI (by omega) (by decide)), zck_t (zin_nI (by omega) (by decide)), zck_t (zin_nI (by omega) (by decide)), nI_clamp (by omega), nI_clamp (by omega), nI_clamp (by omega), q1 11 (by decide) (by decide) (by decide) (by decide), nI_1]
    obtain ⟨ν', m1, m2, m3, m4, m5, m6, m7, m8, m9⟩ := addBoy_ok (μ := ν) (ν0.1 11 (3 * j)) (ν0.1 11 (3 * j + 1)) (ν0.1 11 (3 * j + 2)) (show j < 5 by omega) q3
    rw [m1, zbind_eq]
    refine ih (j + 1) n ν' (by omega) (by omega) (fun a h0 h2 h3 h4 => (m2 a h0 h2 h3 h4).trans (q1 a h0 h2 h3 h4)) (m3.trans q2) m4 m5 (fun k h1 h19 => (m6 k h1 h19).trans (q5 k h1 h19)) (fun b hb => ?_)
    rw [m7 b, m8 b, m9 b]
    by_cases z : b = j
    · subst z
      rw [if_pos rfl, if_pos rfl, if_pos rfl]
      exact ⟨rfl, rfl, rfl⟩
    · rw [if_neg z, if_neg z, if_neg z]
      exact q6 b (by omega)
theorem neg_le {s : Nat} (h : s ≤ 150) : (-10 - nI s : Int32) ≤ 0 := by
  have : ∀ s : Fin 151, (-10 - nI s.val : Int32) ≤ 0 := by decide +kernel
  exact this ⟨s, by omega⟩
theorem Sp_read_ok : Sp_read Rel := by
  intro μC μM h
  obtain ⟨hN0, hI0, hI1, ⟨tl, t1, t2, t3, t4⟩, s1, s2, s3, s4, s5⟩ := id h
  have hC : CT μC tl (μC.1 42) := ⟨t1, t2, fun _ _ => rfl⟩
  have hM : MT μM tl (μC.1 42) := ⟨t1, t3, fun k hk => (t4 k hk).1⟩
  obtain ⟨μ, ν, hT, F, G⟩ := tell_all hC hM
  rw [f_X9_read, f_X10_read]
  rcases hT with ⟨c, nb, c1, c2, e1, e2, hP⟩ | ⟨s', q1, e1, e2, q4⟩
  · obtain ⟨p1, p2, p3, p4, p5, p6, p7, p8, p9⟩ := hP
    rw [e1, zbind_eq, if_neg (nI_nle (by omega) (by omega)), e2, zbind_eq, if_pos (nI_pos' (by omega))]
    obtain ⟨μ', b1, b2, b3, b4⟩ := becomes_ok 1 8 (by omega) μ
    obtain ⟨ν1, g1, g2, g3, g4, g5⟩ := begin_all ν
    rw [b1, zbind_eq, g1, zbind_eq]
    obtain ⟨ν2, r1, r2, r3, r4, r5, r6, r7⟩ := m_boys (x1 := nI c) (ν0 := ν1) p3 (by rw [g2 14, if_neg (by decide)]; exact p5) nb 0 zFU ν1 (by omega) (zFU_lt (by omega)) (fun _ _ _ _ _ => rfl) rfl ((g2 1).trans (if_pos (by decide))) ((g2 19).trans (if_pos (by decide))) (fun _ _ _ => rfl) (fun b hb => absurd hb (Nat.not_lt_zero _))
    rw [nI_0] at r1
    have e := loop0 (fun n (ν : Mem) z => f_X10_read_72 n (nI c) z ν) (fun j ν => zI ν 5 j (ν.1 12 j)) 12 (by decide) (fun ν => some (nI c, ν)) (fun n ν => by
      show f_X10_read_72 (n + 1) _ (nI 12) ν = _
      rw [f_X10_read_72, if_pos (by decide)]) (fun n j ν hj => by
      show f_X10_read_72 (n + 1) _ (nI j) ν = f_X10_read_72 n _ (nI (j + 1)) _
      rw [f_X10_read_72, if_neg (lt12 hj), zck_t (zin_nI hj (by decide)), zck_t (zin_nI hj (by decide)), zlet_eq, nI_clamp (by omega), nI_1]) ν2
    obtain ⟨k1, k2, k3, -⟩ := cpy_iter 5 12 (fun j => j) (fun j => j) (by decide) (fun _ _ h => h) 12 ν2
    generalize iter (fun j ν => zI ν 5 j (ν.1 12 j)) 0 12 ν2 = ν3 at e k1 k2 k3
    rw [nI_0] at e
    rw [r1, e]
    have M : ∀ a, a ≠ 0 → a ≠ 2 → a ≠ 3 → a ≠ 4 → a ≠ 5 → ν3.1 a = ν.1 a := fun a h0 h2 h3 h4 h5 => by rw [k1 a h5, r2 a h0 h2 h3 h4, g4 a h0 h5]
    have M0 : ∀ k, k ≠ 1 → k ≠ 2 → k ≠ 19 → ν3.1 0 k = ν.1 0 k := fun k h1 h2 h19 => by rw [k1 0 (by decide), r6 k h1 h19, g2 k, if_neg (by omega)]
    have cC : ∀ a, (15 ≤ a ∧ a ≤ 28) ∨ a = 37 ∨ a = 42 ∨ a = 0 → μ'.1 a = μC.1 a := fun a ha => by rw [b2 a (by omega), F.1 a (by omega) (by omega)]
    have cM : ∀ a, a = 1 ∨ a = 10 ∨ a = 17 ∨ a = 18 → ν3.1 a = μM.1 a := fun a ha => by rw [M a (by omega) (by omega) (by omega) (by omega) (by omega), G.1 a (by omega) (by omega) (by omega)]
    have hRI : ∀ z, z < 2 → RI μC μM z → RI μ' ν3 z := by
      intro z hz hr
      unfold RI at hr ⊢
      rw [cM 18 (by omega), cC 37 (by omega), iv_same (cM 17 (by omega)), cv_same (fun a h1 h2 => cC a (by omega))]
      exact hr
    refine ⟨nI c, μ', ν3, rfl, rfl, ⟨nb, 0, 0, p3, by omega, by omega, (b4 0 0 (by unfold rng; omega)).trans p4, ?_, (b4 0 1 (by unfold rng; omega)).trans p6, ?_, (b4 0 2 (by unfold rng; omega)).trans p7, ?_, fun b hb => ?_, fun j hj => ?_, fun k hk => absurd hk (Nat.not_lt_zero _), fun u hu => absurd hu (Nat.not_lt_zero _)⟩, hRI 0 (by decide) hI0, hRI 1 (by decide) hI1, ⟨tl, t1, ?_, ?_, fun k hk => ?_⟩, ?_, ?_, ?_, ?_, ?_⟩
    · show ν3.1 0 1 = nI nb
      rw [k1 0 (by decide)]; exact r4
    · show ν3.1 0 2 = nI 0
      rw [k1 0 (by decide), r6 2 (by decide) (by decide), g2 2, if_pos (by decide)]; rfl
    · show ν3.1 0 19 = nI 0
      rw [k1 0 (by decide)]; exact r5
    · rw [b4 1 b (by unfold rng; omega), b4 2 b (by unfold rng; omega), b4 3 b (by unfold rng; omega)]
      obtain ⟨x1, x2, x3, x4⟩ := p8 b hb
      obtain ⟨y1, y2, y3⟩ := r7 b hb
      refine ⟨x1, ?_, ?_, ?_⟩
      · show ν3.1 2 b = μ.1 9 b
        rw [k1 2 (by decide), y1, g4 11 (by decide) (by decide), x2]
      · show ν3.1 3 b = μ.1 10 b
        rw [k1 3 (by decide), y2, g4 11 (by decide) (by decide), x3]
      · show ν3.1 4 b = μ.1 11 b
        rw [k1 4 (by decide), y3, g4 11 (by decide) (by decide), x4]
    · rw [b4 4 j (by unfold rng; omega)]
      show ν3.1 5 j = μ.1 12 j ∧ (μ.1 12 j = -1 ∨ ∃ b, b < nb ∧ μ.1 12 j = nI b)
      rw [k3 j hj, r2 12 (by decide) (by decide) (by decide) (by decide), g4 12 (by decide) (by decide)]
      exact p9 j hj
    · rw [b2 41 (by omega), F.2.2]; exact t2
    · rw [M0 12 (by decide) (by decide) (by decide), G.2.2 12 (by decide) (by decide) (by decide)]; exact t3
    · rw [cM 10 (by omega), cC 42 (by omega)]; exact t4 k hk
    · rw [cM 1 (by omega), cC 0 (by omega)]; exact s1
    · rw [cM 1 (by omega), cC 0 (by omega)]; exact s2
    · rw [cM 1 (by omega), cC 0 (by omega)]; exact s3
    · rw [k2, r3, g5, G.2.1, b3, F.2.1]; exact s4
    · rw [k2, r3, g5, G.2.1, b3, F.2.1]; exact s5
  · rw [e1, zbind_eq, if_pos (neg_le (by omega)), e2, zbind_eq, if_neg (by decide), q4]
    exact ⟨_, μ, ν, rfl, rfl, Rel_same ⟨fun a ha => F.1 a (by omega) (by omega), by rw [F.1 0 (by omega) (by omega)], by rw [F.1 0 (by omega) (by omega)], by rw [F.1 0 (by omega) (by omega)], F.2.2, by rw [F.2.1], by rw [F.2.1]⟩ ⟨fun a ha => G.1 a (by omega) (by omega) (by omega), fun j _ => by rw [G.1 5 (by omega) (by omega) (by omega)], G.2.2 1 (by decide) (by decide) (by decide), G.2.2 2 (by decide) (by decide) (by decide), G.2.2 12 (by decide) (by decide) (by decide), G.2.2 19 (by decide) (by decide) (by decide), by rw [G.2.1], by rw [G.2.1]⟩ h⟩
theorem all_steps : AllSteps Rel := ⟨Sp_night_ok, Sp_boy_ok, Sp_give_ok, Sp_type_ok, Sp_clear_ok, Sp_read_ok, Sp_swap_ok, Sp_sell_ok, Sp_undo_ok, Sp_of_ok, Sp_worth_ok, Sp_whose_ok, Sp_enough_ok, Sp_envy_ok, Sp_fair_ok, Sp_pieces_ok, Sp_swaps_ok, Sp_steps_ok, Sp_sale_ok, Sp_longest_ok, Sp_together_ok, Sp_note_ok, Sp_forget_ok, Sp_is_ok, Sp_asks_ok, Sp_took_ok, Sp_owls_ok, Sp_terms_ok, Sp_part_ok, Sp_image_ok, Sp_from_ok, Sp_status_ok, Sp_count_ok, Sp_digest_ok⟩
