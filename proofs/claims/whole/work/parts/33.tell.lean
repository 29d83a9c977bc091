/-! ===== read: boys, items, the whole text ===== -/
def BF (ν ν' : Mem) : Prop := (∀ a, a ≠ 0 → a ≠ 11 → ν'.1 a = ν.1 a) ∧ ν'.2 = ν.2 ∧ ∀ k, k ≠ 13 → k ≠ 17 → ν'.1 0 k = ν.1 0 k
theorem BF.gf {ν ν' : Mem} (h : BF ν ν') : GF ν ν' := ⟨fun a ha hb _ => h.1 a ha hb, h.2.1, fun k h1 _ h3 => h.2.2 k h1 h3⟩
theorem BF.trans {μ μ' μ'' : Mem} (h : BF μ μ') (h' : BF μ' μ'') : BF μ μ'' := ⟨fun a ha hb => (h'.1 a ha hb).trans (h.1 a ha hb), h'.2.1.trans h.2.1, fun k h2 h3 => (h'.2.2 k h2 h3).trans (h.2.2 k h2 h3)⟩
theorem MT_bf {μ μ' : Mem} {tl : Nat} {X : Nat → Int32} (h : MT μ tl X) (f : BF μ μ') : MT μ' tl X := ⟨h.1, by rw [f.2.2 12 (by decide) (by decide)]; exact h.2.1, fun k hk => by rw [f.1 10 (by decide) (by decide)]; exact h.2.2 k hk⟩
def bmx (i : Nat) : Int32 := if i = 0 then 5 else if i = 1 then 12 else 40
theorem m_boyN {ν : Mem} {tl q nb i : Nat} {X : Nat → Int32} (n : Nat) (hi : i < 3) (hM : MT ν tl X) (hq : q ≤ tl) (hn : nb < 5) (h14 : ν.1 0 14 = nI nb) (h13 : ν.1 0 13 = nI q) : ∃ ν', (numOk tl X (eo (spB X) tl q) (bmx i) = true → f_X10_readsBoy_2 (n + 1) (nI i) ν = f_X10_readsBoy_2 n (nI (i + 1)) ν' ∧ BF ν ν' ∧ ν'.1 0 13 = nI (en tl X (eo (spB X) tl q)) ∧ ν'.1 11 (3 * nb + i) = nv tl X (eo (spB X) tl q) ∧ ∀ k, k ≠ 3 * nb + i → ν'.1 11 k = ν.1 11 k) ∧ (numOk tl X (eo (spB X) tl q) (bmx i) = false → f_X10_readsBoy_2 (n + 1) (nI i) ν = some (0, ν') ∧ GF ν ν' ∧ ν'.1 0 13 = nI (eo (spB X) tl q)) := by
  have e0 : f_X10_readsBoy_2 (n + 1) (nI i) ν = f_X10_readsBoy_29 (fun a0 ν => f_X10_readsBoy_2 n a0 ν) (nI i) 0 (bmx i) ν := by
    rw [f_X10_readsBoy_2, if_neg (show ¬ (3 : Int32) ≤ nI i from nI_ge (b := 3) hi (by decide))]
    rcases (show i = 0 ∨ i = 1 ∨ i = 2 by omega) with rfl | rfl | rfl
    · rw [if_pos (by decide)]; rfl
    · rw [if_neg (by decide), if_pos (by decide)]; rfl
    · rw [if_neg (by decide), if_neg (by decide)]; rfl
  obtain ⟨ν1, d1, d2, d3, d4⟩ := m_num (bmx i) hM hq h13
  generalize eo (spB X) tl q = s at d1 d3 d4 ⊢
  rw [e0, f_X10_readsBoy_29, d1, zbind_eq]
  cases ho : numOk tl X s (bmx i)
  · refine ⟨ν1, fun z => absurd z (by decide), fun _ => ?_⟩
    rw [if_pos bIf]
    exact ⟨rfl, d2.gf, d4 ho⟩
  · obtain ⟨a, b⟩ := d3 ho
    rw [if_neg bIt, d2.2.2 14 (by decide) (by decide), h14, show (3 : Int32) * nI nb = nI (3 * nb) from nI_mul 3 nb, nI_add, zck_t (zin_nI (by omega) (by decide)), zlet_eq, nI_clamp (by omega), nI_1, a]
    obtain ⟨y1, y2, y3, y4⟩ := st1 ν1 11 (3 * nb + i) (nv tl X s)
    generalize zI ν1 11 (3 * nb + i) (nv tl X s) = ν2 at y1 y2 y3 y4 ⊢
    refine ⟨ν2, fun _ => ⟨rfl, ⟨fun a h0 h11 => by rw [y1 a h11, d2.1 a h0], by rw [y2, d2.2.1], fun k h1 h2 => by rw [y1 0 (by decide), d2.2.2 k h1 h2]⟩, by rw [y1 0 (by decide)]; exact b, y4, fun k hk => by rw [y3 k hk, d2.1 11 (by decide)]⟩, fun z => absurd z (by decide)⟩
theorem num_nat {tl s m : Nat} {X : Nat → Int32} (hm : m < 2 ^ 31) (hs : s ≤ tl) (h : numOk tl X s (nI m) = true) : (∃ w, w ≤ m ∧ nv tl X s = nI w) ∧ s < tl ∧ s < en tl X s ∧ en tl X s ≤ tl := by
  unfold numOk at h
  rw [Bool.and_eq_true] at h
  obtain ⟨-, h1, -⟩ := kd2_en (of_decide_eq_true h.1)
  obtain ⟨u1, u2, u3⟩ := en_le (X := X) hs
  exact ⟨inR_nI hm h.2, h1, u3 h1, u2⟩
theorem boy_item {μ ν : Mem} {tl q nb : Nat} {X : Nat → Int32} (hP : PS μ ν tl X nb) (hn : nb < 5) (hq : q ≤ tl) (h2 : μ.1 41 2 = nI q) (h13 : ν.1 0 13 = nI q) : ∃ (ok : Bool) (μ' ν' : Mem), f_X8_boyItem 8 μ = some (bI ok, μ') ∧ f_X10_readsBoy ν = some (bI ok, ν') ∧ IR tl X q μ ν μ' ν' ok := by
  obtain ⟨p1, p2, p3, p4, p5, p6, p7, p8, p9⟩ := id hP
  have hl := p1.1
  obtain ⟨n, hf⟩ : ∃ n, zFU = n + 1 + 1 + 1 + 1 := ⟨396, by rw [zFU_eq]⟩
  rw [f_X8_boyItem, p4, if_pos (show nI nb < 5 from nI_lt (b := 5) hn (by decide)), f_X10_readsBoy, hf]
  -- the kind
  obtain ⟨μ1, c1, c2, c3, c4, c5⟩ := c_num 5 p1 hq h2
  obtain ⟨ν1, m1, m1'⟩ := m_boyN (n + 1 + 1 + 1) (i := 0) (by decide) p2 hq hn p5 h13
  obtain ⟨v1, v2, -⟩ := eo_spec (spB X) hq
  generalize eo (spB X) tl q = s1 at c1 c3 c4 c5 m1 m1' v1 v2
  rw [c1, zbind_eq]
  rw [nI_0] at m1 m1'
  cases o1 : numOk tl X s1 5
  · obtain ⟨e1, e2, e3⟩ := m1' o1
    rw [if_neg Bool.false_ne_true, if_pos rfl, e1]
    exact ⟨false, μ1, ν1, rfl, rfl, c2.cf, e2, fun z => absurd z (by decide), fun _ => ⟨s1, v2, c3, e3⟩⟩
  obtain ⟨e1, e2, e3, e4, e5⟩ := m1 o1
  obtain ⟨⟨w1, hw1, ew1⟩, r1, r2, r3⟩ := num_nat (m := 5) (by decide) v2 o1
  rw [if_pos rfl, ew1, if_neg (nI_ne_m1 (by omega)), e1]
  -- the need
  obtain ⟨μ2, f1, f2, f3, f4, f5⟩ := c_num 12 (CT_fr p1 c2) r3 c5
  obtain ⟨ν2, m2, m2'⟩ := m_boyN (n + 1 + 1) (i := 1) (by decide) (MT_bf p2 e2) r3 hn (show ν1.1 0 14 = nI nb by rw [e2.2.2 14 (by decide) (by decide)]; exact p5) e3
  obtain ⟨v3, v4, -⟩ := eo_spec (spB X) r3
  generalize eo (spB X) tl (en tl X s1) = s2 at f1 f3 f4 f5 m2 m2' v3 v4
  rw [f1, zbind_eq]
  cases o2 : numOk tl X s2 12
  · obtain ⟨g1, g2, g3⟩ := m2' o2
    rw [if_neg Bool.false_ne_true, if_pos rfl, show nI (0 + 1) = nI 1 from rfl, g1]
    exact ⟨false, μ2, ν2, rfl, rfl, (c2.trans f2).cf, e2.gf.trans g2, fun z => absurd z (by decide), fun _ => ⟨s2, v4, f3, g3⟩⟩
  obtain ⟨g1, g2, g3, g4, g5⟩ := m2 o2
  obtain ⟨⟨w2, hw2, ew2⟩, r4, r5, r6⟩ := num_nat (m := 12) (by decide) v4 o2
  rw [if_pos rfl, ew2, if_neg (nI_ne_m1 (by omega)), show nI (0 + 1) = nI 1 from rfl, g1]
  -- the jam
  obtain ⟨μ3, a1, a2, a3, a4, a5⟩ := c_num 40 (CT_fr p1 (c2.trans f2)) r6 f5
  obtain ⟨ν3, m3, m3'⟩ := m_boyN (n + 1) (i := 2) (by decide) (MT_bf p2 (e2.trans g2)) r6 hn (show ν2.1 0 14 = nI nb by rw [(e2.trans g2).2.2 14 (by decide) (by decide)]; exact p5) g3
  obtain ⟨v5, v6, -⟩ := eo_spec (spB X) r6
  generalize eo (spB X) tl (en tl X s2) = s3 at a1 a3 a4 a5 m3 m3' v5 v6
  rw [a1, zbind_eq]
  cases o3 : numOk tl X s3 40
  · obtain ⟨b1, b2, b3⟩ := m3' o3
    rw [if_neg Bool.false_ne_true, if_pos rfl, show nI (1 + 1) = nI 2 from rfl, b1]
    exact ⟨false, μ3, ν3, rfl, rfl, ((c2.trans f2).trans a2).cf, (e2.trans g2).gf.trans b2, fun z => absurd z (by decide), fun _ => ⟨s3, v6, a3, b3⟩⟩
  obtain ⟨b1, b2, b3, b4, b5⟩ := m3 o3
  obtain ⟨⟨w3, hw3, ew3⟩, r7, r8, r9⟩ := num_nat (m := 40) (by decide) v6 o3
  rw [if_pos rfl, ew3, if_neg (nI_ne_m1 (by omega)), show nI (1 + 1) = nI 2 from rfl, b1, f_X10_readsBoy_2, if_pos (by decide)]
  -- the stop
  have tfc := (c2.trans f2).trans a2
  have bfc := (e2.trans g2).trans b2
  have hM3 := MT_bf p2 bfc
  rw [show ν3.1 0 14 = nI nb by rw [bfc.2.2 14 (by decide) (by decide)]; exact p5, nI_1, zlet_eq]
  obtain ⟨y1, y2, y3, y4⟩ := st1 ν3 0 14 (nI (nb + 1))
  generalize zI ν3 0 14 (nI (nb + 1)) = ν4 at y1 y2 y3 y4 ⊢
  have hM4 : MT ν4 tl X := ⟨hM3.1, by rw [y3 12 (by decide)]; exact hM3.2.1, fun k hk => by rw [y1 10 (by decide)]; exact hM3.2.2 k hk⟩
  have hG4 : GF ν ν4 := bfc.gf.trans ⟨fun a h0 _ _ => y1 a h0, y2, fun k _ h14 _ => y3 k h14⟩
  obtain ⟨μ5, s1', s2', s3', s4', s5'⟩ := c_stops (CT_fr p1 tfc) r9 a5
  obtain ⟨ν5, t1, t2, t3⟩ := m_ends hM4 r9 (show ν4.1 0 13 = nI (en tl X s3) by rw [y3 13 (by decide)]; exact b3)
  obtain ⟨v7, v8, -⟩ := eo_spec (spB X) r9
  generalize eo (spB X) tl (en tl X s3) = s4 at s1' s3' s4' s5' t1 t3 v7 v8
  rw [s1', zbind_eq, t1, zbind_eq, zck_t (zbo_bI _)]
  by_cases k3 : kd tl X s4 = 3
  · rw [decide_eq_true k3, if_neg bIt]
    rw [if_pos k3] at t3
    have tf5 := tfc.trans s2'
    obtain ⟨μ6, h6, i1, i2, i3, i4, i5, i6, i7, i8⟩ := comes_ok (o := 8) (μ := μ5) (nI w1) (nI w2) (nI w3) hn (show μ5.1 8 7 = nI nb by rw [tf5.1 8 (by decide)]; exact p4)
    have i6 : ∀ k, μ6.1 9 k = if k = nb then nI w1 else μ5.1 9 k := i6
    have i7 : ∀ k, μ6.1 10 k = if k = nb then nI w2 else μ5.1 10 k := i7
    have i8 : ∀ k, μ6.1 11 k = if k = nb then nI w3 else μ5.1 11 k := i8
    have i1 : ∀ a, a ≠ 8 → a ≠ 9 → a ≠ 10 → a ≠ 11 → μ6.1 a = μ5.1 a := i1
    rw [h6, zbind_eq]
    obtain ⟨u1, u2, u3⟩ := en_le (X := X) v8
    have hs4 := (kd3.mp k3).1
    have hC6 : CT μ6 tl X := ⟨hl, by rw [i1 41 (by decide) (by decide) (by decide) (by decide)]; exact (CT_fr p1 tf5).2.1, fun k hk => by rw [i1 42 (by decide) (by decide) (by decide) (by decide)]; exact (CT_fr p1 tf5).2.2 k hk⟩
    have e11 : ∀ k, ν5.1 11 k = ν3.1 11 k := fun k => by rw [t2.1 11 (by decide), y1 11 (by decide)]
    refine ⟨true, μ6, ν5, rfl, rfl, tf5.cf.trans ⟨fun a ha _ => i1 a (by omega) (by omega) (by omega) (by omega), i2, fun k _ _ _ => by rw [i1 41 (by decide) (by decide) (by decide) (by decide)]⟩, hG4.trans t2.nf.gf, fun _ => ⟨nb + 1, en tl X s4, ⟨hC6, MT_fr hM4 t2, by omega, i3, by rw [t2.2.2 14 (by decide)]; exact y4, by rw [i5, tf5.1 8 (by decide)]; exact p6, i4, fun b hb => ?_, fun j hj => ?_⟩, by have := u3 hs4; omega, u2, by rw [i1 41 (by decide) (by decide) (by decide) (by decide)]; exact s5', t3⟩, fun z => absurd z (by decide)⟩
    · rw [i6 b, i7 b, i8 b, e11, e11, e11]
      by_cases z : b = nb
      · subst z
        rw [if_pos rfl, if_pos rfl, if_pos rfl]
        refine ⟨⟨w1, by omega, rfl⟩, ?_, ?_, ?_⟩
        · rw [b5 _ (by omega), g5 _ (by omega)]; exact e4.trans ew1
        · rw [b5 _ (by omega), g4, ew2]
        · rw [b4, ew3]
      · rw [if_neg z, if_neg z, if_neg z, tf5.1 9 (by decide), tf5.1 10 (by decide), tf5.1 11 (by decide), b5 _ (by omega), b5 _ (by omega), b5 _ (by omega), g5 _ (by omega), g5 _ (by omega), g5 _ (by omega), e5 _ (by omega), e5 _ (by omega), e5 _ (by omega)]
        exact p8 b (by omega)
    · rw [i1 12 (by decide) (by decide) (by decide) (by decide), tf5.1 12 (by decide), t2.1 12 (by decide), y1 12 (by decide), bfc.1 12 (by decide) (by decide)]
      obtain ⟨w1, w2⟩ := p9 j hj
      refine ⟨w1, ?_⟩
      rcases w2 with e | ⟨b, hb, e⟩
      · exact Or.inl e
      · exact Or.inr ⟨b, by omega, e⟩
  · rw [decide_eq_false k3, if_pos bIf]
    rw [if_neg k3] at t3
    exact ⟨false, μ5, ν5, rfl, rfl, (tfc.trans s2').cf, hG4.trans t2.nf.gf, fun z => absurd z (by decide), fun _ => ⟨s4, v8, s3', t3⟩⟩
theorem cells_item {μ ν : Mem} {tl q nb : Nat} {X : Nat → Int32} (hP : PS μ ν tl X nb) (hq : q ≤ tl) (h2 : μ.1 41 2 = nI q) (h13 : ν.1 0 13 = nI q) : ∃ (ok : Bool) (μ' ν' : Mem), f_X8_cellsItem 8 μ = some (bI ok, μ') ∧ f_X10_readsCells ν = some (bI ok, ν') ∧ IR tl X q μ ν μ' ν' ok := by
  obtain ⟨p1, p2, p3, p4, p5, p6, p7, p8, p9⟩ := id hP
  have hl := p1.1
  obtain ⟨μ1, c1, c2, c3, c4, c5⟩ := c_num (nI nb - 1) p1 hq h2
  obtain ⟨ν1, d1, d2, d3, d4⟩ := m_num (nI nb - 1) p2 hq h13
  obtain ⟨v1, v2, -⟩ := eo_spec (spB X) hq
  generalize eo (spB X) tl q = s1 at c1 c3 c4 c5 d1 d3 d4 v1 v2
  rw [f_X8_cellsItem, p4, c1, zbind_eq, f_X10_readsCells, p5, d1, zbind_eq]
  cases o1 : numOk tl X s1 (nI nb - 1)
  · rw [if_neg Bool.false_ne_true, if_pos rfl, if_pos bIf]
    exact ⟨false, μ1, ν1, rfl, rfl, c2.cf, d2.gf, fun z => absurd z (by decide), fun _ => ⟨s1, v2, c3, d4 o1⟩⟩
  obtain ⟨d3a, d3b⟩ := d3 o1
  have o1' := o1
  unfold numOk at o1'
  rw [Bool.and_eq_true] at o1'
  obtain ⟨b, hb, eb⟩ := inR_boy (by omega) o1'.2
  obtain ⟨-, r1, -⟩ := kd2_en (of_decide_eq_true o1'.1)
  obtain ⟨u1, u2, u3⟩ := en_le (X := X) v2
  have u3 := u3 r1
  rw [if_pos rfl, eb, if_neg (nI_ne_m1 (by omega)), if_neg bIt]
  have hP1 := PS_fr hP c2 d2
  obtain ⟨μ2, f1, f2, f3, f4, f5⟩ := c_num 11 hP1.1 u2 c5
  obtain ⟨ν2, g1, g2, g3⟩ := m_skip hP1.2.1 u2 d3b
  obtain ⟨v3, v4, -⟩ := eo_spec (spB X) u2
  have v5 := eo_eo (spB X) u2
  generalize eo (spB X) tl (en tl X s1) = s2 at f1 f3 f4 f5 g3 v3 v4 v5
  rw [f1, zbind_eq, g1, zbind_eq, d3a, eb]
  obtain ⟨ok, μ', ν', x1, x2, x3, x4, x5, x6⟩ := cell_loop hb (tl - s2) s2 0 zFU zFU μ2 ν2 (Nat.le_refl _) v4 v5 (by omega) (zFU_lt (by omega)) (zFU_lt (by omega)) (PS_fr hP1 f2 g2.nf) f3 f4 f5 g3
  rw [nI_0] at x1
  refine ⟨ok, μ', ν', x1, x2, (c2.trans f2).cf.trans x3, (d2.gf.trans g2.nf.gf).trans x4, fun z => ?_, x6⟩
  obtain ⟨p, y1, y2, y3⟩ := x5 z
  exact ⟨nb, p, y1, by omega, y3⟩
theorem item_ok {μ ν : Mem} {tl s nb : Nat} {X : Nat → Int32} (hP : PS μ ν tl X nb) (hs : s ≤ tl) (h5 : ¬ μ.1 41 5 = 0) (h4 : μ.1 41 4 = nI s) (h3 : μ.1 41 3 = nI (kd tl X s)) (h2 : μ.1 41 2 = nI (en tl X s)) (h13 : ν.1 0 13 = nI s) : ∃ (ok : Bool) (μ' ν' : Mem), f_X8_item 8 μ = some (bI ok, μ') ∧ f_X10_readsItem ν = some (bI ok, ν') ∧ IR tl X s μ ν μ' ν' ok := by
  obtain ⟨p1, p2, p3, p4, p5, p6, p7, p8, p9⟩ := id hP
  have hl := p1.1
  rw [f_X8_item, if_neg h5, c_word p1 hs (by decide) h4 h3 h2, zbind_eq, f_X10_readsItem, m_word p2 hs h13, zbind_eq]
  have h01 : wB tl X s 1 = true → wB tl X s 0 = false := fun h => by
    unfold wB at h ⊢
    rw [Bool.and_eq_true] at h
    rw [of_decide_eq_true h.1]; rfl
  have h02 : wB tl X s 2 = true → wB tl X s 0 = false := fun h => by
    rw [wB5 tl X s 2 (by decide), Bool.and_eq_true, Bool.and_eq_true] at h
    rw [wB5 tl X s 0 (by decide), of_decide_eq_true h.2.1]
    simp [wc, zSb]
  cases w1 : wB tl X s 1
  · rw [if_pos bIf, c_word p1 hs (by decide) h4 h3 h2, zbind_eq]
    cases w2 : wB tl X s 2
    · rw [if_pos bIf]
      have e : (if (if wB tl X s 0 = true then (0 : Int32) else if false = true then 1 else if false = true then 2 else -1) < 1 then some ((0 : Int32), ν) else (if (if wB tl X s 0 = true then (0 : Int32) else if false = true then 1 else if false = true then 2 else -1) = 1 then (if ν.1 0 14 = 5 then some (0, ν) else f_X10_readsItem_25 (if wB tl X s 0 = true then (0 : Int32) else if false = true then 1 else if false = true then 2 else -1) ν) else f_X10_readsItem_25 (if wB tl X s 0 = true then (0 : Int32) else if false = true then 1 else if false = true then 2 else -1) ν)) = some (0, ν) := by
        cases wB tl X s 0
        · rw [if_neg Bool.false_ne_true, if_neg Bool.false_ne_true, if_neg Bool.false_ne_true, if_pos (by decide)]
        · rw [if_pos rfl, if_pos (by decide)]
      rw [e]
      exact ⟨false, μ, ν, rfl, rfl, CF.refl μ, GF.refl ν, fun z => absurd z (by decide), fun _ => ⟨s, hs, h4, h13⟩⟩
    · obtain ⟨q1, q2⟩ := wB_en hs (by decide) w2
      rw [show wl 2 = 5 from by decide] at q1
      obtain ⟨u1, u2, u3⟩ := en_le (X := X) hs
      rw [if_neg bIt, h02 w2, if_neg Bool.false_ne_true, if_neg Bool.false_ne_true, if_pos rfl, if_neg (by decide), if_neg (by decide), f_X10_readsItem_25, if_neg (by decide), f_X10_readsItem_40, h13, show nI s + 5 = nI (s + 5) from nI_add s 5, ← q1, zlet_eq, if_neg (by decide)]
      obtain ⟨ok, μ', ν', x1, x2, x3, x4, x5, x6⟩ := cells_item (PS_fr hP (TF.refl μ) (mf_st ν (nI (en tl X s))).nf) u2 h2 rfl
      rw [x1, zbind_eq, x2, zbind_eq, zck_t (zbo_bI _)]
      refine ⟨ok, μ', ν', ?_, rfl, x3, (mf_st ν (nI (en tl X s))).nf.gf.trans x4, fun z => ?_, x6⟩
      · cases ok <;> rfl
      · obtain ⟨nb', p, y1, y2, y3⟩ := x5 z
        exact ⟨nb', p, y1, by omega, y3⟩
  · obtain ⟨q1, q2⟩ := wB_en hs (by decide) w1
    rw [show wl 1 = 3 from by decide] at q1
    obtain ⟨u1, u2, u3⟩ := en_le (X := X) hs
    rw [if_neg bIt, h01 w1, if_neg Bool.false_ne_true, if_pos rfl, if_neg (by decide), if_pos rfl, p5]
    by_cases hn : nb = 5
    · subst hn
      rw [if_pos (by rfl), f_X8_boyItem, p4, if_neg (by decide), zbind_eq, zck_t (by decide)]
      exact ⟨false, μ, ν, rfl, rfl, CF.refl μ, GF.refl ν, fun z => absurd z (by decide), fun _ => ⟨s, hs, h4, h13⟩⟩
    · rw [if_neg (show ¬ nI nb = 5 from nIne (b := 5) hn (by omega) (by decide)), f_X10_readsItem_25, if_pos rfl, f_X10_readsItem_40, h13, nI_p3, ← q1, zlet_eq, if_pos rfl]
      obtain ⟨ok, μ', ν', x1, x2, x3, x4, x5, x6⟩ := boy_item (PS_fr hP (TF.refl μ) (mf_st ν (nI (en tl X s))).nf) (by omega) u2 h2 rfl
      rw [x1, zbind_eq, zck_t (zbo_bI _), x2, zbind_eq, zck_t (zbo_bI _)]
      refine ⟨ok, μ', ν', rfl, rfl, x3, (mf_st ν (nI (en tl X s))).nf.gf.trans x4, fun z => ?_, x6⟩
      obtain ⟨nb', p, y1, y2, y3⟩ := x5 z
      exact ⟨nb', p, y1, by omega, y3⟩
