/-! ===== copies; steps, terms ===== -/
def rng (a k : Nat) : Prop := (a = 0 ∧ k < 3) ∨ (1 ≤ a ∧ a ≤ 3 ∧ k < 5) ∨ (a = 4 ∧ k < 12) ∨ (5 ≤ a ∧ a ≤ 8 ∧ k < 6) ∨ (9 ≤ a ∧ k < 136)
theorem NR_congr2 {C C' M M' : NV} {nb nn nu : Nat} (hC : ∀ a k, rng a k → C' a k = C a k) (hM : ∀ a k, rng a k → M' a k = M a k) (h : NR C M nb nn nu) : NR C' M' nb nn nu := by
  obtain ⟨h1, h2, h3, h4, h5, h6, h7, h8, h9, hB, hW, hN, hU⟩ := h
  refine ⟨h1, h2, h3, by rw [hC _ _ (by unfold rng; omega)]; exact h4, by rw [hM _ _ (by unfold rng; omega)]; exact h5, by rw [hC _ _ (by unfold rng; omega)]; exact h6, by rw [hM _ _ (by unfold rng; omega)]; exact h7, by rw [hC _ _ (by unfold rng; omega)]; exact h8, by rw [hM _ _ (by unfold rng; omega)]; exact h9, fun b hb => ?_, fun j hj => ?_, fun k hk => ?_, fun u hu => ⟨fun j hj => ?_, fun b hb => ?_⟩⟩
  · rw [hC 1 b (by unfold rng; omega), hC 2 b (by unfold rng; omega), hC 3 b (by unfold rng; omega), hM 1 b (by unfold rng; omega), hM 2 b (by unfold rng; omega), hM 3 b (by unfold rng; omega)]; exact hB b hb
  · rw [hC 4 j (by unfold rng; omega), hM 4 j (by unfold rng; omega)]; exact hW j hj
  · rw [hC 5 k (by unfold rng; omega), hC 6 k (by unfold rng; omega), hC 7 k (by unfold rng; omega), hC 8 k (by unfold rng; omega), hM 5 k (by unfold rng; omega), hM 6 k (by unfold rng; omega), hM 7 k (by unfold rng; omega), hM 8 k (by unfold rng; omega)]; exact hN k hk
  · rw [hC 9 _ (by unfold rng; omega), hM 9 _ (by unfold rng; omega)]; exact (hU u hu).1 j hj
  · rw [hC 9 _ (by unfold rng; omega), hM 9 _ (by unfold rng; omega)]; exact (hU u hu).2 b hb
theorem cp1 (ν : Mem) (p q : Nat) (n : Int32) : (∀ a, a ≠ p → (zA ν p (va_cpy (ν.1 q) (ν.1 p) (0 : Int32).toNatClampNeg (0 : Int32).toNatClampNeg n.toNatClampNeg)).1 a = ν.1 a) ∧ (zA ν p (va_cpy (ν.1 q) (ν.1 p) (0 : Int32).toNatClampNeg (0 : Int32).toNatClampNeg n.toNatClampNeg)).2 = ν.2 ∧ ∀ k, k < n.toNatClampNeg → (zA ν p (va_cpy (ν.1 q) (ν.1 p) (0 : Int32).toNatClampNeg (0 : Int32).toNatClampNeg n.toNatClampNeg)).1 p k = ν.1 q k := by
  refine ⟨fun a h => by rw [zA_at, if_neg h], rfl, fun k hk => ?_⟩
  rw [zA_at, if_pos rfl, cl0]
  show (if 0 ≤ k ∧ k < 0 + n.toNatClampNeg then ν.1 q (0 + (k - 0)) else ν.1 p k) = _
  rw [if_pos ⟨Nat.zero_le _, by omega⟩, Nat.zero_add, Nat.sub_zero]
theorem st1 (ν : Mem) (o k : Nat) (x : Int32) : (∀ a, a ≠ o → (zI ν o k x).1 a = ν.1 a) ∧ (zI ν o k x).2 = ν.2 ∧ (∀ j, j ≠ k → (zI ν o k x).1 o j = ν.1 o j) ∧ (zI ν o k x).1 o k = x := by
  refine ⟨fun a h => by rw [zI_at, if_neg h], rfl, fun j h => by rw [zI_at, if_pos rfl, upd_at, if_neg h], by rw [zI_at, if_pos rfl, upd_at, if_pos rfl]⟩
theorem becomes_ok (o o1 : Nat) (hd : o + 7 ≤ o1 ∨ o1 + 7 ≤ o) (μ : Mem) : ∃ μ', f_X1_becomes o o1 μ = some ((), μ') ∧ (∀ a, a < o ∨ o + 7 ≤ a → μ'.1 a = μ.1 a) ∧ μ'.2 = μ.2 ∧ ∀ a k, rng a k → cv μ' o a k = cv μ o1 a k := by
  rw [f_X1_becomes, zck_t (by decide), zlet_eq]
  obtain ⟨a1, b1, c1⟩ := cp1 μ (o + 1) (o1 + 1) 5
  generalize zA μ (o + 1) _ = μ1 at a1 b1 c1 ⊢
  rw [zck_t (by decide), zlet_eq]
  obtain ⟨a2, b2, c2⟩ := cp1 μ1 (o + 2) (o1 + 2) 5
  generalize zA μ1 (o + 2) _ = μ2 at a2 b2 c2 ⊢
  rw [zck_t (by decide), zlet_eq]
  obtain ⟨a3, b3, c3⟩ := cp1 μ2 (o + 3) (o1 + 3) 5
  generalize zA μ2 (o + 3) _ = μ3 at a3 b3 c3 ⊢
  rw [zck_t (by decide), zlet_eq]
  obtain ⟨a4, b4, c4⟩ := cp1 μ3 (o + 4) (o1 + 4) 12
  generalize zA μ3 (o + 4) _ = μ4 at a4 b4 c4 ⊢
  rw [zck_t (by decide), zlet_eq]
  obtain ⟨a5, b5, c5⟩ := cp1 μ4 (o + 5) (o1 + 5) 24
  generalize zA μ4 (o + 5) _ = μ5 at a5 b5 c5 ⊢
  rw [zck_t (by decide), zlet_eq]
  obtain ⟨a6, b6, c6⟩ := cp1 μ5 (o + 6) (o1 + 6) 136
  generalize zA μ5 (o + 6) _ = μ6 at a6 b6 c6 ⊢
  rw [zlet_eq]
  obtain ⟨a7, b7, c7, d7⟩ := st1 μ6 o 7 (μ6.1 o1 7)
  generalize zI μ6 o 7 _ = μ7 at a7 b7 c7 d7 ⊢
  rw [zlet_eq]
  obtain ⟨a8, b8, c8, d8⟩ := st1 μ7 o 8 (μ7.1 o1 8)
  generalize zI μ7 o 8 _ = μ8 at a8 b8 c8 d8 ⊢
  rw [zlet_eq]
  obtain ⟨a9, b9, c9, d9⟩ := st1 μ8 o 9 (μ8.1 o1 9)
  generalize zI μ8 o 9 _ = μ9 at a9 b9 c9 d9 ⊢
  have g1 : ∀ k, k < 5 → μ9.1 (o + 1) k = μ.1 (o1 + 1) k := fun k hk => by
    rw [a9 _ (by omega), a8 _ (by omega), a7 _ (by omega), a6 _ (by omega), a5 _ (by omega), a4 _ (by omega), a3 _ (by omega), a2 _ (by omega), c1 k hk]
  have g2 : ∀ k, k < 5 → μ9.1 (o + 2) k = μ.1 (o1 + 2) k := fun k hk => by
    rw [a9 _ (by omega), a8 _ (by omega), a7 _ (by omega), a6 _ (by omega), a5 _ (by omega), a4 _ (by omega), a3 _ (by omega), c2 k hk, a1 _ (by omega)]
  have g3 : ∀ k, k < 5 → μ9.1 (o + 3) k = μ.1 (o1 + 3) k := fun k hk => by
    rw [a9 _ (by omega), a8 _ (by omega), a7 _ (by omega), a6 _ (by omega), a5 _ (by omega), a4 _ (by omega), c3 k hk, a2 _ (by omega), a1 _ (by omega)]
  have g4 : ∀ k, k < 12 → μ9.1 (o + 4) k = μ.1 (o1 + 4) k := fun k hk => by
    rw [a9 _ (by omega), a8 _ (by omega), a7 _ (by omega), a6 _ (by omega), a5 _ (by omega), c4 k hk, a3 _ (by omega), a2 _ (by omega), a1 _ (by omega)]
  have g5 : ∀ k, k < 24 → μ9.1 (o + 5) k = μ.1 (o1 + 5) k := fun k hk => by
    rw [a9 _ (by omega), a8 _ (by omega), a7 _ (by omega), a6 _ (by omega), c5 k hk, a4 _ (by omega), a3 _ (by omega), a2 _ (by omega), a1 _ (by omega)]
  have g6 : ∀ k, k < 136 → μ9.1 (o + 6) k = μ.1 (o1 + 6) k := fun k hk => by
    rw [a9 _ (by omega), a8 _ (by omega), a7 _ (by omega), c6 k hk, a5 _ (by omega), a4 _ (by omega), a3 _ (by omega), a2 _ (by omega), a1 _ (by omega)]
  have f1 : ∀ a, a ≠ o + 1 → a ≠ o + 2 → a ≠ o + 3 → a ≠ o + 4 → a ≠ o + 5 → a ≠ o + 6 → μ6.1 a = μ.1 a := fun a h1 h2 h3 h4 h5 h6 => by rw [a6 _ h6, a5 _ h5, a4 _ h4, a3 _ h3, a2 _ h2, a1 _ h1]
  have g7 : μ9.1 o 7 = μ.1 o1 7 := by rw [c9 _ (by decide), c8 _ (by decide), d7, f1 o1 (by omega) (by omega) (by omega) (by omega) (by omega) (by omega)]
  have g8 : μ9.1 o 8 = μ.1 o1 8 := by rw [c9 _ (by decide), d8, a7 o1 (by omega), f1 o1 (by omega) (by omega) (by omega) (by omega) (by omega) (by omega)]
  have g9 : μ9.1 o 9 = μ.1 o1 9 := by rw [d9, a8 o1 (by omega), a7 o1 (by omega), f1 o1 (by omega) (by omega) (by omega) (by omega) (by omega) (by omega)]
  refine ⟨μ9, rfl, fun a ha => ?_, by rw [b9, b8, b7, b6, b5, b4, b3, b2, b1], fun a k hr => ?_⟩
  · rw [a9 _ (by omega), a8 _ (by omega), a7 _ (by omega), f1 a (by omega) (by omega) (by omega) (by omega) (by omega) (by omega)]
  · rcases hr with ⟨rfl, hk⟩ | ⟨h1, h2, hk⟩ | ⟨rfl, hk⟩ | ⟨h1, h2, hk⟩ | ⟨h1, hk⟩
    · rcases (show k = 0 ∨ k = 1 ∨ k = 2 by omega) with rfl | rfl | rfl
      · exact g7
      · exact g8
      · exact g9
    · rcases (show a = 1 ∨ a = 2 ∨ a = 3 by omega) with rfl | rfl | rfl
      · exact g1 k hk
      · exact g2 k hk
      · exact g3 k hk
    · exact g4 k hk
    · unfold cv
      rw [if_neg (by omega), if_neg (by omega), if_pos h2, if_neg (by omega), if_neg (by omega), if_pos h2]
      exact g5 _ (by omega)
    · unfold cv
      rw [if_neg (by omega), if_neg (by omega), if_neg (by omega), if_neg (by omega), if_neg (by omega), if_neg (by omega)]
      exact g6 k hk
theorem cpy_iter (p q : Nat) (d s : Nat → Nat) (hpq : q ≠ p) (hinj : ∀ i j, d i = d j → i = j) (N : Nat) (μ : Mem) : (∀ a, a ≠ p → (iter (fun j ν => zI ν p (d j) (ν.1 q (s j))) 0 N μ).1 a = μ.1 a) ∧ (iter (fun j ν => zI ν p (d j) (ν.1 q (s j))) 0 N μ).2 = μ.2 ∧ (∀ j, j < N → (iter (fun j ν => zI ν p (d j) (ν.1 q (s j))) 0 N μ).1 p (d j) = μ.1 q (s j)) ∧ ∀ k, (∀ j, j < N → k ≠ d j) → (iter (fun j ν => zI ν p (d j) (ν.1 q (s j))) 0 N μ).1 p k = μ.1 p k := by
  have h := iter_inv (f := fun j ν => zI ν p (d j) (ν.1 q (s j))) (P := fun i (ν : Mem) => (∀ a, a ≠ p → ν.1 a = μ.1 a) ∧ ν.2 = μ.2 ∧ (∀ j, j < i → ν.1 p (d j) = μ.1 q (s j)) ∧ ∀ k, (∀ j, j < i → k ≠ d j) → ν.1 p k = μ.1 p k) N 0 μ (fun i _ _ ν hν => by
    obtain ⟨h1, h2, h3, h4⟩ := hν
    obtain ⟨e1, e2, e3, e4⟩ := st1 ν p (d i) (ν.1 q (s i))
    refine ⟨fun a ha => (e1 a ha).trans (h1 a ha), e2.trans h2, fun j hj => ?_, fun k hk => ?_⟩
    · by_cases q2 : j = i
      · subst q2
        exact e4.trans (by rw [h1 q hpq])
      · exact (e3 (d j) (fun e => q2 (hinj _ _ e))).trans (h3 j (by omega))
    · exact (e3 k (hk i (by omega))).trans (h4 k (fun j hj => hk j (by omega)))) ⟨fun _ _ => rfl, rfl, fun j hj => absurd hj (Nat.not_lt_zero _), fun _ _ => rfl⟩
  rw [Nat.zero_add] at h
  exact h
theorem puts_ok (μ : Mem) : ∃ μ', f_X10_puts μ = some ((), μ') ∧ (∀ a, a ≠ 16 → μ'.1 a = μ.1 a) ∧ μ'.2 = μ.2 ∧ ∀ j, j < 12 → μ'.1 16 j = μ.1 5 j := by
  rw [f_X10_puts]
  have e := loop0 (fun n (ν : Mem) c => f_X10_puts_2 n c ν) (fun j ν => zI ν 16 j (ν.1 5 j)) 12 (by decide) (fun ν => some ((), ν)) (fun n ν => by
    show f_X10_puts_2 (n + 1) (nI 12) ν = _
    rw [f_X10_puts_2, if_pos (by decide)]) (fun n j ν hj => by
    show f_X10_puts_2 (n + 1) (nI j) ν = f_X10_puts_2 n (nI (j + 1)) _
    rw [f_X10_puts_2, if_neg (lt12 hj), zck_t (zin_nI hj (by decide)), zck_t (zin_nI hj (by decide)), zlet_eq, nI_clamp (by omega), nI_1]) μ
  rw [nI_0] at e
  obtain ⟨h1, h2, h3, -⟩ := cpy_iter 16 5 (fun j => j) (fun j => j) (by decide) (fun _ _ h => h) 12 μ
  exact ⟨_, e, h1, h2, h3⟩
theorem back_ok (μ : Mem) : ∃ μ', f_X10_back μ = some ((), μ') ∧ (∀ a, a ≠ 5 → μ'.1 a = μ.1 a) ∧ μ'.2 = μ.2 ∧ ∀ j, j < 12 → μ'.1 5 j = μ.1 16 j := by
  rw [f_X10_back]
  have e := loop0 (fun n (ν : Mem) c => f_X10_back_2 n c ν) (fun j ν => zI ν 5 j (ν.1 16 j)) 12 (by decide) (fun ν => some ((), ν)) (fun n ν => by
    show f_X10_back_2 (n + 1) (nI 12) ν = _
    rw [f_X10_back_2, if_pos (by decide)]) (fun n j ν hj => by
    show f_X10_back_2 (n + 1) (nI j) ν = f_X10_back_2 n (nI (j + 1)) _
    rw [f_X10_back_2, if_neg (lt12 hj), zck_t (zin_nI hj (by decide)), zck_t (zin_nI hj (by decide)), zlet_eq, nI_clamp (by omega), nI_1]) μ
  rw [nI_0] at e
  obtain ⟨h1, h2, h3, -⟩ := cpy_iter 5 16 (fun j => j) (fun j => j) (by decide) (fun _ _ h => h) 12 μ
  exact ⟨_, e, h1, h2, h3⟩
def swp (W : Nat → Int32) (i j : Nat) : Nat → Int32 := fun x => if x = j then W i else if x = i then W j else W x
theorem OW_swp {nb i j : Nat} {W : Nat → Int32} (h : OW nb W) (hi : i < 12) (hj : j < 12) : OW nb (swp W i j) := by
  intro x hx
  unfold swp
  by_cases q : x = j
  · rw [if_pos q]; exact h i hi
  · rw [if_neg q]
    by_cases q2 : x = i
    · rw [if_pos q2]; exact h j hj
    · rw [if_neg q2]; exact h x hx
theorem chg_at (μ : Mem) (p i j : Nat) (x y : Int32) : (∀ a, a ≠ p → (zI (zI μ p i x) p j y).1 a = μ.1 a) ∧ (zI (zI μ p i x) p j y).2 = μ.2 ∧ ∀ k, (zI (zI μ p i x) p j y).1 p k = if k = j then y else if k = i then x else μ.1 p k := by
  refine ⟨fun a h => by rw [zI_at, if_neg h, zI_at, if_neg h], rfl, fun k => by rw [zI_at, if_pos rfl, upd_at, zI_at, if_pos rfl, upd_at]⟩
theorem c_chg {μ : Mem} {o nb i j : Nat} {K W} (h : CN μ o nb K W) (hi : i < 12) (hj : j < 12) : ∃ μ', f_X1_changeHands o (nI i) (nI j) μ = some ((), μ') ∧ CN μ' o nb K (swp W i j) ∧ (∀ a, a ≠ o + 4 → μ'.1 a = μ.1 a) ∧ μ'.2 = μ.2 := by
  rw [f_X1_changeHands, zck_t (zin_nI hi (by decide)), zck_t (zin_nI hj (by decide)), zck_t (zin_nI hi (by decide)), zlet_eq, zck_t (zin_nI hj (by decide)), zlet_eq, nI_clamp (by omega), nI_clamp (by omega), h.2.2.2 i hi, h.2.2.2 j hj]
  obtain ⟨e1, e2, e3⟩ := chg_at μ (o + 4) i j (W j) (W i)
  refine ⟨_, rfl, ⟨h.1, by rw [e1 o (by omega)]; exact h.2.1, fun b hb => by rw [e1 (o + 1) (by omega)]; exact h.2.2.1 b hb, fun k hk => ?_⟩, e1, e2⟩
  rw [e3 k, h.2.2.2 k hk]; rfl
theorem m_chg {μ : Mem} {nb i j : Nat} {K W} (h : MN μ nb K W) (hi : i < 12) (hj : j < 12) : ∃ μ', f_X10_changes (nI i) (nI j) μ = some ((), μ') ∧ MN μ' nb K (swp W i j) ∧ (∀ a, a ≠ 5 → μ'.1 a = μ.1 a) ∧ μ'.2 = μ.2 := by
  rw [f_X10_changes, zck_t (zin_nI hi (by decide)), zck_t (zin_nI hj (by decide)), zck_t (zin_nI hi (by decide)), zlet_eq, zck_t (zin_nI hj (by decide)), zlet_eq, nI_clamp (by omega), nI_clamp (by omega), h.2.2.2 i hi, h.2.2.2 j hj]
  obtain ⟨e1, e2, e3⟩ := chg_at μ 5 i j (W j) (W i)
  refine ⟨_, rfl, ⟨h.1, by rw [e1 0 (by omega)]; exact h.2.1, fun b hb => by rw [e1 2 (by omega)]; exact h.2.2.1 b hb, fun k hk => ?_⟩, e1, e2⟩
  rw [e3 k, h.2.2.2 k hk]; rfl
theorem firL_in (g : Nat → Nat → Bool) : ∀ (l : List (Nat × Nat)), firL g l = -1 ∨ ∃ p, p ∈ l ∧ firL g l = 100 * nI p.1 + nI p.2
  | [] => Or.inl rfl
  | (i, j) :: l => by
    show (if g i j = true then 100 * nI i + nI j else firL g l) = -1 ∨ ∃ p, p ∈ (i, j) :: l ∧ (if g i j = true then 100 * nI i + nI j else firL g l) = 100 * nI p.1 + nI p.2
    by_cases q : g i j = true
    · rw [if_pos q]; exact Or.inr ⟨(i, j), List.mem_cons_self .., rfl⟩
    · rw [if_neg q]
      rcases firL_in g l with e | ⟨p, hp, e⟩
      · exact Or.inl e
      · exact Or.inr ⟨p, List.mem_cons_of_mem _ hp, e⟩
theorem pr_div {i j : Nat} (hi : i < 12) (hj : j < 12) : (100 * nI i + nI j) / 100 = nI i ∧ (100 * nI i + nI j) - (100 * nI i + nI j) / 100 * 100 = nI j := by
  have h : ∀ i j : Fin 12, (100 * nI i.val + nI j.val) / 100 = nI i.val ∧ (100 * nI i.val + nI j.val) - (100 * nI i.val + nI j.val) / 100 * 100 = nI j.val := by decide +kernel
  exact h ⟨i, hi⟩ ⟨j, hj⟩
/-- what a try leaves: only the owners changed, and the aside of the reference stands -/
def TryEnd (W0 : Nat → Int32) (μ ν μ' ν' : Mem) : Prop := (∀ a, a ≠ 12 → μ'.1 a = μ.1 a) ∧ μ'.2 = μ.2 ∧ (∀ a, a ≠ 5 → ν'.1 a = ν.1 a) ∧ ν'.2 = ν.2 ∧ ∀ j, j < 12 → ν'.1 5 j = W0 j
theorem steps_eq {nb : Nat} {K : Nat → Nat} {W0 : Nat → Int32} : ∀ (k c n m : Nat) (μ ν : Mem) (W : Nat → Int32), c + k = 99 → k < n → k < m → CN μ 8 nb K W → MN ν nb K W → OW nb W → (∀ j, j < 12 → ν.1 16 j = W0 j) → ∃ (r : Int32) (μ' ν' : Mem), f_X9_steps_13 n (nI c) μ = some (r, μ') ∧ f_X10_steps_11 m (nI c) (firL (swB K W) (rows 0 12)) ν = some (r, ν') ∧ TryEnd W0 μ ν μ' ν' := by
  intro k
  induction k with
  | zero =>
    intro c n m μ ν W h1 h2 h3 hC hM hO hA
    obtain ⟨n, rfl⟩ : ∃ q, n = q + 1 := ⟨n - 1, by omega⟩
    obtain ⟨m, rfl⟩ : ∃ q, m = q + 1 := ⟨m - 1, by omega⟩
    obtain rfl : c = 99 := by omega
    obtain ⟨ν', e1, e2, e3, e4⟩ := back_ok ν
    refine ⟨nI 99, μ, ν', ?_, ?_, fun _ _ => rfl, rfl, e2, e3, fun j hj => (e4 j hj).trans (hA j hj)⟩
    · rw [f_X9_steps_13, if_pos (by decide)]
    · rw [f_X10_steps_11, if_pos (by decide), e1, zbind_eq]
  | succ k ih =>
    intro c n m μ ν W h1 h2 h3 hC hM hO hA
    obtain ⟨n, rfl⟩ : ∃ q, n = q + 1 := ⟨n - 1, by omega⟩
    obtain ⟨m, rfl⟩ : ∃ q, m = q + 1 := ⟨m - 1, by omega⟩
    have h99 : ¬ (99 : Int32) ≤ nI c := nI_ge (b := 99) (by omega) (by decide)
    rw [f_X9_steps_13, if_neg h99, c_at hC hO, zbind_eq, atL_fir, f_X10_steps_11, if_neg h99]
    rcases firL_in (swB K W) (rows 0 12) with e | ⟨p, hp, e⟩
    · obtain ⟨ν', e1, e2, e3, e4⟩ := back_ok ν
      rw [e, if_pos rfl, if_pos rfl, e1, zbind_eq]
      exact ⟨nI c, μ, ν', rfl, rfl, fun _ _ => rfl, rfl, e2, e3, fun j hj => (e4 j hj).trans (hA j hj)⟩
    · obtain ⟨p1, p2⟩ := rows_in p hp
      rw [e, if_neg (pr_ne p.1 p.2 p1 p2), if_neg (pr_ne p.1 p.2 p1 p2), zck_t (by decide), zck_t (by decide), zck_t (by decide), zck_t (by decide), (pr_div p1 p2).2, (pr_div p1 p2).1]
      obtain ⟨μ1, c1, c2, c3, c4⟩ := c_chg hC p1 p2
      obtain ⟨ν1, m1, m2, m3, m4⟩ := m_chg hM p1 p2
      rw [c1, zbind_eq, m1, zbind_eq, m_first m2 (OW_swp hO p1 p2), zbind_eq, nI_1]
      obtain ⟨r, μ', ν', g1, g2, g3, g4, g5, g6, g7⟩ := ih (c + 1) n m μ1 ν1 (swp W p.1 p.2) (by omega) (by omega) (by omega) c2 m2 (OW_swp hO p1 p2) (fun j hj => by rw [m3 16 (by decide)]; exact hA j hj)
      exact ⟨r, μ', ν', g1, g2, fun a ha => (g3 a ha).trans (c3 a ha), g4.trans c4, fun a ha => (g5 a ha).trans (m3 a ha), g6.trans m4, g7⟩
/-- before a try: the class has a trial night, the reference an aside -/
theorem try_start {μC μM : Mem} {nb : Nat} {K W} (hC : CN μC 1 nb K W) (hM : MN μM nb K W) : ∃ μ ν, f_X1_becomes 8 1 μC = some ((), μ) ∧ f_X10_puts μM = some ((), ν) ∧ CN μ 8 nb K W ∧ MN ν nb K W ∧ (∀ j, j < 12 → ν.1 16 j = μM.1 5 j) ∧ ∀ μ' ν', TryEnd (μM.1 5) μ ν μ' ν' → SameC μC μ' ∧ SameM μM ν' := by
  obtain ⟨μ, b1, b2, b3, b4⟩ := becomes_ok 8 1 (by omega) μC
  obtain ⟨ν, p1, p2, p3, p4⟩ := puts_ok μM
  have h5 := hC.1
  refine ⟨μ, ν, b1, p1, ⟨hC.1, (b4 0 0 (by unfold rng; omega)).trans hC.2.1, fun b hb => ⟨(hC.2.2.1 b hb).1, (b4 1 b (by unfold rng; omega)).trans (hC.2.2.1 b hb).2⟩, fun j hj => (b4 4 j (by unfold rng; omega)).trans (hC.2.2.2 j hj)⟩, ⟨hM.1, by rw [p2 0 (by decide)]; exact hM.2.1, fun b hb => by rw [p2 2 (by decide)]; exact hM.2.2.1 b hb, fun j hj => by rw [p2 5 (by decide)]; exact hM.2.2.2 j hj⟩, p4, ?_⟩
  intro μ' ν' ⟨t1, t2, t3, t4, t5⟩
  refine ⟨⟨fun a ha => by rw [t1 a (by omega), b2 a (by omega)], by rw [t1 0 (by omega), b2 0 (by omega)], by rw [t1 0 (by omega), b2 0 (by omega)], by rw [t1 0 (by omega), b2 0 (by omega)], by rw [t1 41 (by omega), b2 41 (by omega)], by rw [t2, b3], by rw [t2, b3]⟩, ⟨fun a ha => by rw [t3 a (by omega), p2 a (by omega)], t5, by rw [t3 0 (by omega), p2 0 (by omega)], by rw [t3 0 (by omega), p2 0 (by omega)], by rw [t3 0 (by omega), p2 0 (by omega)], by rw [t3 0 (by omega), p2 0 (by omega)], by rw [t4, p3], by rw [t4, p3]⟩⟩
theorem Sp_steps_ok : Sp_steps Rel := by
  intro μC μM h
  obtain ⟨nb, nn, nu, K, W, hNR, hC, hM, hO, hJ, -⟩ := Rel_q h
  obtain ⟨μ, ν, s1, s2, s3, s4, s5, s6⟩ := try_start hC hM
  rw [f_X9_steps, s1, zbind_eq, f_X10_steps, s2, zbind_eq, m_first s4 hO, zbind_eq]
  obtain ⟨r, μ', ν', g1, g2, g3⟩ := steps_eq 99 0 zFU zFU μ ν W (by omega) (zFU_lt (by decide)) (zFU_lt (by decide)) s3 s4 hO s5
  rw [nI_0] at g1 g2
  exact ⟨r, μ', ν', g1, g2, Rel_same (s6 μ' ν' g3).1 (s6 μ' ν' g3).2 h⟩
theorem l64_mod {n m : Nat} (hn : n < 2 ^ 63) (h0 : 0 < m) (hm : m < 2 ^ 63) : Int64.ofNat n - Int64.ofNat n / Int64.ofNat m * Int64.ofNat m = Int64.ofNat (n % m) := by
  have e : Int64.ofNat n / Int64.ofNat m = Int64.ofNat (n / m) := by
    apply Int64.toInt_inj.mp
    rw [lg_ldiv_nonneg (by rw [lg_ofNat_toInt hn]; omega) (by rw [lg_ofNat_toInt hm]; omega), lg_ofNat_toInt hn, lg_ofNat_toInt hm, lg_ofNat_toInt (Nat.lt_of_le_of_lt (Nat.div_le_self _ _) hn)]
    rfl
  rw [e, ← Int64.ofNat_mul]
  have e2 : Int64.ofNat n = Int64.ofNat (n % m) + Int64.ofNat (n / m * m) := by
    rw [← Int64.ofNat_add, Nat.mod_add_div' n m]
  rw [e2, Int64.add_sub_cancel]
def rnd (s : Nat) : Nat := (s * 1103515245 + 12345) % 2147483648
theorem rnd_lt (s : Nat) : rnd s < 2 ^ 31 := Nat.mod_lt _ (by decide)
def rcell (d : Nat) : Nat := d / 65536 % 12
theorem rcell_lt (s : Nat) : rcell s < 12 := Nat.mod_lt _ (by decide)
theorem rnd_eq {s : Nat} (hs : s < 2 ^ 31) : (lN s * 1103515245 + 12345) - (lN s * 1103515245 + 12345) / 2147483648 * 2147483648 = lN (rnd s) := by
  have e : lN s * 1103515245 + 12345 = Int64.ofNat (s * 1103515245 + 12345) := by
    rw [Int64.ofNat_add, Int64.ofNat_mul]; rfl
  rw [e]
  exact l64_mod (by omega) (by decide) (by decide)
theorem rcell_eq {d : Nat} (hd : d < 2 ^ 31) : (lN d / 65536 - lN d / 65536 / 12 * 12).toInt32 = nI (rcell d) := by
  have e : lN d / 65536 = Int64.ofNat (d / 65536) := by
    apply Int64.toInt_inj.mp
    rw [lg_ldiv_nonneg (by rw [lN_toInt hd]; omega) (by decide), lN_toInt hd, lg_ofNat_toInt (by omega)]
    rfl
  rw [e, show (12 : Int64) = Int64.ofNat 12 from rfl, l64_mod (by omega) (by decide) (by decide)]
  have := lg_l2i_i2l (nI (rcell d))
  rw [nI_l (Nat.lt_trans (rcell_lt d) (by decide))] at this
  exact this
theorem drawn_eq {s : Nat} (hs : s < 2 ^ 31) (μ : Mem) : f_X9_drawn (lN s) μ = some (lN (rnd s), μ) := by rw [f_X9_drawn, zck_t (by decide), rnd_eq hs]
theorem cellBy_eq {s : Nat} (hs : s < 2 ^ 31) (μ : Mem) : f_X9_cellBy (lN s) μ = some (nI (rcell s), μ) := by rw [f_X9_cellBy, zck_t (by decide), zck_t (by decide), rcell_eq hs]
theorem terms_eq {nb N : Nat} {K : Nat → Nat} {W0 : Nat → Int32} (hN : N < 2 ^ 31) : ∀ (k c n m s : Nat) (x : Int32) (μ ν : Mem) (W : Nat → Int32), c + k = N → k < n → k < m → s < 2 ^ 31 → CN μ 8 nb K W → MN ν nb K W → OW nb W → (∀ j, j < 12 → ν.1 16 j = W0 j) → ∃ (r : Int32) (μ' ν' : Mem), f_X9_terms_43 n (nI N) (lN s) x (nI c) μ = some (r, μ') ∧ f_X10_terms_38 m (nI N) (lN s) x (nI c) ν = some (r, ν') ∧ TryEnd W0 μ ν μ' ν' := by
  intro k
  induction k with
  | zero =>
    intro c n m s x μ ν W h1 h2 h3 hs hC hM hO hA
    obtain ⟨n, rfl⟩ : ∃ q, n = q + 1 := ⟨n - 1, by omega⟩
    obtain ⟨m, rfl⟩ : ∃ q, m = q + 1 := ⟨m - 1, by omega⟩
    obtain rfl : c = N := by omega
    obtain ⟨ν', e1, e2, e3, e4⟩ := back_ok ν
    refine ⟨x, μ, ν', ?_, ?_, fun _ _ => rfl, rfl, e2, e3, fun j hj => (e4 j hj).trans (hA j hj)⟩
    · rw [f_X9_terms_43, if_pos (ile _)]
    · rw [f_X10_terms_38, if_pos (ile _), e1, zbind_eq]
  | succ k ih =>
    intro c n m s x μ ν W h1 h2 h3 hs hC hM hO hA
    obtain ⟨n, rfl⟩ : ∃ q, n = q + 1 := ⟨n - 1, by omega⟩
    obtain ⟨m, rfl⟩ : ∃ q, m = q + 1 := ⟨m - 1, by omega⟩
    have hc : ¬ nI N ≤ nI c := nI_ge (by omega) hN
    have p1 := rcell_lt (rnd s)
    have p2 := rcell_lt (rnd (rnd s))
    rw [f_X9_terms_43, if_neg hc, drawn_eq hs, zbind_eq, cellBy_eq (rnd_lt s), zbind_eq, drawn_eq (rnd_lt s), zbind_eq, cellBy_eq (rnd_lt _), zbind_eq, c_sw hC hO p1 p2, zbind_eq, nI_1]
    rw [f_X10_terms_38, if_neg hc, zck_t (by decide), zlet_eq, rnd_eq hs, zck_t (by decide), zck_t (by decide), zlet_eq, rcell_eq (rnd_lt s), zck_t (by decide), zlet_eq, rnd_eq (rnd_lt s), zck_t (by decide), zck_t (by decide), zlet_eq, rcell_eq (rnd_lt _), m_sw hM hO p1 p2, zbind_eq, nI_1]
    cases swB K W (rcell (rnd s)) (rcell (rnd (rnd s)))
    · rw [if_pos bIf, if_pos bIf]
      exact ih (c + 1) n m (rnd (rnd s)) x μ ν W (by omega) (by omega) (by omega) (rnd_lt _) hC hM hO hA
    · obtain ⟨μ1, c1, c2, c3, c4⟩ := c_chg hC p1 p2
      obtain ⟨ν1, m1, m2, m3, m4⟩ := m_chg hM p1 p2
      rw [if_neg bIt, if_neg bIt, c1, zbind_eq, m1, zbind_eq]
      obtain ⟨r, μ', ν', g1, g2, g3, g4, g5, g6, g7⟩ := ih (c + 1) n m (rnd (rnd s)) (x + 1) μ1 ν1 _ (by omega) (by omega) (by omega) (rnd_lt _) c2 m2 (OW_swp hO p1 p2) (fun j hj => by rw [m3 16 (by decide)]; exact hA j hj)
      exact ⟨r, μ', ν', g1, g2, fun a ha => (g3 a ha).trans (c3 a ha), g4.trans c4, fun a ha => (g5 a ha).trans (m3 a ha), g6.trans m4, g7⟩
theorem Sp_terms_ok : Sp_terms Rel := by
  intro μC μM a1 a2 h
  obtain ⟨nb, nn, nu, K, W, hNR, hC, hM, hO, hJ, -⟩ := Rel_q h
  rw [f_X9_terms, within_eq, zbind_eq, f_X10_terms, in_eq, zbind_eq]
  cases hq : inR a1 0 999999
  · exact isbad h (if_pos rfl) (if_pos rfl)
  · obtain ⟨s, hs, rfl⟩ := inR_nI (m := 999999) (by decide) hq
    rw [if_neg bIt, if_neg bIt, within_eq, zbind_eq, in_eq, zbind_eq]
    cases hq2 : inR a2 0 60
    · exact isbad h (if_pos rfl) (if_pos rfl)
    · obtain ⟨N, hN, rfl⟩ := inR_nI (m := 60) (by decide) hq2
      obtain ⟨μ, ν, s1, s2, s3, s4, s5, s6⟩ := try_start hC hM
      rw [if_neg bIt, if_neg bIt, s1, zbind_eq, s2, zbind_eq, nI_l (by omega)]
      obtain ⟨r, μ', ν', g1, g2, g3⟩ := terms_eq (show N < 2 ^ 31 by omega) N 0 zFU zFU s 0 μ ν W (by omega) (zFU_lt (by omega)) (zFU_lt (by omega)) (by omega) s3 s4 hO s5
      rw [nI_0] at g1 g2
      exact ⟨r, μ', ν', g1, g2, Rel_same (s6 μ' ν' g3).1 (s6 μ' ν' g3).2 h⟩
