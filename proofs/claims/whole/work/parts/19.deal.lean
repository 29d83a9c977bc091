/-! ===== took, sale, swaps ===== -/
theorem nIne {a b : Nat} (h : a ≠ b) (ha : a < 2 ^ 31) (hb : b < 2 ^ 31) : ¬ nI a = nI b := fun e => h ((nI_eq ha hb).mp e)
theorem nI_ne_m1 {a : Nat} (ha : a < 2 ^ 31) : ¬ nI a = -1 := fun e => nI_pos ha (by rw [e]; decide)
def tookB (nb i : Nat) (x : Int32) (W : Nat → Int32) : Int32 := iter (fun b a => if b = i then a else if x &&& (setC W (nI b) ^^^ (-1 : Int32)) = 0 then a ||| bit b else a) 0 nb 0
theorem c_took {μ : Mem} {o nb i : Nat} {K W} (h : CN μ o nb K W) (hi : i < nb) (x : Int32) : f_X1_robbedBy o (nI i) x μ = some (if setC W (nI i) &&& (x ^^^ (-1 : Int32)) = 0 then tookB nb i (x &&& (setC W (nI i) ^^^ (-1 : Int32))) W else 0, μ) := by
  have h5 := h.1
  rw [f_X1_robbedBy, c_cells h, zbind_eq]
  by_cases hx : setC W (nI i) &&& (x ^^^ (-1 : Int32)) = 0
  · rw [if_pos hx, if_pos hx]
    have e := loop0 (fun n a c => f_X1_robbedBy_29 o n (nI i) (x &&& (setC W (nI i) ^^^ (-1 : Int32))) a c μ) (fun b a => if b = i then a else if (x &&& (setC W (nI i) ^^^ (-1 : Int32))) &&& (setC W (nI b) ^^^ (-1 : Int32)) = 0 then a ||| bit b else a) nb (by omega) (fun a => some (a, μ)) (fun n a => by
      show f_X1_robbedBy_29 o (n + 1) (nI i) _ a (nI nb) μ = _
      rw [f_X1_robbedBy_29, h.2.1, if_pos (ile _)]) (fun n j a hj => by
      show f_X1_robbedBy_29 o (n + 1) (nI i) _ a (nI j) μ = f_X1_robbedBy_29 o n (nI i) _ _ (nI (j + 1)) μ
      rw [f_X1_robbedBy_29, h.2.1, if_neg (nI_ge hj (by omega)), nI_1]
      by_cases q : j = i
      · rw [if_pos (by rw [q]), if_pos q]
      · rw [if_neg (nIne q (by omega) (by omega)), if_neg q, c_cells h, zbind_eq]
        by_cases q2 : (x &&& (setC W (nI i) ^^^ (-1 : Int32))) &&& (setC W (nI j) ^^^ (-1 : Int32)) = 0
        · rw [if_pos q2, if_pos q2]; rfl
        · rw [if_neg q2, if_neg q2]) 0
    rw [nI_0] at e
    exact e
  · rw [if_neg hx, if_neg hx]
theorem m_took {μ : Mem} {nb i : Nat} {K W} (h : MN μ nb K W) (hi : i < nb) (x : Int32) : f_X10_took_46 zFU (nI i) x (setC W (nI i)) 0 0 μ = some (tookB nb i (x &&& (setC W (nI i) ^^^ (-1 : Int32))) W, μ) := by
  have h5 := h.1
  have e := loop0 (fun n a c => f_X10_took_46 n (nI i) x (setC W (nI i)) a c μ) (fun b a => if b = i then a else if (x &&& (setC W (nI i) ^^^ (-1 : Int32))) &&& (setC W (nI b) ^^^ (-1 : Int32)) = 0 then a ||| bit b else a) nb (by omega) (fun a => some (a, μ)) (fun n a => by
    show f_X10_took_46 (n + 1) (nI i) x _ a (nI nb) μ = _
    rw [f_X10_took_46, h.2.1, if_pos (ile _)]) (fun n j a hj => by
    show f_X10_took_46 (n + 1) (nI i) x _ a (nI j) μ = f_X10_took_46 n (nI i) x _ _ (nI (j + 1)) μ
    rw [f_X10_took_46, h.2.1, if_neg (nI_ge hj (by omega)), nI_1, or0]
    by_cases q : j = i
    · rw [if_pos (by rw [q]), if_pos q]
    · rw [if_neg (nIne q (by omega) (by omega)), if_neg q, m_cells h, zbind_eq]
      by_cases q2 : (x &&& (setC W (nI i) ^^^ (-1 : Int32))) &&& (setC W (nI j) ^^^ (-1 : Int32)) = 0
      · rw [if_pos q2, if_pos q2]; rfl
      · rw [if_neg q2, if_neg q2]) 0
  rw [nI_0] at e
  exact e
theorem Sp_took_ok : Sp_took Rel := by
  intro μC μM a1 a2 h
  obtain ⟨nb, nn, nu, K, W, hNR, hC, hM, hO, hJ, -⟩ := Rel_q h
  have h5 := hC.1
  rw [f_X9_took, CN_boy hC, zbind_eq, f_X10_took, MN_boy hM, zbind_eq]
  cases hq : inR a1 0 (nI nb - 1)
  · exact isbad h (if_pos rfl) (if_pos rfl)
  · obtain ⟨b, hb, rfl⟩ := inR_boy (by omega) hq
    rw [if_neg bIt, if_neg bIt, in_eq, zbind_eq, within_eq, zbind_eq]
    cases hq2 : inR a2 0 4095
    · exact isbad h (if_pos rfl) (if_pos rfl)
    · rw [if_neg bIt, if_neg bIt, c_took hC hb, zbind_eq, m_cells hM, zbind_eq]
      by_cases hx : setC W (nI b) &&& (a2 ^^^ (-1 : Int32)) = 0
      · rw [if_pos hx, if_pos hx, m_took hM hb]; exact ask h _ rfl rfl
      · rw [if_neg hx, if_neg hx]; exact ask h _ rfl rfl
def own (W : Nat → Int32) (j : Nat) : Nat := (W j).toNatClampNeg
theorem own_of {nb j : Nat} {W : Nat → Int32} (hn : nb ≤ 5) (h : OW nb W) (hj : j < 12) (hne : ¬ W j = -1) : own W j < nb ∧ W j = nI (own W j) := by
  rcases h j hj with e | ⟨b, hb, e⟩
  · exact absurd e hne
  · unfold own
    rw [e, nI_clamp (by omega)]
    exact ⟨hb, rfl⟩
def lossB (K : Nat → Nat) (W : Nat → Int32) (j : Nat) : Int32 := if W j = -1 then 0 else wsum (K (own W j)) (setC W (W j)) - wsum (K (own W j)) (setC W (W j) &&& (bit j ^^^ (-1 : Int32)))
def brB (K : Nat → Nat) (W : Nat → Int32) (j b : Nat) : Int32 := wsum (K b) (setC W (nI b) ||| bit j) - wsum (K b) (setC W (nI b)) - lossB K W j
theorem c_loss {μ : Mem} {o nb j : Nat} {K W} (h : CN μ o nb K W) (hO : OW nb W) (hj : j < 12) : f_X1_lossOf o (nI j) μ = some (lossB K W j, μ) := by
  rw [f_X1_lossOf, zck_t (zin_nI hj (by decide)), nI_clamp (by omega), h.2.2.2 j hj]
  unfold lossB
  by_cases q : W j = -1
  · rw [if_pos q, if_pos q]
  · obtain ⟨h1, h2⟩ := own_of h.1 hO hj q
    rw [if_neg q, if_neg q, c_cells h, zbind_eq]
    generalize own W j = w at h1 h2
    rw [h2, c_worth h h1, zbind_eq, c_worth h h1, zbind_eq]; rfl
theorem c_brings {μ : Mem} {o nb j b : Nat} {K W} (h : CN μ o nb K W) (hO : OW nb W) (hj : j < 12) (hb : b < nb) : f_X1_saleBrings o (nI j) (nI b) μ = some (brB K W j b, μ) := by
  rw [f_X1_saleBrings, c_cells h, zbind_eq, c_worth h hb, zbind_eq, c_worth h hb, zbind_eq, c_loss h hO hj, zbind_eq]; rfl
def buyS (K : Nat → Nat) (J W : Nat → Int32) (j b : Nat) (a : Int32 × Int32) : Int32 × Int32 := if nI b = W j then a else if lossB K W j ≤ J b then (if brB K W j b ≤ a.2 then a else (nI b, brB K W j b)) else a
def buyB (nb : Nat) (K : Nat → Nat) (J W : Nat → Int32) (j : Nat) : Int32 × Int32 := iter (buyS K J W j) 0 nb (-1, 0)
theorem c_buyer {μ : Mem} {o nb j : Nat} {K W} (h : CN μ o nb K W) (hO : OW nb W) (hj : j < 12) : f_X1_bestBuyer o (nI j) μ = some ((buyB nb K (μ.1 (o + 3)) W j).1, μ) := by
  have h5 := h.1
  rw [f_X1_bestBuyer, c_loss h hO hj, zbind_eq]
  have e := loop0 (fun n (a : Int32 × Int32) c => f_X1_bestBuyer_14 o n (nI j) (lossB K W j) a.1 a.2 c μ) (buyS K (μ.1 (o + 3)) W j) nb (by omega) (fun a => some (a.1, μ)) (fun n a => by
    show f_X1_bestBuyer_14 o (n + 1) (nI j) _ a.1 a.2 (nI nb) μ = _
    rw [f_X1_bestBuyer_14, h.2.1, if_pos (ile _)]) (fun n b a hb => by
    show f_X1_bestBuyer_14 o (n + 1) (nI j) _ a.1 a.2 (nI b) μ = f_X1_bestBuyer_14 o n (nI j) _ (buyS K (μ.1 (o + 3)) W j b a).1 (buyS K (μ.1 (o + 3)) W j b a).2 (nI (b + 1)) μ
    rw [f_X1_bestBuyer_14, h.2.1, if_neg (nI_ge hb (by omega)), nI_1, zck_t (zin_nI hj (by decide)), nI_clamp (by omega), h.2.2.2 j hj]
    unfold buyS
    by_cases q : nI b = W j
    · rw [if_pos q, if_pos q]
    · rw [if_neg q, if_neg q, zck_t (zin_nI (by omega) (by decide)), nI_clamp (by omega)]
      by_cases q2 : lossB K W j ≤ μ.1 (o + 3) b
      · rw [if_pos q2, if_pos q2, c_brings h hO hj hb, zbind_eq]
        by_cases q3 : brB K W j b ≤ a.2
        · rw [if_pos q3, if_pos q3]
        · rw [if_neg q3, if_neg q3]
      · rw [if_neg q2, if_neg q2]) (-1, 0)
  rw [nI_0] at e
  exact e
theorem m_buyer {μ : Mem} {nb j : Nat} {K W} (h : MN μ nb K W) (hj : j < 12) (x2 : Int32) : f_X10_sale_69 zFU (nI j) x2 (W j) (lossB K W j) (-1) 0 0 μ = some (if (buyB nb K (μ.1 4) W j).1 = -1 then (buyB nb K (μ.1 4) W j).1 else if x2 = 0 then (buyB nb K (μ.1 4) W j).1 else (buyB nb K (μ.1 4) W j).2, μ) := by
  have h5 := h.1
  have e := loop0 (fun n (a : Int32 × Int32) c => f_X10_sale_69 n (nI j) x2 (W j) (lossB K W j) a.1 a.2 c μ) (buyS K (μ.1 4) W j) nb (by omega) (fun a => some (if a.1 = -1 then a.1 else if x2 = 0 then a.1 else a.2, μ)) (fun n a => by
    show f_X10_sale_69 (n + 1) (nI j) x2 (W j) _ a.1 a.2 (nI nb) μ = _
    rw [f_X10_sale_69, h.2.1, if_pos (ile _)]
    by_cases q : a.1 = -1
    · rw [if_pos q, if_pos q]
    · rw [if_neg q, if_neg q]
      by_cases q2 : x2 = 0
      · rw [if_pos q2, if_pos q2]
      · rw [if_neg q2, if_neg q2]) (fun n b a hb => by
    show f_X10_sale_69 (n + 1) (nI j) x2 (W j) _ a.1 a.2 (nI b) μ = f_X10_sale_69 n (nI j) x2 (W j) _ (buyS K (μ.1 4) W j b a).1 (buyS K (μ.1 4) W j b a).2 (nI (b + 1)) μ
    rw [f_X10_sale_69, h.2.1, if_neg (nI_ge hb (by omega))]
    unfold buyS
    by_cases q : nI b = W j
    · rw [if_pos q, if_pos q, nI_1]
    · rw [if_neg q, if_neg q, zck_t (zin_nI (by omega) (by decide)), nI_clamp (by omega)]
      by_cases q2 : lossB K W j ≤ μ.1 4 b
      · rw [if_neg (Int32.not_lt.mpr q2), if_pos q2, m_cells h, zbind_eq, m_worth h hb, zbind_eq, m_own h hb, zbind_eq]
        have e : wsum (K b) (setC W (nI b) ||| (1 : Int32) <<< (nI j &&& 31)) - wsum (K b) (setC W (nI b)) - lossB K W j = brB K W j b := rfl
        rw [e, f_X10_sale_138, f_X10_sale_138, nI_1]
        by_cases q3 : brB K W j b ≤ a.2
        · rw [if_pos q3, if_pos q3, if_pos q3]
        · rw [if_neg q3, if_neg q3, if_neg q3]
      · rw [if_pos (Int32.not_le.mp q2), if_neg q2, nI_1]) (-1, 0)
  rw [nI_0] at e
  exact e
theorem buyB_congr {nb : Nat} {K : Nat → Nat} {J J' W : Nat → Int32} {j : Nat} (h : ∀ b, b < nb → J' b = J b) : buyB nb K J' W j = buyB nb K J W j := iter_congr nb 0 _ (fun i _ hi a => by unfold buyS; rw [h i (by omega)])
theorem buyB_inv (nb : Nat) (K : Nat → Nat) (J W : Nat → Int32) (j : Nat) : (buyB nb K J W j).1 = -1 ∨ ∃ b, b < nb ∧ (buyB nb K J W j).1 = nI b ∧ (buyB nb K J W j).2 = brB K W j b := by
  have h := iter_inv (f := buyS K J W j) (P := fun i (a : Int32 × Int32) => a.1 = -1 ∨ ∃ b, b < i ∧ a.1 = nI b ∧ a.2 = brB K W j b) nb 0 (-1, 0) (fun i _ _ a ha => by
    have wk : a.1 = -1 ∨ ∃ b, b < i + 1 ∧ a.1 = nI b ∧ a.2 = brB K W j b := by
      rcases ha with e | ⟨b, hb, e⟩
      · exact Or.inl e
      · exact Or.inr ⟨b, by omega, e⟩
    show (buyS K J W j i a).1 = -1 ∨ ∃ b, b < i + 1 ∧ (buyS K J W j i a).1 = nI b ∧ (buyS K J W j i a).2 = brB K W j b
    unfold buyS
    by_cases q : nI i = W j
    · rw [if_pos q]; exact wk
    · rw [if_neg q]
      by_cases q2 : lossB K W j ≤ J i
      · rw [if_pos q2]
        by_cases q3 : brB K W j i ≤ a.2
        · rw [if_pos q3]; exact wk
        · rw [if_neg q3]; exact Or.inr ⟨i, by omega, rfl, rfl⟩
      · rw [if_neg q2]; exact wk) (Or.inl rfl)
  rw [Nat.zero_add] at h
  exact h
theorem Sp_sale_ok : Sp_sale Rel := by
  intro μC μM a1 a2 h
  obtain ⟨nb, nn, nu, K, W, hNR, hC, hM, hO, hJ, -⟩ := Rel_q h
  have h5 := hC.1
  rw [f_X9_sale, isCell_eq, zbind_eq, f_X10_sale, m_isCell_eq, zbind_eq]
  cases hq : inR a1 0 11
  · exact isbad h (if_pos rfl) (if_pos rfl)
  · obtain ⟨j, hj, rfl⟩ := inR_nI (m := 11) (by decide) hq
    rw [if_neg bIt, if_neg bIt, in_eq, zbind_eq, within_eq, zbind_eq]
    cases hq2 : inR a2 0 1
    · exact isbad h (if_pos rfl) (if_pos rfl)
    · rw [if_neg bIt, if_neg bIt, c_buyer hC hO (by omega), zbind_eq, zck_t (zin_nI (by omega) (by decide)), nI_clamp (by omega), hM.2.2.2 j (by omega)]
      have em : (if W j = -1 then f_X10_sale_69 zFU (nI j) a2 (W j) 0 (-1) 0 0 μM else zbind (f_X10_ownWorth (W j) μM) (fun r8 μ7 => zbind (f_X10_setOf (W j) μ7) (fun r10 μ9 => zbind (f_X10_worthOf (W j) (r10 &&& (((1 : Int32) <<< (nI j &&& 31)) ^^^ (-1 : Int32))) μ9) (fun r12 μ11 => f_X10_sale_69 zFU (nI j) a2 (W j) (r8 - r12) (-1 : Int32) (0 : Int32) (0 : Int32) μ11)))) = f_X10_sale_69 zFU (nI j) a2 (W j) (lossB K W j) (-1) 0 0 μM := by
        unfold lossB
        by_cases q : W j = -1
        · rw [if_pos q, if_pos q]
        · obtain ⟨h1, h2⟩ := own_of hC.1 hO (show j < 12 by omega) q
          rw [if_neg q, if_neg q]
          generalize own W j = w at h1 h2
          rw [h2, m_own hM h1, zbind_eq, m_cells hM, zbind_eq, m_worth hM h1, zbind_eq]; rfl
      rw [em, m_buyer hM (by omega), buyB_congr (fun b hb => (hJ b hb).2)]
      rcases buyB_inv nb K (μC.1 4) W j with e | ⟨b, hb, e1, e2⟩
      · show ∃ r μC' μM', (if (buyB nb K (μC.1 4) W j).1 = -1 then _ else _) = _ ∧ _
        rw [if_pos e, if_pos e]; exact ask h _ rfl rfl
      · show ∃ r μC' μM', (if (buyB nb K (μC.1 4) W j).1 = -1 then some ((buyB nb K (μC.1 4) W j).1, μC) else if a2 = 0 then some ((buyB nb K (μC.1 4) W j).1, μC) else _) = _ ∧ _
        rw [e1, e2, if_neg (nI_ne_m1 (by omega)), if_neg (nI_ne_m1 (by omega))]
        by_cases q : a2 = 0
        · rw [if_pos q, if_pos q]; exact ask h _ rfl rfl
        · rw [if_neg q, if_neg q, c_brings hC hO (by omega) hb, zbind_eq]; exact ask h _ rfl rfl
def gnB (K : Nat → Nat) (W : Nat → Int32) (b : Nat) (x : Int32) : Bool := decide (¬ wsum (K b) (setC W (nI b) ^^^ x) ≤ wsum (K b) (setC W (nI b)))
def swB (K : Nat → Nat) (W : Nat → Int32) (i j : Nat) : Bool := !decide (W i = -1) && (!decide (W j = -1) && (!decide (W i = W j) && (gnB K W (own W i) (bit i ||| bit j) && gnB K W (own W j) (bit i ||| bit j))))
theorem c_gains {μ : Mem} {o nb b : Nat} {K W} (h : CN μ o nb K W) (hb : b < nb) (x : Int32) : f_X1_gains o (nI b) x μ = some (bI (gnB K W b x), μ) := by
  rw [f_X1_gains, c_cells h, zbind_eq, c_worth h hb, zbind_eq, c_worth h hb, zbind_eq]
  unfold gnB bI
  by_cases q : wsum (K b) (setC W (nI b) ^^^ x) ≤ wsum (K b) (setC W (nI b)) <;> simp [q]
theorem c_sw {μ : Mem} {o nb i j : Nat} {K W} (h : CN μ o nb K W) (hO : OW nb W) (hi : i < 12) (hj : j < 12) : f_X1_bothGain o (nI i) (nI j) μ = some (bI (swB K W i j), μ) := by
  rw [f_X1_bothGain, f_X1_ofUnlikeBoys, zck_t (zin_nI hi (by decide)), zck_t (zin_nI hj (by decide)), zck_t (zin_nI hi (by decide)), zck_t (zin_nI hj (by decide)), nI_clamp (by omega), nI_clamp (by omega), h.2.2.2 i hi, h.2.2.2 j hj]
  unfold swB
  by_cases q1 : W i = -1
  · rw [if_pos q1, zbind_eq, if_pos rfl, decide_eq_true q1]; rfl
  · rw [if_neg q1, decide_eq_false q1]
    by_cases q2 : W j = -1
    · rw [if_pos q2, zbind_eq, if_pos rfl, decide_eq_true q2]; rfl
    · rw [if_neg q2, decide_eq_false q2]
      by_cases q3 : W i = W j
      · rw [if_pos q3, zbind_eq, if_pos rfl, decide_eq_true q3]; rfl
      · rw [if_neg q3, decide_eq_false q3, zbind_eq, if_neg (by decide), zck_t (zin_nI hi (by decide)), h.2.2.2 i hi]
        obtain ⟨h1, h2⟩ := own_of h.1 hO hi q1
        obtain ⟨h3, h4⟩ := own_of h.1 hO hj q2
        generalize own W i = wi at h1 h2
        generalize own W j = wj at h3 h4
        rw [h2, c_gains h h1, zbind_eq]
        show (if bI (gnB K W wi (bit i ||| bit j)) = 0 then _ else _) = _
        cases gnB K W wi (bit i ||| bit j)
        · rw [if_pos bIf]; rfl
        · rw [if_neg bIt, zck_t (zin_nI hj (by decide)), h.2.2.2 j hj, h4, c_gains h h3, zbind_eq]
          show (if bI (gnB K W wj (bit i ||| bit j)) = 0 then _ else _) = some (bI (gnB K W wj (bit i ||| bit j)), μ)
          cases gnB K W wj (bit i ||| bit j)
          · rw [if_pos bIf]; rfl
          · rw [if_neg bIt]; rfl
theorem m_sw {μ : Mem} {nb i j : Nat} {K W} (h : MN μ nb K W) (hO : OW nb W) (hi : i < 12) (hj : j < 12) : f_X10_isSwap (nI i) (nI j) μ = some (bI (swB K W i j), μ) := by
  rw [f_X10_isSwap, zck_t (zin_nI hi (by decide)), zck_t (zin_nI hj (by decide)), nI_clamp (by omega), nI_clamp (by omega), h.2.2.2 i hi, h.2.2.2 j hj]
  unfold swB
  by_cases q1 : W i = -1
  · rw [if_pos q1, decide_eq_true q1]; rfl
  · rw [if_neg q1, decide_eq_false q1]
    by_cases q2 : W j = -1
    · rw [if_pos q2, decide_eq_true q2]; rfl
    · rw [if_neg q2, decide_eq_false q2]
      by_cases q3 : W i = W j
      · rw [if_pos q3, decide_eq_true q3]; rfl
      · rw [if_neg q3, decide_eq_false q3]
        obtain ⟨h1, h2⟩ := own_of h.1 hO hi q1
        obtain ⟨h3, h4⟩ := own_of h.1 hO hj q2
        generalize own W i = wi at h1 h2
        generalize own W j = wj at h3 h4
        rw [h2, h4, m_cells h, zbind_eq, m_cells h, zbind_eq, m_worth h h1, zbind_eq, m_worth h h1, zbind_eq, m_worth h h3, zbind_eq, m_worth h h3, zbind_eq]
        show (if wsum (K wi) (setC W (nI wi) ^^^ (bit i ||| bit j)) ≤ _ then _ else if wsum (K wj) (setC W (nI wj) ^^^ (bit i ||| bit j)) ≤ _ then _ else _) = some (bI (gnB K W wi (bit i ||| bit j) && gnB K W wj (bit i ||| bit j)), μ)
        unfold gnB
        by_cases c1 : wsum (K wi) (setC W (nI wi) ^^^ (bit i ||| bit j)) ≤ wsum (K wi) (setC W (nI wi))
        · rw [if_pos c1, decide_eq_false (not_not_intro c1)]; rfl
        · rw [if_neg c1, decide_eq_true c1]
          by_cases c2 : wsum (K wj) (setC W (nI wj) ^^^ (bit i ||| bit j)) ≤ wsum (K wj) (setC W (nI wj))
          · rw [if_pos c2, decide_eq_false (not_not_intro c2)]; rfl
          · rw [if_neg c2, decide_eq_true c2]; rfl
def row (i : Nat) : Nat → Nat → List (Nat × Nat)
  | _, 0 => []
  | j, k + 1 => (i, j) :: row i (j + 1) k
def rows : Nat → Nat → List (Nat × Nat)
  | _, 0 => []
  | i, k + 1 => row i (i + 1) (11 - i) ++ rows (i + 1) k
theorem nest {σ β : Type} (Fo : Nat → σ → Int32 → β) (Fi : Nat → Nat → σ → Int32 → Int32 → β) (L : List (Nat × Nat) → σ → β) (hoe : ∀ n a, Fo (n + 1) a (nI 12) = L [] a) (ho : ∀ n i a, i < 12 → Fo (n + 1) a (nI i) = Fi n zFU a (nI i) (nI (i + 1))) (hie : ∀ n m i a, i < 12 → Fi n (m + 1) a (nI i) (nI 12) = Fo n a (nI (i + 1))) (hi : ∀ n m i j a l, i < j → j < 12 → (∀ a', Fi n m a' (nI i) (nI (j + 1)) = L l a') → Fi n (m + 1) a (nI i) (nI j) = L ((i, j) :: l) a) : ∀ (k i n : Nat) (a : σ), i + k = 12 → k < n → Fo n a (nI i) = L (rows i k) a := by
  intro k
  induction k with
  | zero =>
    intro i n a h1 h2
    obtain ⟨n, rfl⟩ : ∃ q, n = q + 1 := ⟨n - 1, by omega⟩
    rw [show i = 12 by omega, hoe]; rfl
  | succ k ih =>
    intro i n a h1 h2
    obtain ⟨n, rfl⟩ : ∃ q, n = q + 1 := ⟨n - 1, by omega⟩
    rw [ho n i a (by omega)]
    have inner : ∀ (q j m : Nat) (a : σ), i < j → j + q = 12 → q < m → Fi n m a (nI i) (nI j) = L (row i j q ++ rows (i + 1) k) a := by
      intro q
      induction q with
      | zero =>
        intro j m a _ h4 h5
        obtain ⟨m, rfl⟩ : ∃ q, m = q + 1 := ⟨m - 1, by omega⟩
        rw [show j = 12 by omega, hie n m i a (by omega), ih (i + 1) n a (by omega) (by omega)]; rfl
      | succ q ih2 =>
        intro j m a h3 h4 h5
        obtain ⟨m, rfl⟩ : ∃ q, m = q + 1 := ⟨m - 1, by omega⟩
        exact hi n m i j a (row i (j + 1) q ++ rows (i + 1) k) h3 (by omega) (fun a' => ih2 (j + 1) m a' (by omega) (by omega) (by omega))
    exact inner (11 - i) (i + 1) zFU a (by omega) (by omega) (zFU_lt (by omega))
def cntL (g : Nat → Nat → Bool) : List (Nat × Nat) → Int32 → Int32
  | [], c => c
  | (i, j) :: l, c => if g i j = true then cntL g l (c + 1) else cntL g l c
def atL (g : Nat → Nat → Bool) (x : Int32) : List (Nat × Nat) → Int32 → Int32
  | [], _ => -1
  | (i, j) :: l, c => if g i j = true then (if c = x then 100 * nI i + nI j else atL g x l (c + 1)) else atL g x l c
def modL (g : Nat → Nat → Bool) (x : Int32) : List (Nat × Nat) → Int32 × Int32 → Int32
  | [], c => if x = -1 then c.1 else c.2
  | (i, j) :: l, c => if g i j = true then (if c.1 = x then modL g x l (c.1 + 1, 100 * nI i + nI j) else modL g x l (c.1 + 1, c.2)) else modL g x l c
def firL (g : Nat → Nat → Bool) : List (Nat × Nat) → Int32
  | [] => -1
  | (i, j) :: l => if g i j = true then 100 * nI i + nI j else firL g l
theorem c_many {μ : Mem} {o nb : Nat} {K W} (h : CN μ o nb K W) (hO : OW nb W) : f_X1_howManySwaps o μ = some (cntL (swB K W) (rows 0 12) 0, μ) := by
  rw [f_X1_howManySwaps]
  have e := nest (fun n a c => f_X1_howManySwaps_4 o n a c μ) (fun n m a x y => f_X1_howManySwaps_14 o (fun a0 a1 ν => f_X1_howManySwaps_4 o n a0 a1 ν) m a x y μ) (fun l a => some (cntL (swB K W) l a, μ)) (fun n a => by
    show f_X1_howManySwaps_4 o (n + 1) a (nI 12) μ = _
    rw [f_X1_howManySwaps_4, if_pos (by decide)]; rfl) (fun n i a hi => by
    show f_X1_howManySwaps_4 o (n + 1) a (nI i) μ = _
    rw [f_X1_howManySwaps_4, if_neg (lt12 hi), nI_1]) (fun n m i a hi => by
    show f_X1_howManySwaps_14 o _ (m + 1) a (nI i) (nI 12) μ = _
    rw [f_X1_howManySwaps_14, if_pos (by decide), nI_1]) (fun n m i j a l hij hj hc => by
    show f_X1_howManySwaps_14 o _ (m + 1) a (nI i) (nI j) μ = _
    rw [f_X1_howManySwaps_14, if_neg (lt12 hj), c_sw h hO (by omega) hj, zbind_eq, nI_1]
    show _ = some (if swB K W i j = true then cntL (swB K W) l (a + 1) else cntL (swB K W) l a, μ)
    cases swB K W i j
    · rw [if_pos bIf, if_neg (by decide)]; exact hc a
    · rw [if_neg bIt, if_pos rfl]; exact hc (a + 1)) 12 0 zFU 0 rfl (zFU_lt (by decide))
  rw [nI_0] at e
  exact e
theorem c_at {μ : Mem} {o nb : Nat} {K W} (h : CN μ o nb K W) (hO : OW nb W) (x : Int32) : f_X1_swapAt o x μ = some (atL (swB K W) x (rows 0 12) 0, μ) := by
  rw [f_X1_swapAt]
  have e := nest (fun n a c => f_X1_swapAt_4 o n x a c μ) (fun n m a u y => f_X1_swapAt_15 o (fun a0 a1 a2 ν => f_X1_swapAt_4 o n a0 a1 a2 ν) m x a u y μ) (fun l a => some (atL (swB K W) x l a, μ)) (fun n a => by
    show f_X1_swapAt_4 o (n + 1) x a (nI 12) μ = _
    rw [f_X1_swapAt_4, if_pos (by decide)]; rfl) (fun n i a hi => by
    show f_X1_swapAt_4 o (n + 1) x a (nI i) μ = _
    rw [f_X1_swapAt_4, if_neg (lt12 hi), nI_1]) (fun n m i a hi => by
    show f_X1_swapAt_15 o _ (m + 1) x a (nI i) (nI 12) μ = _
    rw [f_X1_swapAt_15, if_pos (by decide), nI_1]) (fun n m i j a l hij hj hc => by
    show f_X1_swapAt_15 o _ (m + 1) x a (nI i) (nI j) μ = _
    rw [f_X1_swapAt_15, if_neg (lt12 hj), c_sw h hO (by omega) hj, zbind_eq, nI_1]
    show _ = some (if swB K W i j = true then (if a = x then 100 * nI i + nI j else atL (swB K W) x l (a + 1)) else atL (swB K W) x l a, μ)
    cases swB K W i j
    · rw [if_pos bIf, if_neg (by decide)]; exact hc a
    · rw [if_neg bIt, if_pos rfl]
      by_cases q : a = x
      · rw [if_pos q, if_pos q]
      · rw [if_neg q, if_neg q]; exact hc (a + 1)) 12 0 zFU 0 rfl (zFU_lt (by decide))
  rw [nI_0] at e
  exact e
theorem m_swaps {μ : Mem} {nb : Nat} {K W} (h : MN μ nb K W) (hO : OW nb W) (x : Int32) : f_X10_swaps_18 zFU x 0 (-5) 0 μ = some (modL (swB K W) x (rows 0 12) (0, -5), μ) := by
  have e := nest (fun n (a : Int32 × Int32) c => f_X10_swaps_18 n x a.1 a.2 c μ) (fun n m (a : Int32 × Int32) u y => f_X10_swaps_31 (fun a0 a1 a2 a3 ν => f_X10_swaps_18 n a0 a1 a2 a3 ν) m x a.1 a.2 u y μ) (fun l a => some (modL (swB K W) x l a, μ)) (fun n a => by
    show f_X10_swaps_18 (n + 1) x a.1 a.2 (nI 12) μ = some (if x = -1 then a.1 else a.2, μ)
    rw [f_X10_swaps_18, if_pos (by decide)]
    by_cases q : x = -1
    · rw [if_pos q, if_pos q]
    · rw [if_neg q, if_neg q]) (fun n i a hi => by
    show f_X10_swaps_18 (n + 1) x a.1 a.2 (nI i) μ = _
    rw [f_X10_swaps_18, if_neg (lt12 hi), nI_1]) (fun n m i a hi => by
    show f_X10_swaps_31 _ (m + 1) x a.1 a.2 (nI i) (nI 12) μ = _
    rw [f_X10_swaps_31, if_pos (by decide), nI_1]) (fun n m i j a l hij hj hc => by
    show f_X10_swaps_31 _ (m + 1) x a.1 a.2 (nI i) (nI j) μ = _
    rw [f_X10_swaps_31, if_neg (lt12 hj), m_sw h hO (by omega) hj, zbind_eq, nI_1]
    show _ = some (if swB K W i j = true then (if a.1 = x then modL (swB K W) x l (a.1 + 1, 100 * nI i + nI j) else modL (swB K W) x l (a.1 + 1, a.2)) else modL (swB K W) x l a, μ)
    cases swB K W i j
    · rw [if_pos bIf, if_neg (by decide)]; exact hc a
    · rw [if_neg bIt, if_pos rfl]
      by_cases q : a.1 = x
      · rw [if_pos q, if_pos q]; exact hc (a.1 + 1, 100 * nI i + nI j)
      · rw [if_neg q, if_neg q]; exact hc (a.1 + 1, a.2)) 12 0 zFU (0, -5) rfl (zFU_lt (by decide))
  rw [nI_0] at e
  exact e
theorem m_first {μ : Mem} {nb : Nat} {K W} (h : MN μ nb K W) (hO : OW nb W) : f_X10_firstSwap μ = some (firL (swB K W) (rows 0 12), μ) := by
  rw [f_X10_firstSwap]
  have e := nest (fun n (_ : Unit) c => f_X10_firstSwap_2 n c μ) (fun n m (_ : Unit) u y => f_X10_firstSwap_12 (fun a0 ν => f_X10_firstSwap_2 n a0 ν) m u y μ) (fun l _ => some (firL (swB K W) l, μ)) (fun n a => by
    show f_X10_firstSwap_2 (n + 1) (nI 12) μ = _
    rw [f_X10_firstSwap_2, if_pos (by decide)]; rfl) (fun n i a hi => by
    show f_X10_firstSwap_2 (n + 1) (nI i) μ = _
    rw [f_X10_firstSwap_2, if_neg (lt12 hi), nI_1]) (fun n m i a hi => by
    show f_X10_firstSwap_12 _ (m + 1) (nI i) (nI 12) μ = _
    rw [f_X10_firstSwap_12, if_pos (by decide), nI_1]) (fun n m i j a l hij hj hc => by
    show f_X10_firstSwap_12 _ (m + 1) (nI i) (nI j) μ = _
    rw [f_X10_firstSwap_12, if_neg (lt12 hj), m_sw h hO (by omega) hj, zbind_eq, nI_1]
    show _ = some (if swB K W i j = true then 100 * nI i + nI j else firL (swB K W) l, μ)
    cases swB K W i j
    · rw [if_pos bIf, if_neg (by decide)]; exact hc ()
    · rw [if_neg bIt, if_pos rfl]) 12 0 zFU () rfl (zFU_lt (by decide))
  rw [nI_0] at e
  exact e
theorem modL_m1 (g : Nat → Nat → Bool) : ∀ (l : List (Nat × Nat)) (c r : Int32), modL g (-1) l (c, r) = cntL g l c
  | [], _, _ => rfl
  | (i, j) :: l, c, r => by
    show (if g i j = true then (if c = -1 then modL g (-1) l (c + 1, 100 * nI i + nI j) else modL g (-1) l (c + 1, r)) else modL g (-1) l (c, r)) = if g i j = true then cntL g l (c + 1) else cntL g l c
    rw [modL_m1 g l, modL_m1 g l, modL_m1 g l]
    by_cases q : c = -1 <;> simp [q]
theorem modL_past (g : Nat → Nat → Bool) {x : Nat} (hx : x < 2 ^ 31) : ∀ (l : List (Nat × Nat)) (c : Nat) (r : Int32), x < c → c + l.length < 2 ^ 31 → modL g (nI x) l (nI c, r) = r
  | [], _, _, _, _ => by
    show (if nI x = -1 then _ else _) = _
    rw [if_neg (nI_ne_m1 hx)]
  | (i, j) :: l, c, r, h1, h2 => by
    rw [List.length_cons] at h2
    show (if g i j = true then (if nI c = nI x then modL g (nI x) l (nI c + 1, 100 * nI i + nI j) else modL g (nI x) l (nI c + 1, r)) else modL g (nI x) l (nI c, r)) = r
    rw [if_neg (nIne (show c ≠ x by omega) (by omega) hx), nI_1, modL_past g hx l (c + 1) r (by omega) (by omega), modL_past g hx l c r h1 (by omega)]
    simp
theorem pr_ne (i j : Nat) (hi : i < 12) (hj : j < 12) : ¬ 100 * nI i + nI j = -1 := by
  have h : ∀ i j : Fin 12, ¬ 100 * nI i.val + nI j.val = -1 := by decide +kernel
  exact h ⟨i, hi⟩ ⟨j, hj⟩
theorem modL_at (g : Nat → Nat → Bool) {x : Nat} (hx : x < 2 ^ 31) : ∀ (l : List (Nat × Nat)) (c : Nat), (∀ p, p ∈ l → p.1 < 12 ∧ p.2 < 12) → c ≤ x → c + l.length < 2 ^ 31 → modL g (nI x) l (nI c, -5) = if atL g (nI x) l (nI c) = -1 then -5 else atL g (nI x) l (nI c)
  | [], _, _, _, _ => by
    show (if nI x = -1 then _ else _) = _
    rw [if_neg (nI_ne_m1 hx)]; rfl
  | (i, j) :: l, c, hl, h1, h2 => by
    rw [List.length_cons] at h2
    have hl' : ∀ p, p ∈ l → p.1 < 12 ∧ p.2 < 12 := fun p hp => hl p (List.mem_cons_of_mem _ hp)
    obtain ⟨p1, p2⟩ : i < 12 ∧ j < 12 := hl (i, j) (List.mem_cons_self ..)
    show (if g i j = true then (if nI c = nI x then modL g (nI x) l (nI c + 1, 100 * nI i + nI j) else modL g (nI x) l (nI c + 1, -5)) else modL g (nI x) l (nI c, -5)) = if (if g i j = true then (if nI c = nI x then 100 * nI i + nI j else atL g (nI x) l (nI c + 1)) else atL g (nI x) l (nI c)) = -1 then -5 else (if g i j = true then (if nI c = nI x then 100 * nI i + nI j else atL g (nI x) l (nI c + 1)) else atL g (nI x) l (nI c))
    cases g i j
    · exact modL_at g hx l c hl' h1 (by omega)
    · rw [if_pos rfl, if_pos rfl, nI_1]
      by_cases q : c = x
      · subst q
        rw [if_pos rfl, if_pos rfl, modL_past g hx l (c + 1) _ (by omega) (by omega), if_neg (pr_ne i j p1 p2)]
      · rw [if_neg (nIne q (by omega) hx), if_neg (nIne q (by omega) hx)]
        exact modL_at g hx l (c + 1) hl' (by omega) (by omega)
theorem rows_ok : (rows 0 12).all (fun p => decide (p.1 < 12) && decide (p.2 < 12)) = true := by decide +kernel
theorem rows_len : (rows 0 12).length = 66 := by decide +kernel
theorem rows_in (p : Nat × Nat) (h : p ∈ rows 0 12) : p.1 < 12 ∧ p.2 < 12 := by
  have := List.all_eq_true.mp rows_ok p h
  rw [Bool.and_eq_true] at this
  exact ⟨of_decide_eq_true this.1, of_decide_eq_true this.2⟩
theorem Sp_swaps_ok : Sp_swaps Rel := by
  intro μC μM a1 h
  obtain ⟨nb, nn, nu, K, W, hNR, hC, hM, hO, hJ, -⟩ := Rel_q h
  rw [f_X9_swaps, f_X10_swaps]
  by_cases q : (-1 : Int32) ≤ a1
  · rw [if_pos q, if_pos q, m_swaps hM hO]
    by_cases e : a1 = -1
    · subst e
      rw [if_pos rfl, c_many hC hO, zbind_eq, modL_m1]
      exact ask h _ rfl rfl
    · rw [if_neg e, c_at hC hO, zbind_eq]
      have hp : ¬ a1 < 0 := by
        intro hl
        apply e
        rw [Int32.le_iff_toInt_le] at q
        rw [Int32.lt_iff_toInt_lt] at hl
        apply Int32.toInt_inj.mp
        have e1 : (-1 : Int32).toInt = -1 := by decide
        have e0 : (0 : Int32).toInt = 0 := by decide
        omega
      obtain ⟨x, hx, rfl⟩ := nI_of hp
      have e2 := modL_at (swB K W) hx (rows 0 12) 0 rows_in (by omega) (by rw [rows_len]; decide)
      rw [nI_0] at e2
      rw [e2]
      by_cases c : atL (swB K W) (nI x) (rows 0 12) 0 = -1
      · rw [if_pos c, if_pos c]; exact ask h _ rfl rfl
      · rw [if_neg c, if_neg c]; exact ask h _ rfl rfl
  · rw [if_neg q, if_neg q]
    exact isten h rfl rfl
theorem atL_fir (g : Nat → Nat → Bool) : ∀ (l : List (Nat × Nat)), atL g 0 l 0 = firL g l
  | [] => rfl
  | (i, j) :: l => by
    show (if g i j = true then (if (0 : Int32) = 0 then 100 * nI i + nI j else _) else atL g 0 l 0) = if g i j = true then 100 * nI i + nI j else firL g l
    rw [if_pos rfl, atL_fir g l]
