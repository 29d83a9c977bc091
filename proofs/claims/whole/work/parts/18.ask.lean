/-! ===== questions that both ask alike ===== -/
def ofc (x : Int32) : Int32 := x
theorem Sp_of_ok : Sp_of Rel := by
  intro μC μM a1 a2 h
  obtain ⟨nb, nn, nu, K, W, hNR, hC, hM, hO, hJ, -⟩ := Rel_q h
  have h5 := hC.1
  rw [f_X9_of, CN_boy hC, zbind_eq, f_X10_of, MN_boy hM, zbind_eq]
  cases hq : inR a1 0 (nI nb - 1)
  · exact isbad h (if_pos rfl) (if_pos rfl)
  · obtain ⟨b, hb, rfl⟩ := inR_boy (by omega) hq
    rw [if_neg bIt, if_neg bIt, in_eq, zbind_eq]
    by_cases e0 : a2 = 0
    · subst e0
      rw [show inR 0 0 4 = true from by decide, if_neg bIt, if_pos rfl, if_pos rfl, zck_t (zin_nI (by omega) (by decide)), zck_t (zin_nI (by omega) (by decide)), nI_clamp (by omega)]
      exact ask h _ rfl (by rw [show (1 + 1 : Nat) = 2 from rfl, (hM.2.2.1 b hb).2]; exact congrArg _ (by rw [← (hC.2.2.1 b hb).2]))
    by_cases e1 : a2 = 1
    · subst e1
      rw [show inR 1 0 4 = true from by decide, if_neg bIt, if_neg (by decide), if_pos rfl, if_neg (by decide), if_pos rfl, zck_t (zin_nI (by omega) (by decide)), zck_t (zin_nI (by omega) (by decide)), nI_clamp (by omega)]
      exact ask h _ rfl (by rw [(hJ b hb).1])
    by_cases e2 : a2 = 2
    · subst e2
      rw [show inR 2 0 4 = true from by decide, if_neg bIt, if_neg (by decide), if_neg (by decide), if_pos rfl, if_neg (by decide), if_neg (by decide), if_pos rfl, zck_t (zin_nI (by omega) (by decide)), zck_t (zin_nI (by omega) (by decide)), nI_clamp (by omega)]
      exact ask h _ rfl (by rw [(hJ b hb).2])
    by_cases e3 : a2 = 3
    · subst e3
      rw [show inR 3 0 4 = true from by decide, if_neg bIt, if_neg (by decide), if_neg (by decide), if_neg (by decide), if_pos rfl, if_neg (by decide), if_neg (by decide), if_neg (by decide), if_pos rfl, c_cells hC, m_cells hM, zbind_eq, zbind_eq]
      exact ask h _ rfl rfl
    by_cases e4 : a2 = 4
    · subst e4
      rw [show inR 4 0 4 = true from by decide, if_neg bIt, if_neg (by decide), if_neg (by decide), if_neg (by decide), if_neg (by decide), if_pos rfl, if_neg (by decide), if_neg (by decide), if_neg (by decide), if_neg (by decide), c_own hC hb, m_own hM hb, zbind_eq, zbind_eq]
      exact ask h _ rfl rfl
    · rw [if_neg e0, if_neg e1, if_neg e2, if_neg e3, if_neg e4]
      have e : inR a2 0 4 = false := by
        cases q : inR a2 0 4
        · rfl
        · obtain ⟨j, hj, rfl⟩ := inR_nI (m := 4) (by decide) q
          rcases (show j = 0 ∨ j = 1 ∨ j = 2 ∨ j = 3 ∨ j = 4 by omega) with rfl | rfl | rfl | rfl | rfl
          · exact absurd rfl e0
          · exact absurd rfl e1
          · exact absurd rfl e2
          · exact absurd rfl e3
          · exact absurd rfl e4
      rw [e]
      exact isbad h rfl (if_pos rfl)
theorem Sp_worth_ok : Sp_worth Rel := by
  intro μC μM a1 a2 h
  obtain ⟨nb, nn, nu, K, W, hNR, hC, hM, hO, hJ, -⟩ := Rel_q h
  have h5 := hC.1
  rw [f_X9_worth, CN_boy hC, zbind_eq, f_X10_worth, MN_boy hM, zbind_eq]
  cases hq : inR a1 0 (nI nb - 1)
  · exact isbad h (if_pos rfl) (if_pos rfl)
  · obtain ⟨b, hb, rfl⟩ := inR_boy (by omega) hq
    rw [if_neg bIt, if_neg bIt, in_eq, zbind_eq, within_eq, zbind_eq]
    cases hq2 : inR a2 0 4095
    · exact isbad h (if_pos rfl) (if_pos rfl)
    · rw [if_neg bIt, if_neg bIt, c_worth hC hb, m_worth hM hb, zbind_eq, zbind_eq]
      exact ask h _ rfl rfl
theorem Sp_whose_ok : Sp_whose Rel := by
  intro μC μM a1 h
  obtain ⟨nb, nn, nu, K, W, hNR, hC, hM, hO, hJ, -⟩ := Rel_q h
  rw [f_X9_whose, isCell_eq, zbind_eq, f_X10_whose, m_isCell_eq, zbind_eq]
  cases hq : inR a1 0 11
  · exact isten h (if_pos rfl) (if_pos rfl)
  · obtain ⟨j, hj, rfl⟩ := inR_nI (m := 11) (by decide) hq
    rw [if_neg bIt, if_neg bIt, zck_t (zin_nI (by omega) (by decide)), zck_t (zin_nI (by omega) (by decide)), nI_clamp (by omega)]
    exact ask h _ rfl (by rw [hM.2.2.2 j (by omega), show (1 + 4 : Nat) = 5 from rfl]; exact congrArg _ (by rw [← hC.2.2.2 j (by omega)]))
/-- who has enough -/
def enB (nb : Nat) (N W : Nat → Int32) : Int32 := iter (fun b a => if pc12 (setC W (nI b)) < N b then a else a ||| bit b) 0 nb 0
theorem c_enough {μ : Mem} {o nb : Nat} {K W} (h : CN μ o nb K W) : f_X1_haveEnough o μ = some (enB nb (μ.1 (o + 2)) W, μ) := by
  have h5 := h.1
  rw [f_X1_haveEnough]
  have e := loop0 (fun n a c => f_X1_haveEnough_4 o n a c μ) (fun b a => if pc12 (setC W (nI b)) < μ.1 (o + 2) b then a else a ||| bit b) nb (by omega) (fun a => some (a, μ)) (fun n a => by
    show f_X1_haveEnough_4 o (n + 1) a (nI nb) μ = _
    rw [f_X1_haveEnough_4, h.2.1, if_pos (ile _)]) (fun n j a hj => by
    show f_X1_haveEnough_4 o (n + 1) a (nI j) μ = f_X1_haveEnough_4 o n _ (nI (j + 1)) μ
    rw [f_X1_haveEnough_4, h.2.1, if_neg (nI_ge hj (by omega)), c_cells h, zbind_eq, bc_set, zbind_eq, zck_t (zin_nI (by omega) (by decide)), nI_clamp (by omega), nI_1]
    by_cases q : pc12 (setC W (nI j)) < μ.1 (o + 2) j
    · rw [if_pos q, if_pos q]
    · rw [if_neg q, if_neg q]; rfl) 0
  rw [nI_0] at e
  exact e
theorem m_enough {μ : Mem} {nb : Nat} {K W} (h : MN μ nb K W) : f_X10_enough μ = some (enB nb (μ.1 3) W, μ) := by
  have h5 := h.1
  rw [f_X10_enough]
  have e := loop0 (fun n a c => f_X10_enough_4 n a c μ) (fun b a => if pc12 (setC W (nI b)) < μ.1 3 b then a else a ||| bit b) nb (by omega) (fun a => some (a, μ)) (fun n a => by
    show f_X10_enough_4 (n + 1) a (nI nb) μ = _
    rw [f_X10_enough_4, h.2.1, if_pos (ile _)]) (fun n j a hj => by
    show f_X10_enough_4 (n + 1) a (nI j) μ = f_X10_enough_4 n _ (nI (j + 1)) μ
    rw [f_X10_enough_4, h.2.1, if_neg (nI_ge hj (by omega)), m_cells h, zbind_eq, bits_eq, zbind_eq, zck_t (zin_nI (by omega) (by decide)), nI_clamp (by omega), nI_1, or0]
    by_cases q : pc12 (setC W (nI j)) < μ.1 3 j
    · rw [if_pos q, if_pos q]
    · rw [if_neg q, if_neg q]; rfl) 0
  rw [nI_0] at e
  exact e
theorem enB_congr {nb : Nat} {N N' W : Nat → Int32} (h : ∀ b, b < nb → N' b = N b) : enB nb N' W = enB nb N W := iter_congr nb 0 0 (fun i _ hi a => by rw [h i (by omega)])
theorem enB_lt {nb : Nat} (hn : nb ≤ 5) (N W : Nat → Int32) : ∃ q, q < 4096 ∧ enB nb N W = nI q := by
  have e : enB nb N W = bset (fun b => decide (¬ pc12 (setC W (nI b)) < N b)) nb := iter_congr nb 0 0 (fun i _ _ a => by by_cases q : pc12 (setC W (nI i)) < N i <;> simp [q])
  obtain ⟨q, hq, e2⟩ := bset_lt (fun b => decide (¬ pc12 (setC W (nI b)) < N b)) (show nb ≤ 12 by omega)
  exact ⟨q, Nat.lt_of_lt_of_le hq (Nat.pow_le_pow_right (by decide) (show nb ≤ 12 by omega)), by rw [e, e2]⟩
theorem Sp_enough_ok : Sp_enough Rel := by
  intro μC μM h
  obtain ⟨nb, nn, nu, K, W, hNR, hC, hM, hO, hJ, -⟩ := Rel_q h
  rw [f_X9_enough, c_enough hC, zbind_eq, m_enough hM, enB_congr (fun b hb => (hJ b hb).1)]
  exact ask h _ rfl rfl
/-- whom a boy envies -/
def envB (nb k : Nat) (w : Int32) (W : Nat → Int32) : Int32 := iter (fun b a => if wsum k (setC W (nI b)) ≤ w then a else a ||| bit b) 0 nb 0
theorem c_envy {μ : Mem} {o nb i : Nat} {K W} (h : CN μ o nb K W) (hi : i < nb) : f_X1_enviedBy o (nI i) μ = some (envB nb (K i) (wsum (K i) (setC W (nI i))) W, μ) := by
  have h5 := h.1
  rw [f_X1_enviedBy, c_own h hi, zbind_eq]
  have e := loop0 (fun n a c => f_X1_enviedBy_11 o n (nI i) (wsum (K i) (setC W (nI i))) a c μ) (fun b a => if wsum (K i) (setC W (nI b)) ≤ wsum (K i) (setC W (nI i)) then a else a ||| bit b) nb (by omega) (fun a => some (a, μ)) (fun n a => by
    show f_X1_enviedBy_11 o (n + 1) (nI i) (wsum (K i) (setC W (nI i))) a (nI nb) μ = _
    rw [f_X1_enviedBy_11, h.2.1, if_pos (ile _)]) (fun n j a hj => by
    show f_X1_enviedBy_11 o (n + 1) (nI i) (wsum (K i) (setC W (nI i))) a (nI j) μ = f_X1_enviedBy_11 o n (nI i) (wsum (K i) (setC W (nI i))) _ (nI (j + 1)) μ
    rw [f_X1_enviedBy_11, h.2.1, if_neg (nI_ge hj (by omega)), c_cells h, zbind_eq, c_worth h hi, zbind_eq, nI_1]
    by_cases q : wsum (K i) (setC W (nI j)) ≤ wsum (K i) (setC W (nI i))
    · rw [if_pos q, if_pos q]
    · rw [if_neg q, if_neg q]; rfl) 0
  rw [nI_0] at e
  exact e
theorem m_envy {μ : Mem} {nb i : Nat} {K W} (h : MN μ nb K W) (hi : i < nb) : f_X10_envy_17 zFU (nI i) 0 0 μ = some (envB nb (K i) (wsum (K i) (setC W (nI i))) W, μ) := by
  have h5 := h.1
  have e := loop0 (fun n a c => f_X10_envy_17 n (nI i) a c μ) (fun b a => if wsum (K i) (setC W (nI b)) ≤ wsum (K i) (setC W (nI i)) then a else a ||| bit b) nb (by omega) (fun a => some (a, μ)) (fun n a => by
    show f_X10_envy_17 (n + 1) (nI i) a (nI nb) μ = _
    rw [f_X10_envy_17, h.2.1, if_pos (ile _)]) (fun n j a hj => by
    show f_X10_envy_17 (n + 1) (nI i) a (nI j) μ = f_X10_envy_17 n (nI i) _ (nI (j + 1)) μ
    rw [f_X10_envy_17, h.2.1, if_neg (nI_ge hj (by omega)), m_cells h, zbind_eq, m_worth h hi, zbind_eq, m_own h hi, zbind_eq, nI_1, or0]
    by_cases q : wsum (K i) (setC W (nI j)) ≤ wsum (K i) (setC W (nI i))
    · rw [if_pos q, if_pos q]
    · rw [if_neg q, if_neg q]; rfl) 0
  rw [nI_0] at e
  exact e
theorem Sp_envy_ok : Sp_envy Rel := by
  intro μC μM a1 h
  obtain ⟨nb, nn, nu, K, W, hNR, hC, hM, hO, hJ, -⟩ := Rel_q h
  have h5 := hC.1
  rw [f_X9_envy, CN_boy hC, zbind_eq, f_X10_envy, MN_boy hM, zbind_eq]
  cases hq : inR a1 0 (nI nb - 1)
  · exact isbad h (if_pos rfl) (if_pos rfl)
  · obtain ⟨b, hb, rfl⟩ := inR_boy (by omega) hq
    rw [if_neg bIt, if_neg bIt, c_envy hC hb, m_envy hM hb, zbind_eq]
    exact ask h _ rfl rfl
def fairB (nb k : Nat) (s : Int32) : Bool := decide (¬ wsum k s * nI nb < wsum k 4095)
theorem c_fair {μ : Mem} {o nb i : Nat} {K W} (h : CN μ o nb K W) (hi : i < nb) (s : Int32) : f_X1_isFair o (nI i) s μ = some (bI (fairB nb (K i) s), μ) := by
  rw [f_X1_isFair, c_worth h hi, zbind_eq, c_worth h hi, zbind_eq, h.2.1]
  unfold fairB bI
  by_cases q : wsum (K i) s * nI nb < wsum (K i) 4095 <;> simp [q]
theorem m_fair {μ : Mem} {nb i : Nat} {K W} (h : MN μ nb K W) (hi : i < nb) (s : Int32) : f_X10_isFair (nI i) s μ = some (bI (fairB nb (K i) s), μ) := by
  rw [f_X10_isFair, m_worth h hi, zbind_eq, m_worth h hi, zbind_eq, h.2.1]
  unfold fairB bI
  by_cases q : wsum (K i) s * nI nb < wsum (K i) 4095 <;> simp [q]
theorem Sp_fair_ok : Sp_fair Rel := by
  intro μC μM a1 h
  obtain ⟨nb, nn, nu, K, W, hNR, hC, hM, hO, hJ, -⟩ := Rel_q h
  have h5 := hC.1
  rw [f_X9_fair, CN_boy hC, zbind_eq, f_X10_fair, MN_boy hM, zbind_eq]
  cases hq : inR a1 0 (nI nb - 1)
  · exact isbad h (if_pos rfl) (if_pos rfl)
  · obtain ⟨b, hb, rfl⟩ := inR_boy (by omega) hq
    rw [if_neg bIt, if_neg bIt, c_cells hC, m_cells hM, zbind_eq, zbind_eq, c_fair hC hb, m_fair hM hb, zbind_eq, zbind_eq]
    cases fairB nb (K b) (setC W (nI b))
    · exact ask h _ (if_pos rfl) (if_pos rfl)
    · exact ask h _ (if_neg bIt) (if_neg bIt)
def jamB (nb : Nat) (J : Nat → Int32) : Int32 := iter (fun b a => a + J b) 0 nb 0
theorem c_jam {μ : Mem} {o nb : Nat} {K W} (h : CN μ o nb K W) : f_X1_allJam o μ = some (jamB nb (μ.1 (o + 3)), μ) := by
  have h5 := h.1
  rw [f_X1_allJam]
  have e := loop0 (fun n a c => f_X1_allJam_4 o n a c μ) (fun b a => a + μ.1 (o + 3) b) nb (by omega) (fun a => some (a, μ)) (fun n a => by
    show f_X1_allJam_4 o (n + 1) a (nI nb) μ = _
    rw [f_X1_allJam_4, h.2.1, if_pos (ile _)]) (fun n j a hj => by
    show f_X1_allJam_4 o (n + 1) a (nI j) μ = f_X1_allJam_4 o n _ (nI (j + 1)) μ
    rw [f_X1_allJam_4, h.2.1, if_neg (nI_ge hj (by omega)), zck_t (zin_nI (by omega) (by decide)), nI_clamp (by omega), nI_1]) 0
  rw [nI_0] at e
  exact e
theorem m_jam {μ : Mem} {nb : Nat} {K W} (h : MN μ nb K W) : f_X10_allJam μ = some (jamB nb (μ.1 4), μ) := by
  have h5 := h.1
  rw [f_X10_allJam]
  have e := loop0 (fun n a c => f_X10_allJam_4 n a c μ) (fun b a => a + μ.1 4 b) nb (by omega) (fun a => some (a, μ)) (fun n a => by
    show f_X10_allJam_4 (n + 1) a (nI nb) μ = _
    rw [f_X10_allJam_4, h.2.1, if_pos (ile _)]) (fun n j a hj => by
    show f_X10_allJam_4 (n + 1) a (nI j) μ = f_X10_allJam_4 n _ (nI (j + 1)) μ
    rw [f_X10_allJam_4, h.2.1, if_neg (nI_ge hj (by omega)), zck_t (zin_nI (by omega) (by decide)), nI_clamp (by omega), nI_1]) 0
  rw [nI_0] at e
  exact e
theorem c_grey {μ : Mem} {o nb : Nat} {K W} (h : CN μ o nb K W) : f_X1_greyCells o μ = some (pc12 (setC W (-1)), μ) := by rw [grey_eq, setC_congr _ h.2.2.2]
theorem m_grey {μ : Mem} {nb : Nat} {K W} (h : MN μ nb K W) : f_X10_greyMany μ = some (pc12 (setC W (-1)), μ) := by rw [m_grey_eq, setC_congr _ h.2.2.2]
theorem jamB_congr {nb : Nat} {J J' : Nat → Int32} (h : ∀ b, b < nb → J' b = J b) : jamB nb J' = jamB nb J := iter_congr nb 0 0 (fun i _ hi a => by rw [h i (by omega)])
/-- the seven counts -/
def cntB (nb nn nu tl : Nat) (N J W : Nat → Int32) (x : Nat) : Int32 := if x = 0 then nI nb else if x = 1 then pc12 (setC W (-1)) else if x = 2 then jamB nb J else if x = 3 then pc12 (enB nb N W) else if x = 4 then nI nn else if x = 5 then nI nu else nI tl
theorem c_count {μ : Mem} {nb nn nu tl x : Nat} {K W} (h : CN μ 1 nb K W) (h8 : μ.1 1 8 = nI nn) (h9 : μ.1 1 9 = nI nu) (ht : μ.1 41 1 = nI tl) (hx : x < 7) : f_X9_count (nI x) μ = some (cntB nb nn nu tl (μ.1 3) (μ.1 4) W x, μ) := by
  rw [f_X9_count, c_grey h, c_jam h, c_enough h, zbind_eq, zbind_eq, zbind_eq, h.2.1, h8, h9, ht]
  obtain ⟨q, hq, e⟩ := enB_lt h.1 (μ.1 (1 + 2)) W
  rw [e, bitCount_eq hq, ← e, zbind_eq]
  rcases (show x = 0 ∨ x = 1 ∨ x = 2 ∨ x = 3 ∨ x = 4 ∨ x = 5 ∨ x = 6 by omega) with rfl | rfl | rfl | rfl | rfl | rfl | rfl
  · rw [if_pos (by decide)]; rfl
  · rw [if_neg (by decide), if_pos (by decide)]; rfl
  · rw [if_neg (by decide), if_neg (by decide), if_pos (by decide)]; rfl
  · rw [if_neg (by decide), if_neg (by decide), if_neg (by decide), if_pos (by decide)]; rfl
  · rw [if_neg (by decide), if_neg (by decide), if_neg (by decide), if_neg (by decide), if_pos (by decide)]; rfl
  · rw [if_neg (by decide), if_neg (by decide), if_neg (by decide), if_neg (by decide), if_neg (by decide), if_pos (by decide)]; rfl
  · rw [if_neg (by decide), if_neg (by decide), if_neg (by decide), if_neg (by decide), if_neg (by decide), if_neg (by decide), if_pos (by decide)]; rfl
theorem m_count {μ : Mem} {nb nn nu tl x : Nat} {K W} (h : MN μ nb K W) (h8 : μ.1 0 2 = nI nn) (h9 : μ.1 0 19 = nI nu) (ht : μ.1 0 12 = nI tl) (hx : x < 7) : f_X10_countOf (nI x) μ = some (cntB nb nn nu tl (μ.1 3) (μ.1 4) W x, μ) := by
  rw [f_X10_countOf, m_grey h, m_jam h, m_enough h, zbind_eq, zbind_eq, zbind_eq, h.2.1, h8, h9, ht, bits_eq, zbind_eq]
  rcases (show x = 0 ∨ x = 1 ∨ x = 2 ∨ x = 3 ∨ x = 4 ∨ x = 5 ∨ x = 6 by omega) with rfl | rfl | rfl | rfl | rfl | rfl | rfl
  · rw [if_pos (by decide)]; rfl
  · rw [if_neg (by decide), if_pos (by decide)]; rfl
  · rw [if_neg (by decide), if_neg (by decide), if_pos (by decide)]; rfl
  · rw [if_neg (by decide), if_neg (by decide), if_neg (by decide), if_pos (by decide)]; rfl
  · rw [if_neg (by decide), if_neg (by decide), if_neg (by decide), if_neg (by decide), if_pos (by decide)]; rfl
  · rw [if_neg (by decide), if_neg (by decide), if_neg (by decide), if_neg (by decide), if_neg (by decide), if_pos (by decide)]; rfl
  · rw [if_neg (by decide), if_neg (by decide), if_neg (by decide), if_neg (by decide), if_neg (by decide), if_neg (by decide)]; rfl
theorem cntB_congr {nb nn nu tl x : Nat} {N N' J J' W : Nat → Int32} (hN : ∀ b, b < nb → N' b = N b) (hJ : ∀ b, b < nb → J' b = J b) : cntB nb nn nu tl N' J' W x = cntB nb nn nu tl N J W x := by
  unfold cntB
  rw [jamB_congr hJ, enB_congr hN]
theorem Sp_count_ok : Sp_count Rel := by
  intro μC μM a1 h
  obtain ⟨nb, nn, nu, K, W, hNR, hC, hM, hO, hJ, h6, h8, m8, -⟩ := Rel_q h
  obtain ⟨-, -, -, ⟨tl, t1, t2, t3, -⟩, -⟩ := id h
  have h9 : μC.1 1 9 = nI nu := hNR.2.2.2.2.2.2.2.1
  have m9 : μM.1 0 19 = nI nu := hNR.2.2.2.2.2.2.2.2.1
  rw [f_X10_count, in_eq, zbind_eq]
  cases hq : inR a1 0 6
  · have ne : ∀ j : Nat, j < 7 → a1 ≠ nI j := fun j hj e => by
      rw [e, show (6 : Int32) = nI 6 from rfl, inR_of (by omega) (by decide)] at hq
      exact absurd hq (by decide)
    rw [f_X9_count, if_neg (show a1 ≠ 0 from ne 0 (by decide)), if_neg (show a1 ≠ 1 from ne 1 (by decide)), if_neg (show a1 ≠ 2 from ne 2 (by decide)), if_neg (show a1 ≠ 3 from ne 3 (by decide)), if_neg (show a1 ≠ 4 from ne 4 (by decide)), if_neg (show a1 ≠ 5 from ne 5 (by decide)), if_neg (show a1 ≠ 6 from ne 6 (by decide))]
    exact isbad h rfl (if_pos rfl)
  · obtain ⟨j, hj, rfl⟩ := inR_nI (m := 6) (by decide) hq
    rw [if_neg bIt, c_count hC h8 h9 t2 (by omega), m_count hM m8 m9 t3 (by omega), zbind_eq, cntB_congr (fun b hb => (hJ b hb).1) (fun b hb => (hJ b hb).2)]
    exact ask h _ rfl rfl
theorem Sp_status_ok : Sp_status Rel := by
  intro μC μM a1 h
  obtain ⟨-, -, -, -, s1, s2, s3, -⟩ := id h
  rw [f_X10_status, in_eq, zbind_eq]
  cases hq : inR a1 0 2
  · have ne : ∀ j : Nat, j < 3 → a1 ≠ nI j := fun j hj e => by
      rw [e, show (2 : Int32) = nI 2 from rfl, inR_of (by omega) (by decide)] at hq
      exact absurd hq (by decide)
    rw [f_X9_status, if_neg (show a1 ≠ 0 from ne 0 (by decide)), if_neg (show a1 ≠ 1 from ne 1 (by decide)), if_neg (show a1 ≠ 2 from ne 2 (by decide)), bad_eq, zbind_eq, if_pos bIf, zck_t (by decide), zck_t (by decide), zlet_eq, cl0]
    exact ⟨-1, _, _, rfl, rfl, Rel_bad h⟩
  · obtain ⟨j, hj, rfl⟩ := inR_nI (m := 2) (by decide) hq
    rw [if_neg bIt, zck_t (zin_nI (by omega) (by decide)), nI_clamp (by omega), f_X9_status]
    rcases (show j = 0 ∨ j = 1 ∨ j = 2 by omega) with rfl | rfl | rfl
    · rw [if_pos (by decide)]; exact ask h _ rfl (by rw [s1])
    · rw [if_neg (by decide), if_pos (by decide)]; exact ask h _ rfl (by rw [s2])
    · rw [if_neg (by decide), if_neg (by decide), if_pos (by decide)]; exact ask h _ rfl (by rw [s3])
theorem Sp_part_ok : Sp_part Rel := by
  intro μC μM a1 h
  obtain ⟨-, -, -, -, s1, s2, s3, s4, s5⟩ := id h
  rw [f_X9_part, f_X10_part]
  by_cases e0 : a1 = 0
  · rw [if_pos e0, if_pos e0]; exact ask h _ rfl (by rw [s4])
  by_cases e1 : a1 = 1
  · rw [if_neg e0, if_neg e0, if_pos e1, if_pos e1]; exact ask h _ rfl (by rw [s5])
  · rw [if_neg e0, if_neg e0, if_neg e1, if_neg e1, bad_eq, m_bad_eq, zbind_eq, zbind_eq]
    exact ⟨_, _, _, rfl, rfl, Rel_bad h⟩
