/-! ===== is, asks, together, longest ===== -/
theorem nI_mul (a b : Nat) : nI a * nI b = nI (a * b) := (Int32.ofNat_mul a b).symm
theorem nI_m4 (j : Nat) : nI j * 4 = nI (4 * j) := by rw [show (4 : Int32) = nI 4 from rfl, nI_mul, Nat.mul_comm]
theorem nI_p2 (a : Nat) : nI a + 2 = nI (a + 2) := nI_add a 2
theorem nI_p3 (a : Nat) : nI a + 3 = nI (a + 3) := nI_add a 3
def allN (p : Nat → Bool) : Nat → Nat → Bool
  | _, 0 => true
  | j, k + 1 => p j && allN p (j + 1) k
theorem iter_all (p : Nat → Bool) : ∀ (k j : Nat) (a : Bool), iter (fun j a => a && p j) j k a = (a && allN p j k)
  | 0, _, a => by show a = (a && true); rw [Bool.and_true]
  | k + 1, j, a => by
    show iter (fun j a => a && p j) (j + 1) k (a && p j) = (a && (p j && allN p (j + 1) k))
    rw [iter_all p k (j + 1), Bool.and_assoc]
theorem allN_congr {p q : Nat → Bool} : ∀ (k j : Nat), (∀ i, j ≤ i → i < j + k → p i = q i) → allN p j k = allN q j k
  | 0, _, _ => rfl
  | k + 1, j, h => by
    show (p j && allN p (j + 1) k) = (q j && allN q (j + 1) k)
    rw [h j (Nat.le_refl _) (by omega), allN_congr k (j + 1) (fun i h1 h2 => h i (by omega) (by omega))]
def fitP (A B V L : Nat → Int32) (x : Int32) (kd k : Nat) : Bool := !decide (A k = x) || decide (val kd (B k) (decide (L k = 1)) = V k)
theorem c_fits {μ : Mem} {nn kd : Nat} (hn : nn ≤ 6) (h8 : μ.1 1 8 = nI nn) (hk : kd < 6) (x : Int32) : f_X1_fitsAll 1 x (30 + kd) μ = some (bI (allN (fitP (fun k => μ.1 6 (4 * k)) (fun k => μ.1 6 (4 * k + 1)) (fun k => μ.1 6 (4 * k + 2)) (fun k => μ.1 6 (4 * k + 3)) x kd) 0 nn), μ) := by
  rw [f_X1_fitsAll]
  have e : ∀ (k j n : Nat), j + k = nn → k < n → f_X1_fitsAll_2 1 n x (30 + kd) (nI j) μ = some (bI (allN (fitP (fun k => μ.1 6 (4 * k)) (fun k => μ.1 6 (4 * k + 1)) (fun k => μ.1 6 (4 * k + 2)) (fun k => μ.1 6 (4 * k + 3)) x kd) j k), μ) := by
    intro k
    induction k with
    | zero =>
      intro j n h1 h2
      obtain ⟨n, rfl⟩ : ∃ q, n = q + 1 := ⟨n - 1, by omega⟩
      rw [f_X1_fitsAll_2, h8, show j = nn by omega, if_pos (ile _)]; rfl
    | succ k ih =>
      intro j n h1 h2
      obtain ⟨n, rfl⟩ : ∃ q, n = q + 1 := ⟨n - 1, by omega⟩
      rw [f_X1_fitsAll_2, h8, if_neg (nI_ge (show j < nn by omega) (by omega)), nI_m4, nI_1, nI_p3, zck_t (zin_nI (by omega) (by decide)), zck_t (zin_nI (by omega) (by decide)), zck_t (zin_nI (by omega) (by decide)), nI_clamp (by omega), nI_clamp (by omega), nI_clamp (by omega), nI_1, f_X1_fitsAll_57, f_X1_fitsAll_57, nI_p2, nI_clamp (by omega), nI_1]
      show (if μ.1 6 (4 * j) = x then _ else _) = some (bI (fitP (fun k => μ.1 6 (4 * k)) (fun k => μ.1 6 (4 * k + 1)) (fun k => μ.1 6 (4 * k + 2)) (fun k => μ.1 6 (4 * k + 3)) x kd j && allN (fitP (fun k => μ.1 6 (4 * k)) (fun k => μ.1 6 (4 * k + 1)) (fun k => μ.1 6 (4 * k + 2)) (fun k => μ.1 6 (4 * k + 3)) x kd) (j + 1) k), μ)
      have e0 : fitP (fun k => μ.1 6 (4 * k)) (fun k => μ.1 6 (4 * k + 1)) (fun k => μ.1 6 (4 * k + 2)) (fun k => μ.1 6 (4 * k + 3)) x kd j = (!decide (μ.1 6 (4 * j) = x) || decide (val kd (μ.1 6 (4 * j + 1)) (decide (μ.1 6 (4 * j + 3) = 1)) = μ.1 6 (4 * j + 2))) := rfl
      have e1 : ∀ b : Bool, zbind (f_ofCell (30 + kd) (μ.1 (1 + 5) (4 * j + 1)) (bI b) μ) (fun r2 μ1 => zck (zin (nI (4 * j + 2)) 24) (if r2 = μ1.1 (1 + 5) (4 * j + 2) then f_X1_fitsAll_2 1 n x (30 + kd) (nI (j + 1)) μ1 else some (0, μ1))) = some (bI (decide (val kd (μ.1 6 (4 * j + 1)) b = μ.1 6 (4 * j + 2)) && allN (fitP (fun k => μ.1 6 (4 * k)) (fun k => μ.1 6 (4 * k + 1)) (fun k => μ.1 6 (4 * k + 2)) (fun k => μ.1 6 (4 * k + 3)) x kd) (j + 1) k), μ) := by
        intro b
        rw [ofCell_eq hk, zbind_eq, zck_t (zin_nI (by omega) (by decide)), ih (j + 1) n (by omega) (by omega)]
        by_cases q : val kd (μ.1 6 (4 * j + 1)) b = μ.1 6 (4 * j + 2)
        · rw [if_pos q, decide_eq_true q, Bool.true_and]
        · rw [if_neg q, decide_eq_false q]; rfl
      rw [e0]
      by_cases q : μ.1 6 (4 * j) = x
      · rw [if_pos q, decide_eq_true q, Bool.not_true, Bool.false_or]
        by_cases q2 : μ.1 6 (4 * j + 3) = 1
        · rw [if_pos q2, decide_eq_true q2, ← e1 true]; rfl
        · rw [if_neg q2, decide_eq_false q2, ← e1 false]; rfl
      · rw [if_neg q, decide_eq_false q, ih (j + 1) n (by omega) (by omega), Bool.not_false, Bool.true_or, Bool.true_and]
  have := e nn 0 zFU (by omega) (zFU_lt (by omega))
  rw [nI_0] at this
  exact this
def kindsB (nn : Nat) (A B V L : Nat → Int32) (x : Int32) : Int32 := iter (fun kd a => if allN (fitP A B V L x kd) 0 nn = true then a ||| bit kd else a) 0 6 0
theorem c_kinds {μ : Mem} {nn : Nat} (hn : nn ≤ 6) (h8 : μ.1 1 8 = nI nn) (x : Int32) : f_X1_fittingKinds 1 x μ = some (kindsB nn (fun k => μ.1 6 (4 * k)) (fun k => μ.1 6 (4 * k + 1)) (fun k => μ.1 6 (4 * k + 2)) (fun k => μ.1 6 (4 * k + 3)) x, μ) := by
  rw [f_X1_fittingKinds]
  have e := loop0 (fun n a c => f_X1_fittingKinds_4 1 n x a c μ) (fun kd a => if allN (fitP (fun k => μ.1 6 (4 * k)) (fun k => μ.1 6 (4 * k + 1)) (fun k => μ.1 6 (4 * k + 2)) (fun k => μ.1 6 (4 * k + 3)) x kd) 0 nn = true then a ||| bit kd else a) 6 (by decide) (fun a => some (a, μ)) (fun n a => by
    show f_X1_fittingKinds_4 1 (n + 1) x a (nI 6) μ = _
    rw [f_X1_fittingKinds_4, if_pos (by decide)]) (fun n j a hj => by
    show f_X1_fittingKinds_4 1 (n + 1) x a (nI j) μ = f_X1_fittingKinds_4 1 n x _ (nI (j + 1)) μ
    rw [f_X1_fittingKinds_4, if_neg (lt6 hj), zck_t (zin_nI hj (by decide)), nI_clamp (by omega), c_fits hn h8 hj, zbind_eq, nI_1]
    cases allN (fitP (fun k => μ.1 6 (4 * k)) (fun k => μ.1 6 (4 * k + 1)) (fun k => μ.1 6 (4 * k + 2)) (fun k => μ.1 6 (4 * k + 3)) x j) 0 nn
    · rw [if_pos bIf, if_neg (by decide)]
    · rw [if_neg bIt, if_pos rfl]; rfl) 0
  rw [nI_0] at e
  exact e
theorem m_kinds {μ : Mem} {nn : Nat} (hn : nn ≤ 6) (h8 : μ.1 0 2 = nI nn) (x : Int32) : f_X10_kindsOf x μ = some (kindsB nn (μ.1 6) (μ.1 7) (μ.1 8) (μ.1 9) x, μ) := by
  rw [f_X10_kindsOf]
  have e := loop0 (fun n a c => f_X10_kindsOf_4 n x a c μ) (fun kd a => if allN (fitP (μ.1 6) (μ.1 7) (μ.1 8) (μ.1 9) x kd) 0 nn = true then a ||| bit kd else a) 6 (by decide) (fun a => some (a, μ)) (fun n a => by
    show f_X10_kindsOf_4 (n + 1) x a (nI 6) μ = _
    rw [f_X10_kindsOf_4, if_pos (by decide)]) (fun n kd a hj => by
    show f_X10_kindsOf_4 (n + 1) x a (nI kd) μ = f_X10_kindsOf_4 n x _ (nI (kd + 1)) μ
    rw [f_X10_kindsOf_4, if_neg (lt6 hj)]
    have e := loop0 (fun m (b : Bool) c => f_X10_kindsOf_16 (fun a0 a1 a2 ν => f_X10_kindsOf_4 n a0 a1 a2 ν) m x a (nI kd) (bI b) c μ) (fun k b => b && fitP (μ.1 6) (μ.1 7) (μ.1 8) (μ.1 9) x kd k) nn (by omega) (fun b => f_X10_kindsOf_4 n x (if b = true then a ||| bit kd else a) (nI (kd + 1)) μ) (fun m b => by
      show f_X10_kindsOf_16 _ (m + 1) x a (nI kd) (bI b) (nI nn) μ = _
      rw [f_X10_kindsOf_16, h8, if_pos (ile _), nI_1, or0]
      cases b
      · rw [if_pos bIf, if_neg (by decide)]
      · rw [if_neg bIt, if_pos rfl]; rfl) (fun m k b hk => by
      show f_X10_kindsOf_16 _ (m + 1) x a (nI kd) (bI b) (nI k) μ = f_X10_kindsOf_16 _ m x a (nI kd) (bI (b && fitP (μ.1 6) (μ.1 7) (μ.1 8) (μ.1 9) x kd k)) (nI (k + 1)) μ
      rw [f_X10_kindsOf_16, h8, if_neg (nI_ge hk (by omega)), zck_t (zin_nI (by omega) (by decide)), zck_t (zin_nI (by omega) (by decide)), zck_t (zin_nI (by omega) (by decide)), nI_clamp (by omega)]
      cases b
      · rw [if_pos bIf, nI_1]; rfl
      · rw [if_neg bIt, Bool.true_and]
        have e0 : fitP (μ.1 6) (μ.1 7) (μ.1 8) (μ.1 9) x kd k = (!decide (μ.1 6 k = x) || decide (val kd (μ.1 7 k) (decide (μ.1 9 k = 1)) = μ.1 8 k)) := rfl
        have e1 : ∀ b : Bool, f_X10_kindsOf_69 (fun a0 a1 a2 ν => f_X10_kindsOf_4 n a0 a1 a2 ν) (fun a0 a1 a2 a3 a4 ν => f_X10_kindsOf_16 (fun a0 a1 a2 ν => f_X10_kindsOf_4 n a0 a1 a2 ν) m a0 a1 a2 a3 a4 ν) x a (nI kd) (nI k) (nI kd) (μ.1 7 k) (bI b) μ = f_X10_kindsOf_16 (fun a0 a1 a2 ν => f_X10_kindsOf_4 n a0 a1 a2 ν) m x a (nI kd) (bI (decide (val kd (μ.1 7 k) b = μ.1 8 k))) (nI (k + 1)) μ := by
          intro b
          rw [f_X10_kindsOf_69, valueBy_eq hj, zbind_eq, zck_t (zin_nI (by omega) (by decide)), nI_clamp (by omega), nI_1]
          by_cases q : val kd (μ.1 7 k) b = μ.1 8 k
          · rw [if_pos q, decide_eq_true q]; rfl
          · rw [if_neg q, decide_eq_false q]; rfl
        rw [e0]
        by_cases q : μ.1 6 k = x
        · rw [if_pos q, decide_eq_true q, Bool.not_true, Bool.false_or]
          by_cases q2 : μ.1 9 k = 1
          · rw [if_pos q2, decide_eq_true q2]; exact e1 true
          · rw [if_neg q2, decide_eq_false q2]; exact e1 false
        · rw [if_neg q, decide_eq_false q, nI_1]; rfl) true
    rw [nI_0, iter_all, Bool.true_and] at e
    exact e) 0
  rw [nI_0] at e
  exact e
theorem kindsB_congr {nn : Nat} {A B V L A' B' V' L' : Nat → Int32} (x : Int32) (h : ∀ k, k < nn → A' k = A k ∧ B' k = B k ∧ V' k = V k ∧ L' k = L k) : kindsB nn A' B' V' L' x = kindsB nn A B V L x :=
  iter_congr 6 0 0 (fun i _ _ a => by
    have e : allN (fitP A' B' V' L' x i) 0 nn = allN (fitP A B V L x i) 0 nn := allN_congr nn 0 (fun k _ hk => by
      obtain ⟨h1, h2, h3, h4⟩ := h k (by omega)
      unfold fitP
      rw [h1, h2, h3, h4])
    rw [e])
theorem Sp_is_ok : Sp_is Rel := by
  intro μC μM a1 h
  obtain ⟨nb, nn, nu, K, W, hNR, hC, hM, hO, hJ, h6, h8, m8, hN⟩ := Rel_q h
  rw [f_X9_is, CN_boy hC, zbind_eq, f_X10_is, MN_boy hM, zbind_eq]
  cases hq : inR a1 0 (nI nb - 1)
  · exact isbad h (if_pos rfl) (if_pos rfl)
  · rw [if_neg bIt, if_neg bIt, c_kinds h6 h8, m_kinds h6 m8, zbind_eq, zbind_eq, kindsB_congr a1 hN]
    exact ask h _ rfl rfl
def manyB (s x v : Int32) : Int32 := iter (fun k a => if hb s k = true then (if val k x false = v then a + 1 else a) else a) 0 6 0
theorem manyB_nat (s x v : Int32) : ∃ q, q ≤ 6 ∧ manyB s x v = nI q := by
  have h := iter_inv (f := fun k a => if hb s k = true then (if val k x false = v then a + 1 else a) else a) (P := fun j a => ∃ q, q ≤ j ∧ a = nI q) 6 0 0 (fun i _ hi a ha => by
    obtain ⟨q, hq, rfl⟩ := ha
    show ∃ z, z ≤ i + 1 ∧ (if hb s i = true then (if val i x false = v then nI q + 1 else nI q) else nI q) = nI z
    by_cases c : hb s i = true
    · rw [if_pos c]
      by_cases d : val i x false = v
      · rw [if_pos d, nI_1]; exact ⟨q + 1, by omega, rfl⟩
      · rw [if_neg d]; exact ⟨q, by omega, rfl⟩
    · rw [if_neg c]; exact ⟨q, by omega, rfl⟩) ⟨0, by decide, rfl⟩
  exact h
theorem c_howmany (s x v : Int32) (μ : Mem) : f_X1_howManyAs 1 s x v μ = some (manyB s x v, μ) := by
  rw [f_X1_howManyAs]
  have e := loop0 (fun n a c => f_X1_howManyAs_6 1 n s x v a c μ) (fun k a => if hb s k = true then (if val k x false = v then a + 1 else a) else a) 6 (by decide) (fun a => some (a, μ)) (fun n a => by
    show f_X1_howManyAs_6 1 (n + 1) s x v a (nI 6) μ = _
    rw [f_X1_howManyAs_6, if_pos (by decide)]) (fun n j a hj => by
    show f_X1_howManyAs_6 1 (n + 1) s x v a (nI j) μ = f_X1_howManyAs_6 1 n s x v _ (nI (j + 1)) μ
    rw [f_X1_howManyAs_6, if_neg (lt6 hj), has_eq s (by omega), zbind_eq, nI_1, zck_t (zin_nI hj (by decide)), nI_clamp (by omega), ← bI_f, ofCell_eq hj, zbind_eq]
    cases hb s j
    · rw [if_pos (by rfl), if_neg (by decide)]
    · rw [if_neg (by decide), if_pos rfl]
      by_cases q : val j x false = v
      · rw [if_pos q, if_pos q]
      · rw [if_neg q, if_neg q]) 0
  rw [nI_0] at e
  exact e
def mostB (s x : Int32) : Int32 := iter (fun k a => if hb s k = true then (if a < manyB s x (val k x false) then manyB s x (val k x false) else a) else a) 0 6 0
theorem c_most (s x : Int32) (μ : Mem) : f_X1_mostAlike 1 s x μ = some (mostB s x, μ) := by
  rw [f_X1_mostAlike]
  have e := loop0 (fun n a c => f_X1_mostAlike_5 1 n s x a c μ) (fun k a => if hb s k = true then (if a < manyB s x (val k x false) then manyB s x (val k x false) else a) else a) 6 (by decide) (fun a => some (a, μ)) (fun n a => by
    show f_X1_mostAlike_5 1 (n + 1) s x a (nI 6) μ = _
    rw [f_X1_mostAlike_5, if_pos (by decide)]) (fun n j a hj => by
    show f_X1_mostAlike_5 1 (n + 1) s x a (nI j) μ = f_X1_mostAlike_5 1 n s x _ (nI (j + 1)) μ
    rw [f_X1_mostAlike_5, if_neg (lt6 hj), has_eq s (by omega), zbind_eq, nI_1, zck_t (zin_nI hj (by decide)), nI_clamp (by omega), ← bI_f, ofCell_eq hj, zbind_eq, c_howmany, zbind_eq]
    cases hb s j
    · rw [if_pos (by rfl), if_neg (by decide)]
    · rw [if_neg (by decide), if_pos rfl]) 0
  rw [nI_0] at e
  exact e
theorem iter_id {σ : Type} {f : Nat → σ → σ} : ∀ (k j : Nat) (a : σ), (∀ i, j ≤ i → i < j + k → f i a = a) → iter f j k a = a
  | 0, _, _, _ => rfl
  | k + 1, j, a, h => by
    show iter f (j + 1) k (f j a) = a
    rw [h j (Nat.le_refl _) (by omega)]
    exact iter_id k (j + 1) a (fun i h1 h2 => h i (by omega) (by omega))
theorem m_alike (s x : Int32) (μ : Mem) : f_X10_alike s x μ = some (mostB s x, μ) := by
  rw [f_X10_alike]
  have e := (loopI (fun n a c => f_X10_alike_4 n s x a c μ) (fun k a => if hb s k = true then (if a < manyB s x (val k x false) then manyB s x (val k x false) else a) else a) 6 (fun a => some (a, μ)) (fun _ a => ∃ q, q ≤ 6 ∧ a = nI q) (fun n a _ => by
    show f_X10_alike_4 (n + 1) s x a (nI 6) μ = _
    rw [f_X10_alike_4, if_pos (by decide)]) (fun n j a hj ha => by
    refine ⟨?_, ?_⟩
    · show f_X10_alike_4 (n + 1) s x a (nI j) μ = f_X10_alike_4 n s x _ (nI (j + 1)) μ
      rw [f_X10_alike_4, if_neg (lt6 hj)]
      have e := loop0 (fun m b c => f_X10_alike_16 (fun a0 a1 a2 a3 ν => f_X10_alike_4 n a0 a1 a2 a3 ν) m s x a (nI j) b c μ) (fun k b => if hb s j = true then (if hb s k = true then (if val k x false = val j x false then b + 1 else b) else b) else b) 6 (by decide) (fun b => f_X10_alike_4 n s x (if a < b then b else a) (nI (j + 1)) μ) (fun m b => by
        show f_X10_alike_16 _ (m + 1) s x a (nI j) b (nI 6) μ = _
        rw [f_X10_alike_16, if_pos (by decide), nI_1]
        by_cases q : b ≤ a
        · rw [if_pos q, if_neg (Int32.not_lt.mpr q)]
        · rw [if_neg q, if_pos (Int32.not_le.mp q)]) (fun m k b hk => by
        show f_X10_alike_16 _ (m + 1) s x a (nI j) b (nI k) μ = f_X10_alike_16 _ m s x a (nI j) _ (nI (k + 1)) μ
        rw [f_X10_alike_16, if_neg (lt6 hk), m_has_eq, zbind_eq, nI_1, add0, m_has_eq, zbind_eq, ← bI_f, valueBy_eq hj, zbind_eq, valueBy_eq hk, zbind_eq]
        cases hb s j
        · rw [if_pos (by rfl), if_neg (by decide)]
        · rw [if_neg (by decide), if_pos rfl]
          cases hb s k
          · rw [if_pos (by rfl), if_neg (by decide)]
          · rw [if_neg (by decide), if_pos rfl]
            by_cases q : val j x false = val k x false
            · rw [if_pos q, if_pos q.symm]
            · rw [if_neg q, if_neg (fun z => q z.symm)]) 0
      rw [nI_0] at e
      refine e.trans ?_
      cases c : hb s j
      · obtain ⟨q, hq, rfl⟩ := ha
        rw [iter_id 6 0 0 (fun i _ _ => by simp), if_neg (nI_pos (by omega)), if_neg Bool.false_ne_true]
      · rw [if_pos rfl]
        have : iter (fun k b => if true = true then (if hb s k = true then (if val k x false = val j x false then b + 1 else b) else b) else b) 0 6 0 = manyB s x (val j x false) := iter_congr 6 0 0 (fun i _ _ a => by simp)
        rw [this]
    · show ∃ q, q ≤ 6 ∧ (if hb s j = true then (if a < manyB s x (val j x false) then manyB s x (val j x false) else a) else a) = nI q
      by_cases c : hb s j = true
      · rw [if_pos c]
        by_cases d : a < manyB s x (val j x false)
        · rw [if_pos d]; exact manyB_nat ..
        · rw [if_neg d]; exact ha
      · rw [if_neg c]; exact ha) 6 0 zFU 0 rfl (zFU_lt (by decide)) ⟨0, by decide, rfl⟩).1
  rw [nI_0] at e
  exact e
theorem mostB_nat (s x : Int32) : ∃ q, q ≤ 6 ∧ mostB s x = nI q := by
  have h := iter_inv (f := fun k a => if hb s k = true then (if a < manyB s x (val k x false) then manyB s x (val k x false) else a) else a) (P := fun _ a => ∃ q, q ≤ 6 ∧ a = nI q) 6 0 0 (fun i _ hi a ha => by
    show ∃ q, q ≤ 6 ∧ (if hb s i = true then (if a < manyB s x (val i x false) then manyB s x (val i x false) else a) else a) = nI q
    by_cases c : hb s i = true
    · rw [if_pos c]
      by_cases d : a < manyB s x (val i x false)
      · rw [if_pos d]; exact manyB_nat ..
      · rw [if_neg d]; exact ha
    · rw [if_neg c]; exact ha) ⟨0, by decide, rfl⟩
  exact h
def tellB (s : Int32) : Nat := iter (fun c a => if mostB s (nI a) ≤ mostB s (nI c) then a else c) 1 11 0
theorem c_tell {s : Int32} (hs : ¬ s = 0) (μ : Mem) : f_X1_tellingCell 1 s μ = some (nI (tellB s), μ) := by
  rw [f_X1_tellingCell, if_neg hs]
  have e := (loopI (fun n (a : Nat) c => f_X1_tellingCell_14 1 n s (nI a) (mostB s (nI a)) c μ) (fun c a => if mostB s (nI a) ≤ mostB s (nI c) then a else c) 12 (fun a => some (nI a, μ)) (fun _ _ => True) (fun n a _ => by
    show f_X1_tellingCell_14 1 (n + 1) s (nI a) _ (nI 12) μ = _
    rw [f_X1_tellingCell_14, if_pos (by decide)]) (fun n j a hj _ => ⟨by
    show f_X1_tellingCell_14 1 (n + 1) s (nI a) _ (nI j) μ = f_X1_tellingCell_14 1 n s _ _ (nI (j + 1)) μ
    rw [f_X1_tellingCell_14, if_neg (lt12 hj), c_most, zbind_eq, nI_1]
    by_cases q : mostB s (nI a) ≤ mostB s (nI j)
    · rw [if_pos q, if_pos q]
    · rw [if_neg q, if_neg q], trivial⟩) 11 1 (zFU - 1) 0 rfl (by have := zFU_lt (n := 13) (by decide); omega) trivial).1
  obtain ⟨m, hm⟩ : ∃ m, zFU = m + 1 := ⟨zFU - 1, by have := zFU_lt (n := 13) (by decide); omega⟩
  rw [hm] at e ⊢
  obtain ⟨q, hq, e2⟩ := mostB_nat s 0
  rw [f_X1_tellingCell_14, if_neg (by decide), c_most, zbind_eq, e2, if_neg (show ¬ (7 : Int32) ≤ nI q from nI_ge (b := 7) (show q < 7 by omega) (by decide)), ← e2]
  exact e
theorem m_tell {s : Int32} (hs : ¬ s = 0) (μ : Mem) : f_X10_asks_32 zFU s 0 1 μ = some (nI (tellB s), μ) := by
  have e := (loopI (fun n (a : Nat) c => f_X10_asks_32 n s (nI a) c μ) (fun c a => if mostB s (nI a) ≤ mostB s (nI c) then a else c) 12 (fun a => some (nI a, μ)) (fun _ _ => True) (fun n a _ => by
    show f_X10_asks_32 (n + 1) s (nI a) (nI 12) μ = _
    rw [f_X10_asks_32, if_pos (by decide)]) (fun n j a hj _ => ⟨by
    show f_X10_asks_32 (n + 1) s (nI a) (nI j) μ = f_X10_asks_32 n s _ (nI (j + 1)) μ
    rw [f_X10_asks_32, if_neg (lt12 hj), if_neg hs, m_alike, zbind_eq, m_alike, zbind_eq, nI_1]
    by_cases q : mostB s (nI a) ≤ mostB s (nI j)
    · rw [if_pos q, if_pos q]
    · rw [if_neg q, if_neg q], trivial⟩) 11 1 zFU 0 rfl (zFU_lt (by decide)) trivial).1
  exact e
theorem Sp_asks_ok : Sp_asks Rel := by
  intro μC μM a1 h
  obtain ⟨nb, nn, nu, K, W, hNR, hC, hM, hO, hJ, h6, h8, m8, hN⟩ := Rel_q h
  rw [f_X9_asks, CN_boy hC, zbind_eq, f_X10_asks, MN_boy hM, zbind_eq]
  cases hq : inR a1 0 (nI nb - 1)
  · exact isbad h (if_pos rfl) (if_pos rfl)
  · rw [if_neg bIt, if_neg bIt, c_kinds h6 h8, m_kinds h6 m8, zbind_eq, zbind_eq, kindsB_congr a1 hN]
    generalize kindsB nn _ _ _ _ a1 = s
    by_cases q : s = 0
    · subst q
      rw [if_pos rfl, f_X1_tellingCell, if_pos rfl, zbind_eq]
      obtain ⟨m, hm⟩ : ∃ m, zFU = m + 1 := ⟨zFU - 1, by have := zFU_lt (n := 13) (by decide); omega⟩
      rw [hm, f_X10_asks_32, if_neg (by decide), if_pos rfl]
      exact ask h _ rfl rfl
    · rw [if_neg q, c_tell q, zbind_eq, m_tell q]
      exact ask h _ rfl rfl
