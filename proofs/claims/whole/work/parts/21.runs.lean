/-! ===== together, longest, owls, digest ===== -/
theorem sh_nat {j : Nat} (hj : j < 32) : ((nI j &&& 31).toBitVec.smod 32).toNat = j := by
  have h : ∀ j : Fin 32, ((nI j.val &&& 31).toBitVec.smod 32).toNat = j.val := by decide +kernel
  exact h ⟨j, hj⟩
theorem hb_bit (s : Int32) {j : Nat} (hj : j < 32) : hb s j = s.toBitVec.getLsbD j := by
  unfold hb
  have e : ((s >>> (nI j &&& 31)) &&& (1 : Int32) = 1) ↔ s.toBitVec.getLsbD j = true := by
    rw [← Int32.toBitVec_inj, Int32.toBitVec_and, Int32.toBitVec_shiftRight, BitVec.sshiftRight_eq', sh_nat hj]
    show ((s.toBitVec.sshiftRight j) &&& 1#32) = 1#32 ↔ _
    have e2 : (s.toBitVec.sshiftRight j).getLsbD 0 = s.toBitVec.getLsbD j := by
      rw [BitVec.getLsbD_sshiftRight]
      simp [hj]
    rw [BitVec.and_one_eq_setWidth_ofBool_getLsbD, e2]
    cases s.toBitVec.getLsbD j <;> decide
  cases c : s.toBitVec.getLsbD j
  · exact decide_eq_false (fun q => by rw [e.mp q] at c; exact absurd c (by decide))
  · exact decide_eq_true (e.mpr c)
theorem hb_or (s t : Int32) {j : Nat} (hj : j < 32) : hb (s ||| t) j = (hb s j || hb t j) := by
  rw [hb_bit _ hj, hb_bit _ hj, hb_bit _ hj, Int32.toBitVec_or, BitVec.getLsbD_or]
theorem hb_one {i j : Nat} (hi : i < 12) (hj : j < 12) : hb (bit i) j = decide (j = i) := by
  have h : ∀ i j : Fin 12, hb (bit i.val) j.val = decide (j.val = i.val) := by decide +kernel
  exact h ⟨i, hi⟩ ⟨j, hj⟩
theorem hb_zero {j : Nat} (hj : j < 12) : hb 0 j = false := by
  have h : ∀ j : Fin 12, hb 0 j.val = false := by decide +kernel
  exact h ⟨j, hj⟩
theorem hb_bset (p : Nat → Bool) {n j : Nat} (hn : n ≤ 12) (hj : j < 12) : hb (bset p n) j = (decide (j < n) && p j) := by
  have h := iter_inv (f := fun j a => if p j = true then a ||| bit j else a) (P := fun i a => ∀ j, j < 12 → hb a j = (decide (j < i) && p j)) n 0 0 (fun i _ hi a ha j hj => by
    show hb (if p i = true then a ||| bit i else a) j = _
    by_cases c : p i = true
    · rw [if_pos c, hb_or _ _ (by omega), hb_one (by omega) hj, ha j hj]
      by_cases q : j = i
      · subst q; simp [c]
      · have : decide (j < i + 1) = decide (j < i) := by
          by_cases z : j < i
          · rw [decide_eq_true z, decide_eq_true (by omega)]
          · rw [decide_eq_false z, decide_eq_false (by omega)]
        rw [this, decide_eq_false q, Bool.or_false]
    · rw [if_neg c, ha j hj]
      by_cases q : j = i
      · subst q
        rw [Bool.eq_false_iff.mpr c, Bool.and_false, Bool.and_false]
      · have : decide (j < i + 1) = decide (j < i) := by
          by_cases z : j < i
          · rw [decide_eq_true z, decide_eq_true (by omega)]
          · rw [decide_eq_false z, decide_eq_false (by omega)]
        rw [this]) (fun j hj => by rw [hb_zero hj]; rfl)
  rw [Nat.zero_add] at h
  exact h j hj
theorem hb_set (W : Nat → Int32) (b : Int32) {j : Nat} (hj : j < 12) : hb (setC W b) j = decide (W j = b) := by
  rw [setC_bset, hb_bset _ (Nat.le_refl _) hj, decide_eq_true hj, Bool.true_and]
def togS (p : Nat → Bool) (j : Nat) (a : Int32 × Int32) : Int32 × Int32 := if p j = true then (if a.1 < a.2 + 1 then a.2 + 1 else a.1, a.2 + 1) else (if a.1 < 0 then 0 else a.1, 0)
theorem togS_t {p : Nat → Bool} {j : Nat} (h : p j = true) (a : Int32 × Int32) : togS p j a = (if a.1 < a.2 + 1 then a.2 + 1 else a.1, a.2 + 1) := if_pos h
theorem togS_f {p : Nat → Bool} {j : Nat} (h : p j = false) (a : Int32 × Int32) : togS p j a = (if a.1 < 0 then 0 else a.1, 0) := if_neg (by rw [h]; decide)
theorem c_tog (s : Int32) (μ : Mem) : f_X9_together_53 zFU s 0 0 0 μ = some ((iter (togS (hb s)) 0 12 (0, 0)).1, μ) := by
  have e := loop0 (fun n (a : Int32 × Int32) c => f_X9_together_53 n s a.1 a.2 c μ) (togS (hb s)) 12 (by decide) (fun a => some (a.1, μ)) (fun n a => by
    show f_X9_together_53 (n + 1) s a.1 a.2 (nI 12) μ = _
    rw [f_X9_together_53, if_pos (by decide)]) (fun n j a hj => by
    show f_X9_together_53 (n + 1) s a.1 a.2 (nI j) μ = f_X9_together_53 n s (togS (hb s) j a).1 (togS (hb s) j a).2 (nI (j + 1)) μ
    rw [f_X9_together_53, if_neg (lt12 hj), has_eq s (by omega), zbind_eq, nI_1]
    cases c : hb s j
    · rw [if_pos bIf, togS_f c]
    · rw [if_neg bIt, togS_t c]) (0, 0)
  rw [nI_0] at e
  exact e
theorem m_tog {μ : Mem} {nb : Nat} {K W} (h : MN μ nb K W) (x y : Int32) : f_X10_together_34 zFU x y 0 0 0 μ = some ((iter (togS (fun j => decide (W j = x) || decide (W j = y))) 0 12 (0, 0)).1, μ) := by
  have e := loop0 (fun n (a : Int32 × Int32) c => f_X10_together_34 n x y a.1 a.2 c μ) (togS (fun j => decide (W j = x) || decide (W j = y))) 12 (by decide) (fun a => some (a.1, μ)) (fun n a => by
    show f_X10_together_34 (n + 1) x y a.1 a.2 (nI 12) μ = _
    rw [f_X10_together_34, if_pos (by decide)]) (fun n j a hj => by
    show f_X10_together_34 (n + 1) x y a.1 a.2 (nI j) μ = f_X10_together_34 n x y (togS (fun j => decide (W j = x) || decide (W j = y)) j a).1 (togS (fun j => decide (W j = x) || decide (W j = y)) j a).2 (nI (j + 1)) μ
    have e2 : ∀ z : Int32, f_X10_together_71 (fun a0 a1 a2 a3 a4 ν => f_X10_together_34 n a0 a1 a2 a3 a4 ν) x y a.1 (nI j) z μ = f_X10_together_34 n x y (if a.1 < z then z else a.1) z (nI (j + 1)) μ := by
      intro z
      rw [f_X10_together_71, nI_1]
      by_cases q : z ≤ a.1
      · rw [if_pos q, if_neg (Int32.not_lt.mpr q)]
      · rw [if_neg q, if_pos (Int32.not_le.mp q)]
    rw [f_X10_together_34, if_neg (lt12 hj), zck_t (zin_nI hj (by decide)), zck_t (zin_nI hj (by decide)), nI_clamp (by omega), h.2.2.2 j hj, e2, e2]
    by_cases q1 : W j = x
    · rw [if_pos q1, togS_t (show (decide (W j = x) || decide (W j = y)) = true by simp [q1])]
    · rw [if_neg q1]
      by_cases q2 : W j = y
      · rw [if_pos q2, togS_t (show (decide (W j = x) || decide (W j = y)) = true by simp [q2])]
      · rw [if_neg q2, togS_f (show (decide (W j = x) || decide (W j = y)) = false by simp [q1, q2])]) (0, 0)
  rw [nI_0] at e
  exact e
theorem Sp_together_ok : Sp_together Rel := by
  intro μC μM a1 a2 h
  obtain ⟨nb, nn, nu, K, W, hNR, hC, hM, hO, hJ, -⟩ := Rel_q h
  have h5 := hC.1
  rw [f_X9_together, CN_boy hC, zbind_eq, f_X10_together, MN_boy hM, zbind_eq]
  cases hq : inR a1 0 (nI nb - 1)
  · exact isbad h (if_pos rfl) (if_pos rfl)
  · rw [if_neg bIt, if_neg bIt, CN_boy hC, zbind_eq, MN_boy hM, zbind_eq]
    cases hq2 : inR a2 0 (nI nb - 1)
    · exact isbad h (if_pos rfl) (if_pos rfl)
    · rw [if_neg bIt, if_neg bIt]
      by_cases e : a1 = a2
      · exact isbad h (if_pos e) (if_pos e)
      · rw [if_neg e, if_neg e, c_cells hC, zbind_eq, c_cells hC, zbind_eq, c_tog, m_tog hM]
        refine ask h _ rfl ?_
        rw [iter_congr (g := togS (hb (setC W a1 ||| setC W a2))) 12 0 _ (fun i _ hi a => by
          unfold togS
          rw [hb_or _ _ (by omega), hb_set W a1 (by omega), hb_set W a2 (by omega)])]
def endR (W : Nat → Int32) (w : Int32) : Nat → Nat → Nat
  | j, 0 => j
  | j, k + 1 => if W j = w then endR W w (j + 1) k else j
theorem endR_spec (W : Nat → Int32) (w : Int32) : ∀ (k j : Nat), j ≤ endR W w j k ∧ endR W w j k ≤ j + k ∧ (∀ i, j ≤ i → i < endR W w j k → W i = w) ∧ (endR W w j k = j + k ∨ ¬ W (endR W w j k) = w)
  | 0, j => ⟨Nat.le_refl _, Nat.le_refl _, fun i h1 h2 => absurd h2 (Nat.not_lt.mpr h1), Or.inl rfl⟩
  | k + 1, j => by
    show _ ≤ (if W j = w then endR W w (j + 1) k else j) ∧ (if W j = w then endR W w (j + 1) k else j) ≤ _ ∧ (∀ i, j ≤ i → i < (if W j = w then endR W w (j + 1) k else j) → W i = w) ∧ ((if W j = w then endR W w (j + 1) k else j) = _ ∨ ¬ W (if W j = w then endR W w (j + 1) k else j) = w)
    obtain ⟨h1, h2, h3, h4⟩ := endR_spec W w k (j + 1)
    by_cases q : W j = w
    · rw [if_pos q]
      refine ⟨by omega, by omega, fun i hi1 hi2 => ?_, ?_⟩
      · rcases Nat.eq_or_lt_of_le hi1 with e | e
        · rw [← e]; exact q
        · exact h3 i e hi2
      · rcases h4 with e | e
        · exact Or.inl (by omega)
        · exact Or.inr e
    · rw [if_neg q]
      exact ⟨Nat.le_refl _, by omega, fun i h1 h2 => absurd h2 (Nat.not_lt.mpr h1), Or.inr q⟩
theorem endR_at {W : Nat → Int32} {w : Int32} {e : Nat} : ∀ (k j : Nat), j ≤ e → e ≤ j + k → (∀ i, j ≤ i → i < e → W i = w) → (e = j + k ∨ ¬ W e = w) → endR W w j k = e
  | 0, j, h1, h2, _, _ => by show j = e; omega
  | k + 1, j, h1, h2, h3, h4 => by
    show (if W j = w then endR W w (j + 1) k else j) = e
    rcases Nat.eq_or_lt_of_le h1 with q | q
    · subst q
      rcases h4 with q2 | q2
      · exact absurd q2 (by omega)
      · rw [if_neg q2]
    · rw [if_pos (h3 j (Nat.le_refl _) q)]
      exact endR_at k (j + 1) q (by omega) (fun i hi1 hi2 => h3 i (by omega) hi2) (by rcases h4 with q2 | q2; exact Or.inl (by omega); exact Or.inr q2)
def rl (W : Nat → Int32) (c : Nat) : Nat := if W c = -1 then 0 else endR W (W c) c (12 - c) - c
theorem c_run {μ : Mem} {o nb c : Nat} {K W} (h : CN μ o nb K W) (hc : c < 12) : f_X1_runFrom o (nI c) μ = some (nI (rl W c), μ) := by
  rw [f_X1_runFrom, zck_t (zin_nI hc (by decide)), nI_clamp (by omega), h.2.2.2 c hc]
  unfold rl
  by_cases q : W c = -1
  · rw [if_pos q, if_pos q]; rfl
  · rw [if_neg q, if_neg q]
    have e : ∀ (k j n : Nat), j + k = 12 → c ≤ j → k < n → f_X1_runFrom_16 o n (nI c) (W c) (nI j) μ = some (nI (endR W (W c) j k - c), μ) := by
      intro k
      induction k with
      | zero =>
        intro j n h1 hcj h2
        obtain ⟨n, rfl⟩ : ∃ q, n = q + 1 := ⟨n - 1, by omega⟩
        rw [f_X1_runFrom_16, show j = 12 by omega, if_pos (by decide), pk_sub (by omega)]; rfl
      | succ k ih =>
        intro j n h1 hcj h2
        obtain ⟨n, rfl⟩ : ∃ q, n = q + 1 := ⟨n - 1, by omega⟩
        rw [f_X1_runFrom_16, if_neg (lt12 (by omega)), zck_t (zin_nI (by omega) (by decide)), nI_clamp (by omega), h.2.2.2 j (by omega), nI_1, ih (j + 1) n (by omega) (by omega) (by omega), pk_sub hcj]
        show _ = some (nI ((if W j = W c then endR W (W c) (j + 1) k else j) - c), μ)
        by_cases q2 : W j = W c
        · rw [if_pos q2, if_pos q2]
        · rw [if_neg q2, if_neg q2]
    exact e (12 - c) c zFU (by omega) (Nat.le_refl _) (zFU_lt (by omega))
def lonC (W : Nat → Int32) (c : Nat) (a : Nat × Int32) : Nat × Int32 := if rl W c ≤ a.1 then a else (rl W c, nI c)
def lonS (W : Nat → Int32) (c t : Nat) : Nat := if c = 0 then c else if W c = W (c - 1) then t else c
def lonM (W : Nat → Int32) (c : Nat) (a : (Nat × Int32) × Nat) : (Nat × Int32) × Nat := (if W c = -1 then a.1 else if c + 1 - lonS W c a.2 ≤ a.1.1 then a.1 else (c + 1 - lonS W c a.2, nI (lonS W c a.2)), lonS W c a.2)
theorem iter_add {σ : Type} (f : Nat → σ → σ) : ∀ (k q j : Nat) (a : σ), iter f j (k + q) a = iter f (j + k) q (iter f j k a)
  | 0, q, j, a => by rw [Nat.zero_add]; rfl
  | k + 1, q, j, a => by
    rw [show k + 1 + q = (k + q) + 1 by omega]
    show iter f (j + 1) (k + q) (f j a) = iter f (j + (k + 1)) q (iter f (j + 1) k (f j a))
    rw [iter_add f k q (j + 1), show j + (k + 1) = j + 1 + k by omega]
theorem lon_eq (W : Nat → Int32) : ∀ (d s : Nat) (a : Nat × Int32) (t : Nat), s + d = 12 → (s = 0 ∨ s = 12 ∨ ¬ W s = W (s - 1)) → iter (lonC W) s d a = (iter (lonM W) s d (a, t)).1 := by
  intro d
  induction d using Nat.strongRecOn with
  | _ d ih =>
    intro s a t hs hst
    rcases Nat.eq_zero_or_pos d with rfl | hd
    · rfl
    · obtain ⟨e1, e2, e3, e4⟩ := endR_spec W (W s) (11 - s) (s + 1)
      generalize he : endR W (W s) (s + 1) (11 - s) = e at e1 e2 e3 e4
      have hall : ∀ i, s ≤ i → i < e → W i = W s := fun i h1 h2 => by
        rcases Nat.eq_or_lt_of_le h1 with q | q
        · rw [q]
        · exact e3 i q h2
      have hend : e = 12 ∨ ¬ W e = W s := by
        rcases e4 with q | q
        · exact Or.inl (by omega)
        · exact Or.inr q
      have hrl : ∀ i, s ≤ i → i < e → rl W i = if W s = -1 then 0 else e - i := fun i h1 h2 => by
        unfold rl
        rw [hall i h1 h2]
        by_cases q : W s = -1
        · rw [if_pos q, if_pos q]
        · rw [if_neg q, if_neg q, endR_at (e := e) (12 - i) i (by omega) (by omega) (fun k hk1 hk2 => hall k (by omega) hk2) (by rcases hend with z | z; exact Or.inl (by omega); exact Or.inr z)]
      have hc : iter (lonC W) s (e - s) a = if W s = -1 then a else if e - s ≤ a.1 then a else (e - s, nI s) := by
        rw [show e - s = (e - s - 1) + 1 by omega]
        show iter (lonC W) (s + 1) (e - s - 1) (lonC W s a) = _
        rw [show e - s - 1 + 1 = e - s by omega]
        have h0 : lonC W s a = if W s = -1 then a else if e - s ≤ a.1 then a else (e - s, nI s) := by
          unfold lonC
          rw [hrl s (Nat.le_refl _) (by omega)]
          by_cases q : W s = -1
          · rw [if_pos q, if_pos q, if_pos (Nat.zero_le _)]
          · rw [if_neg q, if_neg q]
        rw [← h0]
        refine iter_id _ _ _ (fun i h1 h2 => ?_)
        have h3 : rl W i ≤ (lonC W s a).1 := by
          rw [hrl i (by omega) (by omega), h0]
          by_cases q : W s = -1
          · rw [if_pos q]; exact Nat.zero_le _
          · rw [if_neg q, if_neg q]
            by_cases q2 : e - s ≤ a.1
            · rw [if_pos q2]; omega
            · rw [if_neg q2]; show e - i ≤ e - s; omega
        show (if rl W i ≤ (lonC W s a).1 then lonC W s a else _) = _
        rw [if_pos h3]
      have hm : iter (lonM W) s (e - s) (a, t) = (if W s = -1 then a else if e - s ≤ a.1 then a else (e - s, nI s), s) := by
        have h := iter_inv (f := lonM W) (P := fun j (z : (Nat × Int32) × Nat) => (j = s ∧ z = (a, t)) ∨ (s < j ∧ z = (if W s = -1 then a else if j - s ≤ a.1 then a else (j - s, nI s), s))) (e - s) s (a, t) (fun i h1 h2 z hz => by
          refine Or.inr ⟨by omega, ?_⟩
          have hS : ∀ u, lonS W i u = s ∨ (s < i ∧ lonS W i u = u) := by
            intro u
            unfold lonS
            by_cases q0 : i = 0
            · rw [if_pos q0]; exact Or.inl (by omega)
            · rw [if_neg q0]
              by_cases q1 : i = s
              · subst q1
                rcases hst with z | z | z
                · exact absurd z q0
                · omega
                · rw [if_neg z]; exact Or.inl rfl
              · rw [if_pos (by rw [hall i h1 (by omega), hall (i - 1) (by omega) (by omega)])]
                exact Or.inr ⟨by omega, rfl⟩
          have hz2 : lonS W i z.2 = s := by
            rcases hz with ⟨q1, q2⟩ | ⟨q1, q2⟩
            · rcases hS z.2 with q | q
              · exact q
              · omega
            · rcases hS z.2 with q | q
              · exact q
              · rw [q.2, q2]
          show (if W i = -1 then z.1 else if i + 1 - lonS W i z.2 ≤ z.1.1 then z.1 else (i + 1 - lonS W i z.2, nI (lonS W i z.2)), lonS W i z.2) = _
          rw [hz2, hall i h1 (by omega)]
          by_cases q : W s = -1
          · rw [if_pos q, if_pos q]
            rcases hz with ⟨q1, q2⟩ | ⟨q1, q2⟩
            · rw [q2]
            · rw [q2, if_pos q]
          · rw [if_neg q, if_neg q]
            rcases hz with ⟨q1, q2⟩ | ⟨q1, q2⟩
            · rw [q2]
            · rw [q2, if_neg q]
              by_cases q3 : i - s ≤ a.1
              · rw [if_pos q3]
              · rw [if_neg q3, if_neg (show ¬ i + 1 - s ≤ a.1 by omega), if_neg (show ¬ i + 1 - s ≤ i - s by omega)]) (Or.inl ⟨rfl, rfl⟩)
        rcases h with ⟨q, -⟩ | ⟨-, q⟩
        · omega
        · rw [q, show s + (e - s) - s = e - s by omega]
      rw [show d = (e - s) + (12 - e) by omega, iter_add, iter_add, show s + (e - s) = e by omega, hc, hm]
      exact ih (12 - e) (by omega) e _ _ (by omega) (by
        rcases hend with q | q
        · exact Or.inr (Or.inl q)
        · exact Or.inr (Or.inr (by rw [hall (e - 1) (by omega) (by omega)]; exact q)))
theorem Sp_longest_ok : Sp_longest Rel := by
  intro μC μM a1 h
  obtain ⟨nb, nn, nu, K, W, hNR, hC, hM, hO, hJ, -⟩ := Rel_q h
  rw [f_X9_longest, within_eq, zbind_eq, f_X10_longest, in_eq, zbind_eq]
  cases hq : inR a1 0 1
  · exact isbad h (if_pos rfl) (if_pos rfl)
  · rw [if_neg bIt, if_neg bIt]
    have ec := (loopI (fun n (a : Nat × Int32) c => f_X9_longest_20 n a1 (nI a.1) a.2 c μC) (lonC W) 12 (fun a => some (if a1 = 0 then a.2 else nI a.1, μC)) (fun _ a => a.1 ≤ 12) (fun n a _ => by
      show f_X9_longest_20 (n + 1) a1 (nI a.1) a.2 (nI 12) μC = _
      rw [f_X9_longest_20, if_pos (by decide)]
      by_cases q : a1 = 0
      · rw [if_pos q, if_pos q]
      · rw [if_neg q, if_neg q]) (fun n j a hj ha => by
      have hr : rl W j ≤ 12 := by
        unfold rl
        have := (endR_spec W (W j) (12 - j) j).2.1
        by_cases q : W j = -1
        · rw [if_pos q]; omega
        · rw [if_neg q]; omega
      refine ⟨?_, ?_⟩
      · show f_X9_longest_20 (n + 1) a1 (nI a.1) a.2 (nI j) μC = f_X9_longest_20 n a1 (nI (lonC W j a).1) (lonC W j a).2 (nI (j + 1)) μC
        rw [f_X9_longest_20, if_neg (lt12 hj), c_run hC hj, zbind_eq, nI_1]
        unfold lonC
        have ha : a.1 ≤ 12 := ha
        by_cases q : rl W j ≤ a.1
        · rw [if_pos q, if_pos (nI_le q (by omega))]
        · rw [if_neg q, if_neg (nI_ge (by omega) (by omega))]
      · show (lonC W j a).1 ≤ 12
        unfold lonC
        by_cases q : rl W j ≤ a.1
        · rw [if_pos q]; exact ha
        · rw [if_neg q]; exact hr) 12 0 zFU (0, -1) rfl (zFU_lt (by decide)) (Nat.zero_le _)).1
    have em := (loopI (fun n (a : (Nat × Int32) × Nat) c => f_X10_longest_24 n a1 a.1.2 (nI a.1.1) (nI a.2) c μM) (lonM W) 12 (fun a => some (if a1 = 0 then a.1.2 else nI a.1.1, μM)) (fun j a => a.1.1 ≤ 12 ∧ a.2 ≤ j) (fun n a _ => by
      show f_X10_longest_24 (n + 1) a1 a.1.2 (nI a.1.1) (nI a.2) (nI 12) μM = _
      rw [f_X10_longest_24, if_pos (by decide)]
      by_cases q : a1 = 0
      · rw [if_pos q, if_pos q]
      · rw [if_neg q, if_neg q]) (fun n j a hj ha => by
      obtain ⟨ha1, ha2⟩ : a.1.1 ≤ 12 ∧ a.2 ≤ j := ha
      have hs : lonS W j a.2 ≤ j := by
        unfold lonS
        by_cases q0 : j = 0
        · rw [if_pos q0]; omega
        · rw [if_neg q0]
          by_cases q : W j = W (j - 1)
          · rw [if_pos q]; exact ha2
          · rw [if_neg q]; omega
      refine ⟨?_, ?_, Nat.le_trans hs (Nat.le_succ _)⟩
      · have e2 : ∀ z : Nat, z ≤ j → f_X10_longest_62 (fun a0 a1 a2 a3 a4 ν => f_X10_longest_24 n a0 a1 a2 a3 a4 ν) a1 a.1.2 (nI a.1.1) (nI j) (nI z) μM = f_X10_longest_24 n a1 (if W j = -1 then a.1 else if j + 1 - z ≤ a.1.1 then a.1 else (j + 1 - z, nI z)).2 (nI (if W j = -1 then a.1 else if j + 1 - z ≤ a.1.1 then a.1 else (j + 1 - z, nI z)).1) (nI z) (nI (j + 1)) μM := by
          intro z hz
          rw [f_X10_longest_62, zck_t (zin_nI hj (by decide)), nI_clamp (by omega), hM.2.2.2 j hj, nI_1, pk_sub (by omega)]
          by_cases q : W j = -1
          · rw [if_pos q, if_pos q]
          · rw [if_neg q, if_neg q]
            by_cases q2 : j + 1 - z ≤ a.1.1
            · rw [if_pos (nI_le q2 (by omega)), if_pos q2]
            · rw [if_neg (nI_ge (by omega) (by omega)), if_neg q2]
        show f_X10_longest_24 (n + 1) a1 a.1.2 (nI a.1.1) (nI a.2) (nI j) μM = f_X10_longest_24 n a1 (lonM W j a).1.2 (nI (lonM W j a).1.1) (nI (lonS W j a.2)) (nI (j + 1)) μM
        unfold lonM
        show _ = f_X10_longest_24 n a1 (if W j = -1 then a.1 else if j + 1 - lonS W j a.2 ≤ a.1.1 then a.1 else (j + 1 - lonS W j a.2, nI (lonS W j a.2))).2 (nI (if W j = -1 then a.1 else if j + 1 - lonS W j a.2 ≤ a.1.1 then a.1 else (j + 1 - lonS W j a.2, nI (lonS W j a.2))).1) (nI (lonS W j a.2)) (nI (j + 1)) μM
        rw [← e2 _ hs, f_X10_longest_24, if_neg (lt12 hj)]
        unfold lonS
        by_cases q0 : j = 0
        · subst q0
          rw [if_pos (by decide), if_pos rfl]
        · rw [if_neg (show ¬ nI j ≤ 0 from nI_nle (by omega) (by omega)), if_neg q0, nI_m1 (by omega), zck_t (zin_nI hj (by decide)), zck_t (zin_nI (by omega) (by decide)), nI_clamp (by omega), nI_clamp (by omega), hM.2.2.2 j hj, hM.2.2.2 (j - 1) (by omega)]
          by_cases q : W j = W (j - 1)
          · rw [if_pos q, if_pos q]
          · rw [if_neg q, if_neg q]
      · show (if W j = -1 then a.1 else if j + 1 - lonS W j a.2 ≤ a.1.1 then a.1 else (j + 1 - lonS W j a.2, nI (lonS W j a.2))).1 ≤ 12
        by_cases q : W j = -1
        · rw [if_pos q]; exact ha1
        · rw [if_neg q]
          by_cases q2 : j + 1 - lonS W j a.2 ≤ a.1.1
          · rw [if_pos q2]; exact ha1
          · rw [if_neg q2]; show j + 1 - lonS W j a.2 ≤ 12; omega) 12 0 zFU ((0, -1), 0) rfl (zFU_lt (by decide)) ⟨Nat.zero_le _, Nat.le_refl _⟩).1
    rw [nI_0] at ec em
    refine ask h _ ec (em.trans ?_)
    rw [lon_eq W 12 0 (0, -1) 0 rfl (Or.inl rfl)]
