/-! ===== owls, digest ===== -/
theorem val_nat (k : Nat) (x : Int32) (a : Bool) : ∃ v, v ≤ 7 ∧ val k x a = nI v := by
  unfold val
  repeat' split
  all_goals first | exact ⟨3, by decide, rfl⟩ | exact ⟨5, by decide, rfl⟩ | exact ⟨6, by decide, rfl⟩ | exact ⟨0, by decide, rfl⟩ | exact ⟨7, by decide, rfl⟩ | exact ⟨4, by decide, rfl⟩ | exact ⟨2, by decide, rfl⟩
def owlB (k : Nat) (s x : Int32) : Int32 := iter (fun j a => if hb s j = true then (if mid (nI j) = true then a + val k (nI j) (hp s j) * (10 - x) else a + val k (nI j) (hp s j) * 10) else a) 0 12 0
theorem owlB_nat (k : Nat) (s : Int32) {y : Nat} (hy : y ≤ 10) : ∃ q, q < 841 ∧ owlB k s (nI y) = nI q := by
  have h := iter_inv (f := fun j a => if hb s j = true then (if mid (nI j) = true then a + val k (nI j) (hp s j) * (10 - nI y) else a + val k (nI j) (hp s j) * 10) else a) (P := fun j a => ∃ q, q ≤ 70 * j ∧ a = nI q) 12 0 0 (fun i _ hi a ha => by
    obtain ⟨q, hq, rfl⟩ := ha
    obtain ⟨v, hv, ev⟩ := val_nat k (nI i) (hp s i)
    show ∃ z, z ≤ 70 * (i + 1) ∧ (if hb s i = true then (if mid (nI i) = true then nI q + val k (nI i) (hp s i) * (10 - nI y) else nI q + val k (nI i) (hp s i) * 10) else nI q) = nI z
    rw [ev, show (10 : Int32) = nI 10 from rfl, pk_sub hy, nI_mul, nI_mul, nI_add, nI_add]
    have h1 : v * (10 - y) ≤ 70 := Nat.le_trans (Nat.mul_le_mul hv (show 10 - y ≤ 10 by omega)) (by decide)
    by_cases c : hb s i = true
    · rw [if_pos c]
      by_cases d : mid (nI i) = true
      · rw [if_pos d]; exact ⟨_, by omega, rfl⟩
      · rw [if_neg d]; exact ⟨_, by omega, rfl⟩
    · rw [if_neg c]; exact ⟨q, by omega, rfl⟩) ⟨0, by decide, rfl⟩
  obtain ⟨q, hq, e⟩ := h
  exact ⟨q, by omega, e⟩
theorem c_owl {μ : Mem} {o nb b : Nat} {K W} (h : CN μ o nb K W) (hb5 : b < nb) (x : Int32) : f_X1_tenfoldMean o (nI b) x μ = some (owlB (K b) (setC W (nI b)) x, μ) := by
  have h5 := h.1
  rw [f_X1_tenfoldMean, c_cells h, zbind_eq]
  generalize setC W (nI b) = s
  have e := loop0 (fun n a c => f_X1_tenfoldMean_12 o n (nI b) x s a c μ) (fun j a => if hb s j = true then (if mid (nI j) = true then a + val (K b) (nI j) (hp s j) * (10 - x) else a + val (K b) (nI j) (hp s j) * 10) else a) 12 (by decide) (fun a => some (a, μ)) (fun n a => by
    show f_X1_tenfoldMean_12 o (n + 1) (nI b) x s a (nI 12) μ = _
    rw [f_X1_tenfoldMean_12, if_pos (by decide)]) (fun n j a hj => by
    show f_X1_tenfoldMean_12 o (n + 1) (nI b) x s a (nI j) μ = f_X1_tenfoldMean_12 o n (nI b) x s _ (nI (j + 1)) μ
    rw [f_X1_tenfoldMean_12, if_neg (lt12 hj), has_eq s (by omega), zbind_eq, kindOf_eq (show b < 5 by omega) (h.2.2.1 b hb5).1 (h.2.2.1 b hb5).2, zbind_eq, hasp_eq s (by omega), zbind_eq, ofCell_eq (h.2.2.1 b hb5).1, zbind_eq, mid_eq, zbind_eq, nI_1]
    cases hb s j
    · rw [if_pos bIf, if_neg (by decide)]
    · rw [if_neg bIt, if_pos rfl]
      cases mid (nI j)
      · rw [if_pos bIf, if_neg (by decide)]
      · rw [if_neg bIt, if_pos rfl]) 0
  rw [nI_0] at e
  exact e
theorem m_owl {μ : Mem} {nb b : Nat} {K W} (h : MN μ nb K W) (hb5 : b < nb) (s x : Int32) : f_X10_owls_35 zFU (nI b) x s 0 0 μ = zbind (f_X10_lay (owlB (K b) s x).toInt64 10 μ) (fun _ μ1 => some ((1 : Int32), μ1)) := by
  have h5 := h.1
  have e := loop0 (fun n a c => f_X10_owls_35 n (nI b) x s a c μ) (fun j a => if hb s j = true then (if mid (nI j) = true then a + val (K b) (nI j) (hp s j) * (10 - x) else a + val (K b) (nI j) (hp s j) * 10) else a) 12 (by decide) (fun a => zbind (f_X10_lay a.toInt64 10 μ) (fun _ μ1 => some ((1 : Int32), μ1))) (fun n a => by
    show f_X10_owls_35 (n + 1) (nI b) x s a (nI 12) μ = _
    rw [f_X10_owls_35, if_pos (by decide)]) (fun n j a hj => by
    show f_X10_owls_35 (n + 1) (nI b) x s a (nI j) μ = f_X10_owls_35 n (nI b) x s _ (nI (j + 1)) μ
    rw [f_X10_owls_35, if_neg (lt12 hj), m_has_eq, zbind_eq, valueIn_eq (show b < 5 by omega) (h.2.2.1 b hb5).1 (h.2.2.1 b hb5).2 s (by omega), zbind_eq, in_eq, zbind_eq, nI_1, add0]
    cases hb s j
    · rw [if_pos bIf, if_neg (by decide)]
    · rw [if_neg bIt, if_pos rfl]
      show (if bI (mid (nI j)) = 0 then _ else _) = _
      cases mid (nI j)
      · rw [if_pos bIf, if_neg (by decide)]
      · rw [if_neg bIt, if_pos rfl]) 0
  rw [nI_0] at e
  exact e
def cdv : Nat → Int32 → Int32 → Int32 → Option Int32
  | 0, _, _, _ => none
  | n + 1, a, b, c => if c ≤ 1 then some 1 else if a - a / c * c = 0 then (if b - b / c * c = 0 then some c else cdv n a b (c + -1)) else cdv n a b (c + -1)
theorem cdv_f {a b v : Int32} (m : Nat) (μ : Mem) : ∀ (n : Nat) (c : Int32), cdv n a b c = some v → f_X9_commonDivisor_2 (n + m) a b c μ = some (v, μ)
  | 0, c, h => absurd h (by intro q; cases q)
  | n + 1, c, h => by
    rw [show n + 1 + m = (n + m) + 1 by omega, f_X9_commonDivisor_2]
    rw [cdv] at h
    by_cases q : c ≤ 1
    · rw [if_pos q] at h ⊢
      cases h; rfl
    · have hc : ¬ c = 0 := fun e => q (by rw [e]; decide)
      rw [if_neg q] at h ⊢
      rw [zck_t (decide_eq_true hc), zck_t (decide_eq_true hc)]
      by_cases q1 : a - a / c * c = 0
      · rw [if_pos q1] at h ⊢
        by_cases q2 : b - b / c * c = 0
        · rw [if_pos q2] at h ⊢
          cases h; rfl
        · rw [if_neg q2] at h ⊢
          exact cdv_f m μ n _ h
      · rw [if_neg q1] at h ⊢
        exact cdv_f m μ n _ h
def layv : Nat → Int64 → Int64 → Int64 → Int64 → Option (Int64 × Int64)
  | 0, _, _, _, _ => none
  | n + 1, a, b, c, d => if d = 0 then (if c = 0 then none else some (a / c, b / c)) else layv n a b d (c - c / d * d)
theorem layv_f {a b u v : Int64} (m : Nat) (μ : Mem) : ∀ (n : Nat) (c d : Int64), layv n a b c d = some (u, v) → f_X10_lay_6 (n + m) a b c d μ = some ((), zL (zL μ 0 23 u) 0 24 v)
  | 0, c, d, h => absurd h (by intro q; cases q)
  | n + 1, c, d, h => by
    rw [show n + 1 + m = (n + m) + 1 by omega, f_X10_lay_6]
    rw [layv] at h
    by_cases q : d = 0
    · rw [if_pos q] at h
      rw [if_pos ((lg_cmp_eq _ _).mpr q)]
      by_cases q2 : c = 0
      · rw [if_pos q2] at h; exact absurd h (by intro q; cases q)
      · rw [if_neg q2] at h
        rw [zck_t (decide_eq_true q2), zlet_eq, zck_t (decide_eq_true q2), zlet_eq]
        cases h; rfl
    · rw [if_neg q] at h
      rw [if_neg (fun z => q ((lg_cmp_eq _ _).mp z)), zck_t (decide_eq_true q)]
      exact layv_f m μ n _ _ h
def owlT (r : Nat) : Bool := match cdv 12 (nI r) 10 10 with
  | some g => decide (1 ≤ g) && decide (layv 8 (nI r).toInt64 10 (nI r).toInt64 10 = some ((nI r / g).toInt64, ((10 : Int32) / g).toInt64))
  | none => false
theorem owlT_all : (List.range 841).all owlT = true := by decide +kernel
theorem owl_end {r : Nat} (hr : r < 841) (μC μM : Mem) : ∃ u v : Int64, f_X9_setFraction (nI r) 10 μC = some ((), zL (zL μC 0 6 u) 0 7 v) ∧ f_X10_lay (nI r).toInt64 10 μM = some ((), zL (zL μM 0 23 u) 0 24 v) := by
  have h := List.all_eq_true.mp owlT_all r (List.mem_range.mpr hr)
  unfold owlT at h
  cases hc : cdv 12 (nI r) 10 10 with
  | none => rw [hc] at h; exact absurd h Bool.false_ne_true
  | some g =>
    rw [hc] at h
    rw [Bool.and_eq_true] at h
    have h1 : 1 ≤ g := of_decide_eq_true h.1
    have h2 := of_decide_eq_true h.2
    have hg : ¬ g = 0 := fun e => absurd h1 (by rw [e]; decide)
    refine ⟨(nI r / g).toInt64, ((10 : Int32) / g).toInt64, ?_, ?_⟩
    · have e := cdv_f (zFU - 12) μC 12 10 hc
      rw [show 12 + (zFU - 12) = zFU by rw [zFU_eq]] at e
      rw [f_X9_setFraction, f_X9_commonDivisor, e, zbind_eq, if_pos h1, zck_t (decide_eq_true hg), zlet_eq, zck_t (decide_eq_true hg), zlet_eq]
    · have e := layv_f (zFU - 8) μM 8 _ _ h2
      rw [show 8 + (zFU - 8) = zFU by rw [zFU_eq]] at e
      rw [f_X10_lay, e]
theorem Rel_frac {μC μM : Mem} (h : Rel μC μM) (u v : Int64) : Rel (zL (zL μC 0 6 u) 0 7 v) (zL (zL μM 0 23 u) 0 24 v) := by
  obtain ⟨a, b, c, d, s1, s2, s3, -, -⟩ := h
  exact ⟨a, b, c, d, s1, s2, s3, rfl, rfl⟩
theorem Sp_owls_ok : Sp_owls Rel := by
  intro μC μM a1 a2 h
  obtain ⟨nb, nn, nu, K, W, hNR, hC, hM, hO, hJ, -⟩ := Rel_q h
  have h5 := hC.1
  rw [f_X9_owls, CN_boy hC, zbind_eq, f_X10_owls, MN_boy hM, zbind_eq]
  cases hq : inR a1 0 (nI nb - 1)
  · exact isbad h (if_pos rfl) (if_pos rfl)
  · obtain ⟨b, hb, rfl⟩ := inR_boy (by omega) hq
    rw [if_neg bIt, if_neg bIt, in_eq, zbind_eq, within_eq, zbind_eq]
    cases hq2 : inR a2 0 10
    · exact isbad h (if_pos rfl) (if_pos rfl)
    · obtain ⟨y, hy, rfl⟩ := inR_nI (m := 10) (by decide) hq2
      obtain ⟨r, hr, er⟩ := owlB_nat (K b) (setC W (nI b)) hy
      obtain ⟨u, v, e1, e2⟩ := owl_end hr μC μM
      rw [if_neg bIt, if_neg bIt, c_owl hC hb, zbind_eq, m_cells hM, zbind_eq, m_owl hM hb, er, e1, zbind_eq, e2, zbind_eq]
      exact ⟨1, _, _, rfl, rfl, Rel_frac h u v⟩
theorem zL_zL (μ : Mem) (o k : Nat) (x y : Int64) : zL (zL μ o k x) o k y = zL μ o k y := by
  refine Prod.ext rfl (funext fun a => ?_)
  show (if a = o then vp_updL (if o = o then vp_updL (μ.2 o) k x else μ.2 o) k y else if a = o then vp_updL (μ.2 o) k x else μ.2 a) = if a = o then vp_updL (μ.2 o) k y else μ.2 a
  by_cases q : a = o
  · rw [if_pos q, if_pos rfl, if_pos q]
    funext j
    show (if j = k then y else if j = k then x else μ.2 o j) = if j = k then y else μ.2 o j
    by_cases z : j = k
    · rw [if_pos z, if_pos z]
    · rw [if_neg z, if_neg z, if_neg z]
  · rw [if_neg q, if_neg q, if_neg q]
theorem mix_eq (μ : Mem) (h x : Int64) : f_X10_mix x (zL μ 0 27 h) = some ((), zL μ 0 27 (31 * h + x)) := by
  rw [f_X10_mix, zlet_eq, zL_zL]; rfl
def dg1 (nb nn nu tl : Nat) (N J W : Nat → Int32) (h : Int64) : Int64 := iter (fun x h => 31 * h + (cntB nb nn nu tl N J W x).toInt64) 0 7 h
def dg2 (nb : Nat) (K : Nat → Nat) (N J : Nat → Int32) (h : Int64) : Int64 := iter (fun b h => 31 * (31 * (31 * h + (nI (K b)).toInt64) + (N b).toInt64) + (J b).toInt64) 0 nb h
def dg3 (W : Nat → Int32) (h : Int64) : Int64 := iter (fun j h => 31 * h + (W j).toInt64) 0 12 h
def dg4 (nn : Nat) (A B V L : Nat → Int32) (h : Int64) : Int64 := iter (fun k h => 31 * (31 * (31 * (31 * h + (A k).toInt64) + (B k).toInt64) + (V k).toInt64) + (L k).toInt64) 0 nn h
theorem iter4 {σ : Type} (f : Nat → σ → σ) : ∀ (k j : Nat) (a : σ), iter f (4 * j) (4 * k) a = iter (fun i a => f (4 * i + 3) (f (4 * i + 2) (f (4 * i + 1) (f (4 * i) a)))) j k a
  | 0, _, _ => rfl
  | k + 1, j, a => by
    rw [show 4 * (k + 1) = 4 * k + 1 + 1 + 1 + 1 by omega]
    show iter f (4 * j + 1 + 1 + 1 + 1) (4 * k) (f (4 * j + 3) (f (4 * j + 2) (f (4 * j + 1) (f (4 * j) a)))) = _
    rw [show 4 * j + 1 + 1 + 1 + 1 = 4 * (j + 1) by omega, iter4 f k (j + 1)]; rfl
theorem c_mix4 {μ : Mem} {nn : Nat} (hn : nn ≤ 6) (h8 : μ.1 1 8 = nI nn) (h : Int64) : f_X1_mixInto_99 1 zFU h 0 μ = some (dg4 nn (fun k => μ.1 6 (4 * k)) (fun k => μ.1 6 (4 * k + 1)) (fun k => μ.1 6 (4 * k + 2)) (fun k => μ.1 6 (4 * k + 3)) h, μ) := by
  have e := loop0 (fun n a c => f_X1_mixInto_99 1 n a c μ) (fun j (h : Int64) => 31 * h + (μ.1 6 j).toInt64) (4 * nn) (by omega) (fun a => some (a, μ)) (fun n a => by
    show f_X1_mixInto_99 1 (n + 1) a (nI (4 * nn)) μ = _
    rw [f_X1_mixInto_99, h8, nI_m4, if_pos (ile _)]) (fun n j a hj => by
    show f_X1_mixInto_99 1 (n + 1) a (nI j) μ = f_X1_mixInto_99 1 n _ (nI (j + 1)) μ
    rw [f_X1_mixInto_99, h8, nI_m4, if_neg (nI_ge hj (by omega)), zck_t (zin_nI (by omega) (by decide)), nI_clamp (by omega), nI_1]) h
  rw [nI_0, show iter (fun j (h : Int64) => 31 * h + (μ.1 6 j).toInt64) 0 (4 * nn) h = iter (fun j (h : Int64) => 31 * h + (μ.1 6 j).toInt64) (4 * 0) (4 * nn) h from rfl, iter4] at e
  exact e
theorem c_mix3 {μ : Mem} {nb nn : Nat} {K W} (hC : CN μ 1 nb K W) (hn : nn ≤ 6) (h8 : μ.1 1 8 = nI nn) (h : Int64) : f_X1_mixInto_68 1 zFU h 0 μ = some (dg4 nn (fun k => μ.1 6 (4 * k)) (fun k => μ.1 6 (4 * k + 1)) (fun k => μ.1 6 (4 * k + 2)) (fun k => μ.1 6 (4 * k + 3)) (dg3 W h), μ) := by
  have e := loop0 (fun n a c => f_X1_mixInto_68 1 n a c μ) (fun j (h : Int64) => 31 * h + (W j).toInt64) 12 (by decide) (fun a => f_X1_mixInto_99 1 zFU a 0 μ) (fun n a => by
    show f_X1_mixInto_68 1 (n + 1) a (nI 12) μ = _
    rw [f_X1_mixInto_68, if_pos (by decide)]) (fun n j a hj => by
    show f_X1_mixInto_68 1 (n + 1) a (nI j) μ = f_X1_mixInto_68 1 n _ (nI (j + 1)) μ
    rw [f_X1_mixInto_68, if_neg (lt12 hj), zck_t (zin_nI hj (by decide)), nI_clamp (by omega), hC.2.2.2 j hj, nI_1]) h
  rw [nI_0, c_mix4 hn h8] at e
  exact e
theorem c_mix {μ : Mem} {nb nn : Nat} {K W} (hC : CN μ 1 nb K W) (hn : nn ≤ 6) (h8 : μ.1 1 8 = nI nn) (h : Int64) : f_X1_mixInto 1 h μ = some (dg4 nn (fun k => μ.1 6 (4 * k)) (fun k => μ.1 6 (4 * k + 1)) (fun k => μ.1 6 (4 * k + 2)) (fun k => μ.1 6 (4 * k + 3)) (dg3 W (dg2 nb K (μ.1 3) (μ.1 4) h)), μ) := by
  have h5 := hC.1
  rw [f_X1_mixInto]
  have e := loop0 (fun n a c => f_X1_mixInto_5 1 n a c μ) (fun b (h : Int64) => 31 * (31 * (31 * h + (nI (K b)).toInt64) + (μ.1 3 b).toInt64) + (μ.1 4 b).toInt64) nb (by omega) (fun a => f_X1_mixInto_68 1 zFU a 0 μ) (fun n a => by
    show f_X1_mixInto_5 1 (n + 1) a (nI nb) μ = _
    rw [f_X1_mixInto_5, hC.2.1, if_pos (ile _)]) (fun n j a hj => by
    show f_X1_mixInto_5 1 (n + 1) a (nI j) μ = f_X1_mixInto_5 1 n _ (nI (j + 1)) μ
    rw [f_X1_mixInto_5, hC.2.1, if_neg (nI_ge hj (by omega)), zck_t (zin_nI (by omega) (by decide)), zck_t (zin_nI (by omega) (by decide)), zlet_eq, zck_t (zin_nI (by omega) (by decide)), nI_clamp (by omega), (hC.2.2.1 j hj).2, nI_1]) h
  rw [nI_0, c_mix3 hC hn h8] at e
  exact e
theorem m_mix4 {μ : Mem} {nn : Nat} (hn : nn ≤ 6) (h8 : μ.1 0 2 = nI nn) (h : Int64) : ∃ h', f_X10_digest_107 zFU 0 (zL μ 0 27 h) = some (31 * (31 * dg4 nn (μ.1 6) (μ.1 7) (μ.1 8) (μ.1 9) h + μ.2 0 23) + μ.2 0 24, zL μ 0 27 h') := by
  have e := loop0 (fun n (a : Int64) c => f_X10_digest_107 n c (zL μ 0 27 a)) (fun k (h : Int64) => 31 * (31 * (31 * (31 * h + (μ.1 6 k).toInt64) + (μ.1 7 k).toInt64) + (μ.1 8 k).toInt64) + (μ.1 9 k).toInt64) nn (by omega) (fun a => some (31 * (31 * a + μ.2 0 23) + μ.2 0 24, zL μ 0 27 (31 * (31 * a + μ.2 0 23) + μ.2 0 24))) (fun n a => by
    show f_X10_digest_107 (n + 1) (nI nn) (zL μ 0 27 a) = _
    rw [f_X10_digest_107, zL_1, h8, if_pos (ile _), show (zL μ 0 27 a).2 0 23 = μ.2 0 23 from rfl, mix_eq, zbind_eq, show (zL μ 0 27 (31 * a + μ.2 0 23)).2 0 24 = μ.2 0 24 from rfl, mix_eq, zbind_eq]; rfl) (fun n j a hj => by
    show f_X10_digest_107 (n + 1) (nI j) (zL μ 0 27 a) = f_X10_digest_107 n (nI (j + 1)) (zL μ 0 27 _)
    rw [f_X10_digest_107, zL_1, h8, if_neg (nI_ge hj (by omega)), zck_t (zin_nI (by omega) (by decide)), nI_clamp (by omega), mix_eq, zbind_eq, zck_t (zin_nI (by omega) (by decide)), zL_1, mix_eq, zbind_eq, zck_t (zin_nI (by omega) (by decide)), zL_1, mix_eq, zbind_eq, zck_t (zin_nI (by omega) (by decide)), zL_1, mix_eq, zbind_eq, nI_1]) h
  rw [nI_0] at e
  exact ⟨_, e⟩
theorem m_mix3 {μ : Mem} {nb : Nat} {K W} (hM : MN μ nb K W) (h : Int64) : f_X10_digest_82 zFU 0 (zL μ 0 27 h) = f_X10_digest_107 zFU 0 (zL μ 0 27 (dg3 W h)) := by
  have e := loop0 (fun n (a : Int64) c => f_X10_digest_82 n c (zL μ 0 27 a)) (fun j (h : Int64) => 31 * h + (W j).toInt64) 12 (by decide) (fun a => f_X10_digest_107 zFU 0 (zL μ 0 27 a)) (fun n a => by
    show f_X10_digest_82 (n + 1) (nI 12) (zL μ 0 27 a) = _
    rw [f_X10_digest_82, if_pos (by decide)]) (fun n j a hj => by
    show f_X10_digest_82 (n + 1) (nI j) (zL μ 0 27 a) = f_X10_digest_82 n (nI (j + 1)) (zL μ 0 27 _)
    rw [f_X10_digest_82, zL_1, if_neg (lt12 hj), zck_t (zin_nI hj (by decide)), nI_clamp (by omega), hM.2.2.2 j hj, mix_eq, zbind_eq, nI_1]) h
  rw [nI_0] at e
  exact e
theorem m_mix2 {μ : Mem} {nb : Nat} {K W} (hM : MN μ nb K W) (h : Int64) : f_X10_digest_33 zFU 0 (zL μ 0 27 h) = f_X10_digest_82 zFU 0 (zL μ 0 27 (dg2 nb K (μ.1 3) (μ.1 4) h)) := by
  have h5 := hM.1
  have e := loop0 (fun n (a : Int64) c => f_X10_digest_33 n c (zL μ 0 27 a)) (fun b (h : Int64) => 31 * (31 * (31 * h + (nI (K b)).toInt64) + (μ.1 3 b).toInt64) + (μ.1 4 b).toInt64) nb (by omega) (fun a => f_X10_digest_82 zFU 0 (zL μ 0 27 a)) (fun n a => by
    show f_X10_digest_33 (n + 1) (nI nb) (zL μ 0 27 a) = _
    rw [f_X10_digest_33, zL_1, hM.2.1, if_pos (ile _)]) (fun n j a hj => by
    show f_X10_digest_33 (n + 1) (nI j) (zL μ 0 27 a) = f_X10_digest_33 n (nI (j + 1)) (zL μ 0 27 _)
    rw [f_X10_digest_33, zL_1, hM.2.1, if_neg (nI_ge hj (by omega)), zck_t (zin_nI (by omega) (by decide)), nI_clamp (by omega), (hM.2.2.1 j hj).2, mix_eq, zbind_eq, zck_t (zin_nI (by omega) (by decide)), zL_1, mix_eq, zbind_eq, zck_t (zin_nI (by omega) (by decide)), zL_1, mix_eq, zbind_eq, nI_1]) h
  rw [nI_0] at e
  exact e
theorem m_mix1 {μ : Mem} {nb nn nu tl : Nat} {K W} (hM : MN μ nb K W) (h8 : μ.1 0 2 = nI nn) (h9 : μ.1 0 19 = nI nu) (ht : μ.1 0 12 = nI tl) (h : Int64) : f_X10_digest_9 zFU 0 (zL μ 0 27 h) = f_X10_digest_33 zFU 0 (zL μ 0 27 (dg1 nb nn nu tl (μ.1 3) (μ.1 4) W h)) := by
  have e := loop0 (fun n (a : Int64) c => f_X10_digest_9 n c (zL μ 0 27 a)) (fun x (h : Int64) => 31 * h + (cntB nb nn nu tl (μ.1 3) (μ.1 4) W x).toInt64) 7 (by decide) (fun a => f_X10_digest_33 zFU 0 (zL μ 0 27 a)) (fun n a => by
    show f_X10_digest_9 (n + 1) (nI 7) (zL μ 0 27 a) = _
    rw [f_X10_digest_9, if_pos (by decide)]) (fun n j a hj => by
    show f_X10_digest_9 (n + 1) (nI j) (zL μ 0 27 a) = f_X10_digest_9 n (nI (j + 1)) (zL μ 0 27 _)
    have hc := m_count (μ := zL μ 0 27 a) (nb := nb) (nn := nn) (nu := nu) (tl := tl) (x := j) (K := K) (W := W) hM h8 h9 ht hj
    rw [f_X10_digest_9, if_neg (show ¬ (6 : Int32) < nI j from nI_nlt (a := 6) (b := j) (by omega) (by decide)), hc, zbind_eq, mix_eq, zbind_eq, nI_1]; rfl) h
  rw [nI_0] at e
  exact e
theorem Sp_digest_ok : Sp_digest Rel := by
  intro μC μM h
  obtain ⟨nb, nn, nu, K, W, hNR, hC, hM, hO, hJ, h6, h8, m8, hN⟩ := Rel_q h
  obtain ⟨-, -, -, ⟨tl, t1, t2, t3, -⟩, -, -, -, s4, s5⟩ := id h
  have h9 : μC.1 1 9 = nI nu := hNR.2.2.2.2.2.2.2.1
  have m9 : μM.1 0 19 = nI nu := hNR.2.2.2.2.2.2.2.2.1
  have e := loop0 (fun n a c => f_X9_digest_6 n a c μC) (fun x (h : Int64) => 31 * h + (cntB nb nn nu tl (μC.1 3) (μC.1 4) W x).toInt64) 7 (by decide) (fun a => zbind (f_X1_mixInto 1 a μC) (fun r2 μ1 => some ((((31 : Int64) * (((31 : Int64) * r2) + (μ1.2 0 6))) + (μ1.2 0 7)), μ1))) (fun n a => by
    show f_X9_digest_6 (n + 1) a (nI 7) μC = _
    rw [f_X9_digest_6, if_pos (by decide)]) (fun n j a hj => by
    show f_X9_digest_6 (n + 1) a (nI j) μC = f_X9_digest_6 n _ (nI (j + 1)) μC
    rw [f_X9_digest_6, if_neg (show ¬ (7 : Int32) ≤ nI j from nI_ge (b := 7) hj (by decide)), c_count hC h8 h9 t2 hj, zbind_eq, nI_1]) 1193
  rw [nI_0, c_mix hC h6 h8, zbind_eq] at e
  obtain ⟨h', e2⟩ := m_mix4 h6 m8 (dg3 W (dg2 nb K (μM.1 3) (μM.1 4) (dg1 nb nn nu tl (μM.1 3) (μM.1 4) W 1193)))
  refine ⟨_, μC, zL μM 0 27 h', by rw [f_X9_digest]; exact e, ?_, Rel_same (SameC.refl _) ⟨fun _ _ => rfl, fun _ _ => rfl, rfl, rfl, rfl, rfl, rfl, rfl⟩ h⟩
  rw [f_X10_digest, zlet_eq, m_mix1 hM m8 m9 t3, m_mix2 hM, m_mix3 hM, e2, s4, s5]
  have d1 : dg1 nb nn nu tl (μM.1 3) (μM.1 4) W 1193 = dg1 nb nn nu tl (μC.1 3) (μC.1 4) W 1193 := iter_congr 7 0 _ (fun i _ _ a => by rw [cntB_congr (fun b hb => (hJ b hb).1) (fun b hb => (hJ b hb).2)])
  have d2 : ∀ z, dg2 nb K (μM.1 3) (μM.1 4) z = dg2 nb K (μC.1 3) (μC.1 4) z := fun z => iter_congr nb 0 _ (fun i _ hi a => by rw [(hJ i (by omega)).1, (hJ i (by omega)).2])
  have d4 : ∀ z, dg4 nn (μM.1 6) (μM.1 7) (μM.1 8) (μM.1 9) z = dg4 nn (fun k => μC.1 6 (4 * k)) (fun k => μC.1 6 (4 * k + 1)) (fun k => μC.1 6 (4 * k + 2)) (fun k => μC.1 6 (4 * k + 3)) z := fun z => iter_congr nn 0 _ (fun i _ hi a => by
    obtain ⟨q1, q2, q3, q4⟩ := hN i (by omega)
    rw [q1, q2, q3, q4])
  rw [d1, d2, d4]; rfl
