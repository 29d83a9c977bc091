/-! ===== pieces: the class searches, the reference goes through the lines ===== -/
def peE (nb kd : Nat) : Nat → Nat → Int32 → Nat
  | 0, _, _ => 13
  | d + 1, x, s => if fairB nb kd s = true then x else peE nb kd d (x + 1) (s ||| bit x)
def pe (nb kd p : Nat) : Nat := peE nb kd (13 - p) p 0
theorem peE_le (nb kd : Nat) : ∀ (d x : Nat) (s : Int32), x + d = 13 → peE nb kd d x s ≤ 13
  | 0, _, _, _ => Nat.le_refl _
  | d + 1, x, s, h => by
    show (if fairB nb kd s = true then x else peE nb kd d (x + 1) (s ||| bit x)) ≤ 13
    by_cases q : fairB nb kd s = true
    · rw [if_pos q]; omega
    · rw [if_neg q]; exact peE_le nb kd d (x + 1) _ (by omega)
theorem pe_le (nb kd : Nat) {p : Nat} (h : p ≤ 13) : pe nb kd p ≤ 13 := peE_le nb kd _ _ _ (by omega)
theorem c_pe {μ : Mem} {nb b p : Nat} {K W} (h : CN μ 1 nb K W) (hb : b < nb) (hp : p ≤ 12) : f_X2_endOfPiece 1 (nI b) (nI p) μ = some (if pe nb (K b) p = 13 then -1 else nI (pe nb (K b) p), μ) := by
  rw [f_X2_endOfPiece]
  have e : ∀ (d x n : Nat) (s : Int32), x + d = 13 → d < n → f_X2_endOfPiece_5 1 n (nI b) s (nI x) μ = some (if peE nb (K b) d x s = 13 then -1 else nI (peE nb (K b) d x s), μ) := by
    intro d
    induction d with
    | zero =>
      intro x n s h1 h2
      obtain ⟨n, rfl⟩ : ∃ q, n = q + 1 := ⟨n - 1, by omega⟩
      obtain rfl : x = 13 := by omega
      rw [f_X2_endOfPiece_5, if_pos (by decide)]; rfl
    | succ d ih =>
      intro x n s h1 h2
      obtain ⟨n, rfl⟩ : ∃ q, n = q + 1 := ⟨n - 1, by omega⟩
      rw [f_X2_endOfPiece_5, if_neg (show ¬ (12 : Int32) < nI x from nI_nlt (a := 12) (by omega) (by decide)), c_fair h hb, zbind_eq, nI_1]
      show _ = some (if (if fairB nb (K b) s = true then x else peE nb (K b) d (x + 1) (s ||| bit x)) = 13 then -1 else nI (if fairB nb (K b) s = true then x else peE nb (K b) d (x + 1) (s ||| bit x)), μ)
      cases fairB nb (K b) s
      · rw [if_pos bIf, if_neg Bool.false_ne_true]
        exact ih (x + 1) n (s ||| bit x) (by omega) (by omega)
      · rw [if_neg bIt, if_pos rfl, if_neg (by omega)]
  exact e (13 - p) p zFU 0 (by omega) (zFU_lt (by omega))
theorem m_pe {μ : Mem} {nb b p : Nat} {K W} (h : MN μ nb K W) (hb : b < nb) (hp : p ≤ 12) : f_X10_pieceEnd (nI b) (nI p) μ = some (nI (pe nb (K b) p), μ) := by
  rw [f_X10_pieceEnd]
  have e : ∀ (d x n : Nat) (s : Int32), x + d = 13 → d < n → f_X10_pieceEnd_5 n (nI b) s (nI x) μ = some (nI (peE nb (K b) d x s), μ) := by
    intro d
    induction d with
    | zero =>
      intro x n s h1 h2
      obtain ⟨n, rfl⟩ : ∃ q, n = q + 1 := ⟨n - 1, by omega⟩
      obtain rfl : x = 13 := by omega
      rw [f_X10_pieceEnd_5, if_pos (by decide)]; rfl
    | succ d ih =>
      intro x n s h1 h2
      obtain ⟨n, rfl⟩ : ∃ q, n = q + 1 := ⟨n - 1, by omega⟩
      rw [f_X10_pieceEnd_5, if_neg (show ¬ (12 : Int32) < nI x from nI_nlt (a := 12) (by omega) (by decide)), m_fair h hb, zbind_eq, nI_1]
      show _ = some (nI (if fairB nb (K b) s = true then x else peE nb (K b) d (x + 1) (s ||| bit x)), μ)
      cases fairB nb (K b) s
      · rw [if_pos bIf, if_neg Bool.false_ne_true]
        by_cases q : x = 12
        · subst q
          obtain rfl : d = 0 := by omega
          rw [if_pos (by decide), ih 13 n _ (by omega) (by omega)]; rfl
        · rw [if_neg (lt12 (by omega))]
          exact ih (x + 1) n (s ||| bit x) (by omega) (by omega)
      · rw [if_neg bIt, if_pos rfl]
  exact e (13 - p) p zFU 0 (by omega) (zFU_lt (by omega))
def tot (nb : Nat) (K : Nat → Nat) (l : List Nat) (p : Nat) : Nat := l.foldl (fun p b => if 12 < p then p else pe nb (K b) p) p
theorem tot_app (nb : Nat) (K : Nat → Nat) (a b : List Nat) (p : Nat) : tot nb K (a ++ b) p = tot nb K b (tot nb K a p) := List.foldl_append ..
theorem tot_le (nb : Nat) (K : Nat → Nat) : ∀ (l : List Nat) (p : Nat), p ≤ 13 → tot nb K l p ≤ 13
  | [], _, h => h
  | b :: l, p, h => by
    show tot nb K l (if 12 < p then p else pe nb (K b) p) ≤ 13
    by_cases q : 12 < p
    · rw [if_pos q]; exact tot_le nb K l p h
    · rw [if_neg q]; exact tot_le nb K l _ (pe_le nb _ h)
theorem tot_13 (nb : Nat) (K : Nat → Nat) : ∀ (l : List Nat), tot nb K l 13 = 13
  | [] => rfl
  | b :: l => by
    show tot nb K l (if 12 < 13 then 13 else pe nb (K b) 13) = 13
    rw [if_pos (by decide)]; exact tot_13 nb K l
def gst (nb : Nat) (K : Nat → Nat) (st : Nat × List Nat) (l : List Nat) : Nat × List Nat := if tot nb K l 0 < st.1 then (tot nb K l 0, l) else st
theorem gst_le (nb : Nat) (K : Nat → Nat) (st : Nat × List Nat) (l : List Nat) (h : st.1 ≤ 13) : (gst nb K st l).1 ≤ 13 := by
  unfold gst
  by_cases q : tot nb K l 0 < st.1
  · rw [if_pos q]; exact tot_le nb K l 0 (by omega)
  · rw [if_neg q]; exact h
theorem fold_le (nb : Nat) (K : Nat → Nat) : ∀ (L : List (List Nat)) (st : Nat × List Nat), st.1 ≤ 13 → (L.foldl (gst nb K) st).1 ≤ 13
  | [], _, h => h
  | l :: L, st, h => fold_le nb K L _ (gst_le nb K st l h)
theorem fold_13 (nb : Nat) (K : Nat → Nat) : ∀ (L : List (List Nat)) (st : Nat × List Nat), st.1 ≤ 13 → (∀ l, l ∈ L → tot nb K l 0 = 13) → L.foldl (gst nb K) st = st
  | [], _, _, _ => rfl
  | l :: L, st, h, hl => by
    show L.foldl (gst nb K) (gst nb K st l) = st
    have e : gst nb K st l = st := by
      unfold gst
      rw [hl l (List.mem_cons_self ..), if_neg (by omega)]
    rw [e]
    exact fold_13 nb K L st h (fun x hx => hl x (List.mem_cons_of_mem _ hx))
def compB (f : Nat → List (List Nat)) : Nat → Nat → List (List Nat)
  | _, 0 => []
  | b, k + 1 => f b ++ compB f (b + 1) k
def comp (nb : Nat) : Nat → List Nat → List (List Nat)
  | 0, pre => [pre]
  | r + 1, pre => compB (fun b => if pre.contains b = true then [] else comp nb r (pre ++ [b])) 0 nb
theorem compB_mem {f : Nat → List (List Nat)} {l : List Nat} : ∀ (k b : Nat), l ∈ compB f b k → ∃ c, b ≤ c ∧ c < b + k ∧ l ∈ f c
  | 0, _, h => absurd h (by intro q; cases q)
  | k + 1, b, h => by
    have h : l ∈ f b ++ compB f (b + 1) k := h
    rcases List.mem_append.mp h with q | q
    · exact ⟨b, by omega, by omega, q⟩
    · obtain ⟨c, c1, c2, c3⟩ := compB_mem k (b + 1) q
      exact ⟨c, by omega, by omega, c3⟩
theorem comp_mem (nb : Nat) {l : List Nat} : ∀ (r : Nat) (pre : List Nat), l ∈ comp nb r pre → ∃ x : List Nat, l = pre ++ x
  | 0, pre, h => ⟨[], by rw [List.append_nil]; exact List.mem_singleton.mp h⟩
  | r + 1, pre, h => by
    obtain ⟨c, -, -, hc⟩ := compB_mem nb 0 h
    by_cases q : pre.contains c = true
    · rw [if_pos q] at hc; cases hc
    · rw [if_neg q] at hc
      obtain ⟨x, rfl⟩ := comp_mem nb r _ hc
      exact ⟨c :: x, by rw [List.append_assoc]; rfl⟩
def StC (nb : Nat) (μ : Mem) (st : Nat × List Nat) : Prop := st.1 ≤ 13 ∧ μ.1 38 2 = (if st.1 = 13 then -1 else nI st.1) ∧ (st.1 ≠ 13 → ∀ i, i < nb → μ.1 40 i = nI (st.2.getD i 0))
def PreC (μ : Mem) (pre : List Nat) : Prop := ∀ i, i < pre.length → μ.1 39 i = nI (pre.getD i 0)
def Fr3 (μ μ' : Mem) : Prop := (∀ a, a ≠ 38 → a ≠ 39 → a ≠ 40 → μ'.1 a = μ.1 a) ∧ μ'.2 = μ.2
theorem CN_fr {μ μ' : Mem} {nb : Nat} {K W} (h : CN μ 1 nb K W) (f : Fr3 μ μ') : CN μ' 1 nb K W :=
  ⟨h.1, by rw [f.1 1 (by decide) (by decide) (by decide)]; exact h.2.1, fun b hb => by rw [f.1 (1 + 1) (by decide) (by decide) (by decide)]; exact h.2.2.1 b hb, fun j hj => by rw [f.1 (1 + 4) (by decide) (by decide) (by decide)]; exact h.2.2.2 j hj⟩
theorem c_keep {nb : Nat} {K : Nat → Nat} {st : Nat × List Nat} {pre : List Nat} {p : Nat} {μ : Mem} (h5 : nb ≤ 5) (hl : pre.length = nb) (ht : tot nb K pre 0 = p) (hp : p ≤ 12) (hS : StC nb μ st) (hP : PreC μ pre) : ∃ μ', f_X2_keepIfFewer (nI p) μ = some ((), μ') ∧ StC nb μ' (gst nb K st pre) ∧ PreC μ' pre ∧ Fr3 μ μ' := by
  obtain ⟨s1, s2, s3⟩ := hS
  have keep : ∃ μ', f_X2_keepIfFewer_17 (nI p) μ = some ((), μ') ∧ StC nb μ' (p, pre) ∧ PreC μ' pre ∧ Fr3 μ μ' := by
    rw [f_X2_keepIfFewer_17, zlet_eq, zck_t (by decide), zlet_eq]
    obtain ⟨a1, b1, c1, d1⟩ := st1 μ 38 2 (nI p)
    generalize zI μ 38 2 (nI p) = μ1 at a1 b1 c1 d1 ⊢
    obtain ⟨a2, b2, c2⟩ := cp1 μ1 40 39 5
    generalize zA μ1 40 _ = μ2 at a2 b2 c2 ⊢
    refine ⟨μ2, rfl, ⟨by show p ≤ 13; omega, ?_, fun _ i hi => ?_⟩, fun i hi => ?_, fun a h1 h2 h3 => by rw [a2 a h3, a1 a h1], by rw [b2, b1]⟩
    · show μ2.1 38 2 = if p = 13 then -1 else nI p
      rw [if_neg (by omega), a2 38 (by decide), d1]
    · rw [c2 i (show i < 5 by omega), a1 39 (by decide)]
      exact hP i (by omega)
    · rw [a2 39 (by decide), a1 39 (by decide)]
      exact hP i hi
  rw [f_X2_keepIfFewer, s2]
  unfold gst
  rw [ht]
  by_cases q : st.1 = 13
  · rw [if_pos q, if_pos rfl, if_pos (by omega)]
    exact keep
  · rw [if_neg q, if_neg (nI_ne_m1 (by omega))]
    by_cases q2 : p < st.1
    · rw [if_pos (nI_lt q2 (by omega)), if_pos q2]
      exact keep
    · rw [if_neg (nI_nlt (by omega) (by omega)), if_neg q2]
      exact ⟨μ, rfl, ⟨s1, s2, s3⟩, hP, fun _ _ _ _ => rfl, rfl⟩
theorem c_dfs {nb : Nat} {K : Nat → Nat} {W : Nat → Int32} : ∀ (r s : Nat) (pre : List Nat) (m : Int32) (p : Nat) (st : Nat × List Nat) (μ : Mem), r ≤ s → pre.length + r = nb → (∀ j, j < nb → hb m j = pre.contains j) → tot nb K pre 0 = p → p ≤ 12 → CN μ 1 nb K W → StC nb μ st → PreC μ pre → ∃ μ', f_X2_search_9 (f_X2_search s) 1 (nI pre.length) m (nI p) μ = some ((), μ') ∧ StC nb μ' ((comp nb r pre).foldl (gst nb K) st) ∧ PreC μ' pre ∧ Fr3 μ μ' := by
  intro r
  induction r with
  | zero =>
    intro s pre m p st μ hs hl hm ht hp hC hS hP
    have h5 := hC.1
    obtain ⟨μ', k1, k2, k3, k4⟩ := c_keep h5 (show pre.length = nb by omega) ht hp hS hP
    rw [f_X2_search_9, hC.2.1, show pre.length = nb by omega, if_pos (ile _), k1, zbind_eq]
    exact ⟨μ', rfl, k2, k3, k4⟩
  | succ r ih =>
    intro s pre m p st μ hs hl hm ht hp hC hS hP
    have h5 := hC.1
    obtain ⟨s, rfl⟩ : ∃ q, s = q + 1 := ⟨s - 1, by omega⟩
    have hd : pre.length < nb := by omega
    rw [f_X2_search_9, hC.2.1, if_neg (nI_ge hd (by omega)), if_pos (show nI pre.length < 5 from nI_lt (b := 5) (by omega) (by decide))]
    have loop : ∀ (k b n : Nat) (st : Nat × List Nat) (μ : Mem), b + k = nb → k < n → CN μ 1 nb K W → StC nb μ st → PreC μ pre → ∃ μ', f_X2_search_32 (f_X2_search (s + 1)) 1 n (nI pre.length) m (nI p) (nI b) μ = some ((), μ') ∧ StC nb μ' ((compB (fun b => if pre.contains b = true then [] else comp nb r (pre ++ [b])) b k).foldl (gst nb K) st) ∧ PreC μ' pre ∧ Fr3 μ μ' := by
      intro k
      induction k with
      | zero =>
        intro b n st μ h1 h2 hC hS hP
        obtain ⟨n, rfl⟩ : ∃ q, n = q + 1 := ⟨n - 1, by omega⟩
        rw [f_X2_search_32, hC.2.1, show b = nb by omega, if_pos (ile _)]
        exact ⟨μ, rfl, hS, hP, fun _ _ _ _ => rfl, rfl⟩
      | succ k ihk =>
        intro b n st μ h1 h2 hC hS hP
        obtain ⟨n, rfl⟩ : ∃ q, n = q + 1 := ⟨n - 1, by omega⟩
        have hb : b < nb := by omega
        rw [f_X2_search_32, hC.2.1, if_neg (nI_ge hb (by omega)), has_eq m (by omega), zbind_eq, hm b hb, nI_1]
        show ∃ μ', _ ∧ StC nb μ' (((if pre.contains b = true then [] else comp nb r (pre ++ [b])) ++ compB (fun b => if pre.contains b = true then [] else comp nb r (pre ++ [b])) (b + 1) k).foldl (gst nb K) st) ∧ _
        rw [List.foldl_append]
        cases hc : pre.contains b
        · rw [if_pos bIf, if_neg Bool.false_ne_true, c_pe hC hb hp, zbind_eq, nI_1]
          have hte : tot nb K (pre ++ [b]) 0 = pe nb (K b) p := by
            rw [tot_app, ht]
            show (if 12 < p then p else pe nb (K b) p) = _
            rw [if_neg (by omega)]
          have hle := pe_le nb (K b) (show p ≤ 13 by omega)
          by_cases q : pe nb (K b) p = 13
          · rw [if_pos q, if_pos rfl]
            have e := fold_13 nb K (comp nb r (pre ++ [b])) st hS.1 (fun l hl => by
              obtain ⟨x, rfl⟩ := comp_mem nb r _ hl
              rw [tot_app, hte, q, tot_13])
            rw [e]
            exact ihk (b + 1) n st μ (by omega) (by omega) hC hS hP
          · rw [if_neg q, if_neg (nI_ne_m1 (by omega)), zck_t (zin_nI (by omega) (by decide)), zlet_eq, nI_clamp (by omega)]
            obtain ⟨a1, b1, c1, d1⟩ := st1 μ 39 pre.length (nI b)
            generalize zI μ 39 pre.length (nI b) = μ1 at a1 b1 c1 d1 ⊢
            have f1 : Fr3 μ μ1 := ⟨fun a _ h2 _ => a1 a h2, b1⟩
            have hl1 : (pre ++ [b]).length = pre.length + 1 := by rw [List.length_append]; rfl
            have hP1 : PreC μ1 (pre ++ [b]) := by
              intro i hi
              rw [hl1] at hi
              by_cases z : i = pre.length
              · subst z
                rw [d1]
                simp [List.getD]
              · rw [c1 i z, hP i (by omega)]
                simp [List.getD, List.getElem?_append_left (show i < pre.length by omega)]
            obtain ⟨μ2, g1, g2, g3, g4⟩ := ih s (pre ++ [b]) (m ||| bit b) (pe nb (K b) p) st μ1 (by omega) (by rw [hl1]; omega) (fun j hj => by
              rw [hb_or _ _ (by omega), hm j hj, hb_one (by omega) (by omega)]
              simp [List.contains_append, Bool.beq_eq_decide_eq, eq_comm]) hte (by omega) (CN_fr hC f1) ⟨hS.1, by rw [a1 38 (by decide)]; exact hS.2.1, fun z i hi => by rw [a1 40 (by decide)]; exact hS.2.2 z i hi⟩ hP1
            rw [hl1] at g1
            rw [f_X2_search, if_neg (nI_ne0 (by omega) (by omega))]
            have g1 : f_X2_search_9 (f_X2_search s) 1 (nI (pre.length + 1)) (m ||| (1 : Int32) <<< (nI b &&& 31)) (nI (pe nb (K b) p)) μ1 = some ((), μ2) := g1
            rw [g1, zbind_eq]
            obtain ⟨μ3, k1, k2, k3, k4⟩ := ihk (b + 1) n _ μ2 (by omega) (by omega) (CN_fr (CN_fr hC f1) g4) g2 (fun i hi => by
              rw [g3 i (by rw [hl1]; omega)]
              simp [List.getD, List.getElem?_append_left hi])
            exact ⟨μ3, k1, k2, k3, fun a h1 h2 h3 => by rw [k4.1 a h1 h2 h3, g4.1 a h1 h2 h3, f1.1 a h1 h2 h3], by rw [k4.2, g4.2, f1.2]⟩
        · rw [if_neg bIt, if_pos rfl]
          exact ihk (b + 1) n st μ (by omega) (by omega) hC hS hP
    have := loop nb 0 zFU st μ (by omega) (zFU_lt (by omega)) hC hS hP
    rw [nI_0] at this
    exact this
theorem c_search {nb : Nat} {K : Nat → Nat} {W : Nat → Int32} {μ : Mem} (hC : CN μ 1 nb K W) : ∃ μ', f_X2_search zSD 1 0 0 0 μ = some ((), μ') ∧ StC nb μ' ((comp nb nb []).foldl (gst nb K) (13, [])) ∧ Fr3 μ μ' := by
  have h5 := hC.1
  obtain ⟨s, hs⟩ : ∃ s, zSD = s + 1 := ⟨6, zSD_eq⟩
  have hs6 : s = 6 := by have := zSD_eq; omega
  rw [hs, f_X2_search, if_pos rfl, zlet_eq]
  obtain ⟨a1, b1, c1, d1⟩ := st1 μ 38 2 (-1)
  generalize zI μ 38 2 (-1) = μ1 at a1 b1 c1 d1 ⊢
  have f1 : Fr3 μ μ1 := ⟨fun a h1 _ _ => a1 a h1, b1⟩
  obtain ⟨μ2, g1, g2, -, g4⟩ := c_dfs (K := K) (W := W) nb s [] 0 0 (13, []) μ1 (by omega) (by rw [List.length_nil]; omega) (fun j hj => by rw [hb_zero (by omega)]; rfl) rfl (by omega) (CN_fr hC f1) ⟨Nat.le_refl _, by rw [d1]; rfl, fun z => absurd rfl z⟩ (fun i hi => absurd hi (Nat.not_lt_zero _))
  refine ⟨μ2, ?_, g2, fun a h1 h2 h3 => by rw [g4.1 a h1 h2 h3, f1.1 a h1 h2 h3], by rw [g4.2, f1.2]⟩
  exact g1
