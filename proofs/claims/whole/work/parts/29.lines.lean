/-! ===== pieces: the reference's lines ===== -/
def LineM (μ : Mem) (l : List Int32) : Prop := ∀ i, i < l.length → μ.1 14 i = l.getD i 0
def FrL (μ μ' : Mem) : Prop := (∀ a, a ≠ 14 → μ'.1 a = μ.1 a) ∧ μ'.2 = μ.2
def swapL (l : List Int32) (i j : Nat) : List Int32 := (l.set i (l.getD j 0)).set j (l.getD i 0)
theorem swapL_len (l : List Int32) (i j : Nat) : (swapL l i j).length = l.length := by simp [swapL]
theorem swapL_get (l : List Int32) {i j k : Nat} (hi : i < l.length) (hj : j < l.length) : (swapL l i j).getD k 0 = if k = j then l.getD i 0 else if k = i then l.getD j 0 else l.getD k 0 := by
  unfold swapL
  rw [List.getD_eq_getElem?_getD, List.getElem?_set, List.getElem?_set]
  by_cases q : j = k
  · subst q
    rw [if_pos rfl, if_pos (by simpa using hj), if_pos rfl]; rfl
  · rw [if_neg q]
    by_cases q2 : i = k
    · subst q2
      rw [if_pos rfl, if_pos hi, if_neg (show ¬ i = j from fun e => q e.symm), if_pos rfl]; rfl
    · rw [if_neg q2, if_neg (show ¬ k = j from fun e => q e.symm), if_neg (show ¬ k = i from fun e => q2 e.symm), List.getD_eq_getElem?_getD]
theorem zin_lt {x : Int32} {n : Nat} (h : zin x n = true) : x.toNatClampNeg < n := by
  have h := zin_s h
  have h : ¬ (x < 0 ∨ n ≤ x.toNatClampNeg) := h
  exact Nat.not_le.mp (fun q => h (Or.inr q))
theorem zin_le {x : Int32} {n m : Nat} (h : zin x n = true) (hm : n ≤ m) : zin x m = true := by
  have h0 := zin_lt h
  have h := zin_s h
  have h : ¬ (x < 0 ∨ n ≤ x.toNatClampNeg) := h
  exact decide_eq_true (show ¬ (x < 0 ∨ m ≤ x.toNatClampNeg) from fun q => q.elim (fun z => h (Or.inl z)) (fun z => by omega))
theorem swap_line {μ : Mem} {l : List Int32} {i j : Nat} (h : LineM μ l) (hi : i < l.length) (hj : j < l.length) : LineM (zI (zI μ 14 i (μ.1 14 j)) 14 j (μ.1 14 i)) (swapL l i j) ∧ FrL μ (zI (zI μ 14 i (μ.1 14 j)) 14 j (μ.1 14 i)) := by
  obtain ⟨e1, e2, e3⟩ := chg_at μ 14 i j (μ.1 14 j) (μ.1 14 i)
  refine ⟨fun k hk => ?_, e1, e2⟩
  rw [swapL_len] at hk
  rw [e3 k, swapL_get l hi hj, h i hi, h j hj, h k hk]
def nl107 : Nat → Int32 → Int32 → List Int32 → Option (List Int32)
  | 0, _, _, _ => none
  | n + 1, x, y, l => if y ≤ x then some l else if zin x l.length = true then (if zin y l.length = true then nl107 n (x + 1) (y + -1) (swapL l x.toNatClampNeg y.toNatClampNeg) else none) else none
theorem nl107_f (m : Nat) {l' : List Int32} : ∀ (n : Nat) (x y : Int32) (l : List Int32) (μ : Mem), l.length ≤ 5 → nl107 n x y l = some l' → LineM μ l → ∃ μ', f_X10_nextLine_107 (n + m) x y μ = some (1, μ') ∧ LineM μ' l' ∧ l'.length = l.length ∧ FrL μ μ'
  | 0, _, _, _, _, _, h, _ => absurd h (by intro q; cases q)
  | n + 1, x, y, l, μ, h5, h, hL => by
    rw [show n + 1 + m = (n + m) + 1 by omega, f_X10_nextLine_107]
    rw [nl107] at h
    by_cases q : y ≤ x
    · rw [if_pos q] at h ⊢
      cases h
      exact ⟨μ, rfl, hL, rfl, fun _ _ => rfl, rfl⟩
    · rw [if_neg q] at h ⊢
      by_cases qx : zin x l.length = true
      · rw [if_pos qx] at h
        by_cases qy : zin y l.length = true
        · rw [if_pos qy] at h
          rw [zck_t (zin_le qx h5), zck_t (zin_le qy h5), zck_t (zin_le qx h5), zlet_eq, zck_t (zin_le qy h5), zlet_eq]
          obtain ⟨s1, s2⟩ := swap_line hL (zin_lt qx) (zin_lt qy)
          obtain ⟨μ', e1, e2, e3, e4⟩ := nl107_f m n _ _ _ _ (by rw [swapL_len]; exact h5) h s1
          exact ⟨μ', e1, e2, by rw [e3, swapL_len], fun a ha => (e4.1 a ha).trans (s2.1 a ha), e4.2.trans s2.2⟩
        · rw [if_neg qy] at h; cases h
      · rw [if_neg qx] at h; cases h
def nl47 : Nat → Int32 → Int32 → List Int32 → Option (List Int32)
  | 0, _, _, _ => none
  | n + 1, x, y, l => if zin y l.length = true then (if zin x l.length = true then (if l.getD x.toNatClampNeg 0 ≤ l.getD y.toNatClampNeg 0 then nl107 9 (x + 1) (nI l.length - 1) (swapL l x.toNatClampNeg y.toNatClampNeg) else nl47 n x (y + -1) l) else none) else none
theorem nl47_f (m : Nat) {l' : List Int32} : ∀ (n : Nat) (x y : Int32) (l : List Int32) (μ : Mem), l.length ≤ 5 → μ.1 0 1 = nI l.length → nl47 n x y l = some l' → LineM μ l → ∃ μ', f_X10_nextLine_47 (n + m) x y μ = some (1, μ') ∧ LineM μ' l' ∧ l'.length = l.length ∧ FrL μ μ'
  | 0, _, _, _, _, _, _, h, _ => absurd h (by intro q; cases q)
  | n + 1, x, y, l, μ, h5, hn, h, hL => by
    rw [show n + 1 + m = (n + m) + 1 by omega, f_X10_nextLine_47]
    rw [nl47] at h
    by_cases qy : zin y l.length = true
    · rw [if_pos qy] at h
      by_cases qx : zin x l.length = true
      · rw [if_pos qx] at h
        rw [zck_t (zin_le qy h5), zck_t (zin_le qx h5), hL _ (zin_lt qx), hL _ (zin_lt qy)]
        by_cases q : l.getD x.toNatClampNeg 0 ≤ l.getD y.toNatClampNeg 0
        · rw [if_pos q] at h ⊢
          rw [zck_t (zin_le qx h5), zck_t (zin_le qy h5), zck_t (zin_le qx h5), zlet_eq, zck_t (zin_le qy h5), zlet_eq, ← hL _ (zin_lt qx), ← hL _ (zin_lt qy)]
          obtain ⟨s1, s2⟩ := swap_line hL (zin_lt qx) (zin_lt qy)
          obtain ⟨μ', e1, e2, e3, e4⟩ := nl107_f (zFU - 9) 9 _ _ _ _ (by rw [swapL_len]; exact h5) h s1
          rw [show 9 + (zFU - 9) = zFU by rw [zFU_eq]] at e1
          refine ⟨μ', ?_, e2, by rw [e3, swapL_len], fun a ha => (e4.1 a ha).trans (s2.1 a ha), e4.2.trans s2.2⟩
          rw [s2.1 0 (by decide), hn]
          exact e1
        · rw [if_neg q] at h ⊢
          exact nl47_f m n _ _ _ _ h5 hn h hL
      · rw [if_neg qx] at h; cases h
    · rw [if_neg qy] at h; cases h
def nl34 (x : Int32) (l : List Int32) : Option (Option (List Int32)) := if 0 ≤ x then (nl47 9 x (nI l.length - 1) l).map some else some none
/-- what a step of the lines gives -/
def Step (μ : Mem) (l : List Int32) (z : Option (Int32 × Mem)) (o : Option (List Int32)) : Prop := match o with
  | none => z = some (0, μ)
  | some l' => ∃ μ', z = some (1, μ') ∧ LineM μ' l' ∧ l'.length = l.length ∧ FrL μ μ'
theorem nl34_f {x : Int32} {l : List Int32} {μ : Mem} {o : Option (List Int32)} (h5 : l.length ≤ 5) (hn : μ.1 0 1 = nI l.length) (h : nl34 x l = some o) (hL : LineM μ l) : Step μ l (f_X10_nextLine_34 x μ) o := by
  rw [f_X10_nextLine_34, hn]
  unfold nl34 at h
  by_cases q : 0 ≤ x
  · rw [if_pos q] at h ⊢
    cases hc : nl47 9 x (nI l.length - 1) l with
    | none => rw [hc] at h; cases h
    | some l' =>
      rw [hc] at h
      cases h
      obtain ⟨μ', e1, e2⟩ := nl47_f (zFU - 9) 9 _ _ _ _ h5 hn hc hL
      rw [show 9 + (zFU - 9) = zFU by rw [zFU_eq]] at e1
      exact ⟨μ', e1, e2⟩
  · rw [if_neg q] at h ⊢
    cases h
    rfl
def nl7 : Nat → Int32 → List Int32 → Option (Option (List Int32))
  | 0, _, _ => none
  | n + 1, x, l => if x < 0 then nl34 x l else if zin x l.length = true then (if zin (x + 1) l.length = true then (if l.getD x.toNatClampNeg 0 ≤ l.getD (x + 1).toNatClampNeg 0 then nl34 x l else nl7 n (x + -1) l) else none) else none
theorem nl7_f (m : Nat) {l : List Int32} {μ : Mem} {o : Option (List Int32)} (h5 : l.length ≤ 5) (hn : μ.1 0 1 = nI l.length) (hL : LineM μ l) : ∀ (n : Nat) (x : Int32), nl7 n x l = some o → Step μ l (f_X10_nextLine_7 (n + m) x μ) o
  | 0, _, h => absurd h (by intro q; cases q)
  | n + 1, x, h => by
    rw [show n + 1 + m = (n + m) + 1 by omega, f_X10_nextLine_7]
    rw [nl7] at h
    by_cases q : x < 0
    · rw [if_pos q] at h ⊢
      exact nl34_f h5 hn h hL
    · rw [if_neg q] at h ⊢
      by_cases qx : zin x l.length = true
      · rw [if_pos qx] at h
        by_cases qy : zin (x + 1) l.length = true
        · rw [if_pos qy] at h
          rw [zck_t (zin_le qx h5), zck_t (zin_le qy h5), hL _ (zin_lt qx), hL _ (zin_lt qy)]
          by_cases q2 : l.getD x.toNatClampNeg 0 ≤ l.getD (x + 1).toNatClampNeg 0
          · rw [if_pos q2] at h ⊢
            exact nl34_f h5 hn h hL
          · rw [if_neg q2] at h ⊢
            exact nl7_f m h5 hn hL n _ h
        · rw [if_neg qy] at h; cases h
      · rw [if_neg qx] at h; cases h
def nlx (l : List Int32) : Option (Option (List Int32)) := nl7 9 (nI l.length - 2) l
theorem nlx_f {l : List Int32} {μ : Mem} {o : Option (List Int32)} (h5 : l.length ≤ 5) (hn : μ.1 0 1 = nI l.length) (hL : LineM μ l) (h : nlx l = some o) : Step μ l (f_X10_nextLine μ) o := by
  have e := nl7_f (zFU - 9) h5 hn hL 9 _ h
  rw [show 9 + (zFU - 9) = zFU by rw [zFU_eq]] at e
  rw [f_X10_nextLine, hn]
  exact e
def chain : List (List Int32) → Bool
  | [] => false
  | [l] => decide (nlx l = some none)
  | l :: l' :: r => decide (nlx l = some (some l')) && chain (l' :: r)
theorem m_tot {μ : Mem} {nb : Nat} {K W} {l : List Nat} (h : MN μ nb K W) (hl : l.length = nb) (hb : ∀ b, b ∈ l → b < nb) (hL : LineM μ (l.map nI)) : f_X10_takenBy μ = some (nI (tot nb K l 0), μ) := by
  have h5 := h.1
  rw [f_X10_takenBy]
  have e : ∀ (r : List Nat) (j n p : Nat), l.drop j = r → j + r.length = nb → r.length < n → p ≤ 13 → f_X10_takenBy_4 n (nI p) (nI j) μ = some (nI (tot nb K r p), μ) := by
    intro r
    induction r with
    | nil =>
      intro j n p h1 h2 h3 hp
      obtain ⟨n, rfl⟩ : ∃ q, n = q + 1 := ⟨n - 1, by rw [List.length_nil] at h3; omega⟩
      rw [List.length_nil] at h2
      rw [f_X10_takenBy_4, h.2.1, show j = nb by omega, if_pos (ile _)]; rfl
    | cons b r ih =>
      intro j n p h1 h2 h3 hp
      rw [List.length_cons] at h2 h3
      obtain ⟨n, rfl⟩ : ∃ q, n = q + 1 := ⟨n - 1, by omega⟩
      have hj : j < nb := by omega
      rw [f_X10_takenBy_4, h.2.1, if_neg (nI_ge hj (by omega))]
      by_cases q : p = 13
      · subst q
        rw [if_pos (by decide), tot_13]
      · rw [if_neg (show ¬ (12 : Int32) < nI p from nI_nlt (a := 12) (by omega) (by decide)), zck_t (zin_nI (by omega) (by decide)), nI_clamp (by omega)]
        have hjl : j < l.length := by omega
        have e1 : l[j]? = some b := by
          have := congrArg (fun z => z[0]?) h1
          simpa [List.getElem?_drop] using this
        have hbl : b ∈ l := List.mem_of_getElem? e1
        have e2 : μ.1 14 j = nI b := by
          rw [hL j (by rw [List.length_map]; exact hjl), List.getD_eq_getElem?_getD, List.getElem?_map, e1]; rfl
        rw [e2, m_pe h (hb b hbl) (by omega), zbind_eq, nI_1, ih (j + 1) n _ (by rw [← List.drop_drop, h1]; rfl) (by omega) (by omega) (pe_le nb _ hp)]
        show _ = some (nI (tot nb K r (if 12 < p then p else pe nb (K b) p)), μ)
        rw [if_neg (by omega)]
  have := e l 0 zFU 0 rfl (by omega) (zFU_lt (by omega)) (by omega)
  rw [nI_0] at this
  exact this
def StM (nb : Nat) (μ : Mem) (st : Nat × List Nat) : Prop := st.1 ≤ 13 ∧ (st.1 ≠ 13 → ∀ i, i < nb → μ.1 15 i = nI (st.2.getD i 0))
def FrM (μ μ' : Mem) : Prop := (∀ a, a ≠ 14 → a ≠ 15 → μ'.1 a = μ.1 a) ∧ μ'.2 = μ.2
theorem MN_fr {μ μ' : Mem} {nb : Nat} {K W} (h : MN μ nb K W) (f : FrM μ μ') : MN μ' nb K W :=
  ⟨h.1, by rw [f.1 0 (by decide) (by decide)]; exact h.2.1, fun b hb => by rw [f.1 2 (by decide) (by decide)]; exact h.2.2.1 b hb, fun j hj => by rw [f.1 5 (by decide) (by decide)]; exact h.2.2.2 j hj⟩
theorem m_one {nb n : Nat} {K : Nat → Nat} {W : Nat → Int32} {x1 : Int32} {l : List Nat} {st : Nat × List Nat} {μ : Mem} (h : MN μ nb K W) (hl : l.length = nb) (hb : ∀ b, b ∈ l → b < nb) (hL : LineM μ (l.map nI)) (hS : StM nb μ st) : ∃ μ', f_X10_pieces_38 (n + 1) x1 (nI st.1) 1 μ = zbind (f_X10_nextLine μ') (fun r ν => f_X10_pieces_38 n x1 (nI (gst nb K st l).1) r ν) ∧ StM nb μ' (gst nb K st l) ∧ LineM μ' (l.map nI) ∧ FrM μ μ' := by
  have h5 := h.1
  have hs := hS.1
  have ht := tot_le nb K l 0 (by omega)
  rw [f_X10_pieces_38, if_neg (by decide), m_tot h hl hb hL, zbind_eq]
  unfold gst
  obtain ⟨m, hm⟩ : ∃ m, zFU = m + 1 := ⟨zFU - 1, by have := zFU_lt (n := 13) (by decide); omega⟩
  by_cases q : tot nb K l 0 < st.1
  · rw [if_pos q]
    have hlt : ¬ nI st.1 ≤ nI (tot nb K l 0) := nI_ge q (by omega)
    have e := loopI (fun n' (ν : Mem) c => f_X10_pieces_51 (fun a0 a1 a2 ν => f_X10_pieces_38 n a0 a1 a2 ν) n' x1 (nI st.1) (nI (tot nb K l 0)) c ν) (fun j ν => zI ν 15 j (ν.1 14 j)) nb (fun ν => zbind (f_X10_nextLine ν) (fun r ν => f_X10_pieces_38 n x1 (nI (tot nb K l 0)) r ν)) (fun _ (ν : Mem) => ν.1 0 1 = nI nb) (fun n' ν hν => by
      show f_X10_pieces_51 _ (n' + 1) x1 _ _ (nI nb) ν = _
      rw [f_X10_pieces_51, hν, if_pos (ile _), f_X10_pieces_86, if_neg hlt]) (fun n' j ν hj hν => ⟨by
      show f_X10_pieces_51 _ (n' + 1) x1 _ _ (nI j) ν = f_X10_pieces_51 _ n' x1 _ _ (nI (j + 1)) _
      rw [f_X10_pieces_51, hν, if_neg (nI_ge hj (by omega)), if_neg hlt, zck_t (zin_nI (by omega) (by decide)), zck_t (zin_nI (by omega) (by decide)), zlet_eq, nI_clamp (by omega), nI_1], by
      show (zI ν 15 j (ν.1 14 j)).1 0 1 = nI nb
      rw [(st1 ν 15 j (ν.1 14 j)).1 0 (by decide), hν]⟩) nb 0 zFU μ (by omega) (zFU_lt (by omega)) h.2.1
    obtain ⟨c1, c2, c3, -⟩ := cpy_iter 15 14 (fun j => j) (fun j => j) (by decide) (fun _ _ h => h) nb μ
    have e := e.1
    generalize iter (fun j ν => zI ν 15 j (ν.1 14 j)) 0 nb μ = μ' at e c1 c2 c3
    rw [nI_0] at e
    refine ⟨μ', e, ⟨ht, fun _ i hi => ?_⟩, fun i hi => by rw [c1 14 (by decide)]; exact hL i hi, fun a h14 h15 => c1 a h15, c2⟩
    show μ'.1 15 i = nI (l.getD i 0)
    rw [c3 i hi, hL i (by rw [List.length_map]; omega), List.getD_eq_getElem?_getD, List.getElem?_map, List.getD_eq_getElem?_getD]
    cases l[i]? <;> rfl
  · rw [if_neg q]
    have hle : nI st.1 ≤ nI (tot nb K l 0) := nI_le (by omega) (by omega)
    refine ⟨μ, ?_, hS, hL, fun _ _ _ => rfl, rfl⟩
    rw [hm, f_X10_pieces_51, if_pos hle, f_X10_pieces_86, if_pos hle]
    by_cases q2 : μ.1 0 1 ≤ 0
    · rw [if_pos q2]
    · rw [if_neg q2]
theorem m_lines {nb : Nat} {K : Nat → Nat} {W : Nat → Int32} {x1 : Int32} : ∀ (L : List (List Nat)) (l : List Nat) (n : Nat) (st : Nat × List Nat) (μ : Mem), chain ((l :: L).map (List.map nI)) = true → L.length + 2 ≤ n → (∀ q, q ∈ l :: L → q.length = nb ∧ ∀ b, b ∈ q → b < nb) → MN μ nb K W → LineM μ (l.map nI) → StM nb μ st → ∃ n' μ', f_X10_pieces_38 n x1 (nI st.1) 1 μ = f_X10_pieces_38 (n' + 1) x1 (nI ((l :: L).foldl (gst nb K) st).1) 0 μ' ∧ StM nb μ' ((l :: L).foldl (gst nb K) st) ∧ FrM μ μ' := by
  intro L
  induction L with
  | nil =>
    intro l n st μ hc hn hq hM hL hS
    rw [List.length_nil] at hn
    obtain ⟨n, rfl⟩ : ∃ q, n = q + 1 + 1 := ⟨n - 2, by omega⟩
    obtain ⟨q1, q2⟩ := hq l (List.mem_cons_self ..)
    obtain ⟨μ', e1, e2, e3, e4⟩ := m_one (n := n + 1) (x1 := x1) hM q1 q2 hL hS
    have h5 := hM.1
    have hc : nlx (l.map nI) = some none := of_decide_eq_true hc
    have s := nlx_f (by rw [List.length_map]; omega) (by rw [List.length_map, q1]; exact (MN_fr hM e4).2.1) e3 hc
    have s : f_X10_nextLine μ' = some (0, μ') := s
    rw [e1, s, zbind_eq]
    exact ⟨n, μ', rfl, e2, e4⟩
  | cons l2 L ih =>
    intro l n st μ hc hn hq hM hL hS
    rw [List.length_cons] at hn
    obtain ⟨n, rfl⟩ : ∃ q, n = q + 1 := ⟨n - 1, by omega⟩
    obtain ⟨q1, q2⟩ := hq l (List.mem_cons_self ..)
    obtain ⟨μ', e1, e2, e3, e4⟩ := m_one (n := n) (x1 := x1) hM q1 q2 hL hS
    have h5 := hM.1
    have hc : (decide (nlx (l.map nI) = some (some (l2.map nI))) && chain ((l2 :: L).map (List.map nI))) = true := hc
    rw [Bool.and_eq_true] at hc
    have hc1 := of_decide_eq_true hc.1
    have s := nlx_f (by rw [List.length_map]; omega) (by rw [List.length_map, q1]; exact (MN_fr hM e4).2.1) e3 hc1
    obtain ⟨μ2, s1, s2, s3, s4⟩ : ∃ μ2, f_X10_nextLine μ' = some (1, μ2) ∧ LineM μ2 (l2.map nI) ∧ (l2.map nI).length = (l.map nI).length ∧ FrL μ' μ2 := s
    have f2 : FrM μ μ2 := ⟨fun a h1 h2 => (s4.1 a h1).trans (e4.1 a h1 h2), s4.2.trans e4.2⟩
    rw [e1, s1, zbind_eq]
    obtain ⟨n', μ3, t1, t2, t3⟩ := ih l2 n (gst nb K st l) μ2 hc.2 (by omega) (fun q hq2 => hq q (List.mem_cons_of_mem _ hq2)) (MN_fr hM f2) s2 ⟨e2.1, fun z i hi => by rw [s4.1 15 (by decide)]; exact e2.2 z i hi⟩
    exact ⟨n', μ3, t1, t2, fun a h1 h2 => (t3.1 a h1 h2).trans (f2.1 a h1 h2), t3.2.trans f2.2⟩
def linesOk (nb : Nat) : Bool := match comp nb nb [] with
  | [] => false
  | l :: L => decide (l = List.range nb) && (decide (L.length ≤ 120) && (chain ((l :: L).map (List.map nI)) && (l :: L).all (fun q => decide (q.length = nb) && q.all (fun b => decide (b < nb)))))
theorem linesOk_all : (List.range 6).all linesOk = true := by decide +kernel
theorem lines_get {nb : Nat} (h : nb ≤ 5) : ∃ L, comp nb nb [] = List.range nb :: L ∧ L.length ≤ 120 ∧ chain ((List.range nb :: L).map (List.map nI)) = true ∧ ∀ q, q ∈ List.range nb :: L → q.length = nb ∧ ∀ b, b ∈ q → b < nb := by
  have h := List.all_eq_true.mp linesOk_all nb (List.mem_range.mpr (by omega))
  unfold linesOk at h
  cases hc : comp nb nb [] with
  | nil => rw [hc] at h; cases h
  | cons l L =>
    rw [hc] at h
    rw [Bool.and_eq_true, Bool.and_eq_true, Bool.and_eq_true] at h
    obtain ⟨h1, h2, h3, h4⟩ := h
    have h1 := of_decide_eq_true h1
    subst h1
    refine ⟨L, rfl, of_decide_eq_true h2, h3, fun q hq => ?_⟩
    have := List.all_eq_true.mp h4 q hq
    rw [Bool.and_eq_true] at this
    exact ⟨of_decide_eq_true this.1, fun b hb => of_decide_eq_true (List.all_eq_true.mp this.2 b hb)⟩
theorem m_pieces {nb : Nat} {K : Nat → Nat} {W : Nat → Int32} {μ : Mem} (hM : MN μ nb K W) (x1 : Int32) : ∃ n' μ', f_X10_pieces_12 zFU x1 0 μ = f_X10_pieces_38 (n' + 1) x1 (nI ((comp nb nb []).foldl (gst nb K) (13, [])).1) 0 μ' ∧ StM nb μ' ((comp nb nb []).foldl (gst nb K) (13, [])) ∧ FrM μ μ' := by
  have h5 := hM.1
  have e := loopI (fun n (ν : Mem) c => f_X10_pieces_12 n x1 c ν) (fun j ν => zI ν 14 j (nI j)) nb (fun ν => f_X10_pieces_38 zFU x1 13 1 ν) (fun i (ν : Mem) => (∀ a, a ≠ 14 → ν.1 a = μ.1 a) ∧ ν.2 = μ.2 ∧ ∀ k, k < i → ν.1 14 k = nI k) (fun n ν hν => by
    show f_X10_pieces_12 (n + 1) x1 (nI nb) ν = _
    rw [f_X10_pieces_12, hν.1 0 (by decide), hM.2.1, if_pos (ile _)]) (fun n j ν hj hν => ⟨by
    show f_X10_pieces_12 (n + 1) x1 (nI j) ν = f_X10_pieces_12 n x1 (nI (j + 1)) _
    rw [f_X10_pieces_12, hν.1 0 (by decide), hM.2.1, if_neg (nI_ge hj (by omega)), zck_t (zin_nI (by omega) (by decide)), zlet_eq, nI_clamp (by omega), nI_1], by
    obtain ⟨e1, e2, e3, e4⟩ := st1 ν 14 j (nI j)
    refine ⟨fun a ha => (e1 a ha).trans (hν.1 a ha), e2.trans hν.2.1, fun k hk => ?_⟩
    by_cases q : k = j
    · subst q; exact e4
    · exact (e3 k q).trans (hν.2.2 k (by omega))⟩) nb 0 zFU μ (by omega) (zFU_lt (by omega)) ⟨fun _ _ => rfl, rfl, fun k hk => absurd hk (Nat.not_lt_zero _)⟩
  obtain ⟨e, c1, c2, c3⟩ := e
  generalize iter (fun j ν => zI ν 14 j (nI j)) 0 nb μ = μ1 at e c1 c2 c3
  rw [nI_0] at e
  have f1 : FrM μ μ1 := ⟨fun a h1 _ => c1 a h1, c2⟩
  obtain ⟨L, l1, l2, l3, l4⟩ := lines_get h5
  obtain ⟨n', μ', t1, t2, t3⟩ := m_lines (K := K) (W := W) (x1 := x1) L (List.range nb) zFU (13, []) μ1 l3 (by have := zFU_lt (n := 200) (by decide); omega) l4 (MN_fr hM f1) (fun i hi => by
    rw [List.length_map, List.length_range] at hi
    rw [c3 i hi, List.getD_eq_getElem?_getD, List.getElem?_map, List.getElem?_range hi]; rfl) ⟨Nat.le_refl _, fun z => absurd rfl z⟩
  rw [l1]
  exact ⟨n', μ', e.trans t1, t2, fun a h1 h2 => (t3.1 a h1 h2).trans (f1.1 a h1 h2), t3.2.trans f1.2⟩
theorem Sp_pieces_ok : Sp_pieces Rel := by
  intro μC μM a1 h
  obtain ⟨nb, nn, nu, K, W, hNR, hC, hM, hO, hJ, -⟩ := Rel_q h
  have h5 := hC.1
  rw [f_X9_pieces, f_X10_pieces]
  by_cases q : (-1 : Int32) ≤ a1
  · obtain ⟨μ, c1, ⟨c2, c3, c4⟩, c5⟩ := c_search hC
    obtain ⟨n', ν, m1, ⟨m2, m3⟩, m4⟩ := m_pieces hM a1
    rw [if_pos q, if_pos q, c1, zbind_eq, m1, f_X10_pieces_38, if_pos rfl, c3]
    generalize (comp nb nb []).foldl (gst nb K) (13, []) = st at c2 c3 c4 m2 m3 ⊢
    have hR : Rel μ ν := Rel_same ⟨fun a ha => c5.1 a (by omega) (by omega) (by omega), by rw [c5.1 0 (by decide) (by decide) (by decide)], by rw [c5.1 0 (by decide) (by decide) (by decide)], by rw [c5.1 0 (by decide) (by decide) (by decide)], by rw [c5.1 41 (by decide) (by decide) (by decide)], by rw [c5.2], by rw [c5.2]⟩ ⟨fun a ha => m4.1 a (by omega) (by omega), fun j _ => by rw [m4.1 5 (by decide) (by decide)], by rw [m4.1 0 (by decide) (by decide)], by rw [m4.1 0 (by decide) (by decide)], by rw [m4.1 0 (by decide) (by decide)], by rw [m4.1 0 (by decide) (by decide)], by rw [m4.2], by rw [m4.2]⟩ h
    by_cases e13 : st.1 = 13
    · rw [e13, if_pos rfl, if_pos rfl, if_neg (by decide)]
      exact ⟨_, μ, ν, rfl, rfl, hR⟩
    · rw [if_neg e13, if_neg (nI_ne_m1 (by omega)), if_pos (show nI st.1 ≤ 12 from nI_le (b := 12) (by omega) (by decide))]
      by_cases e : a1 = -1
      · rw [if_pos e, if_pos e]
        exact ⟨_, μ, ν, rfl, rfl, hR⟩
      · have hp : ¬ a1 < 0 := by
          intro hl
          apply e
          rw [Int32.le_iff_toInt_le] at q
          rw [Int32.lt_iff_toInt_lt] at hl
          apply Int32.toInt_inj.mp
          have e1 : (-1 : Int32).toInt = -1 := by decide
          have e0 : (0 : Int32).toInt = 0 := by decide
          omega
        obtain ⟨x, hx, rfl⟩ := nI_of hp
        rw [if_neg e, if_neg e, show μ.1 1 7 = nI nb from (CN_fr hC c5).2.1, show ν.1 0 1 = nI nb from (MN_fr hM m4).2.1]
        by_cases hxn : nb ≤ x
        · rw [if_pos (nI_le hxn hx), if_pos (nI_le hxn hx)]
          exact ⟨_, μ, ν, rfl, rfl, hR⟩
        · rw [if_neg (nI_ge (by omega) (by omega)), if_neg (nI_ge (by omega) (by omega)), zck_t (zin_nI (by omega) (by decide)), zck_t (zin_nI (by omega) (by decide)), nI_clamp hx, c4 e13 x (by omega), m3 e13 x (by omega)]
          exact ⟨_, μ, ν, rfl, rfl, hR⟩
  · rw [if_neg q, if_neg q]
    exact isten h rfl rfl
