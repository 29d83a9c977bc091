noncomputable def f_X3_ofCell (o : Nat) (x1 : Int32) (x2 : Int32) (μ : Mem) : Option (Int32 × Mem) := some ((3 : Int32), μ)
set_option maxRecDepth 100000 in
theorem c_X3_ofCell {G : ZG} {l : Launch} {o : Nat} (ho : zKo o) {x1 : Int32} {x2 : Int32} {μ : Mem} {r : Int32} {μ' : Mem} (h : f_X3_ofCell o x1 x2 μ = some (r, μ')) : zC ZC G l yX3_ofCell cX3_ofCell 3 (some .int) 1 [.ref (zad G o), .int x1, .int x2] μ (some (.int r)) μ' := by
  refine zC.mk (by decide +kernel) (Nat.le_of_ble_eq_true rfl) ?_
  intro p e s m below meth c ls B hl hW
  have B : zB ZC G cX3_ofCell 3 "DarkShares$Plain" (some .int) p s m [.ref (zad G o), .int x1, .int x2].toArray meth c := B
  have hl : lv_has ls 3 [(0, .ref (zad G o)), (1, .int x1), (2, .int x2)] := hl
  have hx := B.1
  have hb := B.2.1
  have hf := h
  unfold f_X3_ofCell at hf
  refine lv_iconst (pc := 0) (v := (3 : Int32)) hx hb dX3_ofCell_0 rfl ?_
  exact zreti (pc := 1) B hW hf dX3_ofCell_1
noncomputable def f_X7_ofCell (o : Nat) (x1 : Int32) (x2 : Int32) (μ : Mem) : Option (Int32 × Mem) := zbind (f_X3_ofCell o x1 x2 μ) (fun r2 μ1 => (if (3 : Int32) ≤ x1 then some (r2, μ1) else some ((r2 + (2 : Int32)), μ1)))
set_option maxRecDepth 100000 in
theorem c_X7_ofCell {G : ZG} {l : Launch} {o : Nat} (ho : zKo o) {x1 : Int32} {x2 : Int32} {μ : Mem} {r : Int32} {μ' : Mem} (h : f_X7_ofCell o x1 x2 μ = some (r, μ')) : zC ZC G l yX7_ofCell cX7_ofCell 4 (some .int) 2 [.ref (zad G o), .int x1, .int x2] μ (some (.int r)) μ' := by
  refine zC.mk (by decide +kernel) (Nat.le_of_ble_eq_true rfl) ?_
  intro p e s m below meth c ls B hl hW
  have B : zB ZC G cX7_ofCell 4 "DarkShares$Small" (some .int) p s m [.ref (zad G o), .int x1, .int x2].toArray meth c := B
  have hl : lv_has ls 4 [(0, .ref (zad G o)), (1, .int x1), (2, .int x2)] := hl
  have hx := B.1
  have hb := B.2.1
  have hf := h
  unfold f_X7_ofCell at hf
  refine lv_aload_n (pc := 0) hx hb dX7_ofCell_0 rfl (lv_at hl 0 rfl) ?_
  refine lv_iload_n (pc := 1) hx hb dX7_ofCell_1 rfl (lv_at hl 1 rfl) ?_
  refine lv_iload_n (pc := 2) hx hb dX7_ofCell_2 rfl (lv_at hl 2 rfl) ?_
  refine s_X7_7 (pc := 3) B hW hl.1 ho (by decide) (zle8 rfl) dX7_ofCell_3 (fun _ _ h => c_X3_ofCell ho h) hf (fun r2 μ1 H locs hW hf => ?_)
  refine lv_istore_n (pc := 6) (lv' := [(3, .int r2), (0, .ref (zad G o)), (1, .int x1), (2, .int x2)]) hx hb dX7_ofCell_6 rfl hl (by decide) rfl (fun ls hl => ?_)
  refine lv_iload_n (pc := 7) hx hb dX7_ofCell_7 rfl (lv_at hl 2 rfl) ?_
  refine lv_iconst (pc := 8) (v := (3 : Int32)) hx hb dX7_ofCell_8 rfl ?_
  refine yic_ge (pc := 9) (tgt := 18) B dX7_ofCell_9 (by decide) hf (fun hf => ?_) (fun hf => ?_)
  · refine lv_iload_n (pc := 18) hx hb dX7_ofCell_18 rfl (lv_at hl 0 rfl) ?_
    exact zreti (pc := 19) B hW hf dX7_ofCell_19
  · refine lv_iload_n (pc := 12) hx hb dX7_ofCell_12 rfl (lv_at hl 0 rfl) ?_
    refine lv_iconst (pc := 13) (v := (2 : Int32)) hx hb dX7_ofCell_13 rfl ?_
    refine lv_iadd (pc := 14) hx hb dX7_ofCell_14 ?_
    refine lv_goto (pc := 15) (tgt := 19) hx hb dX7_ofCell_15 (by decide) ?_
    exact zreti (pc := 19) B hW hf dX7_ofCell_19
noncomputable def f_X9_isMiddle (x0 : Int32) (μ : Mem) : Option (Int32 × Mem) := (if x0 < (4 : Int32) then some ((0 : Int32), μ) else (if (7 : Int32) < x0 then some ((0 : Int32), μ) else some ((1 : Int32), μ)))
set_option maxRecDepth 100000 in
theorem c_X9_isMiddle {G : ZG} {l : Launch} {x0 : Int32} {μ : Mem} {r : Int32} {μ' : Mem} (h : f_X9_isMiddle x0 μ = some (r, μ')) : zC ZC G l yX9_isMiddle cX9_isMiddle 1 (some .boolean) 1 [.int x0] μ (some (.int r)) μ' := by
  refine zC.mk (by decide +kernel) (Nat.le_of_ble_eq_true rfl) ?_
  intro p e s m below meth c ls B hl hW
  have B : zB ZC G cX9_isMiddle 1 "DarkShares" (some .boolean) p s m [.int x0].toArray meth c := B
  have hl : lv_has ls 1 [(0, .int x0)] := hl
  have hx := B.1
  have hb := B.2.1
  have hf := h
  unfold f_X9_isMiddle at hf
  refine lv_iload_n (pc := 0) hx hb dX9_isMiddle_0 rfl (lv_at hl 0 rfl) ?_
  refine lv_iconst (pc := 1) (v := (4 : Int32)) hx hb dX9_isMiddle_1 rfl ?_
  refine yic_lt (pc := 2) (tgt := 15) B dX9_isMiddle_2 (by decide) hf (fun hf => ?_) (fun hf => ?_)
  · refine lv_iconst (pc := 15) (v := (0 : Int32)) hx hb dX9_isMiddle_15 rfl ?_
    exact zretz (pc := 16) B hW rfl hf dX9_isMiddle_16
  · refine lv_iload_n (pc := 5) hx hb dX9_isMiddle_5 rfl (lv_at hl 0 rfl) ?_
    refine lv_bipush (pc := 6) (v := (7 : Int32)) hx hb dX9_isMiddle_6 rfl ?_
    refine yic_gt (pc := 8) (tgt := 15) B dX9_isMiddle_8 (by decide) hf (fun hf => ?_) (fun hf => ?_)
    · refine lv_iconst (pc := 15) (v := (0 : Int32)) hx hb dX9_isMiddle_15 rfl ?_
      exact zretz (pc := 16) B hW rfl hf dX9_isMiddle_16
    · refine lv_iconst (pc := 11) (v := (1 : Int32)) hx hb dX9_isMiddle_11 rfl ?_
      refine lv_goto (pc := 12) (tgt := 16) hx hb dX9_isMiddle_12 (by decide) ?_
      exact zretz (pc := 16) B hW rfl hf dX9_isMiddle_16
noncomputable def f_X0_ofCell (o : Nat) (x1 : Int32) (x2 : Int32) (μ : Mem) : Option (Int32 × Mem) := zbind (f_X9_isMiddle x1 μ) (fun r2 μ1 => (if r2 = 0 then zbind (f_X7_ofCell o x1 x2 μ1) (fun r4 μ3 => some (r4, μ3)) else some ((0 : Int32), μ1)))
set_option maxRecDepth 100000 in
theorem c_X0_ofCell {G : ZG} {l : Launch} {o : Nat} (ho : zKo o) {x1 : Int32} {x2 : Int32} {μ : Mem} {r : Int32} {μ' : Mem} (h : f_X0_ofCell o x1 x2 μ = some (r, μ')) : zC ZC G l yX0_ofCell cX0_ofCell 3 (some .int) 3 [.ref (zad G o), .int x1, .int x2] μ (some (.int r)) μ' := by
  refine zC.mk (by decide +kernel) (Nat.le_of_ble_eq_true rfl) ?_
  intro p e s m below meth c ls B hl hW
  have B : zB ZC G cX0_ofCell 3 "DarkShares$Afraid" (some .int) p s m [.ref (zad G o), .int x1, .int x2].toArray meth c := B
  have hl : lv_has ls 3 [(0, .ref (zad G o)), (1, .int x1), (2, .int x2)] := hl
  have hx := B.1
  have hb := B.2.1
  have hf := h
  unfold f_X0_ofCell at hf
  refine lv_iload_n (pc := 0) hx hb dX0_ofCell_0 rfl (lv_at hl 1 rfl) ?_
  refine s_X0_7 (pc := 1) B hW hl.1 (by decide) (zle8 rfl) dX0_ofCell_1 (fun _ _ h => c_X9_isMiddle h) hf (fun r2 μ1 H locs hW hf => ?_)
  refine yif_eq (pc := 4) (tgt := 11) B dX0_ofCell_4 (by decide) hf (fun hf => ?_) (fun hf => ?_)
  · refine lv_aload_n (pc := 11) hx hb dX0_ofCell_11 rfl (lv_at hl 0 rfl) ?_
    refine lv_iload_n (pc := 12) hx hb dX0_ofCell_12 rfl (lv_at hl 1 rfl) ?_
    refine lv_iload_n (pc := 13) hx hb dX0_ofCell_13 rfl (lv_at hl 2 rfl) ?_
    refine s_X0_13 (pc := 14) B hW hl.1 ho (by decide) (zle8 rfl) dX0_ofCell_14 (fun _ _ h => c_X7_ofCell ho h) hf (fun r4 μ3 H locs hW hf => ?_)
    exact zreti (pc := 17) B hW hf dX0_ofCell_17
  · refine lv_iconst (pc := 7) (v := (0 : Int32)) hx hb dX0_ofCell_7 rfl ?_
    refine lv_goto (pc := 8) (tgt := 17) hx hb dX0_ofCell_8 (by decide) ?_
    exact zreti (pc := 17) B hW hf dX0_ofCell_17
noncomputable def f_J7_fill_53178_5 (x0 : Nat) : Nat → Int32 → Int32 → Int32 → Mem → Option (Unit × Mem)
  | 0, _, _, _, _ => none
  | n + 1, x1, x2, x3, μ => (if x3 ≤ x2 then some ((), μ) else zck (zin x2 12) (zlet (zI μ x0 (x2).toNatClampNeg x1) (fun μ1 => f_J7_fill_53178_5 x0 n x1 (x2 + (1 : Int32)) x3 μ1)))
set_option maxRecDepth 100000 in
theorem t_J7_fill_53178_5 {G : ZG} {Z : ZS} {p : Program} {l : Launch} {e : Env} {s : State} {m : MethodId} {args : Array Value} {below : List Frame} {meth : Method} {c : Code} (B : zB Z G cJ7_fill_53178 4 "java/util/Arrays" none p s m args meth c) {x0 : Nat} (hx0 : zAr Z x0 0 12 .int) : ∀ (n : Nat) {x1 : Int32} {x2 : Int32} {x3 : Int32} {μ : Mem} {H : Heap} {locs : List Loc} {ls : Array Slot} {r : Unit} {μ' : Mem}, lv_has ls 4 [(0, .ref (zad G x0)), (1, .int x1), (2, .int x2), (3, .int x3)] → zW Z G s H locs μ → f_J7_fill_53178_5 x0 n x1 x2 x3 μ = some (r, μ') → W p l e (zR 1) s m args below meth c H locs 0 0 (MQ below (zQ Z G none μ') args s 0 0 (zAd Z G)) (F0 m 5 ls []) := by
  have hx := B.1
  have hb := B.2.1
  intro n
  induction n with
  | zero => intro _ _ _ _ _ _ _ _ _ hl hW hf; cases hf
  | succ n ih =>
    intro x1 x2 x3 μ H locs ls r μ' hl hW hf
    rw [f_J7_fill_53178_5] at hf
    refine lv_iload_n (pc := 5) hx hb dJ7_fill_53178_5 rfl (lv_at hl 2 rfl) ?_
    refine lv_iload_n (pc := 6) hx hb dJ7_fill_53178_6 rfl (lv_at hl 3 rfl) ?_
    refine yic_ge (pc := 7) (tgt := 20) B dJ7_fill_53178_7 (by decide) hf (fun hf => ?_) (fun hf => ?_)
    · exact zretv (pc := 20) B hW hf dJ7_fill_53178_20
    · refine lv_aload_n (pc := 10) hx hb dJ7_fill_53178_10 rfl (lv_at hl 0 rfl) ?_
      refine lv_iload_n (pc := 11) hx hb dJ7_fill_53178_11 rfl (lv_at hl 2 rfl) ?_
      refine lv_iload_n (pc := 12) hx hb dJ7_fill_53178_12 rfl (lv_at hl 1 rfl) ?_
      refine yast (pc := 13) B hW hx0 dJ7_fill_53178_13 hf (fun μ1 H locs hW hf => ?_)
      refine lv_iinc (pc := 14) (v := (x2 + (1 : Int32))) (lv' := [(2, .int (x2 + (1 : Int32))), (0, .ref (zad G x0)), (1, .int x1), (3, .int x3)]) hx hb dJ7_fill_53178_14 hl (k := 2) rfl rfl (by decide) rfl (fun ls hl => ?_)
      refine lv_goto (pc := 17) (tgt := 5) hx hb dJ7_fill_53178_17 (by decide) ?_
      exact ih (lv_sub hl [1, 2, 0, 3] rfl) hW hf
noncomputable def f_J7_fill_53178 (x0 : Nat) (x1 : Int32) (μ : Mem) : Option (Unit × Mem) := f_J7_fill_53178_5 x0 zFU x1 (0 : Int32) (12 : Int32) μ
set_option maxRecDepth 100000 in
theorem c_J7_fill_53178 {G : ZG} {Z : ZS} {l : Launch} {x0 : Nat} (hx0 : zAr Z x0 0 12 .int) {x1 : Int32} {μ : Mem} {r : Unit} {μ' : Mem} (h : f_J7_fill_53178 x0 x1 μ = some (r, μ')) : zC Z G l yJ7_fill_53178 cJ7_fill_53178 4 none 1 [.ref (zad G x0), .int x1] μ none μ' := by
  refine zC.mk (by decide +kernel) (Nat.le_of_ble_eq_true rfl) ?_
  intro p e s m below meth c ls B hl hW
  have B : zB Z G cJ7_fill_53178 4 "java/util/Arrays" none p s m [.ref (zad G x0), .int x1].toArray meth c := B
  have hl : lv_has ls 4 [(0, .ref (zad G x0)), (1, .int x1)] := hl
  have hx := B.1
  have hb := B.2.1
  have hf := h
  unfold f_J7_fill_53178 at hf
  refine lv_iconst (pc := 0) (v := (0 : Int32)) hx hb dJ7_fill_53178_0 rfl ?_
  refine lv_istore_n (pc := 1) (lv' := [(2, .int (0 : Int32)), (0, .ref (zad G x0)), (1, .int x1)]) hx hb dJ7_fill_53178_1 rfl hl (by decide) rfl (fun ls hl => ?_)
  refine lv_aload_n (pc := 2) hx hb dJ7_fill_53178_2 rfl (lv_at hl 1 rfl) ?_
  refine ylen (pc := 3) (v := (12 : Int32)) B hW hx0 rfl dJ7_fill_53178_3 ?_
  refine lv_istore_n (pc := 4) (lv' := [(3, .int (12 : Int32)), (2, .int (0 : Int32)), (0, .ref (zad G x0)), (1, .int x1)]) hx hb dJ7_fill_53178_4 rfl hl (by decide) rfl (fun ls hl => ?_)
  exact t_J7_fill_53178_5 B hx0 zFU (lv_sub hl [2, 3, 1, 0] rfl) hW hf
noncomputable def f_X1_wipe (o : Nat) (μ : Mem) : Option (Unit × Mem) := zbind (f_J7_fill_53178 (o + 4) (-1 : Int32) μ) (fun _ μ1 => zlet (zI μ1 o 7 (0 : Int32)) (fun μ2 => zlet (zI μ2 o 8 (0 : Int32)) (fun μ3 => zlet (zI μ3 o 9 (0 : Int32)) (fun μ4 => some ((), μ4)))))
set_option maxRecDepth 100000 in
theorem c_X1_wipe {G : ZG} {l : Launch} {o : Nat} (ho : zN o) {μ : Mem} {r : Unit} {μ' : Mem} (h : f_X1_wipe o μ = some (r, μ')) : zC ZC G l yX1_wipe cX1_wipe 1 none 2 [.ref (zad G o)] μ none μ' := by
  refine zC.mk (by decide +kernel) (Nat.le_of_ble_eq_true rfl) ?_
  intro p e s m below meth c ls B hl hW
  have B : zB ZC G cX1_wipe 1 "DarkShares$Night" none p s m [.ref (zad G o)].toArray meth c := B
  have hl : lv_has ls 1 [(0, .ref (zad G o))] := hl
  have hx := B.1
  have hb := B.2.1
  have hf := h
  unfold f_X1_wipe at hf
  refine lv_aload_n (pc := 0) hx hb dX1_wipe_0 rfl (lv_at hl 0 rfl) ?_
  refine g_X1_21 (pc := 1) B hW ho dX1_wipe_1 ?_
  refine lv_iconst (pc := 4) (v := (-1 : Int32)) hx hb dX1_wipe_4 rfl ?_
  refine s_X1_34 (pc := 5) B hW hl.1 (by decide) (zle8 rfl) dX1_wipe_5 (fun _ _ h => c_J7_fill_53178 (arN4 ho) h) hf (fun _ μ1 H locs hW hf => ?_)
  refine lv_aload_n (pc := 8) hx hb dX1_wipe_8 rfl (lv_at hl 0 rfl) ?_
  refine lv_iconst (pc := 9) (v := (0 : Int32)) hx hb dX1_wipe_9 rfl ?_
  refine p_X1_40 (pc := 10) B hW ho dX1_wipe_10 hf (fun μ2 H locs hW hf => ?_)
  refine lv_aload_n (pc := 13) hx hb dX1_wipe_13 rfl (lv_at hl 0 rfl) ?_
  refine lv_iconst (pc := 14) (v := (0 : Int32)) hx hb dX1_wipe_14 rfl ?_
  refine p_X1_44 (pc := 15) B hW ho dX1_wipe_15 hf (fun μ3 H locs hW hf => ?_)
  refine lv_aload_n (pc := 18) hx hb dX1_wipe_18 rfl (lv_at hl 0 rfl) ?_
  refine lv_iconst (pc := 19) (v := (0 : Int32)) hx hb dX1_wipe_19 rfl ?_
  refine p_X1_47 (pc := 20) B hW ho dX1_wipe_20 hf (fun μ4 H locs hW hf => ?_)
  exact zretv (pc := 23) B hW hf dX1_wipe_23
noncomputable def f_X1_becomes (o : Nat) (o1 : Nat) (μ : Mem) : Option (Unit × Mem) := zck (zcp (0 : Int32) (0 : Int32) (5 : Int32) 5 5) (zlet (zA μ (o + 1) (va_cpy (μ.1 (o1 + 1)) (μ.1 (o + 1)) ((0 : Int32)).toNatClampNeg ((0 : Int32)).toNatClampNeg ((5 : Int32)).toNatClampNeg)) (fun μ1 => zck (zcp (0 : Int32) (0 : Int32) (5 : Int32) 5 5) (zlet (zA μ1 (o + 2) (va_cpy (μ1.1 (o1 + 2)) (μ1.1 (o + 2)) ((0 : Int32)).toNatClampNeg ((0 : Int32)).toNatClampNeg ((5 : Int32)).toNatClampNeg)) (fun μ2 => zck (zcp (0 : Int32) (0 : Int32) (5 : Int32) 5 5) (zlet (zA μ2 (o + 3) (va_cpy (μ2.1 (o1 + 3)) (μ2.1 (o + 3)) ((0 : Int32)).toNatClampNeg ((0 : Int32)).toNatClampNeg ((5 : Int32)).toNatClampNeg)) (fun μ3 => zck (zcp (0 : Int32) (0 : Int32) (12 : Int32) 12 12) (zlet (zA μ3 (o + 4) (va_cpy (μ3.1 (o1 + 4)) (μ3.1 (o + 4)) ((0 : Int32)).toNatClampNeg ((0 : Int32)).toNatClampNeg ((12 : Int32)).toNatClampNeg)) (fun μ4 => zck (zcp (0 : Int32) (0 : Int32) (24 : Int32) 24 24) (zlet (zA μ4 (o + 5) (va_cpy (μ4.1 (o1 + 5)) (μ4.1 (o + 5)) ((0 : Int32)).toNatClampNeg ((0 : Int32)).toNatClampNeg ((24 : Int32)).toNatClampNeg)) (fun μ5 => zck (zcp (0 : Int32) (0 : Int32) (136 : Int32) 136 136) (zlet (zA μ5 (o + 6) (va_cpy (μ5.1 (o1 + 6)) (μ5.1 (o + 6)) ((0 : Int32)).toNatClampNeg ((0 : Int32)).toNatClampNeg ((136 : Int32)).toNatClampNeg)) (fun μ6 => zlet (zI μ6 o 7 (μ6.1 o1 7)) (fun μ7 => zlet (zI μ7 o 8 (μ7.1 o1 8)) (fun μ8 => zlet (zI μ8 o 9 (μ8.1 o1 9)) (fun μ9 => some ((), μ9))))))))))))))))
set_option maxRecDepth 100000 in
theorem c_X1_becomes {G : ZG} {l : Launch} {o : Nat} (ho : zN o) {o1 : Nat} (ho1 : zN o1) {μ : Mem} {r : Unit} {μ' : Mem} (h : f_X1_becomes o o1 μ = some (r, μ')) : zC ZC G l yX1_becomes cX1_becomes 2 none 1 [.ref (zad G o), .ref (zad G o1)] μ none μ' := by
  refine zC.mk (by decide +kernel) (Nat.le_of_ble_eq_true rfl) ?_
  intro p e s m below meth c ls B hl hW
  have B : zB ZC G cX1_becomes 2 "DarkShares$Night" none p s m [.ref (zad G o), .ref (zad G o1)].toArray meth c := B
  have hl : lv_has ls 2 [(0, .ref (zad G o)), (1, .ref (zad G o1))] := hl
  have hx := B.1
  have hb := B.2.1
  have hf := h
  unfold f_X1_becomes at hf
  refine lv_aload_n (pc := 0) hx hb dX1_becomes_0 rfl (lv_at hl 1 rfl) ?_
  refine g_X1_9 (pc := 1) B hW ho1 dX1_becomes_1 ?_
  refine lv_iconst (pc := 4) (v := (0 : Int32)) hx hb dX1_becomes_4 rfl ?_
  refine lv_aload_n (pc := 5) hx hb dX1_becomes_5 rfl (lv_at hl 0 rfl) ?_
  refine g_X1_9 (pc := 6) B hW ho dX1_becomes_6 ?_
  refine lv_iconst (pc := 9) (v := (0 : Int32)) hx hb dX1_becomes_9 rfl ?_
  refine lv_iconst (pc := 10) (v := (5 : Int32)) hx hb dX1_becomes_10 rfl ?_
  refine ycopy (pc := 11) B hW hl.1 (arN1 ho1) (arN1 ho) kw308 kw310 kw309 kw72 (by decide) (by decide) dX1_becomes_11 hf (fun μ1 H locs hW hf => ?_)
  refine lv_aload_n (pc := 14) hx hb dX1_becomes_14 rfl (lv_at hl 1 rfl) ?_
  refine g_X1_15 (pc := 15) B hW ho1 dX1_becomes_15 ?_
  refine lv_iconst (pc := 18) (v := (0 : Int32)) hx hb dX1_becomes_18 rfl ?_
  refine lv_aload_n (pc := 19) hx hb dX1_becomes_19 rfl (lv_at hl 0 rfl) ?_
  refine g_X1_15 (pc := 20) B hW ho dX1_becomes_20 ?_
  refine lv_iconst (pc := 23) (v := (0 : Int32)) hx hb dX1_becomes_23 rfl ?_
  refine lv_iconst (pc := 24) (v := (5 : Int32)) hx hb dX1_becomes_24 rfl ?_
  refine ycopy (pc := 25) B hW hl.1 (arN2 ho1) (arN2 ho) kw308 kw310 kw309 kw72 (by decide) (by decide) dX1_becomes_25 hf (fun μ2 H locs hW hf => ?_)
  refine lv_aload_n (pc := 28) hx hb dX1_becomes_28 rfl (lv_at hl 1 rfl) ?_
  refine g_X1_18 (pc := 29) B hW ho1 dX1_becomes_29 ?_
  refine lv_iconst (pc := 32) (v := (0 : Int32)) hx hb dX1_becomes_32 rfl ?_
  refine lv_aload_n (pc := 33) hx hb dX1_becomes_33 rfl (lv_at hl 0 rfl) ?_
  refine g_X1_18 (pc := 34) B hW ho dX1_becomes_34 ?_
  refine lv_iconst (pc := 37) (v := (0 : Int32)) hx hb dX1_becomes_37 rfl ?_
  refine lv_iconst (pc := 38) (v := (5 : Int32)) hx hb dX1_becomes_38 rfl ?_
  refine ycopy (pc := 39) B hW hl.1 (arN3 ho1) (arN3 ho) kw308 kw310 kw309 kw72 (by decide) (by decide) dX1_becomes_39 hf (fun μ3 H locs hW hf => ?_)
  refine lv_aload_n (pc := 42) hx hb dX1_becomes_42 rfl (lv_at hl 1 rfl) ?_
  refine g_X1_21 (pc := 43) B hW ho1 dX1_becomes_43 ?_
  refine lv_iconst (pc := 46) (v := (0 : Int32)) hx hb dX1_becomes_46 rfl ?_
  refine lv_aload_n (pc := 47) hx hb dX1_becomes_47 rfl (lv_at hl 0 rfl) ?_
  refine g_X1_21 (pc := 48) B hW ho dX1_becomes_48 ?_
  refine lv_iconst (pc := 51) (v := (0 : Int32)) hx hb dX1_becomes_51 rfl ?_
  refine lv_bipush (pc := 52) (v := (12 : Int32)) hx hb dX1_becomes_52 rfl ?_
  refine ycopy (pc := 54) B hW hl.1 (arN4 ho1) (arN4 ho) kw308 kw310 kw309 kw72 (by decide) (by decide) dX1_becomes_54 hf (fun μ4 H locs hW hf => ?_)
  refine lv_aload_n (pc := 57) hx hb dX1_becomes_57 rfl (lv_at hl 1 rfl) ?_
  refine g_X1_24 (pc := 58) B hW ho1 dX1_becomes_58 ?_
  refine lv_iconst (pc := 61) (v := (0 : Int32)) hx hb dX1_becomes_61 rfl ?_
  refine lv_aload_n (pc := 62) hx hb dX1_becomes_62 rfl (lv_at hl 0 rfl) ?_
  refine g_X1_24 (pc := 63) B hW ho dX1_becomes_63 ?_
  refine lv_iconst (pc := 66) (v := (0 : Int32)) hx hb dX1_becomes_66 rfl ?_
  refine lv_bipush (pc := 67) (v := (24 : Int32)) hx hb dX1_becomes_67 rfl ?_
  refine ycopy (pc := 69) B hW hl.1 (arN5 ho1) (arN5 ho) kw308 kw310 kw309 kw72 (by decide) (by decide) dX1_becomes_69 hf (fun μ5 H locs hW hf => ?_)
  refine lv_aload_n (pc := 72) hx hb dX1_becomes_72 rfl (lv_at hl 1 rfl) ?_
  refine g_X1_27 (pc := 73) B hW ho1 dX1_becomes_73 ?_
  refine lv_iconst (pc := 76) (v := (0 : Int32)) hx hb dX1_becomes_76 rfl ?_
  refine lv_aload_n (pc := 77) hx hb dX1_becomes_77 rfl (lv_at hl 0 rfl) ?_
  refine g_X1_27 (pc := 78) B hW ho dX1_becomes_78 ?_
  refine lv_iconst (pc := 81) (v := (0 : Int32)) hx hb dX1_becomes_81 rfl ?_
  refine lv_sipush (pc := 82) (v := (136 : Int32)) hx hb dX1_becomes_82 rfl ?_
  refine ycopy (pc := 85) B hW hl.1 (arN6 ho1) (arN6 ho) kw308 kw310 kw309 kw72 (by decide) (by decide) dX1_becomes_85 hf (fun μ6 H locs hW hf => ?_)
  refine lv_aload_n (pc := 88) hx hb dX1_becomes_88 rfl (lv_at hl 0 rfl) ?_
  refine lv_aload_n (pc := 89) hx hb dX1_becomes_89 rfl (lv_at hl 1 rfl) ?_
  refine g_X1_40 (pc := 90) B hW ho1 dX1_becomes_90 ?_
  refine p_X1_40 (pc := 93) B hW ho dX1_becomes_93 hf (fun μ7 H locs hW hf => ?_)
  refine lv_aload_n (pc := 96) hx hb dX1_becomes_96 rfl (lv_at hl 0 rfl) ?_
  refine lv_aload_n (pc := 97) hx hb dX1_becomes_97 rfl (lv_at hl 1 rfl) ?_
  refine g_X1_44 (pc := 98) B hW ho1 dX1_becomes_98 ?_
  refine p_X1_44 (pc := 101) B hW ho dX1_becomes_101 hf (fun μ8 H locs hW hf => ?_)
  refine lv_aload_n (pc := 104) hx hb dX1_becomes_104 rfl (lv_at hl 0 rfl) ?_
  refine lv_aload_n (pc := 105) hx hb dX1_becomes_105 rfl (lv_at hl 1 rfl) ?_
  refine g_X1_47 (pc := 106) B hW ho1 dX1_becomes_106 ?_
  refine p_X1_47 (pc := 109) B hW ho dX1_becomes_109 hf (fun μ9 H locs hW hf => ?_)
  exact zretv (pc := 112) B hW hf dX1_becomes_112
noncomputable def f_X1_comes (o : Nat) (x1 : Int32) (x2 : Int32) (x3 : Int32) (μ : Mem) : Option (Int32 × Mem) := (if (μ.1 o 7) < (5 : Int32) then zck (zin (μ.1 o 7) 5) (zlet (zI μ (o + 1) ((μ.1 o 7)).toNatClampNeg x1) (fun μ1 => zck (zin (μ1.1 o 7) 5) (zlet (zI μ1 (o + 2) ((μ1.1 o 7)).toNatClampNeg x2) (fun μ2 => zck (zin (μ2.1 o 7) 5) (zlet (zI μ2 (o + 3) ((μ2.1 o 7)).toNatClampNeg x3) (fun μ3 => zlet (zI μ3 o 9 (0 : Int32)) (fun μ4 => zlet (zI μ4 o 7 ((μ4.1 o 7) + (1 : Int32))) (fun μ5 => some (((μ5.1 o 7) - (1 : Int32)), μ5))))))))) else some ((-4 : Int32), μ))
set_option maxRecDepth 100000 in
theorem c_X1_comes {G : ZG} {l : Launch} {o : Nat} (ho : zN o) {x1 : Int32} {x2 : Int32} {x3 : Int32} {μ : Mem} {r : Int32} {μ' : Mem} (h : f_X1_comes o x1 x2 x3 μ = some (r, μ')) : zC ZC G l yX1_comes cX1_comes 4 (some .int) 1 [.ref (zad G o), .int x1, .int x2, .int x3] μ (some (.int r)) μ' := by
  refine zC.mk (by decide +kernel) (Nat.le_of_ble_eq_true rfl) ?_
  intro p e s m below meth c ls B hl hW
  have B : zB ZC G cX1_comes 4 "DarkShares$Night" (some .int) p s m [.ref (zad G o), .int x1, .int x2, .int x3].toArray meth c := B
  have hl : lv_has ls 4 [(0, .ref (zad G o)), (1, .int x1), (2, .int x2), (3, .int x3)] := hl
  have hx := B.1
  have hb := B.2.1
  have hf := h
  unfold f_X1_comes at hf
  refine lv_aload_n (pc := 0) hx hb dX1_comes_0 rfl (lv_at hl 0 rfl) ?_
  refine g_X1_40 (pc := 1) B hW ho dX1_comes_1 ?_
  refine lv_iconst (pc := 4) (v := (5 : Int32)) hx hb dX1_comes_4 rfl ?_
  refine yic_lt (pc := 5) (tgt := 11) B dX1_comes_5 (by decide) hf (fun hf => ?_) (fun hf => ?_)
  · refine lv_aload_n (pc := 11) hx hb dX1_comes_11 rfl (lv_at hl 0 rfl) ?_
    refine g_X1_9 (pc := 12) B hW ho dX1_comes_12 ?_
    refine lv_aload_n (pc := 15) hx hb dX1_comes_15 rfl (lv_at hl 0 rfl) ?_
    refine g_X1_40 (pc := 16) B hW ho dX1_comes_16 ?_
    refine lv_iload_n (pc := 19) hx hb dX1_comes_19 rfl (lv_at hl 1 rfl) ?_
    refine yast (pc := 20) B hW (arN1 ho) dX1_comes_20 hf (fun μ1 H locs hW hf => ?_)
    refine lv_aload_n (pc := 21) hx hb dX1_comes_21 rfl (lv_at hl 0 rfl) ?_
    refine g_X1_15 (pc := 22) B hW ho dX1_comes_22 ?_
    refine lv_aload_n (pc := 25) hx hb dX1_comes_25 rfl (lv_at hl 0 rfl) ?_
    refine g_X1_40 (pc := 26) B hW ho dX1_comes_26 ?_
    refine lv_iload_n (pc := 29) hx hb dX1_comes_29 rfl (lv_at hl 2 rfl) ?_
    refine yast (pc := 30) B hW (arN2 ho) dX1_comes_30 hf (fun μ2 H locs hW hf => ?_)
    refine lv_aload_n (pc := 31) hx hb dX1_comes_31 rfl (lv_at hl 0 rfl) ?_
    refine g_X1_18 (pc := 32) B hW ho dX1_comes_32 ?_
    refine lv_aload_n (pc := 35) hx hb dX1_comes_35 rfl (lv_at hl 0 rfl) ?_
    refine g_X1_40 (pc := 36) B hW ho dX1_comes_36 ?_
    refine lv_iload_n (pc := 39) hx hb dX1_comes_39 rfl (lv_at hl 3 rfl) ?_
    refine yast (pc := 40) B hW (arN3 ho) dX1_comes_40 hf (fun μ3 H locs hW hf => ?_)
    refine lv_aload_n (pc := 41) hx hb dX1_comes_41 rfl (lv_at hl 0 rfl) ?_
    refine lv_iconst (pc := 42) (v := (0 : Int32)) hx hb dX1_comes_42 rfl ?_
    refine p_X1_47 (pc := 43) B hW ho dX1_comes_43 hf (fun μ4 H locs hW hf => ?_)
    refine lv_aload_n (pc := 46) hx hb dX1_comes_46 rfl (lv_at hl 0 rfl) ?_
    refine lv_dup (pc := 47) hx hb dX1_comes_47 rfl ?_
    refine g_X1_40 (pc := 48) B hW ho dX1_comes_48 ?_
    refine lv_iconst (pc := 51) (v := (1 : Int32)) hx hb dX1_comes_51 rfl ?_
    refine lv_iadd (pc := 52) hx hb dX1_comes_52 ?_
    refine p_X1_40 (pc := 53) B hW ho dX1_comes_53 hf (fun μ5 H locs hW hf => ?_)
    refine lv_aload_n (pc := 56) hx hb dX1_comes_56 rfl (lv_at hl 0 rfl) ?_
    refine g_X1_40 (pc := 57) B hW ho dX1_comes_57 ?_
    refine lv_iconst (pc := 60) (v := (1 : Int32)) hx hb dX1_comes_60 rfl ?_
    refine lv_isub (pc := 61) hx hb dX1_comes_61 ?_
    exact zreti (pc := 62) B hW hf dX1_comes_62
  · refine lv_bipush (pc := 8) (v := (-4 : Int32)) hx hb dX1_comes_8 rfl ?_
    exact zreti (pc := 10) B hW hf dX1_comes_10
noncomputable def f_X1_putDown (o : Nat) (x1 : Int32) (x2 : Int32) (x3 : Int32) (x4 : Int32) (μ : Mem) : Option (Int32 × Mem) := (if (μ.1 o 8) < (6 : Int32) then zck (zin ((μ.1 o 8) * (4 : Int32)) 24) (zlet (zI μ (o + 5) (((μ.1 o 8) * (4 : Int32))).toNatClampNeg x1) (fun μ1 => zck (zin (((μ.1 o 8) * (4 : Int32)) + (1 : Int32)) 24) (zlet (zI μ1 (o + 5) ((((μ.1 o 8) * (4 : Int32)) + (1 : Int32))).toNatClampNeg x2) (fun μ2 => zck (zin (((μ.1 o 8) * (4 : Int32)) + (2 : Int32)) 24) (zlet (zI μ2 (o + 5) ((((μ.1 o 8) * (4 : Int32)) + (2 : Int32))).toNatClampNeg x3) (fun μ3 => zck (zin (((μ.1 o 8) * (4 : Int32)) + (3 : Int32)) 24) (zlet (zI μ3 (o + 5) ((((μ.1 o 8) * (4 : Int32)) + (3 : Int32))).toNatClampNeg x4) (fun μ4 => zlet (zI μ4 o 8 ((μ4.1 o 8) + (1 : Int32))) (fun μ5 => some ((μ5.1 o 8), μ5)))))))))) else some ((-4 : Int32), μ))
set_option maxRecDepth 100000 in
theorem c_X1_putDown {G : ZG} {l : Launch} {o : Nat} (ho : zN o) {x1 : Int32} {x2 : Int32} {x3 : Int32} {x4 : Int32} {μ : Mem} {r : Int32} {μ' : Mem} (h : f_X1_putDown o x1 x2 x3 x4 μ = some (r, μ')) : zC ZC G l yX1_putDown cX1_putDown 6 (some .int) 1 [.ref (zad G o), .int x1, .int x2, .int x3, .int x4] μ (some (.int r)) μ' := by
  refine zC.mk (by decide +kernel) (Nat.le_of_ble_eq_true rfl) ?_
  intro p e s m below meth c ls B hl hW
  have B : zB ZC G cX1_putDown 6 "DarkShares$Night" (some .int) p s m [.ref (zad G o), .int x1, .int x2, .int x3, .int x4].toArray meth c := B
  have hl : lv_has ls 6 [(0, .ref (zad G o)), (1, .int x1), (2, .int x2), (3, .int x3), (4, .int x4)] := hl
  have hx := B.1
  have hb := B.2.1
  have hf := h
  unfold f_X1_putDown at hf
  refine lv_aload_n (pc := 0) hx hb dX1_putDown_0 rfl (lv_at hl 0 rfl) ?_
  refine g_X1_44 (pc := 1) B hW ho dX1_putDown_1 ?_
  refine lv_bipush (pc := 4) (v := (6 : Int32)) hx hb dX1_putDown_4 rfl ?_
  refine yic_lt (pc := 6) (tgt := 12) B dX1_putDown_6 (by decide) hf (fun hf => ?_) (fun hf => ?_)
  · refine lv_aload_n (pc := 12) hx hb dX1_putDown_12 rfl (lv_at hl 0 rfl) ?_
    refine g_X1_44 (pc := 13) B hW ho dX1_putDown_13 ?_
    refine lv_iconst (pc := 16) (v := (4 : Int32)) hx hb dX1_putDown_16 rfl ?_
    refine lv_imul (pc := 17) hx hb dX1_putDown_17 ?_
    refine lv_istore (pc := 18) (lv' := [(5, .int ((μ.1 o 8) * (4 : Int32))), (0, .ref (zad G o)), (1, .int x1), (2, .int x2), (3, .int x3), (4, .int x4)]) hx hb dX1_putDown_18 hl (by decide) rfl (fun ls hl => ?_)
    refine lv_aload_n (pc := 20) hx hb dX1_putDown_20 rfl (lv_at hl 1 rfl) ?_
    refine g_X1_24 (pc := 21) B hW ho dX1_putDown_21 ?_
    refine lv_iload (pc := 24) hx hb dX1_putDown_24 (lv_at hl 0 rfl) ?_
    refine lv_iload_n (pc := 26) hx hb dX1_putDown_26 rfl (lv_at hl 2 rfl) ?_
    refine yast (pc := 27) B hW (arN5 ho) dX1_putDown_27 hf (fun μ1 H locs hW hf => ?_)
    refine lv_aload_n (pc := 28) hx hb dX1_putDown_28 rfl (lv_at hl 1 rfl) ?_
    refine g_X1_24 (pc := 29) B hW ho dX1_putDown_29 ?_
    refine lv_iload (pc := 32) hx hb dX1_putDown_32 (lv_at hl 0 rfl) ?_
    refine lv_iconst (pc := 34) (v := (1 : Int32)) hx hb dX1_putDown_34 rfl ?_
    refine lv_iadd (pc := 35) hx hb dX1_putDown_35 ?_
    refine lv_iload_n (pc := 36) hx hb dX1_putDown_36 rfl (lv_at hl 3 rfl) ?_
    refine yast (pc := 37) B hW (arN5 ho) dX1_putDown_37 hf (fun μ2 H locs hW hf => ?_)
    refine lv_aload_n (pc := 38) hx hb dX1_putDown_38 rfl (lv_at hl 1 rfl) ?_
    refine g_X1_24 (pc := 39) B hW ho dX1_putDown_39 ?_
    refine lv_iload (pc := 42) hx hb dX1_putDown_42 (lv_at hl 0 rfl) ?_
    refine lv_iconst (pc := 44) (v := (2 : Int32)) hx hb dX1_putDown_44 rfl ?_
    refine lv_iadd (pc := 45) hx hb dX1_putDown_45 ?_
    refine lv_iload_n (pc := 46) hx hb dX1_putDown_46 rfl (lv_at hl 4 rfl) ?_
    refine yast (pc := 47) B hW (arN5 ho) dX1_putDown_47 hf (fun μ3 H locs hW hf => ?_)
    refine lv_aload_n (pc := 48) hx hb dX1_putDown_48 rfl (lv_at hl 1 rfl) ?_
    refine g_X1_24 (pc := 49) B hW ho dX1_putDown_49 ?_
    refine lv_iload (pc := 52) hx hb dX1_putDown_52 (lv_at hl 0 rfl) ?_
    refine lv_iconst (pc := 54) (v := (3 : Int32)) hx hb dX1_putDown_54 rfl ?_
    refine lv_iadd (pc := 55) hx hb dX1_putDown_55 ?_
    refine lv_iload (pc := 56) hx hb dX1_putDown_56 (lv_at hl 5 rfl) ?_
    refine yast (pc := 58) B hW (arN5 ho) dX1_putDown_58 hf (fun μ4 H locs hW hf => ?_)
    refine lv_aload_n (pc := 59) hx hb dX1_putDown_59 rfl (lv_at hl 1 rfl) ?_
    refine lv_dup (pc := 60) hx hb dX1_putDown_60 rfl ?_
    refine g_X1_44 (pc := 61) B hW ho dX1_putDown_61 ?_
    refine lv_iconst (pc := 64) (v := (1 : Int32)) hx hb dX1_putDown_64 rfl ?_
    refine lv_iadd (pc := 65) hx hb dX1_putDown_65 ?_
    refine p_X1_44 (pc := 66) B hW ho dX1_putDown_66 hf (fun μ5 H locs hW hf => ?_)
    refine lv_aload_n (pc := 69) hx hb dX1_putDown_69 rfl (lv_at hl 1 rfl) ?_
    refine g_X1_44 (pc := 70) B hW ho dX1_putDown_70 ?_
    exact zreti (pc := 73) B hW hf dX1_putDown_73
  · refine lv_bipush (pc := 9) (v := (-4 : Int32)) hx hb dX1_putDown_9 rfl ?_
    exact zreti (pc := 11) B hW hf dX1_putDown_11
noncomputable def f_X1_remember_36 (o : Nat) (μ : Mem) : Option (Unit × Mem) := zck (zcp (0 : Int32) ((μ.1 o 9) * (17 : Int32)) (12 : Int32) 12 136) (zlet (zA μ (o + 6) (va_cpy (μ.1 (o + 4)) (μ.1 (o + 6)) ((0 : Int32)).toNatClampNeg (((μ.1 o 9) * (17 : Int32))).toNatClampNeg ((12 : Int32)).toNatClampNeg)) (fun μ1 => zck (zcp (0 : Int32) (((μ.1 o 9) * (17 : Int32)) + (12 : Int32)) (5 : Int32) 5 136) (zlet (zA μ1 (o + 6) (va_cpy (μ1.1 (o + 3)) (μ1.1 (o + 6)) ((0 : Int32)).toNatClampNeg ((((μ.1 o 9) * (17 : Int32)) + (12 : Int32))).toNatClampNeg ((5 : Int32)).toNatClampNeg)) (fun μ2 => zlet (zI μ2 o 9 ((μ2.1 o 9) + (1 : Int32))) (fun μ3 => some ((), μ3))))))
set_option maxRecDepth 100000 in
theorem t_X1_remember_36 {G : ZG} {p : Program} {l : Launch} {e : Env} {s : State} {m : MethodId} {args : Array Value} {below : List Frame} {meth : Method} {c : Code} (B : zB ZC G cX1_remember 2 "DarkShares$Night" none p s m args meth c) {o : Nat} (ho : zN o) {μ : Mem} {H : Heap} {locs : List Loc} {ls : Array Slot} {r : Unit} {μ' : Mem} (hl : lv_has ls 2 [(0, .ref (zad G o))]) (hW : zW ZC G s H locs μ) (hf : f_X1_remember_36 o μ = some (r, μ')) : W p l e (zR 1) s m args below meth c H locs 0 0 (MQ below (zQ ZC G none μ') args s 0 0 (zAd ZC G)) (F0 m 36 ls []) := by
  have hx := B.1
  have hb := B.2.1
  unfold f_X1_remember_36 at hf
  refine lv_aload_n (pc := 36) hx hb dX1_remember_36 rfl (lv_at hl 0 rfl) ?_
  refine g_X1_47 (pc := 37) B hW ho dX1_remember_37 ?_
  refine lv_bipush (pc := 40) (v := (17 : Int32)) hx hb dX1_remember_40 rfl ?_
  refine lv_imul (pc := 42) hx hb dX1_remember_42 ?_
  refine lv_istore_n (pc := 43) (lv' := [(1, .int ((μ.1 o 9) * (17 : Int32))), (0, .ref (zad G o))]) hx hb dX1_remember_43 rfl hl (by decide) rfl (fun ls hl => ?_)
  refine lv_aload_n (pc := 44) hx hb dX1_remember_44 rfl (lv_at hl 1 rfl) ?_
  refine g_X1_21 (pc := 45) B hW ho dX1_remember_45 ?_
  refine lv_iconst (pc := 48) (v := (0 : Int32)) hx hb dX1_remember_48 rfl ?_
  refine lv_aload_n (pc := 49) hx hb dX1_remember_49 rfl (lv_at hl 1 rfl) ?_
  refine g_X1_27 (pc := 50) B hW ho dX1_remember_50 ?_
  refine lv_iload_n (pc := 53) hx hb dX1_remember_53 rfl (lv_at hl 0 rfl) ?_
  refine lv_bipush (pc := 54) (v := (12 : Int32)) hx hb dX1_remember_54 rfl ?_
  refine ycopy (pc := 56) B hW hl.1 (arN4 ho) (arN6 ho) kw308 kw310 kw309 kw72 (by decide) (by decide) dX1_remember_56 hf (fun μ1 H locs hW hf => ?_)
  refine lv_aload_n (pc := 59) hx hb dX1_remember_59 rfl (lv_at hl 1 rfl) ?_
  refine g_X1_18 (pc := 60) B hW ho dX1_remember_60 ?_
  refine lv_iconst (pc := 63) (v := (0 : Int32)) hx hb dX1_remember_63 rfl ?_
  refine lv_aload_n (pc := 64) hx hb dX1_remember_64 rfl (lv_at hl 1 rfl) ?_
  refine g_X1_27 (pc := 65) B hW ho dX1_remember_65 ?_
  refine lv_iload_n (pc := 68) hx hb dX1_remember_68 rfl (lv_at hl 0 rfl) ?_
  refine lv_bipush (pc := 69) (v := (12 : Int32)) hx hb dX1_remember_69 rfl ?_
  refine lv_iadd (pc := 71) hx hb dX1_remember_71 ?_
  refine lv_iconst (pc := 72) (v := (5 : Int32)) hx hb dX1_remember_72 rfl ?_
  refine ycopy (pc := 73) B hW hl.1 (arN3 ho) (arN6 ho) kw308 kw310 kw309 kw72 (by decide) (by decide) dX1_remember_73 hf (fun μ2 H locs hW hf => ?_)
  refine lv_aload_n (pc := 76) hx hb dX1_remember_76 rfl (lv_at hl 1 rfl) ?_
  refine lv_dup (pc := 77) hx hb dX1_remember_77 rfl ?_
  refine g_X1_47 (pc := 78) B hW ho dX1_remember_78 ?_
  refine lv_iconst (pc := 81) (v := (1 : Int32)) hx hb dX1_remember_81 rfl ?_
  refine lv_iadd (pc := 82) hx hb dX1_remember_82 ?_
  refine p_X1_47 (pc := 83) B hW ho dX1_remember_83 hf (fun μ3 H locs hW hf => ?_)
  exact zretv (pc := 86) B hW hf dX1_remember_86
noncomputable def f_X1_remember (o : Nat) (μ : Mem) : Option (Unit × Mem) := (if (μ.1 o 9) < (8 : Int32) then f_X1_remember_36 o μ else zlet (zI μ o 9 (7 : Int32)) (fun μ1 => zck (zcp (17 : Int32) (0 : Int32) ((μ1.1 o 9) * (17 : Int32)) 136 136) (zlet (zA μ1 (o + 6) (va_cpy (μ1.1 (o + 6)) (μ1.1 (o + 6)) ((17 : Int32)).toNatClampNeg ((0 : Int32)).toNatClampNeg (((μ1.1 o 9) * (17 : Int32))).toNatClampNeg)) (fun μ2 => f_X1_remember_36 o μ2))))
set_option maxRecDepth 100000 in
theorem c_X1_remember {G : ZG} {l : Launch} {o : Nat} (ho : zN o) {μ : Mem} {r : Unit} {μ' : Mem} (h : f_X1_remember o μ = some (r, μ')) : zC ZC G l yX1_remember cX1_remember 2 none 1 [.ref (zad G o)] μ none μ' := by
  refine zC.mk (by decide +kernel) (Nat.le_of_ble_eq_true rfl) ?_
  intro p e s m below meth c ls B hl hW
  have B : zB ZC G cX1_remember 2 "DarkShares$Night" none p s m [.ref (zad G o)].toArray meth c := B
  have hl : lv_has ls 2 [(0, .ref (zad G o))] := hl
  have hx := B.1
  have hb := B.2.1
  have hf := h
  unfold f_X1_remember at hf
  refine lv_aload_n (pc := 0) hx hb dX1_remember_0 rfl (lv_at hl 0 rfl) ?_
  refine g_X1_47 (pc := 1) B hW ho dX1_remember_1 ?_
  refine lv_bipush (pc := 4) (v := (8 : Int32)) hx hb dX1_remember_4 rfl ?_
  refine yic_lt (pc := 6) (tgt := 36) B dX1_remember_6 (by decide) hf (fun hf => ?_) (fun hf => ?_)
  · exact t_X1_remember_36 B ho (lv_sub hl [0] rfl) hW hf
  · refine lv_aload_n (pc := 9) hx hb dX1_remember_9 rfl (lv_at hl 0 rfl) ?_
    refine lv_bipush (pc := 10) (v := (7 : Int32)) hx hb dX1_remember_10 rfl ?_
    refine p_X1_47 (pc := 12) B hW ho dX1_remember_12 hf (fun μ1 H locs hW hf => ?_)
    refine lv_aload_n (pc := 15) hx hb dX1_remember_15 rfl (lv_at hl 0 rfl) ?_
    refine g_X1_27 (pc := 16) B hW ho dX1_remember_16 ?_
    refine lv_bipush (pc := 19) (v := (17 : Int32)) hx hb dX1_remember_19 rfl ?_
    refine lv_aload_n (pc := 21) hx hb dX1_remember_21 rfl (lv_at hl 0 rfl) ?_
    refine g_X1_27 (pc := 22) B hW ho dX1_remember_22 ?_
    refine lv_iconst (pc := 25) (v := (0 : Int32)) hx hb dX1_remember_25 rfl ?_
    refine lv_aload_n (pc := 26) hx hb dX1_remember_26 rfl (lv_at hl 0 rfl) ?_
    refine g_X1_47 (pc := 27) B hW ho dX1_remember_27 ?_
    refine lv_bipush (pc := 30) (v := (17 : Int32)) hx hb dX1_remember_30 rfl ?_
    refine lv_imul (pc := 32) hx hb dX1_remember_32 ?_
    refine ycopy (pc := 33) B hW hl.1 (arN6 ho) (arN6 ho) kw308 kw310 kw309 kw72 (by decide) (by decide) dX1_remember_33 hf (fun μ2 H locs hW hf => ?_)
    exact t_X1_remember_36 B ho (lv_sub hl [0] rfl) hW hf
noncomputable def f_X1_goBack (o : Nat) (μ : Mem) : Option (Unit × Mem) := (if 0 < (μ.1 o 9) then zlet (zI μ o 9 ((μ.1 o 9) - (1 : Int32))) (fun μ1 => zck (zcp ((μ1.1 o 9) * (17 : Int32)) (0 : Int32) (12 : Int32) 136 12) (zlet (zA μ1 (o + 4) (va_cpy (μ1.1 (o + 6)) (μ1.1 (o + 4)) (((μ1.1 o 9) * (17 : Int32))).toNatClampNeg ((0 : Int32)).toNatClampNeg ((12 : Int32)).toNatClampNeg)) (fun μ2 => zck (zcp (((μ1.1 o 9) * (17 : Int32)) + (12 : Int32)) (0 : Int32) (5 : Int32) 136 5) (zlet (zA μ2 (o + 3) (va_cpy (μ2.1 (o + 6)) (μ2.1 (o + 3)) ((((μ1.1 o 9) * (17 : Int32)) + (12 : Int32))).toNatClampNeg ((0 : Int32)).toNatClampNeg ((5 : Int32)).toNatClampNeg)) (fun μ3 => some ((), μ3)))))) else some ((), μ))
set_option maxRecDepth 100000 in
theorem c_X1_goBack {G : ZG} {l : Launch} {o : Nat} (ho : zN o) {μ : Mem} {r : Unit} {μ' : Mem} (h : f_X1_goBack o μ = some (r, μ')) : zC ZC G l yX1_goBack cX1_goBack 2 none 1 [.ref (zad G o)] μ none μ' := by
  refine zC.mk (by decide +kernel) (Nat.le_of_ble_eq_true rfl) ?_
  intro p e s m below meth c ls B hl hW
  have B : zB ZC G cX1_goBack 2 "DarkShares$Night" none p s m [.ref (zad G o)].toArray meth c := B
  have hl : lv_has ls 2 [(0, .ref (zad G o))] := hl
  have hx := B.1
  have hb := B.2.1
  have hf := h
  unfold f_X1_goBack at hf
  refine lv_aload_n (pc := 0) hx hb dX1_goBack_0 rfl (lv_at hl 0 rfl) ?_
  refine g_X1_47 (pc := 1) B hW ho dX1_goBack_1 ?_
  refine yif_gt (pc := 4) (tgt := 8) B dX1_goBack_4 (by decide) hf (fun hf => ?_) (fun hf => ?_)
  · refine lv_aload_n (pc := 8) hx hb dX1_goBack_8 rfl (lv_at hl 0 rfl) ?_
    refine lv_dup (pc := 9) hx hb dX1_goBack_9 rfl ?_
    refine g_X1_47 (pc := 10) B hW ho dX1_goBack_10 ?_
    refine lv_iconst (pc := 13) (v := (1 : Int32)) hx hb dX1_goBack_13 rfl ?_
    refine lv_isub (pc := 14) hx hb dX1_goBack_14 ?_
    refine p_X1_47 (pc := 15) B hW ho dX1_goBack_15 hf (fun μ1 H locs hW hf => ?_)
    refine lv_aload_n (pc := 18) hx hb dX1_goBack_18 rfl (lv_at hl 0 rfl) ?_
    refine g_X1_47 (pc := 19) B hW ho dX1_goBack_19 ?_
    refine lv_bipush (pc := 22) (v := (17 : Int32)) hx hb dX1_goBack_22 rfl ?_
    refine lv_imul (pc := 24) hx hb dX1_goBack_24 ?_
    refine lv_istore_n (pc := 25) (lv' := [(1, .int ((μ1.1 o 9) * (17 : Int32))), (0, .ref (zad G o))]) hx hb dX1_goBack_25 rfl hl (by decide) rfl (fun ls hl => ?_)
    refine lv_aload_n (pc := 26) hx hb dX1_goBack_26 rfl (lv_at hl 1 rfl) ?_
    refine g_X1_27 (pc := 27) B hW ho dX1_goBack_27 ?_
    refine lv_iload_n (pc := 30) hx hb dX1_goBack_30 rfl (lv_at hl 0 rfl) ?_
    refine lv_aload_n (pc := 31) hx hb dX1_goBack_31 rfl (lv_at hl 1 rfl) ?_
    refine g_X1_21 (pc := 32) B hW ho dX1_goBack_32 ?_
    refine lv_iconst (pc := 35) (v := (0 : Int32)) hx hb dX1_goBack_35 rfl ?_
    refine lv_bipush (pc := 36) (v := (12 : Int32)) hx hb dX1_goBack_36 rfl ?_
    refine ycopy (pc := 38) B hW hl.1 (arN6 ho) (arN4 ho) kw308 kw310 kw309 kw72 (by decide) (by decide) dX1_goBack_38 hf (fun μ2 H locs hW hf => ?_)
    refine lv_aload_n (pc := 41) hx hb dX1_goBack_41 rfl (lv_at hl 1 rfl) ?_
    refine g_X1_27 (pc := 42) B hW ho dX1_goBack_42 ?_
    refine lv_iload_n (pc := 45) hx hb dX1_goBack_45 rfl (lv_at hl 0 rfl) ?_
    refine lv_bipush (pc := 46) (v := (12 : Int32)) hx hb dX1_goBack_46 rfl ?_
    refine lv_iadd (pc := 48) hx hb dX1_goBack_48 ?_
    refine lv_aload_n (pc := 49) hx hb dX1_goBack_49 rfl (lv_at hl 1 rfl) ?_
    refine g_X1_18 (pc := 50) B hW ho dX1_goBack_50 ?_
    refine lv_iconst (pc := 53) (v := (0 : Int32)) hx hb dX1_goBack_53 rfl ?_
    refine lv_iconst (pc := 54) (v := (5 : Int32)) hx hb dX1_goBack_54 rfl ?_
    refine ycopy (pc := 55) B hW hl.1 (arN6 ho) (arN3 ho) kw308 kw310 kw309 kw72 (by decide) (by decide) dX1_goBack_55 hf (fun μ3 H locs hW hf => ?_)
    exact zretv (pc := 58) B hW hf dX1_goBack_58
  · exact zretv (pc := 7) B hW hf dX1_goBack_7
noncomputable def f_X1_cellsOf_4 (o : Nat) : Nat → Int32 → Int32 → Int32 → Mem → Option (Int32 × Mem)
  | 0, _, _, _, _ => none
  | n + 1, x1, x2, x3, μ => (if (12 : Int32) ≤ x3 then some (x2, μ) else zck (zin x3 12) ((if (μ.1 (o + 4) (x3).toNatClampNeg) = x1 then f_X1_cellsOf_4 o n x1 (x2 ||| ((1 : Int32) <<< (x3 &&& 31))) (x3 + (1 : Int32)) μ else f_X1_cellsOf_4 o n x1 x2 (x3 + (1 : Int32)) μ)))
set_option maxRecDepth 100000 in
theorem t_X1_cellsOf_4 {G : ZG} {p : Program} {l : Launch} {e : Env} {s : State} {m : MethodId} {args : Array Value} {below : List Frame} {meth : Method} {c : Code} (B : zB ZC G cX1_cellsOf 4 "DarkShares$Night" (some .int) p s m args meth c) {o : Nat} (ho : zN o) : ∀ (n : Nat) {x1 : Int32} {x2 : Int32} {x3 : Int32} {μ : Mem} {H : Heap} {locs : List Loc} {ls : Array Slot} {r : Int32} {μ' : Mem}, lv_has ls 4 [(0, .ref (zad G o)), (1, .int x1), (2, .int x2), (3, .int x3)] → zW ZC G s H locs μ → f_X1_cellsOf_4 o n x1 x2 x3 μ = some (r, μ') → W p l e (zR 1) s m args below meth c H locs 0 0 (MQ below (zQ ZC G (some (.int r)) μ') args s 0 0 (zAd ZC G)) (F0 m 4 ls []) := by
  have hx := B.1
  have hb := B.2.1
  intro n
  induction n with
  | zero => intro _ _ _ _ _ _ _ _ _ hl hW hf; cases hf
  | succ n ih =>
    intro x1 x2 x3 μ H locs ls r μ' hl hW hf
    rw [f_X1_cellsOf_4] at hf
    refine lv_iload_n (pc := 4) hx hb dX1_cellsOf_4 rfl (lv_at hl 3 rfl) ?_
    refine lv_bipush (pc := 5) (v := (12 : Int32)) hx hb dX1_cellsOf_5 rfl ?_
    refine yic_ge (pc := 7) (tgt := 32) B dX1_cellsOf_7 (by decide) hf (fun hf => ?_) (fun hf => ?_)
    · refine lv_iload_n (pc := 32) hx hb dX1_cellsOf_32 rfl (lv_at hl 2 rfl) ?_
      exact zreti (pc := 33) B hW hf dX1_cellsOf_33
    · refine lv_aload_n (pc := 10) hx hb dX1_cellsOf_10 rfl (lv_at hl 0 rfl) ?_
      refine g_X1_21 (pc := 11) B hW ho dX1_cellsOf_11 ?_
      refine lv_iload_n (pc := 14) hx hb dX1_cellsOf_14 rfl (lv_at hl 3 rfl) ?_
      refine yald (pc := 15) B hW (arN4 ho) dX1_cellsOf_15 hf (fun hf => ?_)
      refine lv_iload_n (pc := 16) hx hb dX1_cellsOf_16 rfl (lv_at hl 1 rfl) ?_
      refine yic_ne (pc := 17) (tgt := 26) B dX1_cellsOf_17 (by decide) hf (fun hf => ?_) (fun hf => ?_)
      · refine lv_iinc (pc := 26) (v := (x3 + (1 : Int32))) (lv' := [(3, .int (x3 + (1 : Int32))), (0, .ref (zad G o)), (1, .int x1), (2, .int x2)]) hx hb dX1_cellsOf_26 hl (k := 3) rfl rfl (by decide) rfl (fun ls hl => ?_)
        refine lv_goto (pc := 29) (tgt := 4) hx hb dX1_cellsOf_29 (by decide) ?_
        exact ih (lv_sub hl [1, 2, 3, 0] rfl) hW hf
      · refine lv_iload_n (pc := 20) hx hb dX1_cellsOf_20 rfl (lv_at hl 2 rfl) ?_
        refine lv_iconst (pc := 21) (v := (1 : Int32)) hx hb dX1_cellsOf_21 rfl ?_
        refine lv_iload_n (pc := 22) hx hb dX1_cellsOf_22 rfl (lv_at hl 3 rfl) ?_
        refine lv_ishl (pc := 23) hx hb dX1_cellsOf_23 ?_
        refine lv_ior (pc := 24) hx hb dX1_cellsOf_24 ?_
        refine lv_istore_n (pc := 25) (lv' := [(2, .int (x2 ||| ((1 : Int32) <<< (x3 &&& 31)))), (0, .ref (zad G o)), (1, .int x1), (3, .int x3)]) hx hb dX1_cellsOf_25 rfl hl (by decide) rfl (fun ls hl => ?_)
        refine lv_iinc (pc := 26) (v := (x3 + (1 : Int32))) (lv' := [(3, .int (x3 + (1 : Int32))), (2, .int (x2 ||| ((1 : Int32) <<< (x3 &&& 31)))), (0, .ref (zad G o)), (1, .int x1)]) hx hb dX1_cellsOf_26 hl (k := 3) rfl rfl (by decide) rfl (fun ls hl => ?_)
        refine lv_goto (pc := 29) (tgt := 4) hx hb dX1_cellsOf_29 (by decide) ?_
        exact ih (lv_sub hl [2, 3, 1, 0] rfl) hW hf
noncomputable def f_X1_cellsOf (o : Nat) (x1 : Int32) (μ : Mem) : Option (Int32 × Mem) := f_X1_cellsOf_4 o zFU x1 (0 : Int32) (0 : Int32) μ
set_option maxRecDepth 100000 in
theorem c_X1_cellsOf {G : ZG} {l : Launch} {o : Nat} (ho : zN o) {x1 : Int32} {μ : Mem} {r : Int32} {μ' : Mem} (h : f_X1_cellsOf o x1 μ = some (r, μ')) : zC ZC G l yX1_cellsOf cX1_cellsOf 4 (some .int) 1 [.ref (zad G o), .int x1] μ (some (.int r)) μ' := by
  refine zC.mk (by decide +kernel) (Nat.le_of_ble_eq_true rfl) ?_
  intro p e s m below meth c ls B hl hW
  have B : zB ZC G cX1_cellsOf 4 "DarkShares$Night" (some .int) p s m [.ref (zad G o), .int x1].toArray meth c := B
  have hl : lv_has ls 4 [(0, .ref (zad G o)), (1, .int x1)] := hl
  have hx := B.1
  have hb := B.2.1
  have hf := h
  unfold f_X1_cellsOf at hf
  refine lv_iconst (pc := 0) (v := (0 : Int32)) hx hb dX1_cellsOf_0 rfl ?_
  refine lv_istore_n (pc := 1) (lv' := [(2, .int (0 : Int32)), (0, .ref (zad G o)), (1, .int x1)]) hx hb dX1_cellsOf_1 rfl hl (by decide) rfl (fun ls hl => ?_)
  refine lv_iconst (pc := 2) (v := (0 : Int32)) hx hb dX1_cellsOf_2 rfl ?_
  refine lv_istore_n (pc := 3) (lv' := [(3, .int (0 : Int32)), (2, .int (0 : Int32)), (0, .ref (zad G o)), (1, .int x1)]) hx hb dX1_cellsOf_3 rfl hl (by decide) rfl (fun ls hl => ?_)
  exact t_X1_cellsOf_4 B ho zFU (lv_sub hl [2, 3, 1, 0] rfl) hW hf
noncomputable def f_J6_bitCount_0f7a4 (x0 : Int32) (μ : Mem) : Option (Int32 × Mem) := zlet (x0 - ((((x0).toUInt32 >>> (((1 : Int32)).toUInt32 &&& Int32.toUInt32 31)).toInt32) &&& (1431655765 : Int32))) (fun y1 => zlet ((y1 &&& (858993459 : Int32)) + ((((y1).toUInt32 >>> (((2 : Int32)).toUInt32 &&& Int32.toUInt32 31)).toInt32) &&& (858993459 : Int32))) (fun y2 => zlet ((y2 + (((y2).toUInt32 >>> (((4 : Int32)).toUInt32 &&& Int32.toUInt32 31)).toInt32)) &&& (252645135 : Int32)) (fun y3 => zlet (y3 + (((y3).toUInt32 >>> (((8 : Int32)).toUInt32 &&& Int32.toUInt32 31)).toInt32)) (fun y4 => zlet (y4 + (((y4).toUInt32 >>> (((16 : Int32)).toUInt32 &&& Int32.toUInt32 31)).toInt32)) (fun y5 => some ((y5 &&& (63 : Int32)), μ))))))
set_option maxRecDepth 100000 in
theorem c_J6_bitCount_0f7a4 {G : ZG} {l : Launch} {x0 : Int32} {μ : Mem} {r : Int32} {μ' : Mem} (h : f_J6_bitCount_0f7a4 x0 μ = some (r, μ')) : zC ZC G l yJ6_bitCount_0f7a4 cJ6_bitCount_0f7a4 1 (some .int) 1 [.int x0] μ (some (.int r)) μ' := by
  refine zC.mk (by decide +kernel) (Nat.le_of_ble_eq_true rfl) ?_
  intro p e s m below meth c ls B hl hW
  have B : zB ZC G cJ6_bitCount_0f7a4 1 "java/lang/Integer" (some .int) p s m [.int x0].toArray meth c := B
  have hl : lv_has ls 1 [(0, .int x0)] := hl
  have hx := B.1
  have hb := B.2.1
  have hf := h
  unfold f_J6_bitCount_0f7a4 at hf
  refine lv_iload_n (pc := 0) hx hb dJ6_bitCount_0f7a4_0 rfl (lv_at hl 0 rfl) ?_
  refine lv_iload_n (pc := 1) hx hb dJ6_bitCount_0f7a4_1 rfl (lv_at hl 0 rfl) ?_
  refine lv_iconst (pc := 2) (v := (1 : Int32)) hx hb dJ6_bitCount_0f7a4_2 rfl ?_
  refine lv_iushr (pc := 3) (v := (((x0).toUInt32 >>> (((1 : Int32)).toUInt32 &&& Int32.toUInt32 31)).toInt32)) hx hb dJ6_bitCount_0f7a4_3 rfl ?_
  refine lv_ldcw (pc := 4) hx hb B.2.2.2.1 (B.2.2.2.2.1 _ kw465) dJ6_bitCount_0f7a4_4 ?_
  refine lv_iand (pc := 7) hx hb dJ6_bitCount_0f7a4_7 ?_
  refine lv_isub (pc := 8) hx hb dJ6_bitCount_0f7a4_8 ?_
  refine ytop (pc := 9) hf (fun y1 hf => ?_)
  refine lv_istore_n (pc := 9) (lv' := [(0, .int y1)]) hx hb dJ6_bitCount_0f7a4_9 rfl hl (by decide) rfl (fun ls hl => ?_)
  refine lv_iload_n (pc := 10) hx hb dJ6_bitCount_0f7a4_10 rfl (lv_at hl 0 rfl) ?_
  refine lv_ldcw (pc := 11) hx hb B.2.2.2.1 (B.2.2.2.2.1 _ kw466) dJ6_bitCount_0f7a4_11 ?_
  refine lv_iand (pc := 14) hx hb dJ6_bitCount_0f7a4_14 ?_
  refine lv_iload_n (pc := 15) hx hb dJ6_bitCount_0f7a4_15 rfl (lv_at hl 0 rfl) ?_
  refine lv_iconst (pc := 16) (v := (2 : Int32)) hx hb dJ6_bitCount_0f7a4_16 rfl ?_
  refine lv_iushr (pc := 17) (v := (((y1).toUInt32 >>> (((2 : Int32)).toUInt32 &&& Int32.toUInt32 31)).toInt32)) hx hb dJ6_bitCount_0f7a4_17 rfl ?_
  refine lv_ldcw (pc := 18) hx hb B.2.2.2.1 (B.2.2.2.2.1 _ kw466) dJ6_bitCount_0f7a4_18 ?_
  refine lv_iand (pc := 21) hx hb dJ6_bitCount_0f7a4_21 ?_
  refine lv_iadd (pc := 22) hx hb dJ6_bitCount_0f7a4_22 ?_
  refine ytop (pc := 23) hf (fun y2 hf => ?_)
  refine lv_istore_n (pc := 23) (lv' := [(0, .int y2)]) hx hb dJ6_bitCount_0f7a4_23 rfl hl (by decide) rfl (fun ls hl => ?_)
  refine lv_iload_n (pc := 24) hx hb dJ6_bitCount_0f7a4_24 rfl (lv_at hl 0 rfl) ?_
  refine lv_iload_n (pc := 25) hx hb dJ6_bitCount_0f7a4_25 rfl (lv_at hl 0 rfl) ?_
  refine lv_iconst (pc := 26) (v := (4 : Int32)) hx hb dJ6_bitCount_0f7a4_26 rfl ?_
  refine lv_iushr (pc := 27) (v := (((y2).toUInt32 >>> (((4 : Int32)).toUInt32 &&& Int32.toUInt32 31)).toInt32)) hx hb dJ6_bitCount_0f7a4_27 rfl ?_
  refine lv_iadd (pc := 28) hx hb dJ6_bitCount_0f7a4_28 ?_
  refine lv_ldcw (pc := 29) hx hb B.2.2.2.1 (B.2.2.2.2.1 _ kw467) dJ6_bitCount_0f7a4_29 ?_
  refine lv_iand (pc := 32) hx hb dJ6_bitCount_0f7a4_32 ?_
  refine ytop (pc := 33) hf (fun y3 hf => ?_)
  refine lv_istore_n (pc := 33) (lv' := [(0, .int y3)]) hx hb dJ6_bitCount_0f7a4_33 rfl hl (by decide) rfl (fun ls hl => ?_)
  refine lv_iload_n (pc := 34) hx hb dJ6_bitCount_0f7a4_34 rfl (lv_at hl 0 rfl) ?_
  refine lv_iload_n (pc := 35) hx hb dJ6_bitCount_0f7a4_35 rfl (lv_at hl 0 rfl) ?_
  refine lv_bipush (pc := 36) (v := (8 : Int32)) hx hb dJ6_bitCount_0f7a4_36 rfl ?_
  refine lv_iushr (pc := 38) (v := (((y3).toUInt32 >>> (((8 : Int32)).toUInt32 &&& Int32.toUInt32 31)).toInt32)) hx hb dJ6_bitCount_0f7a4_38 rfl ?_
  refine lv_iadd (pc := 39) hx hb dJ6_bitCount_0f7a4_39 ?_
  refine ytop (pc := 40) hf (fun y4 hf => ?_)
  refine lv_istore_n (pc := 40) (lv' := [(0, .int y4)]) hx hb dJ6_bitCount_0f7a4_40 rfl hl (by decide) rfl (fun ls hl => ?_)
  refine lv_iload_n (pc := 41) hx hb dJ6_bitCount_0f7a4_41 rfl (lv_at hl 0 rfl) ?_
  refine lv_iload_n (pc := 42) hx hb dJ6_bitCount_0f7a4_42 rfl (lv_at hl 0 rfl) ?_
  refine lv_bipush (pc := 43) (v := (16 : Int32)) hx hb dJ6_bitCount_0f7a4_43 rfl ?_
  refine lv_iushr (pc := 45) (v := (((y4).toUInt32 >>> (((16 : Int32)).toUInt32 &&& Int32.toUInt32 31)).toInt32)) hx hb dJ6_bitCount_0f7a4_45 rfl ?_
  refine lv_iadd (pc := 46) hx hb dJ6_bitCount_0f7a4_46 ?_
  refine ytop (pc := 47) hf (fun y5 hf => ?_)
  refine lv_istore_n (pc := 47) (lv' := [(0, .int y5)]) hx hb dJ6_bitCount_0f7a4_47 rfl hl (by decide) rfl (fun ls hl => ?_)
  refine lv_iload_n (pc := 48) hx hb dJ6_bitCount_0f7a4_48 rfl (lv_at hl 0 rfl) ?_
  refine lv_bipush (pc := 49) (v := (63 : Int32)) hx hb dJ6_bitCount_0f7a4_49 rfl ?_
  refine lv_iand (pc := 51) hx hb dJ6_bitCount_0f7a4_51 ?_
  exact zreti (pc := 52) B hW hf dJ6_bitCount_0f7a4_52
noncomputable def f_X1_greyCells (o : Nat) (μ : Mem) : Option (Int32 × Mem) := zbind (f_X1_cellsOf o (-1 : Int32) μ) (fun r2 μ1 => zbind (f_J6_bitCount_0f7a4 r2 μ1) (fun r4 μ3 => some (r4, μ3)))
set_option maxRecDepth 100000 in
theorem c_X1_greyCells {G : ZG} {l : Launch} {o : Nat} (ho : zN o) {μ : Mem} {r : Int32} {μ' : Mem} (h : f_X1_greyCells o μ = some (r, μ')) : zC ZC G l yX1_greyCells cX1_greyCells 1 (some .int) 2 [.ref (zad G o)] μ (some (.int r)) μ' := by
  refine zC.mk (by decide +kernel) (Nat.le_of_ble_eq_true rfl) ?_
  intro p e s m below meth c ls B hl hW
  have B : zB ZC G cX1_greyCells 1 "DarkShares$Night" (some .int) p s m [.ref (zad G o)].toArray meth c := B
  have hl : lv_has ls 1 [(0, .ref (zad G o))] := hl
  have hx := B.1
  have hb := B.2.1
  have hf := h
  unfold f_X1_greyCells at hf
  refine lv_aload_n (pc := 0) hx hb dX1_greyCells_0 rfl (lv_at hl 0 rfl) ?_
  refine lv_iconst (pc := 1) (v := (-1 : Int32)) hx hb dX1_greyCells_1 rfl ?_
  refine s_X1_56 (pc := 2) B hW hl.1 ho (by decide) (zle8 rfl) dX1_greyCells_2 (fun _ _ h => c_X1_cellsOf ho h) hf (fun r2 μ1 H locs hW hf => ?_)
  refine s_X1_60 (pc := 5) B hW hl.1 (by decide) (zle8 rfl) dX1_greyCells_5 (fun _ _ h => c_J6_bitCount_0f7a4 h) hf (fun r4 μ3 H locs hW hf => ?_)
  exact zreti (pc := 8) B hW hf dX1_greyCells_8
noncomputable def f_X1_allJam_4 (o : Nat) : Nat → Int32 → Int32 → Mem → Option (Int32 × Mem)
  | 0, _, _, _ => none
  | n + 1, x1, x2, μ => (if (μ.1 o 7) ≤ x2 then some (x1, μ) else zck (zin x2 5) (f_X1_allJam_4 o n (x1 + (μ.1 (o + 3) (x2).toNatClampNeg)) (x2 + (1 : Int32)) μ))
set_option maxRecDepth 100000 in
theorem t_X1_allJam_4 {G : ZG} {p : Program} {l : Launch} {e : Env} {s : State} {m : MethodId} {args : Array Value} {below : List Frame} {meth : Method} {c : Code} (B : zB ZC G cX1_allJam 3 "DarkShares$Night" (some .int) p s m args meth c) {o : Nat} (ho : zN o) : ∀ (n : Nat) {x1 : Int32} {x2 : Int32} {μ : Mem} {H : Heap} {locs : List Loc} {ls : Array Slot} {r : Int32} {μ' : Mem}, lv_has ls 3 [(0, .ref (zad G o)), (1, .int x1), (2, .int x2)] → zW ZC G s H locs μ → f_X1_allJam_4 o n x1 x2 μ = some (r, μ') → W p l e (zR 1) s m args below meth c H locs 0 0 (MQ below (zQ ZC G (some (.int r)) μ') args s 0 0 (zAd ZC G)) (F0 m 4 ls []) := by
  have hx := B.1
  have hb := B.2.1
  intro n
  induction n with
  | zero => intro _ _ _ _ _ _ _ _ hl hW hf; cases hf
  | succ n ih =>
    intro x1 x2 μ H locs ls r μ' hl hW hf
    rw [f_X1_allJam_4] at hf
    refine lv_iload_n (pc := 4) hx hb dX1_allJam_4 rfl (lv_at hl 2 rfl) ?_
    refine lv_aload_n (pc := 5) hx hb dX1_allJam_5 rfl (lv_at hl 0 rfl) ?_
    refine g_X1_40 (pc := 6) B hW ho dX1_allJam_6 ?_
    refine yic_ge (pc := 9) (tgt := 27) B dX1_allJam_9 (by decide) hf (fun hf => ?_) (fun hf => ?_)
    · refine lv_iload_n (pc := 27) hx hb dX1_allJam_27 rfl (lv_at hl 1 rfl) ?_
      exact zreti (pc := 28) B hW hf dX1_allJam_28
    · refine lv_iload_n (pc := 12) hx hb dX1_allJam_12 rfl (lv_at hl 1 rfl) ?_
      refine lv_aload_n (pc := 13) hx hb dX1_allJam_13 rfl (lv_at hl 0 rfl) ?_
      refine g_X1_18 (pc := 14) B hW ho dX1_allJam_14 ?_
      refine lv_iload_n (pc := 17) hx hb dX1_allJam_17 rfl (lv_at hl 2 rfl) ?_
      refine yald (pc := 18) B hW (arN3 ho) dX1_allJam_18 hf (fun hf => ?_)
      refine lv_iadd (pc := 19) hx hb dX1_allJam_19 ?_
      refine lv_istore_n (pc := 20) (lv' := [(1, .int (x1 + (μ.1 (o + 3) (x2).toNatClampNeg))), (0, .ref (zad G o)), (2, .int x2)]) hx hb dX1_allJam_20 rfl hl (by decide) rfl (fun ls hl => ?_)
      refine lv_iinc (pc := 21) (v := (x2 + (1 : Int32))) (lv' := [(2, .int (x2 + (1 : Int32))), (1, .int (x1 + (μ.1 (o + 3) (x2).toNatClampNeg))), (0, .ref (zad G o))]) hx hb dX1_allJam_21 hl (k := 2) rfl rfl (by decide) rfl (fun ls hl => ?_)
      refine lv_goto (pc := 24) (tgt := 4) hx hb dX1_allJam_24 (by decide) ?_
      exact ih (lv_sub hl [2, 1, 0] rfl) hW hf
noncomputable def f_X1_allJam (o : Nat) (μ : Mem) : Option (Int32 × Mem) := f_X1_allJam_4 o zFU (0 : Int32) (0 : Int32) μ
set_option maxRecDepth 100000 in
theorem c_X1_allJam {G : ZG} {l : Launch} {o : Nat} (ho : zN o) {μ : Mem} {r : Int32} {μ' : Mem} (h : f_X1_allJam o μ = some (r, μ')) : zC ZC G l yX1_allJam cX1_allJam 3 (some .int) 1 [.ref (zad G o)] μ (some (.int r)) μ' := by
  refine zC.mk (by decide +kernel) (Nat.le_of_ble_eq_true rfl) ?_
  intro p e s m below meth c ls B hl hW
  have B : zB ZC G cX1_allJam 3 "DarkShares$Night" (some .int) p s m [.ref (zad G o)].toArray meth c := B
  have hl : lv_has ls 3 [(0, .ref (zad G o))] := hl
  have hx := B.1
  have hb := B.2.1
  have hf := h
  unfold f_X1_allJam at hf
  refine lv_iconst (pc := 0) (v := (0 : Int32)) hx hb dX1_allJam_0 rfl ?_
  refine lv_istore_n (pc := 1) (lv' := [(1, .int (0 : Int32)), (0, .ref (zad G o))]) hx hb dX1_allJam_1 rfl hl (by decide) rfl (fun ls hl => ?_)
  refine lv_iconst (pc := 2) (v := (0 : Int32)) hx hb dX1_allJam_2 rfl ?_
  refine lv_istore_n (pc := 3) (lv' := [(2, .int (0 : Int32)), (1, .int (0 : Int32)), (0, .ref (zad G o))]) hx hb dX1_allJam_3 rfl hl (by decide) rfl (fun ls hl => ?_)
  exact t_X1_allJam_4 B ho zFU (lv_sub hl [2, 1, 0] rfl) hW hf
noncomputable def f_X1_kindOf (o : Nat) (x1 : Int32) (μ : Mem) : Option (Nat × Mem) := zck (zin x1 5) (zck (zin (μ.1 (o + 1) (x1).toNatClampNeg) 6) (some ((30 + ((μ.1 (o + 1) (x1).toNatClampNeg)).toNatClampNeg), μ)))
set_option maxRecDepth 100000 in
theorem c_X1_kindOf {G : ZG} {l : Launch} {o : Nat} (ho : zN o) {x1 : Int32} {μ : Mem} {r : Nat} {μ' : Mem} (h : f_X1_kindOf o x1 μ = some (r, μ')) : zC ZC G l yX1_kindOf cX1_kindOf 2 (some (.object "DarkShares$Plain")) 1 [.ref (zad G o), .int x1] μ (some (.ref (zad G r))) μ' := by
  refine zC.mk (by decide +kernel) (Nat.le_of_ble_eq_true rfl) ?_
  intro p e s m below meth c ls B hl hW
  have B : zB ZC G cX1_kindOf 2 "DarkShares$Night" (some (.object "DarkShares$Plain")) p s m [.ref (zad G o), .int x1].toArray meth c := B
  have hl : lv_has ls 2 [(0, .ref (zad G o)), (1, .int x1)] := hl
  have hx := B.1
  have hb := B.2.1
  have hf := h
  unfold f_X1_kindOf at hf
  refine lv_aload_n (pc := 0) hx hb dX1_kindOf_0 rfl (lv_at hl 0 rfl) ?_
  refine g_X1_30 (pc := 1) B hW ho dX1_kindOf_1 ?_
  refine lv_aload_n (pc := 4) hx hb dX1_kindOf_4 rfl (lv_at hl 0 rfl) ?_
  refine g_X1_9 (pc := 5) B hW ho dX1_kindOf_5 ?_
  refine lv_iload_n (pc := 8) hx hb dX1_kindOf_8 rfl (lv_at hl 1 rfl) ?_
  refine yald (pc := 9) B hW (arN1 ho) dX1_kindOf_9 hf (fun hf => ?_)
  refine yaldK (pc := 10) B hW dX1_kindOf_10 hf (fun hf => ?_)
  exact zreta (pc := 11) B hW hf dX1_kindOf_11
noncomputable def f_X4_ofCell (o : Nat) (x1 : Int32) (x2 : Int32) (μ : Mem) : Option (Int32 × Mem) := zbind (f_X3_ofCell o x1 x2 μ) (fun r2 μ1 => zbind (f_X9_isMiddle x1 μ1) (fun r4 μ3 => (if r4 = 0 then some (r2, μ3) else some (((2 : Int32) * r2), μ3))))
set_option maxRecDepth 100000 in
theorem c_X4_ofCell {G : ZG} {l : Launch} {o : Nat} (ho : zKo o) {x1 : Int32} {x2 : Int32} {μ : Mem} {r : Int32} {μ' : Mem} (h : f_X4_ofCell o x1 x2 μ = some (r, μ')) : zC ZC G l yX4_ofCell cX4_ofCell 4 (some .int) 2 [.ref (zad G o), .int x1, .int x2] μ (some (.int r)) μ' := by
  refine zC.mk (by decide +kernel) (Nat.le_of_ble_eq_true rfl) ?_
  intro p e s m below meth c ls B hl hW
  have B : zB ZC G cX4_ofCell 4 "DarkShares$Prefect" (some .int) p s m [.ref (zad G o), .int x1, .int x2].toArray meth c := B
  have hl : lv_has ls 4 [(0, .ref (zad G o)), (1, .int x1), (2, .int x2)] := hl
  have hx := B.1
  have hb := B.2.1
  have hf := h
  unfold f_X4_ofCell at hf
  refine lv_aload_n (pc := 0) hx hb dX4_ofCell_0 rfl (lv_at hl 0 rfl) ?_
  refine lv_iload_n (pc := 1) hx hb dX4_ofCell_1 rfl (lv_at hl 1 rfl) ?_
  refine lv_iload_n (pc := 2) hx hb dX4_ofCell_2 rfl (lv_at hl 2 rfl) ?_
  refine s_X4_7 (pc := 3) B hW hl.1 ho (by decide) (zle8 rfl) dX4_ofCell_3 (fun _ _ h => c_X3_ofCell ho h) hf (fun r2 μ1 H locs hW hf => ?_)
  refine lv_istore_n (pc := 6) (lv' := [(3, .int r2), (0, .ref (zad G o)), (1, .int x1), (2, .int x2)]) hx hb dX4_ofCell_6 rfl hl (by decide) rfl (fun ls hl => ?_)
  refine lv_iload_n (pc := 7) hx hb dX4_ofCell_7 rfl (lv_at hl 2 rfl) ?_
  refine s_X4_11 (pc := 8) B hW hl.1 (by decide) (zle8 rfl) dX4_ofCell_8 (fun _ _ h => c_X9_isMiddle h) hf (fun r4 μ3 H locs hW hf => ?_)
  refine yif_eq (pc := 11) (tgt := 20) B dX4_ofCell_11 (by decide) hf (fun hf => ?_) (fun hf => ?_)
  · refine lv_iload_n (pc := 20) hx hb dX4_ofCell_20 rfl (lv_at hl 0 rfl) ?_
    exact zreti (pc := 21) B hW hf dX4_ofCell_21
  · refine lv_iconst (pc := 14) (v := (2 : Int32)) hx hb dX4_ofCell_14 rfl ?_
    refine lv_iload_n (pc := 15) hx hb dX4_ofCell_15 rfl (lv_at hl 0 rfl) ?_
    refine lv_imul (pc := 16) hx hb dX4_ofCell_16 ?_
    refine lv_goto (pc := 17) (tgt := 21) hx hb dX4_ofCell_17 (by decide) ?_
    exact zreti (pc := 21) B hW hf dX4_ofCell_21
noncomputable def f_X6_ofCell (o : Nat) (x1 : Int32) (x2 : Int32) (μ : Mem) : Option (Int32 × Mem) := zbind (f_X3_ofCell o x1 x2 μ) (fun r2 μ1 => (if x2 = 0 then some (r2, μ1) else some ((r2 + (2 : Int32)), μ1)))
set_option maxRecDepth 100000 in
theorem c_X6_ofCell {G : ZG} {l : Launch} {o : Nat} (ho : zKo o) {x1 : Int32} {x2 : Int32} {μ : Mem} {r : Int32} {μ' : Mem} (h : f_X6_ofCell o x1 x2 μ = some (r, μ')) : zC ZC G l yX6_ofCell cX6_ofCell 4 (some .int) 2 [.ref (zad G o), .int x1, .int x2] μ (some (.int r)) μ' := by
  refine zC.mk (by decide +kernel) (Nat.le_of_ble_eq_true rfl) ?_
  intro p e s m below meth c ls B hl hW
  have B : zB ZC G cX6_ofCell 4 "DarkShares$Sleeper" (some .int) p s m [.ref (zad G o), .int x1, .int x2].toArray meth c := B
  have hl : lv_has ls 4 [(0, .ref (zad G o)), (1, .int x1), (2, .int x2)] := hl
  have hx := B.1
  have hb := B.2.1
  have hf := h
  unfold f_X6_ofCell at hf
  refine lv_aload_n (pc := 0) hx hb dX6_ofCell_0 rfl (lv_at hl 0 rfl) ?_
  refine lv_iload_n (pc := 1) hx hb dX6_ofCell_1 rfl (lv_at hl 1 rfl) ?_
  refine lv_iload_n (pc := 2) hx hb dX6_ofCell_2 rfl (lv_at hl 2 rfl) ?_
  refine s_X6_7 (pc := 3) B hW hl.1 ho (by decide) (zle8 rfl) dX6_ofCell_3 (fun _ _ h => c_X3_ofCell ho h) hf (fun r2 μ1 H locs hW hf => ?_)
  refine lv_istore_n (pc := 6) (lv' := [(3, .int r2), (0, .ref (zad G o)), (1, .int x1), (2, .int x2)]) hx hb dX6_ofCell_6 rfl hl (by decide) rfl (fun ls hl => ?_)
  refine lv_iload_n (pc := 7) hx hb dX6_ofCell_7 rfl (lv_at hl 3 rfl) ?_
  refine yif_eq (pc := 8) (tgt := 17) B dX6_ofCell_8 (by decide) hf (fun hf => ?_) (fun hf => ?_)
  · refine lv_iload_n (pc := 17) hx hb dX6_ofCell_17 rfl (lv_at hl 0 rfl) ?_
    exact zreti (pc := 18) B hW hf dX6_ofCell_18
  · refine lv_iload_n (pc := 11) hx hb dX6_ofCell_11 rfl (lv_at hl 0 rfl) ?_
    refine lv_iconst (pc := 12) (v := (2 : Int32)) hx hb dX6_ofCell_12 rfl ?_
    refine lv_iadd (pc := 13) hx hb dX6_ofCell_13 ?_
    refine lv_goto (pc := 14) (tgt := 18) hx hb dX6_ofCell_14 (by decide) ?_
    exact zreti (pc := 18) B hW hf dX6_ofCell_18
noncomputable def f_X5_ofCell (o : Nat) (x1 : Int32) (x2 : Int32) (μ : Mem) : Option (Int32 × Mem) := zbind (f_X6_ofCell o x1 x2 μ) (fun r2 μ1 => (if x1 = (11 : Int32) then some (((r2 - (1 : Int32)) + (3 : Int32)), μ1) else some ((r2 - (1 : Int32)), μ1)))
set_option maxRecDepth 100000 in
theorem c_X5_ofCell {G : ZG} {l : Launch} {o : Nat} (ho : zKo o) {x1 : Int32} {x2 : Int32} {μ : Mem} {r : Int32} {μ' : Mem} (h : f_X5_ofCell o x1 x2 μ = some (r, μ')) : zC ZC G l yX5_ofCell cX5_ofCell 4 (some .int) 3 [.ref (zad G o), .int x1, .int x2] μ (some (.int r)) μ' := by
  refine zC.mk (by decide +kernel) (Nat.le_of_ble_eq_true rfl) ?_
  intro p e s m below meth c ls B hl hW
  have B : zB ZC G cX5_ofCell 4 "DarkShares$Saver" (some .int) p s m [.ref (zad G o), .int x1, .int x2].toArray meth c := B
  have hl : lv_has ls 4 [(0, .ref (zad G o)), (1, .int x1), (2, .int x2)] := hl
  have hx := B.1
  have hb := B.2.1
  have hf := h
  unfold f_X5_ofCell at hf
  refine lv_aload_n (pc := 0) hx hb dX5_ofCell_0 rfl (lv_at hl 0 rfl) ?_
  refine lv_iload_n (pc := 1) hx hb dX5_ofCell_1 rfl (lv_at hl 1 rfl) ?_
  refine lv_iload_n (pc := 2) hx hb dX5_ofCell_2 rfl (lv_at hl 2 rfl) ?_
  refine s_X5_9 (pc := 3) B hW hl.1 ho (by decide) (zle8 rfl) dX5_ofCell_3 (fun _ _ h => c_X6_ofCell ho h) hf (fun r2 μ1 H locs hW hf => ?_)
  refine lv_iconst (pc := 6) (v := (1 : Int32)) hx hb dX5_ofCell_6 rfl ?_
  refine lv_isub (pc := 7) hx hb dX5_ofCell_7 ?_
  refine lv_istore_n (pc := 8) (lv' := [(3, .int (r2 - (1 : Int32))), (0, .ref (zad G o)), (1, .int x1), (2, .int x2)]) hx hb dX5_ofCell_8 rfl hl (by decide) rfl (fun ls hl => ?_)
  refine lv_iload_n (pc := 9) hx hb dX5_ofCell_9 rfl (lv_at hl 2 rfl) ?_
  refine lv_bipush (pc := 10) (v := (11 : Int32)) hx hb dX5_ofCell_10 rfl ?_
  refine yic_ne (pc := 12) (tgt := 21) B dX5_ofCell_12 (by decide) hf (fun hf => ?_) (fun hf => ?_)
  · refine lv_iload_n (pc := 21) hx hb dX5_ofCell_21 rfl (lv_at hl 0 rfl) ?_
    exact zreti (pc := 22) B hW hf dX5_ofCell_22
  · refine lv_iload_n (pc := 15) hx hb dX5_ofCell_15 rfl (lv_at hl 0 rfl) ?_
    refine lv_iconst (pc := 16) (v := (3 : Int32)) hx hb dX5_ofCell_16 rfl ?_
    refine lv_iadd (pc := 17) hx hb dX5_ofCell_17 ?_
    refine lv_goto (pc := 18) (tgt := 22) hx hb dX5_ofCell_18 (by decide) ?_
    exact zreti (pc := 22) B hW hf dX5_ofCell_22
noncomputable def f_X9_has (x0 : Int32) (x1 : Int32) (μ : Mem) : Option (Int32 × Mem) := (if x1 < 0 then some ((0 : Int32), μ) else (if ((x0 >>> (x1 &&& 31)) &&& (1 : Int32)) = (1 : Int32) then some ((1 : Int32), μ) else some ((0 : Int32), μ)))
set_option maxRecDepth 100000 in
theorem c_X9_has {G : ZG} {l : Launch} {x0 : Int32} {x1 : Int32} {μ : Mem} {r : Int32} {μ' : Mem} (h : f_X9_has x0 x1 μ = some (r, μ')) : zC ZC G l yX9_has cX9_has 2 (some .boolean) 1 [.int x0, .int x1] μ (some (.int r)) μ' := by
  refine zC.mk (by decide +kernel) (Nat.le_of_ble_eq_true rfl) ?_
  intro p e s m below meth c ls B hl hW
  have B : zB ZC G cX9_has 2 "DarkShares" (some .boolean) p s m [.int x0, .int x1].toArray meth c := B
  have hl : lv_has ls 2 [(0, .int x0), (1, .int x1)] := hl
  have hx := B.1
  have hb := B.2.1
  have hf := h
  unfold f_X9_has at hf
  refine lv_iload_n (pc := 0) hx hb dX9_has_0 rfl (lv_at hl 1 rfl) ?_
  refine yif_lt (pc := 1) (tgt := 17) B dX9_has_1 (by decide) hf (fun hf => ?_) (fun hf => ?_)
  · refine lv_iconst (pc := 17) (v := (0 : Int32)) hx hb dX9_has_17 rfl ?_
    exact zretz (pc := 18) B hW rfl hf dX9_has_18
  · refine lv_iload_n (pc := 4) hx hb dX9_has_4 rfl (lv_at hl 0 rfl) ?_
    refine lv_iload_n (pc := 5) hx hb dX9_has_5 rfl (lv_at hl 1 rfl) ?_
    refine lv_ishr (pc := 6) hx hb dX9_has_6 ?_
    refine lv_iconst (pc := 7) (v := (1 : Int32)) hx hb dX9_has_7 rfl ?_
    refine lv_iand (pc := 8) hx hb dX9_has_8 ?_
    refine lv_iconst (pc := 9) (v := (1 : Int32)) hx hb dX9_has_9 rfl ?_
    refine yic_ne (pc := 10) (tgt := 17) B dX9_has_10 (by decide) hf (fun hf => ?_) (fun hf => ?_)
    · refine lv_iconst (pc := 17) (v := (0 : Int32)) hx hb dX9_has_17 rfl ?_
      exact zretz (pc := 18) B hW rfl hf dX9_has_18
    · refine lv_iconst (pc := 13) (v := (1 : Int32)) hx hb dX9_has_13 rfl ?_
      refine lv_goto (pc := 14) (tgt := 18) hx hb dX9_has_14 (by decide) ?_
      exact zretz (pc := 18) B hW rfl hf dX9_has_18
noncomputable def f_ofCell (k : Nat) (a1 a2 : Int32) (μ : Mem) : Option (Int32 × Mem) := match k with
  | 30 => f_X3_ofCell 30 a1 a2 μ
  | 31 => f_X7_ofCell 31 a1 a2 μ
  | 32 => f_X4_ofCell 32 a1 a2 μ
  | 33 => f_X6_ofCell 33 a1 a2 μ
  | 34 => f_X0_ofCell 34 a1 a2 μ
  | 35 => f_X5_ofCell 35 a1 a2 μ
  | _ => none
section ZWC
variable {G : ZG} {p : Program} {l : Launch} {e : Env} {s : State} {m : MethodId} {args : Array Value} {below : List Frame} {meth : Method} {c : Code} {H : Heap} {locs : List Loc} {Q : State → Prop}
variable {cc : ByteArray} {nL pc : Nat} {rt : Option FieldType} {ls : Array Slot} {rest : List Value} {μ : Mem} {α : Type}
theorem s_X1_73 {d : Nat} {k : Nat} {a1 : Int32} {a2 : Int32} {f : Int32 → Mem → Option α} {z : α} (B : zB ZC G cc nL "DarkShares$Night" rt p s m args meth c) (hW : zW ZC G s H locs μ) (hl : ls.size = nL) (hd : 3 < d) (hst : (rest.map fun v => v.category).sum ≤ 8) (hdg : decode cc pc = .ok (.invokevirtual 73, 3)) (hf : zbind (f_ofCell k a1 a2 μ) f = some z) (kk : ∀ (r : Int32) (μ1 : Mem) (H1 : Heap) (locs1 : List Loc), zW ZC G s H1 locs1 μ1 → f r μ1 = some z → W p l e (zR d) s m args below meth c H1 locs1 0 0 Q (F0 m (pc + 3) ls (.int r :: rest))) : W p l e (zR d) s m args below meth c H locs 0 0 Q (F0 m pc ls (.int a2 :: .int a1 :: .ref (zad G k) :: rest)) := by
  obtain ⟨r, μ1, hq, hf2⟩ := zbind_s hf
  clear hf
  unfold f_ofCell at hq
  split at hq
  · exact zcallV (As := [.int a1, .int a2]) (ov := (some (.int r))) (q := (RX3, TX3, 0)) B hW hl zO_30 rfl (c_X3_ofCell (Or.inl rfl) hq) kw488 kw489 kw490 kw61 kw516 hy_X3_ofCell (zRok (Nat.lt_of_le_of_lt (by decide) hd) (by decide)) zcs0 hst rfl hdg (fun H1 locs1 hW => kk r μ1 H1 locs1 hW hf2)
  · exact zcallO (As := [.int a1, .int a2]) (ov := (some (.int r))) (q := (RX7, TX7, 0)) (owner := "DarkShares$Plain") (x := yX3_ofCell) B hW hl zO_31 rfl (c_X7_ofCell (Or.inr (Or.inl rfl)) hq) (zgoodL [Cond.methodLink "DarkShares$Night" 73 yX3_ofCell, Cond.sameMethod "DarkShares$Plain" "DarkShares$Plain" "ofCell" "(IZ)I", Cond.instanceMethod yX3_ofCell, Cond.selects "DarkShares$Small" yX3_ofCell yX7_ofCell, Cond.instanceMethod yX7_ofCell, Cond.initialized "DarkShares$Small"] (fun w h => (List.mem_cons.mp h).elim (fun e => e ▸ kw488) (fun h => (List.mem_cons.mp h).elim (fun e => e ▸ kw491) (fun h => (List.mem_cons.mp h).elim (fun e => e ▸ kw489) (fun h => (List.mem_cons.mp h).elim (fun e => e ▸ kw515) (fun h => (List.mem_cons.mp h).elim (fun e => e ▸ kw499) (fun h => (List.mem_cons.mp h).elim (fun e => e ▸ kw62) (fun h => absurd h List.not_mem_nil))))))) (zgood kw500)) (b0 := cX3_ofCell) (m0 := 3) (r0 := some .int) kw516 ⟨by decide +kernel, by decide +kernel, hy_X3_ofCell.2.2⟩ (zRok (Nat.lt_of_le_of_lt (by decide) hd) (by decide)) zcs0 hst rfl hdg (fun H1 locs1 hW => kk r μ1 H1 locs1 hW hf2)
  · exact zcallO (As := [.int a1, .int a2]) (ov := (some (.int r))) (q := (RX4, TX4, 0)) (owner := "DarkShares$Plain") (x := yX3_ofCell) B hW hl zO_32 rfl (c_X4_ofCell (Or.inr (Or.inr (Or.inl rfl))) hq) (zgoodL [Cond.methodLink "DarkShares$Night" 73 yX3_ofCell, Cond.sameMethod "DarkShares$Plain" "DarkShares$Plain" "ofCell" "(IZ)I", Cond.instanceMethod yX3_ofCell, Cond.selects "DarkShares$Prefect" yX3_ofCell yX4_ofCell, Cond.instanceMethod yX4_ofCell, Cond.initialized "DarkShares$Prefect"] (fun w h => (List.mem_cons.mp h).elim (fun e => e ▸ kw488) (fun h => (List.mem_cons.mp h).elim (fun e => e ▸ kw491) (fun h => (List.mem_cons.mp h).elim (fun e => e ▸ kw489) (fun h => (List.mem_cons.mp h).elim (fun e => e ▸ kw502) (fun h => (List.mem_cons.mp h).elim (fun e => e ▸ kw503) (fun h => (List.mem_cons.mp h).elim (fun e => e ▸ kw63) (fun h => absurd h List.not_mem_nil))))))) (zgood kw504)) (b0 := cX3_ofCell) (m0 := 3) (r0 := some .int) kw516 ⟨by decide +kernel, by decide +kernel, hy_X3_ofCell.2.2⟩ (zRok (Nat.lt_of_le_of_lt (by decide) hd) (by decide)) zcs0 hst rfl hdg (fun H1 locs1 hW => kk r μ1 H1 locs1 hW hf2)
  · exact zcallO (As := [.int a1, .int a2]) (ov := (some (.int r))) (q := (RX6, TX6, 0)) (owner := "DarkShares$Plain") (x := yX3_ofCell) B hW hl zO_33 rfl (c_X6_ofCell (Or.inr (Or.inr (Or.inr (Or.inl rfl)))) hq) (zgoodL [Cond.methodLink "DarkShares$Night" 73 yX3_ofCell, Cond.sameMethod "DarkShares$Plain" "DarkShares$Plain" "ofCell" "(IZ)I", Cond.instanceMethod yX3_ofCell, Cond.selects "DarkShares$Sleeper" yX3_ofCell yX6_ofCell, Cond.instanceMethod yX6_ofCell, Cond.initialized "DarkShares$Sleeper"] (fun w h => (List.mem_cons.mp h).elim (fun e => e ▸ kw488) (fun h => (List.mem_cons.mp h).elim (fun e => e ▸ kw491) (fun h => (List.mem_cons.mp h).elim (fun e => e ▸ kw489) (fun h => (List.mem_cons.mp h).elim (fun e => e ▸ kw514) (fun h => (List.mem_cons.mp h).elim (fun e => e ▸ kw511) (fun h => (List.mem_cons.mp h).elim (fun e => e ▸ kw64) (fun h => absurd h List.not_mem_nil))))))) (zgood kw512)) (b0 := cX3_ofCell) (m0 := 3) (r0 := some .int) kw516 ⟨by decide +kernel, by decide +kernel, hy_X3_ofCell.2.2⟩ (zRok (Nat.lt_of_le_of_lt (by decide) hd) (by decide)) zcs0 hst rfl hdg (fun H1 locs1 hW => kk r μ1 H1 locs1 hW hf2)
  · exact zcallO (As := [.int a1, .int a2]) (ov := (some (.int r))) (q := (RX0, TX0, 0)) (owner := "DarkShares$Plain") (x := yX3_ofCell) B hW hl zO_34 rfl (c_X0_ofCell (Or.inr (Or.inr (Or.inr (Or.inr (Or.inl rfl))))) hq) (zgoodL [Cond.methodLink "DarkShares$Night" 73 yX3_ofCell, Cond.sameMethod "DarkShares$Plain" "DarkShares$Plain" "ofCell" "(IZ)I", Cond.instanceMethod yX3_ofCell, Cond.selects "DarkShares$Afraid" yX3_ofCell yX0_ofCell, Cond.instanceMethod yX0_ofCell, Cond.initialized "DarkShares$Afraid"] (fun w h => (List.mem_cons.mp h).elim (fun e => e ▸ kw488) (fun h => (List.mem_cons.mp h).elim (fun e => e ▸ kw491) (fun h => (List.mem_cons.mp h).elim (fun e => e ▸ kw489) (fun h => (List.mem_cons.mp h).elim (fun e => e ▸ kw492) (fun h => (List.mem_cons.mp h).elim (fun e => e ▸ kw493) (fun h => (List.mem_cons.mp h).elim (fun e => e ▸ kw65) (fun h => absurd h List.not_mem_nil))))))) (zgood kw494)) (b0 := cX3_ofCell) (m0 := 3) (r0 := some .int) kw516 ⟨by decide +kernel, by decide +kernel, hy_X3_ofCell.2.2⟩ (zRok (Nat.lt_of_le_of_lt (by decide) hd) (by decide)) zcs0 hst rfl hdg (fun H1 locs1 hW => kk r μ1 H1 locs1 hW hf2)
  · exact zcallO (As := [.int a1, .int a2]) (ov := (some (.int r))) (q := (RX5, TX5, 0)) (owner := "DarkShares$Plain") (x := yX3_ofCell) B hW hl zO_35 rfl (c_X5_ofCell (Or.inr (Or.inr (Or.inr (Or.inr (Or.inr rfl))))) hq) (zgoodL [Cond.methodLink "DarkShares$Night" 73 yX3_ofCell, Cond.sameMethod "DarkShares$Plain" "DarkShares$Plain" "ofCell" "(IZ)I", Cond.instanceMethod yX3_ofCell, Cond.selects "DarkShares$Saver" yX3_ofCell yX5_ofCell, Cond.instanceMethod yX5_ofCell, Cond.initialized "DarkShares$Saver"] (fun w h => (List.mem_cons.mp h).elim (fun e => e ▸ kw488) (fun h => (List.mem_cons.mp h).elim (fun e => e ▸ kw491) (fun h => (List.mem_cons.mp h).elim (fun e => e ▸ kw489) (fun h => (List.mem_cons.mp h).elim (fun e => e ▸ kw507) (fun h => (List.mem_cons.mp h).elim (fun e => e ▸ kw508) (fun h => (List.mem_cons.mp h).elim (fun e => e ▸ kw66) (fun h => absurd h List.not_mem_nil))))))) (zgood kw509)) (b0 := cX3_ofCell) (m0 := 3) (r0 := some .int) kw516 ⟨by decide +kernel, by decide +kernel, hy_X3_ofCell.2.2⟩ (zRok (Nat.lt_of_le_of_lt (by decide) hd) (by decide)) zcs0 hst rfl hdg (fun H1 locs1 hW => kk r μ1 H1 locs1 hW hf2)
  · cases hq
end ZWC
noncomputable def f_X1_worthTo_12 (o : Nat) : Nat → Int32 → Nat → Int32 → Int32 → Mem → Option (Int32 × Mem)
  | 0, _, _, _, _, _ => none
  | n + 1, x2, x3, x4, x5, μ => (if (12 : Int32) ≤ x5 then some (x4, μ) else zbind (f_X9_has x2 x5 μ) (fun r2 μ1 => (if r2 = 0 then f_X1_worthTo_12 o n x2 x3 x4 (x5 + (1 : Int32)) μ1 else zbind (f_X9_has x2 (x5 - (1 : Int32)) μ1) (fun r4 μ3 => zbind (f_ofCell x3 x5 r4 μ3) (fun r6 μ5 => f_X1_worthTo_12 o n x2 x3 (x4 + r6) (x5 + (1 : Int32)) μ5)))))
set_option maxRecDepth 100000 in
theorem t_X1_worthTo_12 {G : ZG} {p : Program} {l : Launch} {e : Env} {s : State} {m : MethodId} {args : Array Value} {below : List Frame} {meth : Method} {c : Code} (B : zB ZC G cX1_worthTo 6 "DarkShares$Night" (some .int) p s m args meth c) {o : Nat} (ho : zN o) : ∀ (n : Nat) {x2 : Int32} {x3 : Nat} {x4 : Int32} {x5 : Int32} {μ : Mem} {H : Heap} {locs : List Loc} {ls : Array Slot} {r : Int32} {μ' : Mem}, lv_has ls 6 [(2, .int x2), (3, .ref (zad G x3)), (4, .int x4), (5, .int x5)] → zW ZC G s H locs μ → f_X1_worthTo_12 o n x2 x3 x4 x5 μ = some (r, μ') → W p l e (zR 4) s m args below meth c H locs 0 0 (MQ below (zQ ZC G (some (.int r)) μ') args s 0 0 (zAd ZC G)) (F0 m 12 ls []) := by
  have hx := B.1
  have hb := B.2.1
  intro n
  induction n with
  | zero => intro _ _ _ _ _ _ _ _ _ _ hl hW hf; cases hf
  | succ n ih =>
    intro x2 x3 x4 x5 μ H locs ls r μ' hl hW hf
    rw [f_X1_worthTo_12] at hf
    refine lv_iload (pc := 12) hx hb dX1_worthTo_12 (lv_at hl 3 rfl) ?_
    refine lv_bipush (pc := 14) (v := (12 : Int32)) hx hb dX1_worthTo_14 rfl ?_
    refine yic_ge (pc := 16) (tgt := 53) B dX1_worthTo_16 (by decide) hf (fun hf => ?_) (fun hf => ?_)
    · refine lv_iload (pc := 53) hx hb dX1_worthTo_53 (lv_at hl 2 rfl) ?_
      exact zreti (pc := 55) B hW hf dX1_worthTo_55
    · refine lv_iload_n (pc := 19) hx hb dX1_worthTo_19 rfl (lv_at hl 0 rfl) ?_
      refine lv_iload (pc := 20) hx hb dX1_worthTo_20 (lv_at hl 3 rfl) ?_
      refine s_X1_69 (pc := 22) B hW hl.1 (by decide) (zle8 rfl) dX1_worthTo_22 (fun _ _ h => c_X9_has h) hf (fun r2 μ1 H locs hW hf => ?_)
      refine yif_eq (pc := 25) (tgt := 47) B dX1_worthTo_25 (by decide) hf (fun hf => ?_) (fun hf => ?_)
      · refine lv_iinc (pc := 47) (v := (x5 + (1 : Int32))) (lv' := [(5, .int (x5 + (1 : Int32))), (2, .int x2), (3, .ref (zad G x3)), (4, .int x4)]) hx hb dX1_worthTo_47 hl (k := 3) rfl rfl (by decide) rfl (fun ls hl => ?_)
        refine lv_goto (pc := 50) (tgt := 12) hx hb dX1_worthTo_50 (by decide) ?_
        exact ih (lv_sub hl [1, 2, 3, 0] rfl) hW hf
      · refine lv_iload (pc := 28) hx hb dX1_worthTo_28 (lv_at hl 2 rfl) ?_
        refine lv_aload_n (pc := 30) hx hb dX1_worthTo_30 rfl (lv_at hl 1 rfl) ?_
        refine lv_iload (pc := 31) hx hb dX1_worthTo_31 (lv_at hl 3 rfl) ?_
        refine lv_iload_n (pc := 33) hx hb dX1_worthTo_33 rfl (lv_at hl 0 rfl) ?_
        refine lv_iload (pc := 34) hx hb dX1_worthTo_34 (lv_at hl 3 rfl) ?_
        refine lv_iconst (pc := 36) (v := (1 : Int32)) hx hb dX1_worthTo_36 rfl ?_
        refine lv_isub (pc := 37) hx hb dX1_worthTo_37 ?_
        refine s_X1_69 (pc := 38) B hW hl.1 (by decide) (zle8 rfl) dX1_worthTo_38 (fun _ _ h => c_X9_has h) hf (fun r4 μ3 H locs hW hf => ?_)
        refine s_X1_73 (pc := 41) B hW hl.1 (by decide) (zle8 rfl) dX1_worthTo_41 hf (fun r6 μ5 H locs hW hf => ?_)
        refine lv_iadd (pc := 44) hx hb dX1_worthTo_44 ?_
        refine lv_istore (pc := 45) (lv' := [(4, .int (x4 + r6)), (2, .int x2), (3, .ref (zad G x3)), (5, .int x5)]) hx hb dX1_worthTo_45 hl (by decide) rfl (fun ls hl => ?_)
        refine lv_iinc (pc := 47) (v := (x5 + (1 : Int32))) (lv' := [(5, .int (x5 + (1 : Int32))), (4, .int (x4 + r6)), (2, .int x2), (3, .ref (zad G x3))]) hx hb dX1_worthTo_47 hl (k := 3) rfl rfl (by decide) rfl (fun ls hl => ?_)
        refine lv_goto (pc := 50) (tgt := 12) hx hb dX1_worthTo_50 (by decide) ?_
        exact ih (lv_sub hl [2, 3, 1, 0] rfl) hW hf
noncomputable def f_X1_worthTo (o : Nat) (x1 : Int32) (x2 : Int32) (μ : Mem) : Option (Int32 × Mem) := zbind (f_X1_kindOf o x1 μ) (fun r2 μ1 => f_X1_worthTo_12 o zFU x2 r2 (0 : Int32) (0 : Int32) μ1)
set_option maxRecDepth 100000 in
theorem c_X1_worthTo {G : ZG} {l : Launch} {o : Nat} (ho : zN o) {x1 : Int32} {x2 : Int32} {μ : Mem} {r : Int32} {μ' : Mem} (h : f_X1_worthTo o x1 x2 μ = some (r, μ')) : zC ZC G l yX1_worthTo cX1_worthTo 6 (some .int) 4 [.ref (zad G o), .int x1, .int x2] μ (some (.int r)) μ' := by
  refine zC.mk (by decide +kernel) (Nat.le_of_ble_eq_true rfl) ?_
  intro p e s m below meth c ls B hl hW
  have B : zB ZC G cX1_worthTo 6 "DarkShares$Night" (some .int) p s m [.ref (zad G o), .int x1, .int x2].toArray meth c := B
  have hl : lv_has ls 6 [(0, .ref (zad G o)), (1, .int x1), (2, .int x2)] := hl
  have hx := B.1
  have hb := B.2.1
  have hf := h
  unfold f_X1_worthTo at hf
  refine lv_aload_n (pc := 0) hx hb dX1_worthTo_0 rfl (lv_at hl 0 rfl) ?_
  refine lv_iload_n (pc := 1) hx hb dX1_worthTo_1 rfl (lv_at hl 1 rfl) ?_
  refine s_X1_65 (pc := 2) B hW hl.1 ho (by decide) (zle8 rfl) dX1_worthTo_2 (fun _ _ h => c_X1_kindOf ho h) hf (fun r2 μ1 H locs hW hf => ?_)
  refine lv_astore_n (pc := 5) (lv' := [(3, .ref (zad G r2)), (0, .ref (zad G o)), (1, .int x1), (2, .int x2)]) hx hb dX1_worthTo_5 rfl hl (by decide) rfl (fun ls hl => ?_)
  refine lv_iconst (pc := 6) (v := (0 : Int32)) hx hb dX1_worthTo_6 rfl ?_
  refine lv_istore (pc := 7) (lv' := [(4, .int (0 : Int32)), (3, .ref (zad G r2)), (0, .ref (zad G o)), (1, .int x1), (2, .int x2)]) hx hb dX1_worthTo_7 hl (by decide) rfl (fun ls hl => ?_)
  refine lv_iconst (pc := 9) (v := (0 : Int32)) hx hb dX1_worthTo_9 rfl ?_
  refine lv_istore (pc := 10) (lv' := [(5, .int (0 : Int32)), (4, .int (0 : Int32)), (3, .ref (zad G r2)), (0, .ref (zad G o)), (1, .int x1), (2, .int x2)]) hx hb dX1_worthTo_10 hl (by decide) rfl (fun ls hl => ?_)
  exact t_X1_worthTo_12 B ho zFU (lv_sub hl [5, 2, 1, 0] rfl) hW hf
noncomputable def f_X1_ownWorth (o : Nat) (x1 : Int32) (μ : Mem) : Option (Int32 × Mem) := zbind (f_X1_cellsOf o x1 μ) (fun r2 μ1 => zbind (f_X1_worthTo o x1 r2 μ1) (fun r4 μ3 => some (r4, μ3)))
set_option maxRecDepth 100000 in
theorem c_X1_ownWorth {G : ZG} {l : Launch} {o : Nat} (ho : zN o) {x1 : Int32} {μ : Mem} {r : Int32} {μ' : Mem} (h : f_X1_ownWorth o x1 μ = some (r, μ')) : zC ZC G l yX1_ownWorth cX1_ownWorth 2 (some .int) 5 [.ref (zad G o), .int x1] μ (some (.int r)) μ' := by
  refine zC.mk (by decide +kernel) (Nat.le_of_ble_eq_true rfl) ?_
  intro p e s m below meth c ls B hl hW
  have B : zB ZC G cX1_ownWorth 2 "DarkShares$Night" (some .int) p s m [.ref (zad G o), .int x1].toArray meth c := B
  have hl : lv_has ls 2 [(0, .ref (zad G o)), (1, .int x1)] := hl
  have hx := B.1
  have hb := B.2.1
  have hf := h
  unfold f_X1_ownWorth at hf
  refine lv_aload_n (pc := 0) hx hb dX1_ownWorth_0 rfl (lv_at hl 0 rfl) ?_
  refine lv_iload_n (pc := 1) hx hb dX1_ownWorth_1 rfl (lv_at hl 1 rfl) ?_
  refine lv_aload_n (pc := 2) hx hb dX1_ownWorth_2 rfl (lv_at hl 0 rfl) ?_
  refine lv_iload_n (pc := 3) hx hb dX1_ownWorth_3 rfl (lv_at hl 1 rfl) ?_
  refine s_X1_56 (pc := 4) B hW hl.1 ho (by decide) (zle8 rfl) dX1_ownWorth_4 (fun _ _ h => c_X1_cellsOf ho h) hf (fun r2 μ1 H locs hW hf => ?_)
  refine s_X1_79 (pc := 7) B hW hl.1 ho (by decide) (zle8 rfl) dX1_ownWorth_7 (fun _ _ h => c_X1_worthTo ho h) hf (fun r4 μ3 H locs hW hf => ?_)
  exact zreti (pc := 10) B hW hf dX1_ownWorth_10
noncomputable def f_X1_haveEnough_4 (o : Nat) : Nat → Int32 → Int32 → Mem → Option (Int32 × Mem)
  | 0, _, _, _ => none
  | n + 1, x1, x2, μ => (if (μ.1 o 7) ≤ x2 then some (x1, μ) else zbind (f_X1_cellsOf o x2 μ) (fun r2 μ1 => zbind (f_J6_bitCount_0f7a4 r2 μ1) (fun r4 μ3 => zck (zin x2 5) ((if r4 < (μ3.1 (o + 2) (x2).toNatClampNeg) then f_X1_haveEnough_4 o n x1 (x2 + (1 : Int32)) μ3 else f_X1_haveEnough_4 o n (x1 ||| ((1 : Int32) <<< (x2 &&& 31))) (x2 + (1 : Int32)) μ3)))))
set_option maxRecDepth 100000 in
theorem t_X1_haveEnough_4 {G : ZG} {p : Program} {l : Launch} {e : Env} {s : State} {m : MethodId} {args : Array Value} {below : List Frame} {meth : Method} {c : Code} (B : zB ZC G cX1_haveEnough 3 "DarkShares$Night" (some .int) p s m args meth c) {o : Nat} (ho : zN o) : ∀ (n : Nat) {x1 : Int32} {x2 : Int32} {μ : Mem} {H : Heap} {locs : List Loc} {ls : Array Slot} {r : Int32} {μ' : Mem}, lv_has ls 3 [(0, .ref (zad G o)), (1, .int x1), (2, .int x2)] → zW ZC G s H locs μ → f_X1_haveEnough_4 o n x1 x2 μ = some (r, μ') → W p l e (zR 2) s m args below meth c H locs 0 0 (MQ below (zQ ZC G (some (.int r)) μ') args s 0 0 (zAd ZC G)) (F0 m 4 ls []) := by
  have hx := B.1
  have hb := B.2.1
  intro n
  induction n with
  | zero => intro _ _ _ _ _ _ _ _ hl hW hf; cases hf
  | succ n ih =>
    intro x1 x2 μ H locs ls r μ' hl hW hf
    rw [f_X1_haveEnough_4] at hf
    refine lv_iload_n (pc := 4) hx hb dX1_haveEnough_4 rfl (lv_at hl 2 rfl) ?_
    refine lv_aload_n (pc := 5) hx hb dX1_haveEnough_5 rfl (lv_at hl 0 rfl) ?_
    refine g_X1_40 (pc := 6) B hW ho dX1_haveEnough_6 ?_
    refine yic_ge (pc := 9) (tgt := 41) B dX1_haveEnough_9 (by decide) hf (fun hf => ?_) (fun hf => ?_)
    · refine lv_iload_n (pc := 41) hx hb dX1_haveEnough_41 rfl (lv_at hl 1 rfl) ?_
      exact zreti (pc := 42) B hW hf dX1_haveEnough_42
    · refine lv_aload_n (pc := 12) hx hb dX1_haveEnough_12 rfl (lv_at hl 0 rfl) ?_
      refine lv_iload_n (pc := 13) hx hb dX1_haveEnough_13 rfl (lv_at hl 2 rfl) ?_
      refine s_X1_56 (pc := 14) B hW hl.1 ho (by decide) (zle8 rfl) dX1_haveEnough_14 (fun _ _ h => c_X1_cellsOf ho h) hf (fun r2 μ1 H locs hW hf => ?_)
      refine s_X1_60 (pc := 17) B hW hl.1 (by decide) (zle8 rfl) dX1_haveEnough_17 (fun _ _ h => c_J6_bitCount_0f7a4 h) hf (fun r4 μ3 H locs hW hf => ?_)
      refine lv_aload_n (pc := 20) hx hb dX1_haveEnough_20 rfl (lv_at hl 0 rfl) ?_
      refine g_X1_15 (pc := 21) B hW ho dX1_haveEnough_21 ?_
      refine lv_iload_n (pc := 24) hx hb dX1_haveEnough_24 rfl (lv_at hl 2 rfl) ?_
      refine yald (pc := 25) B hW (arN2 ho) dX1_haveEnough_25 hf (fun hf => ?_)
      refine yic_lt (pc := 26) (tgt := 35) B dX1_haveEnough_26 (by decide) hf (fun hf => ?_) (fun hf => ?_)
      · refine lv_iinc (pc := 35) (v := (x2 + (1 : Int32))) (lv' := [(2, .int (x2 + (1 : Int32))), (0, .ref (zad G o)), (1, .int x1)]) hx hb dX1_haveEnough_35 hl (k := 2) rfl rfl (by decide) rfl (fun ls hl => ?_)
        refine lv_goto (pc := 38) (tgt := 4) hx hb dX1_haveEnough_38 (by decide) ?_
        exact ih (lv_sub hl [1, 2, 0] rfl) hW hf
      · refine lv_iload_n (pc := 29) hx hb dX1_haveEnough_29 rfl (lv_at hl 1 rfl) ?_
        refine lv_iconst (pc := 30) (v := (1 : Int32)) hx hb dX1_haveEnough_30 rfl ?_
        refine lv_iload_n (pc := 31) hx hb dX1_haveEnough_31 rfl (lv_at hl 2 rfl) ?_
        refine lv_ishl (pc := 32) hx hb dX1_haveEnough_32 ?_
        refine lv_ior (pc := 33) hx hb dX1_haveEnough_33 ?_
        refine lv_istore_n (pc := 34) (lv' := [(1, .int (x1 ||| ((1 : Int32) <<< (x2 &&& 31)))), (0, .ref (zad G o)), (2, .int x2)]) hx hb dX1_haveEnough_34 rfl hl (by decide) rfl (fun ls hl => ?_)
        refine lv_iinc (pc := 35) (v := (x2 + (1 : Int32))) (lv' := [(2, .int (x2 + (1 : Int32))), (1, .int (x1 ||| ((1 : Int32) <<< (x2 &&& 31)))), (0, .ref (zad G o))]) hx hb dX1_haveEnough_35 hl (k := 2) rfl rfl (by decide) rfl (fun ls hl => ?_)
        refine lv_goto (pc := 38) (tgt := 4) hx hb dX1_haveEnough_38 (by decide) ?_
        exact ih (lv_sub hl [2, 1, 0] rfl) hW hf
noncomputable def f_X1_haveEnough (o : Nat) (μ : Mem) : Option (Int32 × Mem) := f_X1_haveEnough_4 o zFU (0 : Int32) (0 : Int32) μ
set_option maxRecDepth 100000 in
theorem c_X1_haveEnough {G : ZG} {l : Launch} {o : Nat} (ho : zN o) {μ : Mem} {r : Int32} {μ' : Mem} (h : f_X1_haveEnough o μ = some (r, μ')) : zC ZC G l yX1_haveEnough cX1_haveEnough 3 (some .int) 2 [.ref (zad G o)] μ (some (.int r)) μ' := by
  refine zC.mk (by decide +kernel) (Nat.le_of_ble_eq_true rfl) ?_
  intro p e s m below meth c ls B hl hW
  have B : zB ZC G cX1_haveEnough 3 "DarkShares$Night" (some .int) p s m [.ref (zad G o)].toArray meth c := B
  have hl : lv_has ls 3 [(0, .ref (zad G o))] := hl
  have hx := B.1
  have hb := B.2.1
  have hf := h
  unfold f_X1_haveEnough at hf
  refine lv_iconst (pc := 0) (v := (0 : Int32)) hx hb dX1_haveEnough_0 rfl ?_
  refine lv_istore_n (pc := 1) (lv' := [(1, .int (0 : Int32)), (0, .ref (zad G o))]) hx hb dX1_haveEnough_1 rfl hl (by decide) rfl (fun ls hl => ?_)
  refine lv_iconst (pc := 2) (v := (0 : Int32)) hx hb dX1_haveEnough_2 rfl ?_
  refine lv_istore_n (pc := 3) (lv' := [(2, .int (0 : Int32)), (1, .int (0 : Int32)), (0, .ref (zad G o))]) hx hb dX1_haveEnough_3 rfl hl (by decide) rfl (fun ls hl => ?_)
  exact t_X1_haveEnough_4 B ho zFU (lv_sub hl [2, 1, 0] rfl) hW hf
noncomputable def f_X1_enviedBy_11 (o : Nat) : Nat → Int32 → Int32 → Int32 → Int32 → Mem → Option (Int32 × Mem)
  | 0, _, _, _, _, _ => none
  | n + 1, x1, x2, x3, x4, μ => (if (μ.1 o 7) ≤ x4 then some (x3, μ) else zbind (f_X1_cellsOf o x4 μ) (fun r2 μ1 => zbind (f_X1_worthTo o x1 r2 μ1) (fun r4 μ3 => (if r4 ≤ x2 then f_X1_enviedBy_11 o n x1 x2 x3 (x4 + (1 : Int32)) μ3 else f_X1_enviedBy_11 o n x1 x2 (x3 ||| ((1 : Int32) <<< (x4 &&& 31))) (x4 + (1 : Int32)) μ3))))
set_option maxRecDepth 100000 in
theorem t_X1_enviedBy_11 {G : ZG} {p : Program} {l : Launch} {e : Env} {s : State} {m : MethodId} {args : Array Value} {below : List Frame} {meth : Method} {c : Code} (B : zB ZC G cX1_enviedBy 5 "DarkShares$Night" (some .int) p s m args meth c) {o : Nat} (ho : zN o) : ∀ (n : Nat) {x1 : Int32} {x2 : Int32} {x3 : Int32} {x4 : Int32} {μ : Mem} {H : Heap} {locs : List Loc} {ls : Array Slot} {r : Int32} {μ' : Mem}, lv_has ls 5 [(0, .ref (zad G o)), (1, .int x1), (2, .int x2), (3, .int x3), (4, .int x4)] → zW ZC G s H locs μ → f_X1_enviedBy_11 o n x1 x2 x3 x4 μ = some (r, μ') → W p l e (zR 6) s m args below meth c H locs 0 0 (MQ below (zQ ZC G (some (.int r)) μ') args s 0 0 (zAd ZC G)) (F0 m 11 ls []) := by
  have hx := B.1
  have hb := B.2.1
  intro n
  induction n with
  | zero => intro _ _ _ _ _ _ _ _ _ _ hl hW hf; cases hf
  | succ n ih =>
    intro x1 x2 x3 x4 μ H locs ls r μ' hl hW hf
    rw [f_X1_enviedBy_11] at hf
    refine lv_iload (pc := 11) hx hb dX1_enviedBy_11 (lv_at hl 4 rfl) ?_
    refine lv_aload_n (pc := 13) hx hb dX1_enviedBy_13 rfl (lv_at hl 0 rfl) ?_
    refine g_X1_40 (pc := 14) B hW ho dX1_enviedBy_14 ?_
    refine yic_ge (pc := 17) (tgt := 48) B dX1_enviedBy_17 (by decide) hf (fun hf => ?_) (fun hf => ?_)
    · refine lv_iload_n (pc := 48) hx hb dX1_enviedBy_48 rfl (lv_at hl 3 rfl) ?_
      exact zreti (pc := 49) B hW hf dX1_enviedBy_49
    · refine lv_aload_n (pc := 20) hx hb dX1_enviedBy_20 rfl (lv_at hl 0 rfl) ?_
      refine lv_iload_n (pc := 21) hx hb dX1_enviedBy_21 rfl (lv_at hl 1 rfl) ?_
      refine lv_aload_n (pc := 22) hx hb dX1_enviedBy_22 rfl (lv_at hl 0 rfl) ?_
      refine lv_iload (pc := 23) hx hb dX1_enviedBy_23 (lv_at hl 4 rfl) ?_
      refine s_X1_56 (pc := 25) B hW hl.1 ho (by decide) (zle8 rfl) dX1_enviedBy_25 (fun _ _ h => c_X1_cellsOf ho h) hf (fun r2 μ1 H locs hW hf => ?_)
      refine s_X1_79 (pc := 28) B hW hl.1 ho (by decide) (zle8 rfl) dX1_enviedBy_28 (fun _ _ h => c_X1_worthTo ho h) hf (fun r4 μ3 H locs hW hf => ?_)
      refine lv_iload_n (pc := 31) hx hb dX1_enviedBy_31 rfl (lv_at hl 2 rfl) ?_
      refine yic_le (pc := 32) (tgt := 42) B dX1_enviedBy_32 (by decide) hf (fun hf => ?_) (fun hf => ?_)
      · refine lv_iinc (pc := 42) (v := (x4 + (1 : Int32))) (lv' := [(4, .int (x4 + (1 : Int32))), (0, .ref (zad G o)), (1, .int x1), (2, .int x2), (3, .int x3)]) hx hb dX1_enviedBy_42 hl (k := 4) rfl rfl (by decide) rfl (fun ls hl => ?_)
        refine lv_goto (pc := 45) (tgt := 11) hx hb dX1_enviedBy_45 (by decide) ?_
        exact ih (lv_sub hl [1, 2, 3, 4, 0] rfl) hW hf
      · refine lv_iload_n (pc := 35) hx hb dX1_enviedBy_35 rfl (lv_at hl 3 rfl) ?_
        refine lv_iconst (pc := 36) (v := (1 : Int32)) hx hb dX1_enviedBy_36 rfl ?_
        refine lv_iload (pc := 37) hx hb dX1_enviedBy_37 (lv_at hl 4 rfl) ?_
        refine lv_ishl (pc := 39) hx hb dX1_enviedBy_39 ?_
        refine lv_ior (pc := 40) hx hb dX1_enviedBy_40 ?_
        refine lv_istore_n (pc := 41) (lv' := [(3, .int (x3 ||| ((1 : Int32) <<< (x4 &&& 31)))), (0, .ref (zad G o)), (1, .int x1), (2, .int x2), (4, .int x4)]) hx hb dX1_enviedBy_41 rfl hl (by decide) rfl (fun ls hl => ?_)
        refine lv_iinc (pc := 42) (v := (x4 + (1 : Int32))) (lv' := [(4, .int (x4 + (1 : Int32))), (3, .int (x3 ||| ((1 : Int32) <<< (x4 &&& 31)))), (0, .ref (zad G o)), (1, .int x1), (2, .int x2)]) hx hb dX1_enviedBy_42 hl (k := 4) rfl rfl (by decide) rfl (fun ls hl => ?_)
        refine lv_goto (pc := 45) (tgt := 11) hx hb dX1_enviedBy_45 (by decide) ?_
        exact ih (lv_sub hl [2, 3, 4, 1, 0] rfl) hW hf
noncomputable def f_X1_enviedBy (o : Nat) (x1 : Int32) (μ : Mem) : Option (Int32 × Mem) := zbind (f_X1_ownWorth o x1 μ) (fun r2 μ1 => f_X1_enviedBy_11 o zFU x1 r2 (0 : Int32) (0 : Int32) μ1)
set_option maxRecDepth 100000 in
theorem c_X1_enviedBy {G : ZG} {l : Launch} {o : Nat} (ho : zN o) {x1 : Int32} {μ : Mem} {r : Int32} {μ' : Mem} (h : f_X1_enviedBy o x1 μ = some (r, μ')) : zC ZC G l yX1_enviedBy cX1_enviedBy 5 (some .int) 6 [.ref (zad G o), .int x1] μ (some (.int r)) μ' := by
  refine zC.mk (by decide +kernel) (Nat.le_of_ble_eq_true rfl) ?_
  intro p e s m below meth c ls B hl hW
  have B : zB ZC G cX1_enviedBy 5 "DarkShares$Night" (some .int) p s m [.ref (zad G o), .int x1].toArray meth c := B
  have hl : lv_has ls 5 [(0, .ref (zad G o)), (1, .int x1)] := hl
  have hx := B.1
  have hb := B.2.1
  have hf := h
  unfold f_X1_enviedBy at hf
  refine lv_aload_n (pc := 0) hx hb dX1_enviedBy_0 rfl (lv_at hl 0 rfl) ?_
  refine lv_iload_n (pc := 1) hx hb dX1_enviedBy_1 rfl (lv_at hl 1 rfl) ?_
  refine s_X1_83 (pc := 2) B hW hl.1 ho (by decide) (zle8 rfl) dX1_enviedBy_2 (fun _ _ h => c_X1_ownWorth ho h) hf (fun r2 μ1 H locs hW hf => ?_)
  refine lv_istore_n (pc := 5) (lv' := [(2, .int r2), (0, .ref (zad G o)), (1, .int x1)]) hx hb dX1_enviedBy_5 rfl hl (by decide) rfl (fun ls hl => ?_)
  refine lv_iconst (pc := 6) (v := (0 : Int32)) hx hb dX1_enviedBy_6 rfl ?_
  refine lv_istore_n (pc := 7) (lv' := [(3, .int (0 : Int32)), (2, .int r2), (0, .ref (zad G o)), (1, .int x1)]) hx hb dX1_enviedBy_7 rfl hl (by decide) rfl (fun ls hl => ?_)
  refine lv_iconst (pc := 8) (v := (0 : Int32)) hx hb dX1_enviedBy_8 rfl ?_
  refine lv_istore (pc := 9) (lv' := [(4, .int (0 : Int32)), (3, .int (0 : Int32)), (2, .int r2), (0, .ref (zad G o)), (1, .int x1)]) hx hb dX1_enviedBy_9 hl (by decide) rfl (fun ls hl => ?_)
  exact t_X1_enviedBy_11 B ho zFU (lv_sub hl [3, 4, 2, 1, 0] rfl) hW hf
noncomputable def f_X1_isFair (o : Nat) (x1 : Int32) (x2 : Int32) (μ : Mem) : Option (Int32 × Mem) := zbind (f_X1_worthTo o x1 x2 μ) (fun r2 μ1 => zbind (f_X1_worthTo o x1 (4095 : Int32) μ1) (fun r4 μ3 => (if (r2 * (μ1.1 o 7)) < r4 then some ((0 : Int32), μ3) else some ((1 : Int32), μ3))))
set_option maxRecDepth 100000 in
theorem c_X1_isFair {G : ZG} {l : Launch} {o : Nat} (ho : zN o) {x1 : Int32} {x2 : Int32} {μ : Mem} {r : Int32} {μ' : Mem} (h : f_X1_isFair o x1 x2 μ = some (r, μ')) : zC ZC G l yX1_isFair cX1_isFair 3 (some .boolean) 5 [.ref (zad G o), .int x1, .int x2] μ (some (.int r)) μ' := by
  refine zC.mk (by decide +kernel) (Nat.le_of_ble_eq_true rfl) ?_
  intro p e s m below meth c ls B hl hW
  have B : zB ZC G cX1_isFair 3 "DarkShares$Night" (some .boolean) p s m [.ref (zad G o), .int x1, .int x2].toArray meth c := B
  have hl : lv_has ls 3 [(0, .ref (zad G o)), (1, .int x1), (2, .int x2)] := hl
  have hx := B.1
  have hb := B.2.1
  have hf := h
  unfold f_X1_isFair at hf
  refine lv_aload_n (pc := 0) hx hb dX1_isFair_0 rfl (lv_at hl 0 rfl) ?_
  refine lv_iload_n (pc := 1) hx hb dX1_isFair_1 rfl (lv_at hl 1 rfl) ?_
  refine lv_iload_n (pc := 2) hx hb dX1_isFair_2 rfl (lv_at hl 2 rfl) ?_
  refine s_X1_79 (pc := 3) B hW hl.1 ho (by decide) (zle8 rfl) dX1_isFair_3 (fun _ _ h => c_X1_worthTo ho h) hf (fun r2 μ1 H locs hW hf => ?_)
  refine lv_aload_n (pc := 6) hx hb dX1_isFair_6 rfl (lv_at hl 0 rfl) ?_
  refine g_X1_40 (pc := 7) B hW ho dX1_isFair_7 ?_
  refine lv_imul (pc := 10) hx hb dX1_isFair_10 ?_
  refine lv_aload_n (pc := 11) hx hb dX1_isFair_11 rfl (lv_at hl 0 rfl) ?_
  refine lv_iload_n (pc := 12) hx hb dX1_isFair_12 rfl (lv_at hl 1 rfl) ?_
  refine lv_sipush (pc := 13) (v := (4095 : Int32)) hx hb dX1_isFair_13 rfl ?_
  refine s_X1_79 (pc := 16) B hW hl.1 ho (by decide) (zle8 rfl) dX1_isFair_16 (fun _ _ h => c_X1_worthTo ho h) hf (fun r4 μ3 H locs hW hf => ?_)
  refine yic_lt (pc := 19) (tgt := 26) B dX1_isFair_19 (by decide) hf (fun hf => ?_) (fun hf => ?_)
  · refine lv_iconst (pc := 26) (v := (0 : Int32)) hx hb dX1_isFair_26 rfl ?_
    exact zretz (pc := 27) B hW rfl hf dX1_isFair_27
  · refine lv_iconst (pc := 22) (v := (1 : Int32)) hx hb dX1_isFair_22 rfl ?_
    refine lv_goto (pc := 23) (tgt := 27) hx hb dX1_isFair_23 (by decide) ?_
    exact zretz (pc := 27) B hW rfl hf dX1_isFair_27
noncomputable def f_X1_runFrom_16 (o : Nat) : Nat → Int32 → Int32 → Int32 → Mem → Option (Int32 × Mem)
  | 0, _, _, _, _ => none
  | n + 1, x1, x2, x3, μ => (if (12 : Int32) ≤ x3 then some ((x3 - x1), μ) else zck (zin x3 12) ((if (μ.1 (o + 4) (x3).toNatClampNeg) = x2 then f_X1_runFrom_16 o n x1 x2 (x3 + (1 : Int32)) μ else some ((x3 - x1), μ))))
set_option maxRecDepth 100000 in
theorem t_X1_runFrom_16 {G : ZG} {p : Program} {l : Launch} {e : Env} {s : State} {m : MethodId} {args : Array Value} {below : List Frame} {meth : Method} {c : Code} (B : zB ZC G cX1_runFrom 4 "DarkShares$Night" (some .int) p s m args meth c) {o : Nat} (ho : zN o) : ∀ (n : Nat) {x1 : Int32} {x2 : Int32} {x3 : Int32} {μ : Mem} {H : Heap} {locs : List Loc} {ls : Array Slot} {r : Int32} {μ' : Mem}, lv_has ls 4 [(0, .ref (zad G o)), (1, .int x1), (2, .int x2), (3, .int x3)] → zW ZC G s H locs μ → f_X1_runFrom_16 o n x1 x2 x3 μ = some (r, μ') → W p l e (zR 1) s m args below meth c H locs 0 0 (MQ below (zQ ZC G (some (.int r)) μ') args s 0 0 (zAd ZC G)) (F0 m 16 ls []) := by
  have hx := B.1
  have hb := B.2.1
  intro n
  induction n with
  | zero => intro _ _ _ _ _ _ _ _ _ hl hW hf; cases hf
  | succ n ih =>
    intro x1 x2 x3 μ H locs ls r μ' hl hW hf
    rw [f_X1_runFrom_16] at hf
    refine lv_iload_n (pc := 16) hx hb dX1_runFrom_16 rfl (lv_at hl 3 rfl) ?_
    refine lv_bipush (pc := 17) (v := (12 : Int32)) hx hb dX1_runFrom_17 rfl ?_
    refine yic_ge (pc := 19) (tgt := 38) B dX1_runFrom_19 (by decide) hf (fun hf => ?_) (fun hf => ?_)
    · refine lv_iload_n (pc := 38) hx hb dX1_runFrom_38 rfl (lv_at hl 3 rfl) ?_
      refine lv_iload_n (pc := 39) hx hb dX1_runFrom_39 rfl (lv_at hl 1 rfl) ?_
      refine lv_isub (pc := 40) hx hb dX1_runFrom_40 ?_
      exact zreti (pc := 41) B hW hf dX1_runFrom_41
    · refine lv_aload_n (pc := 22) hx hb dX1_runFrom_22 rfl (lv_at hl 0 rfl) ?_
      refine g_X1_21 (pc := 23) B hW ho dX1_runFrom_23 ?_
      refine lv_iload_n (pc := 26) hx hb dX1_runFrom_26 rfl (lv_at hl 3 rfl) ?_
      refine yald (pc := 27) B hW (arN4 ho) dX1_runFrom_27 hf (fun hf => ?_)
      refine lv_iload_n (pc := 28) hx hb dX1_runFrom_28 rfl (lv_at hl 2 rfl) ?_
      refine yic_ne (pc := 29) (tgt := 38) B dX1_runFrom_29 (by decide) hf (fun hf => ?_) (fun hf => ?_)
      · refine lv_iload_n (pc := 38) hx hb dX1_runFrom_38 rfl (lv_at hl 3 rfl) ?_
        refine lv_iload_n (pc := 39) hx hb dX1_runFrom_39 rfl (lv_at hl 1 rfl) ?_
        refine lv_isub (pc := 40) hx hb dX1_runFrom_40 ?_
        exact zreti (pc := 41) B hW hf dX1_runFrom_41
      · refine lv_iinc (pc := 32) (v := (x3 + (1 : Int32))) (lv' := [(3, .int (x3 + (1 : Int32))), (0, .ref (zad G o)), (1, .int x1), (2, .int x2)]) hx hb dX1_runFrom_32 hl (k := 3) rfl rfl (by decide) rfl (fun ls hl => ?_)
        refine lv_goto (pc := 35) (tgt := 16) hx hb dX1_runFrom_35 (by decide) ?_
        exact ih (lv_sub hl [1, 2, 3, 0] rfl) hW hf
noncomputable def f_X1_runFrom (o : Nat) (x1 : Int32) (μ : Mem) : Option (Int32 × Mem) := zck (zin x1 12) ((if (μ.1 (o + 4) (x1).toNatClampNeg) = (-1 : Int32) then some ((0 : Int32), μ) else f_X1_runFrom_16 o zFU x1 (μ.1 (o + 4) (x1).toNatClampNeg) x1 μ))
set_option maxRecDepth 100000 in
theorem c_X1_runFrom {G : ZG} {l : Launch} {o : Nat} (ho : zN o) {x1 : Int32} {μ : Mem} {r : Int32} {μ' : Mem} (h : f_X1_runFrom o x1 μ = some (r, μ')) : zC ZC G l yX1_runFrom cX1_runFrom 4 (some .int) 1 [.ref (zad G o), .int x1] μ (some (.int r)) μ' := by
  refine zC.mk (by decide +kernel) (Nat.le_of_ble_eq_true rfl) ?_
  intro p e s m below meth c ls B hl hW
  have B : zB ZC G cX1_runFrom 4 "DarkShares$Night" (some .int) p s m [.ref (zad G o), .int x1].toArray meth c := B
  have hl : lv_has ls 4 [(0, .ref (zad G o)), (1, .int x1)] := hl
  have hx := B.1
  have hb := B.2.1
  have hf := h
  unfold f_X1_runFrom at hf
  refine lv_aload_n (pc := 0) hx hb dX1_runFrom_0 rfl (lv_at hl 0 rfl) ?_
  refine g_X1_21 (pc := 1) B hW ho dX1_runFrom_1 ?_
  refine lv_iload_n (pc := 4) hx hb dX1_runFrom_4 rfl (lv_at hl 1 rfl) ?_
  refine yald (pc := 5) B hW (arN4 ho) dX1_runFrom_5 hf (fun hf => ?_)
  refine lv_istore_n (pc := 6) (lv' := [(2, .int (μ.1 (o + 4) (x1).toNatClampNeg)), (0, .ref (zad G o)), (1, .int x1)]) hx hb dX1_runFrom_6 rfl hl (by decide) rfl (fun ls hl => ?_)
  refine lv_iload_n (pc := 7) hx hb dX1_runFrom_7 rfl (lv_at hl 0 rfl) ?_
  refine lv_iconst (pc := 8) (v := (-1 : Int32)) hx hb dX1_runFrom_8 rfl ?_
  refine yic_ne (pc := 9) (tgt := 14) B dX1_runFrom_9 (by decide) hf (fun hf => ?_) (fun hf => ?_)
  · refine lv_iload_n (pc := 14) hx hb dX1_runFrom_14 rfl (lv_at hl 2 rfl) ?_
    refine lv_istore_n (pc := 15) (lv' := [(3, .int x1), (2, .int (μ.1 (o + 4) (x1).toNatClampNeg)), (0, .ref (zad G o)), (1, .int x1)]) hx hb dX1_runFrom_15 rfl hl (by decide) rfl (fun ls hl => ?_)
    exact t_X1_runFrom_16 B ho zFU (lv_sub hl [2, 3, 1, 0] rfl) hW hf
  · refine lv_iconst (pc := 12) (v := (0 : Int32)) hx hb dX1_runFrom_12 rfl ?_
    exact zreti (pc := 13) B hW hf dX1_runFrom_13
noncomputable def f_X1_ofUnlikeBoys (o : Nat) (x1 : Int32) (x2 : Int32) (μ : Mem) : Option (Int32 × Mem) := zck (zin x1 12) ((if (μ.1 (o + 4) (x1).toNatClampNeg) = (-1 : Int32) then some ((0 : Int32), μ) else zck (zin x2 12) ((if (μ.1 (o + 4) (x2).toNatClampNeg) = (-1 : Int32) then some ((0 : Int32), μ) else zck (zin x1 12) (zck (zin x2 12) ((if (μ.1 (o + 4) (x1).toNatClampNeg) = (μ.1 (o + 4) (x2).toNatClampNeg) then some ((0 : Int32), μ) else some ((1 : Int32), μ))))))))
set_option maxRecDepth 100000 in
theorem c_X1_ofUnlikeBoys {G : ZG} {l : Launch} {o : Nat} (ho : zN o) {x1 : Int32} {x2 : Int32} {μ : Mem} {r : Int32} {μ' : Mem} (h : f_X1_ofUnlikeBoys o x1 x2 μ = some (r, μ')) : zC ZC G l yX1_ofUnlikeBoys cX1_ofUnlikeBoys 3 (some .boolean) 1 [.ref (zad G o), .int x1, .int x2] μ (some (.int r)) μ' := by
  refine zC.mk (by decide +kernel) (Nat.le_of_ble_eq_true rfl) ?_
  intro p e s m below meth c ls B hl hW
  have B : zB ZC G cX1_ofUnlikeBoys 3 "DarkShares$Night" (some .boolean) p s m [.ref (zad G o), .int x1, .int x2].toArray meth c := B
  have hl : lv_has ls 3 [(0, .ref (zad G o)), (1, .int x1), (2, .int x2)] := hl
  have hx := B.1
  have hb := B.2.1
  have hf := h
  unfold f_X1_ofUnlikeBoys at hf
  refine lv_aload_n (pc := 0) hx hb dX1_ofUnlikeBoys_0 rfl (lv_at hl 0 rfl) ?_
  refine g_X1_21 (pc := 1) B hW ho dX1_ofUnlikeBoys_1 ?_
  refine lv_iload_n (pc := 4) hx hb dX1_ofUnlikeBoys_4 rfl (lv_at hl 1 rfl) ?_
  refine yald (pc := 5) B hW (arN4 ho) dX1_ofUnlikeBoys_5 hf (fun hf => ?_)
  refine lv_iconst (pc := 6) (v := (-1 : Int32)) hx hb dX1_ofUnlikeBoys_6 rfl ?_
  refine yic_eq (pc := 7) (tgt := 39) B dX1_ofUnlikeBoys_7 (by decide) hf (fun hf => ?_) (fun hf => ?_)
  · refine lv_iconst (pc := 39) (v := (0 : Int32)) hx hb dX1_ofUnlikeBoys_39 rfl ?_
    exact zretz (pc := 40) B hW rfl hf dX1_ofUnlikeBoys_40
  · refine lv_aload_n (pc := 10) hx hb dX1_ofUnlikeBoys_10 rfl (lv_at hl 0 rfl) ?_
    refine g_X1_21 (pc := 11) B hW ho dX1_ofUnlikeBoys_11 ?_
    refine lv_iload_n (pc := 14) hx hb dX1_ofUnlikeBoys_14 rfl (lv_at hl 2 rfl) ?_
    refine yald (pc := 15) B hW (arN4 ho) dX1_ofUnlikeBoys_15 hf (fun hf => ?_)
    refine lv_iconst (pc := 16) (v := (-1 : Int32)) hx hb dX1_ofUnlikeBoys_16 rfl ?_
    refine yic_eq (pc := 17) (tgt := 39) B dX1_ofUnlikeBoys_17 (by decide) hf (fun hf => ?_) (fun hf => ?_)
    · refine lv_iconst (pc := 39) (v := (0 : Int32)) hx hb dX1_ofUnlikeBoys_39 rfl ?_
      exact zretz (pc := 40) B hW rfl hf dX1_ofUnlikeBoys_40
    · refine lv_aload_n (pc := 20) hx hb dX1_ofUnlikeBoys_20 rfl (lv_at hl 0 rfl) ?_
      refine g_X1_21 (pc := 21) B hW ho dX1_ofUnlikeBoys_21 ?_
      refine lv_iload_n (pc := 24) hx hb dX1_ofUnlikeBoys_24 rfl (lv_at hl 1 rfl) ?_
      refine yald (pc := 25) B hW (arN4 ho) dX1_ofUnlikeBoys_25 hf (fun hf => ?_)
      refine lv_aload_n (pc := 26) hx hb dX1_ofUnlikeBoys_26 rfl (lv_at hl 0 rfl) ?_
      refine g_X1_21 (pc := 27) B hW ho dX1_ofUnlikeBoys_27 ?_
      refine lv_iload_n (pc := 30) hx hb dX1_ofUnlikeBoys_30 rfl (lv_at hl 2 rfl) ?_
      refine yald (pc := 31) B hW (arN4 ho) dX1_ofUnlikeBoys_31 hf (fun hf => ?_)
      refine yic_eq (pc := 32) (tgt := 39) B dX1_ofUnlikeBoys_32 (by decide) hf (fun hf => ?_) (fun hf => ?_)
      · refine lv_iconst (pc := 39) (v := (0 : Int32)) hx hb dX1_ofUnlikeBoys_39 rfl ?_
        exact zretz (pc := 40) B hW rfl hf dX1_ofUnlikeBoys_40
      · refine lv_iconst (pc := 35) (v := (1 : Int32)) hx hb dX1_ofUnlikeBoys_35 rfl ?_
        refine lv_goto (pc := 36) (tgt := 40) hx hb dX1_ofUnlikeBoys_36 (by decide) ?_
        exact zretz (pc := 40) B hW rfl hf dX1_ofUnlikeBoys_40
noncomputable def f_X1_changeHands (o : Nat) (x1 : Int32) (x2 : Int32) (μ : Mem) : Option (Unit × Mem) := zck (zin x1 12) (zck (zin x2 12) (zck (zin x1 12) (zlet (zI μ (o + 4) (x1).toNatClampNeg (μ.1 (o + 4) (x2).toNatClampNeg)) (fun μ1 => zck (zin x2 12) (zlet (zI μ1 (o + 4) (x2).toNatClampNeg (μ.1 (o + 4) (x1).toNatClampNeg)) (fun μ2 => some ((), μ2)))))))
set_option maxRecDepth 100000 in
theorem c_X1_changeHands {G : ZG} {l : Launch} {o : Nat} (ho : zN o) {x1 : Int32} {x2 : Int32} {μ : Mem} {r : Unit} {μ' : Mem} (h : f_X1_changeHands o x1 x2 μ = some (r, μ')) : zC ZC G l yX1_changeHands cX1_changeHands 4 none 1 [.ref (zad G o), .int x1, .int x2] μ none μ' := by
  refine zC.mk (by decide +kernel) (Nat.le_of_ble_eq_true rfl) ?_
  intro p e s m below meth c ls B hl hW
  have B : zB ZC G cX1_changeHands 4 "DarkShares$Night" none p s m [.ref (zad G o), .int x1, .int x2].toArray meth c := B
  have hl : lv_has ls 4 [(0, .ref (zad G o)), (1, .int x1), (2, .int x2)] := hl
  have hx := B.1
  have hb := B.2.1
  have hf := h
  unfold f_X1_changeHands at hf
  refine lv_aload_n (pc := 0) hx hb dX1_changeHands_0 rfl (lv_at hl 0 rfl) ?_
  refine g_X1_21 (pc := 1) B hW ho dX1_changeHands_1 ?_
  refine lv_iload_n (pc := 4) hx hb dX1_changeHands_4 rfl (lv_at hl 1 rfl) ?_
  refine yald (pc := 5) B hW (arN4 ho) dX1_changeHands_5 hf (fun hf => ?_)
  refine lv_istore_n (pc := 6) (lv' := [(3, .int (μ.1 (o + 4) (x1).toNatClampNeg)), (0, .ref (zad G o)), (1, .int x1), (2, .int x2)]) hx hb dX1_changeHands_6 rfl hl (by decide) rfl (fun ls hl => ?_)
  refine lv_aload_n (pc := 7) hx hb dX1_changeHands_7 rfl (lv_at hl 1 rfl) ?_
  refine g_X1_21 (pc := 8) B hW ho dX1_changeHands_8 ?_
  refine lv_iload_n (pc := 11) hx hb dX1_changeHands_11 rfl (lv_at hl 2 rfl) ?_
  refine lv_aload_n (pc := 12) hx hb dX1_changeHands_12 rfl (lv_at hl 1 rfl) ?_
  refine g_X1_21 (pc := 13) B hW ho dX1_changeHands_13 ?_
  refine lv_iload_n (pc := 16) hx hb dX1_changeHands_16 rfl (lv_at hl 3 rfl) ?_
  refine yald (pc := 17) B hW (arN4 ho) dX1_changeHands_17 hf (fun hf => ?_)
  refine yast (pc := 18) B hW (arN4 ho) dX1_changeHands_18 hf (fun μ1 H locs hW hf => ?_)
  refine lv_aload_n (pc := 19) hx hb dX1_changeHands_19 rfl (lv_at hl 1 rfl) ?_
  refine g_X1_21 (pc := 20) B hW ho dX1_changeHands_20 ?_
  refine lv_iload_n (pc := 23) hx hb dX1_changeHands_23 rfl (lv_at hl 3 rfl) ?_
  refine lv_iload_n (pc := 24) hx hb dX1_changeHands_24 rfl (lv_at hl 0 rfl) ?_
  refine yast (pc := 25) B hW (arN4 ho) dX1_changeHands_25 hf (fun μ2 H locs hW hf => ?_)
  exact zretv (pc := 26) B hW hf dX1_changeHands_26
noncomputable def f_X1_gains (o : Nat) (x1 : Int32) (x2 : Int32) (μ : Mem) : Option (Int32 × Mem) := zbind (f_X1_cellsOf o x1 μ) (fun r2 μ1 => zbind (f_X1_worthTo o x1 (r2 ^^^ x2) μ1) (fun r4 μ3 => zbind (f_X1_worthTo o x1 r2 μ3) (fun r6 μ5 => (if r4 ≤ r6 then some ((0 : Int32), μ5) else some ((1 : Int32), μ5)))))
set_option maxRecDepth 100000 in
theorem c_X1_gains {G : ZG} {l : Launch} {o : Nat} (ho : zN o) {x1 : Int32} {x2 : Int32} {μ : Mem} {r : Int32} {μ' : Mem} (h : f_X1_gains o x1 x2 μ = some (r, μ')) : zC ZC G l yX1_gains cX1_gains 4 (some .boolean) 5 [.ref (zad G o), .int x1, .int x2] μ (some (.int r)) μ' := by
  refine zC.mk (by decide +kernel) (Nat.le_of_ble_eq_true rfl) ?_
  intro p e s m below meth c ls B hl hW
  have B : zB ZC G cX1_gains 4 "DarkShares$Night" (some .boolean) p s m [.ref (zad G o), .int x1, .int x2].toArray meth c := B
  have hl : lv_has ls 4 [(0, .ref (zad G o)), (1, .int x1), (2, .int x2)] := hl
  have hx := B.1
  have hb := B.2.1
  have hf := h
  unfold f_X1_gains at hf
  refine lv_aload_n (pc := 0) hx hb dX1_gains_0 rfl (lv_at hl 0 rfl) ?_
  refine lv_iload_n (pc := 1) hx hb dX1_gains_1 rfl (lv_at hl 1 rfl) ?_
  refine s_X1_56 (pc := 2) B hW hl.1 ho (by decide) (zle8 rfl) dX1_gains_2 (fun _ _ h => c_X1_cellsOf ho h) hf (fun r2 μ1 H locs hW hf => ?_)
  refine lv_istore_n (pc := 5) (lv' := [(3, .int r2), (0, .ref (zad G o)), (1, .int x1), (2, .int x2)]) hx hb dX1_gains_5 rfl hl (by decide) rfl (fun ls hl => ?_)
  refine lv_aload_n (pc := 6) hx hb dX1_gains_6 rfl (lv_at hl 1 rfl) ?_
  refine lv_iload_n (pc := 7) hx hb dX1_gains_7 rfl (lv_at hl 2 rfl) ?_
  refine lv_iload_n (pc := 8) hx hb dX1_gains_8 rfl (lv_at hl 0 rfl) ?_
  refine lv_iload_n (pc := 9) hx hb dX1_gains_9 rfl (lv_at hl 3 rfl) ?_
  refine lv_ixor (pc := 10) hx hb dX1_gains_10 ?_
  refine s_X1_79 (pc := 11) B hW hl.1 ho (by decide) (zle8 rfl) dX1_gains_11 (fun _ _ h => c_X1_worthTo ho h) hf (fun r4 μ3 H locs hW hf => ?_)
  refine lv_aload_n (pc := 14) hx hb dX1_gains_14 rfl (lv_at hl 1 rfl) ?_
  refine lv_iload_n (pc := 15) hx hb dX1_gains_15 rfl (lv_at hl 2 rfl) ?_
  refine lv_iload_n (pc := 16) hx hb dX1_gains_16 rfl (lv_at hl 0 rfl) ?_
  refine s_X1_79 (pc := 17) B hW hl.1 ho (by decide) (zle8 rfl) dX1_gains_17 (fun _ _ h => c_X1_worthTo ho h) hf (fun r6 μ5 H locs hW hf => ?_)
  refine yic_le (pc := 20) (tgt := 27) B dX1_gains_20 (by decide) hf (fun hf => ?_) (fun hf => ?_)
  · refine lv_iconst (pc := 27) (v := (0 : Int32)) hx hb dX1_gains_27 rfl ?_
    exact zretz (pc := 28) B hW rfl hf dX1_gains_28
  · refine lv_iconst (pc := 23) (v := (1 : Int32)) hx hb dX1_gains_23 rfl ?_
    refine lv_goto (pc := 24) (tgt := 28) hx hb dX1_gains_24 (by decide) ?_
    exact zretz (pc := 28) B hW rfl hf dX1_gains_28
noncomputable def f_X1_bothGain (o : Nat) (x1 : Int32) (x2 : Int32) (μ : Mem) : Option (Int32 × Mem) := zbind (f_X1_ofUnlikeBoys o x1 x2 μ) (fun r2 μ1 => (if r2 = 0 then some ((0 : Int32), μ1) else zck (zin x1 12) (zbind (f_X1_gains o (μ1.1 (o + 4) (x1).toNatClampNeg) (((1 : Int32) <<< (x1 &&& 31)) ||| ((1 : Int32) <<< (x2 &&& 31))) μ1) (fun r4 μ3 => (if r4 = 0 then some ((0 : Int32), μ3) else zck (zin x2 12) (zbind (f_X1_gains o (μ3.1 (o + 4) (x2).toNatClampNeg) (((1 : Int32) <<< (x1 &&& 31)) ||| ((1 : Int32) <<< (x2 &&& 31))) μ3) (fun r6 μ5 => (if r6 = 0 then some ((0 : Int32), μ5) else some ((1 : Int32), μ5)))))))))
set_option maxRecDepth 100000 in
theorem c_X1_bothGain {G : ZG} {l : Launch} {o : Nat} (ho : zN o) {x1 : Int32} {x2 : Int32} {μ : Mem} {r : Int32} {μ' : Mem} (h : f_X1_bothGain o x1 x2 μ = some (r, μ')) : zC ZC G l yX1_bothGain cX1_bothGain 4 (some .boolean) 6 [.ref (zad G o), .int x1, .int x2] μ (some (.int r)) μ' := by
  refine zC.mk (by decide +kernel) (Nat.le_of_ble_eq_true rfl) ?_
  intro p e s m below meth c ls B hl hW
  have B : zB ZC G cX1_bothGain 4 "DarkShares$Night" (some .boolean) p s m [.ref (zad G o), .int x1, .int x2].toArray meth c := B
  have hl : lv_has ls 4 [(0, .ref (zad G o)), (1, .int x1), (2, .int x2)] := hl
  have hx := B.1
  have hb := B.2.1
  have hf := h
  unfold f_X1_bothGain at hf
  refine lv_aload_n (pc := 0) hx hb dX1_bothGain_0 rfl (lv_at hl 0 rfl) ?_
  refine lv_iload_n (pc := 1) hx hb dX1_bothGain_1 rfl (lv_at hl 1 rfl) ?_
  refine lv_iload_n (pc := 2) hx hb dX1_bothGain_2 rfl (lv_at hl 2 rfl) ?_
  refine s_X1_86 (pc := 3) B hW hl.1 ho (by decide) (zle8 rfl) dX1_bothGain_3 (fun _ _ h => c_X1_ofUnlikeBoys ho h) hf (fun r2 μ1 H locs hW hf => ?_)
  refine yif_ne (pc := 6) (tgt := 11) B dX1_bothGain_6 (by decide) hf (fun hf => ?_) (fun hf => ?_)
  · refine lv_iconst (pc := 11) (v := (1 : Int32)) hx hb dX1_bothGain_11 rfl ?_
    refine lv_iload_n (pc := 12) hx hb dX1_bothGain_12 rfl (lv_at hl 1 rfl) ?_
    refine lv_ishl (pc := 13) hx hb dX1_bothGain_13 ?_
    refine lv_iconst (pc := 14) (v := (1 : Int32)) hx hb dX1_bothGain_14 rfl ?_
    refine lv_iload_n (pc := 15) hx hb dX1_bothGain_15 rfl (lv_at hl 2 rfl) ?_
    refine lv_ishl (pc := 16) hx hb dX1_bothGain_16 ?_
    refine lv_ior (pc := 17) hx hb dX1_bothGain_17 ?_
    refine lv_istore_n (pc := 18) (lv' := [(3, .int (((1 : Int32) <<< (x1 &&& 31)) ||| ((1 : Int32) <<< (x2 &&& 31)))), (0, .ref (zad G o)), (1, .int x1), (2, .int x2)]) hx hb dX1_bothGain_18 rfl hl (by decide) rfl (fun ls hl => ?_)
    refine lv_aload_n (pc := 19) hx hb dX1_bothGain_19 rfl (lv_at hl 1 rfl) ?_
    refine lv_aload_n (pc := 20) hx hb dX1_bothGain_20 rfl (lv_at hl 1 rfl) ?_
    refine g_X1_21 (pc := 21) B hW ho dX1_bothGain_21 ?_
    refine lv_iload_n (pc := 24) hx hb dX1_bothGain_24 rfl (lv_at hl 2 rfl) ?_
    refine yald (pc := 25) B hW (arN4 ho) dX1_bothGain_25 hf (fun hf => ?_)
    refine lv_iload_n (pc := 26) hx hb dX1_bothGain_26 rfl (lv_at hl 0 rfl) ?_
    refine s_X1_89 (pc := 27) B hW hl.1 ho (by decide) (zle8 rfl) dX1_bothGain_27 (fun _ _ h => c_X1_gains ho h) hf (fun r4 μ3 H locs hW hf => ?_)
    refine yif_eq (pc := 30) (tgt := 51) B dX1_bothGain_30 (by decide) hf (fun hf => ?_) (fun hf => ?_)
    · refine lv_iconst (pc := 51) (v := (0 : Int32)) hx hb dX1_bothGain_51 rfl ?_
      exact zretz (pc := 52) B hW rfl hf dX1_bothGain_52
    · refine lv_aload_n (pc := 33) hx hb dX1_bothGain_33 rfl (lv_at hl 1 rfl) ?_
      refine lv_aload_n (pc := 34) hx hb dX1_bothGain_34 rfl (lv_at hl 1 rfl) ?_
      refine g_X1_21 (pc := 35) B hW ho dX1_bothGain_35 ?_
      refine lv_iload_n (pc := 38) hx hb dX1_bothGain_38 rfl (lv_at hl 3 rfl) ?_
      refine yald (pc := 39) B hW (arN4 ho) dX1_bothGain_39 hf (fun hf => ?_)
      refine lv_iload_n (pc := 40) hx hb dX1_bothGain_40 rfl (lv_at hl 0 rfl) ?_
      refine s_X1_89 (pc := 41) B hW hl.1 ho (by decide) (zle8 rfl) dX1_bothGain_41 (fun _ _ h => c_X1_gains ho h) hf (fun r6 μ5 H locs hW hf => ?_)
      refine yif_eq (pc := 44) (tgt := 51) B dX1_bothGain_44 (by decide) hf (fun hf => ?_) (fun hf => ?_)
      · refine lv_iconst (pc := 51) (v := (0 : Int32)) hx hb dX1_bothGain_51 rfl ?_
        exact zretz (pc := 52) B hW rfl hf dX1_bothGain_52
      · refine lv_iconst (pc := 47) (v := (1 : Int32)) hx hb dX1_bothGain_47 rfl ?_
        refine lv_goto (pc := 48) (tgt := 52) hx hb dX1_bothGain_48 (by decide) ?_
        exact zretz (pc := 52) B hW rfl hf dX1_bothGain_52
  · refine lv_iconst (pc := 9) (v := (0 : Int32)) hx hb dX1_bothGain_9 rfl ?_
    exact zretz (pc := 10) B hW rfl hf dX1_bothGain_10
noncomputable def f_X1_howManySwaps_14 (o : Nat) (K4 : Int32 → Int32 → Mem → Option (Int32 × Mem)) : Nat → Int32 → Int32 → Int32 → Mem → Option (Int32 × Mem)
  | 0, _, _, _, _ => none
  | n + 1, x1, x2, x3, μ => (if (12 : Int32) ≤ x3 then K4 x1 (x2 + (1 : Int32)) μ else zbind (f_X1_bothGain o x2 x3 μ) (fun r2 μ1 => (if r2 = 0 then f_X1_howManySwaps_14 o K4 n x1 x2 (x3 + (1 : Int32)) μ1 else f_X1_howManySwaps_14 o K4 n (x1 + (1 : Int32)) x2 (x3 + (1 : Int32)) μ1)))
set_option maxRecDepth 100000 in
theorem t_X1_howManySwaps_14 {G : ZG} {p : Program} {l : Launch} {e : Env} {s : State} {m : MethodId} {args : Array Value} {below : List Frame} {meth : Method} {c : Code} (B : zB ZC G cX1_howManySwaps 4 "DarkShares$Night" (some .int) p s m args meth c) {o : Nat} (ho : zN o) {K4 : Int32 → Int32 → Mem → Option (Int32 × Mem)} (hK4 : ∀ {x1 : Int32} {x2 : Int32} {μ : Mem} {H : Heap} {locs : List Loc} {ls : Array Slot} {r : Int32} {μ' : Mem}, lv_has ls 4 [(0, .ref (zad G o)), (1, .int x1), (2, .int x2)] → zW ZC G s H locs μ → K4 x1 x2 μ = some (r, μ') → W p l e (zR 7) s m args below meth c H locs 0 0 (MQ below (zQ ZC G (some (.int r)) μ') args s 0 0 (zAd ZC G)) (F0 m 4 ls [])) : ∀ (n : Nat) {x1 : Int32} {x2 : Int32} {x3 : Int32} {μ : Mem} {H : Heap} {locs : List Loc} {ls : Array Slot} {r : Int32} {μ' : Mem}, lv_has ls 4 [(0, .ref (zad G o)), (1, .int x1), (2, .int x2), (3, .int x3)] → zW ZC G s H locs μ → f_X1_howManySwaps_14 o K4 n x1 x2 x3 μ = some (r, μ') → W p l e (zR 7) s m args below meth c H locs 0 0 (MQ below (zQ ZC G (some (.int r)) μ') args s 0 0 (zAd ZC G)) (F0 m 14 ls []) := by
  have hx := B.1
  have hb := B.2.1
  intro n
  induction n with
  | zero => intro _ _ _ _ _ _ _ _ _ hl hW hf; cases hf
  | succ n ih =>
    intro x1 x2 x3 μ H locs ls r μ' hl hW hf
    rw [f_X1_howManySwaps_14] at hf
    refine lv_iload_n (pc := 14) hx hb dX1_howManySwaps_14 rfl (lv_at hl 3 rfl) ?_
    refine lv_bipush (pc := 15) (v := (12 : Int32)) hx hb dX1_howManySwaps_15 rfl ?_
    refine yic_ge (pc := 17) (tgt := 38) B dX1_howManySwaps_17 (by decide) hf (fun hf => ?_) (fun hf => ?_)
    · refine lv_iinc (pc := 38) (v := (x2 + (1 : Int32))) (lv' := [(2, .int (x2 + (1 : Int32))), (0, .ref (zad G o)), (1, .int x1), (3, .int x3)]) hx hb dX1_howManySwaps_38 hl (k := 2) rfl rfl (by decide) rfl (fun ls hl => ?_)
      refine lv_goto (pc := 41) (tgt := 4) hx hb dX1_howManySwaps_41 (by decide) ?_
      exact hK4 (lv_sub hl [1, 2, 0] rfl) hW hf
    · refine lv_aload_n (pc := 20) hx hb dX1_howManySwaps_20 rfl (lv_at hl 0 rfl) ?_
      refine lv_iload_n (pc := 21) hx hb dX1_howManySwaps_21 rfl (lv_at hl 2 rfl) ?_
      refine lv_iload_n (pc := 22) hx hb dX1_howManySwaps_22 rfl (lv_at hl 3 rfl) ?_
      refine s_X1_92 (pc := 23) B hW hl.1 ho (by decide) (zle8 rfl) dX1_howManySwaps_23 (fun _ _ h => c_X1_bothGain ho h) hf (fun r2 μ1 H locs hW hf => ?_)
      refine yif_eq (pc := 26) (tgt := 32) B dX1_howManySwaps_26 (by decide) hf (fun hf => ?_) (fun hf => ?_)
      · refine lv_iinc (pc := 32) (v := (x3 + (1 : Int32))) (lv' := [(3, .int (x3 + (1 : Int32))), (0, .ref (zad G o)), (1, .int x1), (2, .int x2)]) hx hb dX1_howManySwaps_32 hl (k := 3) rfl rfl (by decide) rfl (fun ls hl => ?_)
        refine lv_goto (pc := 35) (tgt := 14) hx hb dX1_howManySwaps_35 (by decide) ?_
        exact ih (lv_sub hl [1, 2, 3, 0] rfl) hW hf
      · refine lv_iinc (pc := 29) (v := (x1 + (1 : Int32))) (lv' := [(1, .int (x1 + (1 : Int32))), (0, .ref (zad G o)), (2, .int x2), (3, .int x3)]) hx hb dX1_howManySwaps_29 hl (k := 1) rfl rfl (by decide) rfl (fun ls hl => ?_)
        refine lv_iinc (pc := 32) (v := (x3 + (1 : Int32))) (lv' := [(3, .int (x3 + (1 : Int32))), (1, .int (x1 + (1 : Int32))), (0, .ref (zad G o)), (2, .int x2)]) hx hb dX1_howManySwaps_32 hl (k := 3) rfl rfl (by decide) rfl (fun ls hl => ?_)
        refine lv_goto (pc := 35) (tgt := 14) hx hb dX1_howManySwaps_35 (by decide) ?_
        exact ih (lv_sub hl [2, 1, 3, 0] rfl) hW hf
noncomputable def f_X1_howManySwaps_4 (o : Nat) : Nat → Int32 → Int32 → Mem → Option (Int32 × Mem)
  | 0, _, _, _ => none
  | n + 1, x1, x2, μ => (if (12 : Int32) ≤ x2 then some (x1, μ) else f_X1_howManySwaps_14 o (fun a0 a1 ν => f_X1_howManySwaps_4 o n a0 a1 ν) zFU x1 x2 (x2 + (1 : Int32)) μ)
set_option maxRecDepth 100000 in
theorem t_X1_howManySwaps_4 {G : ZG} {p : Program} {l : Launch} {e : Env} {s : State} {m : MethodId} {args : Array Value} {below : List Frame} {meth : Method} {c : Code} (B : zB ZC G cX1_howManySwaps 4 "DarkShares$Night" (some .int) p s m args meth c) {o : Nat} (ho : zN o) : ∀ (n : Nat) {x1 : Int32} {x2 : Int32} {μ : Mem} {H : Heap} {locs : List Loc} {ls : Array Slot} {r : Int32} {μ' : Mem}, lv_has ls 4 [(0, .ref (zad G o)), (1, .int x1), (2, .int x2)] → zW ZC G s H locs μ → f_X1_howManySwaps_4 o n x1 x2 μ = some (r, μ') → W p l e (zR 7) s m args below meth c H locs 0 0 (MQ below (zQ ZC G (some (.int r)) μ') args s 0 0 (zAd ZC G)) (F0 m 4 ls []) := by
  have hx := B.1
  have hb := B.2.1
  intro n
  induction n with
  | zero => intro _ _ _ _ _ _ _ _ hl hW hf; cases hf
  | succ n ih =>
    intro x1 x2 μ H locs ls r μ' hl hW hf
    rw [f_X1_howManySwaps_4] at hf
    refine lv_iload_n (pc := 4) hx hb dX1_howManySwaps_4 rfl (lv_at hl 2 rfl) ?_
    refine lv_bipush (pc := 5) (v := (12 : Int32)) hx hb dX1_howManySwaps_5 rfl ?_
    refine yic_ge (pc := 7) (tgt := 44) B dX1_howManySwaps_7 (by decide) hf (fun hf => ?_) (fun hf => ?_)
    · refine lv_iload_n (pc := 44) hx hb dX1_howManySwaps_44 rfl (lv_at hl 1 rfl) ?_
      exact zreti (pc := 45) B hW hf dX1_howManySwaps_45
    · refine lv_iload_n (pc := 10) hx hb dX1_howManySwaps_10 rfl (lv_at hl 2 rfl) ?_
      refine lv_iconst (pc := 11) (v := (1 : Int32)) hx hb dX1_howManySwaps_11 rfl ?_
      refine lv_iadd (pc := 12) hx hb dX1_howManySwaps_12 ?_
      refine lv_istore_n (pc := 13) (lv' := [(3, .int (x2 + (1 : Int32))), (0, .ref (zad G o)), (1, .int x1), (2, .int x2)]) hx hb dX1_howManySwaps_13 rfl hl (by decide) rfl (fun ls hl => ?_)
      exact t_X1_howManySwaps_14 B ho @ih zFU (lv_sub hl [1, 2, 3, 0] rfl) hW hf
noncomputable def f_X1_howManySwaps (o : Nat) (μ : Mem) : Option (Int32 × Mem) := f_X1_howManySwaps_4 o zFU (0 : Int32) (0 : Int32) μ
set_option maxRecDepth 100000 in
theorem c_X1_howManySwaps {G : ZG} {l : Launch} {o : Nat} (ho : zN o) {μ : Mem} {r : Int32} {μ' : Mem} (h : f_X1_howManySwaps o μ = some (r, μ')) : zC ZC G l yX1_howManySwaps cX1_howManySwaps 4 (some .int) 7 [.ref (zad G o)] μ (some (.int r)) μ' := by
  refine zC.mk (by decide +kernel) (Nat.le_of_ble_eq_true rfl) ?_
  intro p e s m below meth c ls B hl hW
  have B : zB ZC G cX1_howManySwaps 4 "DarkShares$Night" (some .int) p s m [.ref (zad G o)].toArray meth c := B
  have hl : lv_has ls 4 [(0, .ref (zad G o))] := hl
  have hx := B.1
  have hb := B.2.1
  have hf := h
  unfold f_X1_howManySwaps at hf
  refine lv_iconst (pc := 0) (v := (0 : Int32)) hx hb dX1_howManySwaps_0 rfl ?_
  refine lv_istore_n (pc := 1) (lv' := [(1, .int (0 : Int32)), (0, .ref (zad G o))]) hx hb dX1_howManySwaps_1 rfl hl (by decide) rfl (fun ls hl => ?_)
  refine lv_iconst (pc := 2) (v := (0 : Int32)) hx hb dX1_howManySwaps_2 rfl ?_
  refine lv_istore_n (pc := 3) (lv' := [(2, .int (0 : Int32)), (1, .int (0 : Int32)), (0, .ref (zad G o))]) hx hb dX1_howManySwaps_3 rfl hl (by decide) rfl (fun ls hl => ?_)
  exact t_X1_howManySwaps_4 B ho zFU (lv_sub hl [2, 1, 0] rfl) hW hf
noncomputable def f_X1_swapAt_15 (o : Nat) (K4 : Int32 → Int32 → Int32 → Mem → Option (Int32 × Mem)) : Nat → Int32 → Int32 → Int32 → Int32 → Mem → Option (Int32 × Mem)
  | 0, _, _, _, _, _ => none
  | n + 1, x1, x2, x3, x4, μ => (if (12 : Int32) ≤ x4 then K4 x1 x2 (x3 + (1 : Int32)) μ else zbind (f_X1_bothGain o x3 x4 μ) (fun r2 μ1 => (if r2 = 0 then f_X1_swapAt_15 o K4 n x1 x2 x3 (x4 + (1 : Int32)) μ1 else (if x2 = x1 then some ((((100 : Int32) * x3) + x4), μ1) else f_X1_swapAt_15 o K4 n x1 (x2 + (1 : Int32)) x3 (x4 + (1 : Int32)) μ1))))
set_option maxRecDepth 100000 in
theorem t_X1_swapAt_15 {G : ZG} {p : Program} {l : Launch} {e : Env} {s : State} {m : MethodId} {args : Array Value} {below : List Frame} {meth : Method} {c : Code} (B : zB ZC G cX1_swapAt 5 "DarkShares$Night" (some .int) p s m args meth c) {o : Nat} (ho : zN o) {K4 : Int32 → Int32 → Int32 → Mem → Option (Int32 × Mem)} (hK4 : ∀ {x1 : Int32} {x2 : Int32} {x3 : Int32} {μ : Mem} {H : Heap} {locs : List Loc} {ls : Array Slot} {r : Int32} {μ' : Mem}, lv_has ls 5 [(0, .ref (zad G o)), (1, .int x1), (2, .int x2), (3, .int x3)] → zW ZC G s H locs μ → K4 x1 x2 x3 μ = some (r, μ') → W p l e (zR 7) s m args below meth c H locs 0 0 (MQ below (zQ ZC G (some (.int r)) μ') args s 0 0 (zAd ZC G)) (F0 m 4 ls [])) : ∀ (n : Nat) {x1 : Int32} {x2 : Int32} {x3 : Int32} {x4 : Int32} {μ : Mem} {H : Heap} {locs : List Loc} {ls : Array Slot} {r : Int32} {μ' : Mem}, lv_has ls 5 [(0, .ref (zad G o)), (1, .int x1), (2, .int x2), (3, .int x3), (4, .int x4)] → zW ZC G s H locs μ → f_X1_swapAt_15 o K4 n x1 x2 x3 x4 μ = some (r, μ') → W p l e (zR 7) s m args below meth c H locs 0 0 (MQ below (zQ ZC G (some (.int r)) μ') args s 0 0 (zAd ZC G)) (F0 m 15 ls []) := by
  have hx := B.1
  have hb := B.2.1
  intro n
  induction n with
  | zero => intro _ _ _ _ _ _ _ _ _ _ hl hW hf; cases hf
  | succ n ih =>
    intro x1 x2 x3 x4 μ H locs ls r μ' hl hW hf
    rw [f_X1_swapAt_15] at hf
    refine lv_iload (pc := 15) hx hb dX1_swapAt_15 (lv_at hl 4 rfl) ?_
    refine lv_bipush (pc := 17) (v := (12 : Int32)) hx hb dX1_swapAt_17 rfl ?_
    refine yic_ge (pc := 19) (tgt := 57) B dX1_swapAt_19 (by decide) hf (fun hf => ?_) (fun hf => ?_)
    · refine lv_iinc (pc := 57) (v := (x3 + (1 : Int32))) (lv' := [(3, .int (x3 + (1 : Int32))), (0, .ref (zad G o)), (1, .int x1), (2, .int x2), (4, .int x4)]) hx hb dX1_swapAt_57 hl (k := 3) rfl rfl (by decide) rfl (fun ls hl => ?_)
      refine lv_goto (pc := 60) (tgt := 4) hx hb dX1_swapAt_60 (by decide) ?_
      exact hK4 (lv_sub hl [1, 2, 3, 0] rfl) hW hf
    · refine lv_aload_n (pc := 22) hx hb dX1_swapAt_22 rfl (lv_at hl 0 rfl) ?_
      refine lv_iload_n (pc := 23) hx hb dX1_swapAt_23 rfl (lv_at hl 3 rfl) ?_
      refine lv_iload (pc := 24) hx hb dX1_swapAt_24 (lv_at hl 4 rfl) ?_
      refine s_X1_92 (pc := 26) B hW hl.1 ho (by decide) (zle8 rfl) dX1_swapAt_26 (fun _ _ h => c_X1_bothGain ho h) hf (fun r2 μ1 H locs hW hf => ?_)
      refine yif_ne (pc := 29) (tgt := 35) B dX1_swapAt_29 (by decide) hf (fun hf => ?_) (fun hf => ?_)
      · refine lv_iload_n (pc := 35) hx hb dX1_swapAt_35 rfl (lv_at hl 2 rfl) ?_
        refine lv_iload_n (pc := 36) hx hb dX1_swapAt_36 rfl (lv_at hl 1 rfl) ?_
        refine yic_ne (pc := 37) (tgt := 48) B dX1_swapAt_37 (by decide) hf (fun hf => ?_) (fun hf => ?_)
        · refine lv_iinc (pc := 48) (v := (x2 + (1 : Int32))) (lv' := [(2, .int (x2 + (1 : Int32))), (0, .ref (zad G o)), (1, .int x1), (3, .int x3), (4, .int x4)]) hx hb dX1_swapAt_48 hl (k := 2) rfl rfl (by decide) rfl (fun ls hl => ?_)
          refine lv_iinc (pc := 51) (v := (x4 + (1 : Int32))) (lv' := [(4, .int (x4 + (1 : Int32))), (2, .int (x2 + (1 : Int32))), (0, .ref (zad G o)), (1, .int x1), (3, .int x3)]) hx hb dX1_swapAt_51 hl (k := 4) rfl rfl (by decide) rfl (fun ls hl => ?_)
          refine lv_goto (pc := 54) (tgt := 15) hx hb dX1_swapAt_54 (by decide) ?_
          exact ih (lv_sub hl [2, 3, 1, 4, 0] rfl) hW hf
        · refine lv_bipush (pc := 40) (v := (100 : Int32)) hx hb dX1_swapAt_40 rfl ?_
          refine lv_iload_n (pc := 42) hx hb dX1_swapAt_42 rfl (lv_at hl 3 rfl) ?_
          refine lv_imul (pc := 43) hx hb dX1_swapAt_43 ?_
          refine lv_iload (pc := 44) hx hb dX1_swapAt_44 (lv_at hl 4 rfl) ?_
          refine lv_iadd (pc := 46) hx hb dX1_swapAt_46 ?_
          exact zreti (pc := 47) B hW hf dX1_swapAt_47
      · refine lv_goto (pc := 32) (tgt := 51) hx hb dX1_swapAt_32 (by decide) ?_
        refine lv_iinc (pc := 51) (v := (x4 + (1 : Int32))) (lv' := [(4, .int (x4 + (1 : Int32))), (0, .ref (zad G o)), (1, .int x1), (2, .int x2), (3, .int x3)]) hx hb dX1_swapAt_51 hl (k := 4) rfl rfl (by decide) rfl (fun ls hl => ?_)
        refine lv_goto (pc := 54) (tgt := 15) hx hb dX1_swapAt_54 (by decide) ?_
        exact ih (lv_sub hl [1, 2, 3, 4, 0] rfl) hW hf
noncomputable def f_X1_swapAt_4 (o : Nat) : Nat → Int32 → Int32 → Int32 → Mem → Option (Int32 × Mem)
  | 0, _, _, _, _ => none
  | n + 1, x1, x2, x3, μ => (if (12 : Int32) ≤ x3 then some ((-1 : Int32), μ) else f_X1_swapAt_15 o (fun a0 a1 a2 ν => f_X1_swapAt_4 o n a0 a1 a2 ν) zFU x1 x2 x3 (x3 + (1 : Int32)) μ)
set_option maxRecDepth 100000 in
theorem t_X1_swapAt_4 {G : ZG} {p : Program} {l : Launch} {e : Env} {s : State} {m : MethodId} {args : Array Value} {below : List Frame} {meth : Method} {c : Code} (B : zB ZC G cX1_swapAt 5 "DarkShares$Night" (some .int) p s m args meth c) {o : Nat} (ho : zN o) : ∀ (n : Nat) {x1 : Int32} {x2 : Int32} {x3 : Int32} {μ : Mem} {H : Heap} {locs : List Loc} {ls : Array Slot} {r : Int32} {μ' : Mem}, lv_has ls 5 [(0, .ref (zad G o)), (1, .int x1), (2, .int x2), (3, .int x3)] → zW ZC G s H locs μ → f_X1_swapAt_4 o n x1 x2 x3 μ = some (r, μ') → W p l e (zR 7) s m args below meth c H locs 0 0 (MQ below (zQ ZC G (some (.int r)) μ') args s 0 0 (zAd ZC G)) (F0 m 4 ls []) := by
  have hx := B.1
  have hb := B.2.1
  intro n
  induction n with
  | zero => intro _ _ _ _ _ _ _ _ _ hl hW hf; cases hf
  | succ n ih =>
    intro x1 x2 x3 μ H locs ls r μ' hl hW hf
    rw [f_X1_swapAt_4] at hf
    refine lv_iload_n (pc := 4) hx hb dX1_swapAt_4 rfl (lv_at hl 3 rfl) ?_
    refine lv_bipush (pc := 5) (v := (12 : Int32)) hx hb dX1_swapAt_5 rfl ?_
    refine yic_ge (pc := 7) (tgt := 63) B dX1_swapAt_7 (by decide) hf (fun hf => ?_) (fun hf => ?_)
    · refine lv_iconst (pc := 63) (v := (-1 : Int32)) hx hb dX1_swapAt_63 rfl ?_
      exact zreti (pc := 64) B hW hf dX1_swapAt_64
    · refine lv_iload_n (pc := 10) hx hb dX1_swapAt_10 rfl (lv_at hl 3 rfl) ?_
      refine lv_iconst (pc := 11) (v := (1 : Int32)) hx hb dX1_swapAt_11 rfl ?_
      refine lv_iadd (pc := 12) hx hb dX1_swapAt_12 ?_
      refine lv_istore (pc := 13) (lv' := [(4, .int (x3 + (1 : Int32))), (0, .ref (zad G o)), (1, .int x1), (2, .int x2), (3, .int x3)]) hx hb dX1_swapAt_13 hl (by decide) rfl (fun ls hl => ?_)
      exact t_X1_swapAt_15 B ho @ih zFU (lv_sub hl [1, 2, 3, 4, 0] rfl) hW hf
noncomputable def f_X1_swapAt (o : Nat) (x1 : Int32) (μ : Mem) : Option (Int32 × Mem) := f_X1_swapAt_4 o zFU x1 (0 : Int32) (0 : Int32) μ
set_option maxRecDepth 100000 in
theorem c_X1_swapAt {G : ZG} {l : Launch} {o : Nat} (ho : zN o) {x1 : Int32} {μ : Mem} {r : Int32} {μ' : Mem} (h : f_X1_swapAt o x1 μ = some (r, μ')) : zC ZC G l yX1_swapAt cX1_swapAt 5 (some .int) 7 [.ref (zad G o), .int x1] μ (some (.int r)) μ' := by
  refine zC.mk (by decide +kernel) (Nat.le_of_ble_eq_true rfl) ?_
  intro p e s m below meth c ls B hl hW
  have B : zB ZC G cX1_swapAt 5 "DarkShares$Night" (some .int) p s m [.ref (zad G o), .int x1].toArray meth c := B
  have hl : lv_has ls 5 [(0, .ref (zad G o)), (1, .int x1)] := hl
  have hx := B.1
  have hb := B.2.1
  have hf := h
  unfold f_X1_swapAt at hf
  refine lv_iconst (pc := 0) (v := (0 : Int32)) hx hb dX1_swapAt_0 rfl ?_
  refine lv_istore_n (pc := 1) (lv' := [(2, .int (0 : Int32)), (0, .ref (zad G o)), (1, .int x1)]) hx hb dX1_swapAt_1 rfl hl (by decide) rfl (fun ls hl => ?_)
  refine lv_iconst (pc := 2) (v := (0 : Int32)) hx hb dX1_swapAt_2 rfl ?_
  refine lv_istore_n (pc := 3) (lv' := [(3, .int (0 : Int32)), (2, .int (0 : Int32)), (0, .ref (zad G o)), (1, .int x1)]) hx hb dX1_swapAt_3 rfl hl (by decide) rfl (fun ls hl => ?_)
  exact t_X1_swapAt_4 B ho zFU (lv_sub hl [2, 3, 1, 0] rfl) hW hf
noncomputable def f_X1_lossOf (o : Nat) (x1 : Int32) (μ : Mem) : Option (Int32 × Mem) := zck (zin x1 12) ((if (μ.1 (o + 4) (x1).toNatClampNeg) = (-1 : Int32) then some ((0 : Int32), μ) else zbind (f_X1_cellsOf o (μ.1 (o + 4) (x1).toNatClampNeg) μ) (fun r2 μ1 => zbind (f_X1_worthTo o (μ.1 (o + 4) (x1).toNatClampNeg) r2 μ1) (fun r4 μ3 => zbind (f_X1_worthTo o (μ.1 (o + 4) (x1).toNatClampNeg) (r2 &&& (((1 : Int32) <<< (x1 &&& 31)) ^^^ (-1 : Int32))) μ3) (fun r6 μ5 => some ((r4 - r6), μ5))))))
set_option maxRecDepth 100000 in
theorem c_X1_lossOf {G : ZG} {l : Launch} {o : Nat} (ho : zN o) {x1 : Int32} {μ : Mem} {r : Int32} {μ' : Mem} (h : f_X1_lossOf o x1 μ = some (r, μ')) : zC ZC G l yX1_lossOf cX1_lossOf 4 (some .int) 5 [.ref (zad G o), .int x1] μ (some (.int r)) μ' := by
  refine zC.mk (by decide +kernel) (Nat.le_of_ble_eq_true rfl) ?_
  intro p e s m below meth c ls B hl hW
  have B : zB ZC G cX1_lossOf 4 "DarkShares$Night" (some .int) p s m [.ref (zad G o), .int x1].toArray meth c := B
  have hl : lv_has ls 4 [(0, .ref (zad G o)), (1, .int x1)] := hl
  have hx := B.1
  have hb := B.2.1
  have hf := h
  unfold f_X1_lossOf at hf
  refine lv_aload_n (pc := 0) hx hb dX1_lossOf_0 rfl (lv_at hl 0 rfl) ?_
  refine g_X1_21 (pc := 1) B hW ho dX1_lossOf_1 ?_
  refine lv_iload_n (pc := 4) hx hb dX1_lossOf_4 rfl (lv_at hl 1 rfl) ?_
  refine yald (pc := 5) B hW (arN4 ho) dX1_lossOf_5 hf (fun hf => ?_)
  refine lv_istore_n (pc := 6) (lv' := [(2, .int (μ.1 (o + 4) (x1).toNatClampNeg)), (0, .ref (zad G o)), (1, .int x1)]) hx hb dX1_lossOf_6 rfl hl (by decide) rfl (fun ls hl => ?_)
  refine lv_iload_n (pc := 7) hx hb dX1_lossOf_7 rfl (lv_at hl 0 rfl) ?_
  refine lv_iconst (pc := 8) (v := (-1 : Int32)) hx hb dX1_lossOf_8 rfl ?_
  refine yic_ne (pc := 9) (tgt := 14) B dX1_lossOf_9 (by decide) hf (fun hf => ?_) (fun hf => ?_)
  · refine lv_aload_n (pc := 14) hx hb dX1_lossOf_14 rfl (lv_at hl 1 rfl) ?_
    refine lv_iload_n (pc := 15) hx hb dX1_lossOf_15 rfl (lv_at hl 0 rfl) ?_
    refine s_X1_56 (pc := 16) B hW hl.1 ho (by decide) (zle8 rfl) dX1_lossOf_16 (fun _ _ h => c_X1_cellsOf ho h) hf (fun r2 μ1 H locs hW hf => ?_)
    refine lv_istore_n (pc := 19) (lv' := [(3, .int r2), (2, .int (μ.1 (o + 4) (x1).toNatClampNeg)), (0, .ref (zad G o)), (1, .int x1)]) hx hb dX1_lossOf_19 rfl hl (by decide) rfl (fun ls hl => ?_)
    refine lv_aload_n (pc := 20) hx hb dX1_lossOf_20 rfl (lv_at hl 2 rfl) ?_
    refine lv_iload_n (pc := 21) hx hb dX1_lossOf_21 rfl (lv_at hl 1 rfl) ?_
    refine lv_iload_n (pc := 22) hx hb dX1_lossOf_22 rfl (lv_at hl 0 rfl) ?_
    refine s_X1_79 (pc := 23) B hW hl.1 ho (by decide) (zle8 rfl) dX1_lossOf_23 (fun _ _ h => c_X1_worthTo ho h) hf (fun r4 μ3 H locs hW hf => ?_)
    refine lv_aload_n (pc := 26) hx hb dX1_lossOf_26 rfl (lv_at hl 2 rfl) ?_
    refine lv_iload_n (pc := 27) hx hb dX1_lossOf_27 rfl (lv_at hl 1 rfl) ?_
    refine lv_iload_n (pc := 28) hx hb dX1_lossOf_28 rfl (lv_at hl 0 rfl) ?_
    refine lv_iconst (pc := 29) (v := (1 : Int32)) hx hb dX1_lossOf_29 rfl ?_
    refine lv_iload_n (pc := 30) hx hb dX1_lossOf_30 rfl (lv_at hl 3 rfl) ?_
    refine lv_ishl (pc := 31) hx hb dX1_lossOf_31 ?_
    refine lv_iconst (pc := 32) (v := (-1 : Int32)) hx hb dX1_lossOf_32 rfl ?_
    refine lv_ixor (pc := 33) hx hb dX1_lossOf_33 ?_
    refine lv_iand (pc := 34) hx hb dX1_lossOf_34 ?_
    refine s_X1_79 (pc := 35) B hW hl.1 ho (by decide) (zle8 rfl) dX1_lossOf_35 (fun _ _ h => c_X1_worthTo ho h) hf (fun r6 μ5 H locs hW hf => ?_)
    refine lv_isub (pc := 38) hx hb dX1_lossOf_38 ?_
    exact zreti (pc := 39) B hW hf dX1_lossOf_39
  · refine lv_iconst (pc := 12) (v := (0 : Int32)) hx hb dX1_lossOf_12 rfl ?_
    exact zreti (pc := 13) B hW hf dX1_lossOf_13
noncomputable def f_X1_saleBrings (o : Nat) (x1 : Int32) (x2 : Int32) (μ : Mem) : Option (Int32 × Mem) := zbind (f_X1_cellsOf o x2 μ) (fun r2 μ1 => zbind (f_X1_worthTo o x2 (r2 ||| ((1 : Int32) <<< (x1 &&& 31))) μ1) (fun r4 μ3 => zbind (f_X1_worthTo o x2 r2 μ3) (fun r6 μ5 => zbind (f_X1_lossOf o x1 μ5) (fun r8 μ7 => some (((r4 - r6) - r8), μ7)))))
set_option maxRecDepth 100000 in
theorem c_X1_saleBrings {G : ZG} {l : Launch} {o : Nat} (ho : zN o) {x1 : Int32} {x2 : Int32} {μ : Mem} {r : Int32} {μ' : Mem} (h : f_X1_saleBrings o x1 x2 μ = some (r, μ')) : zC ZC G l yX1_saleBrings cX1_saleBrings 4 (some .int) 6 [.ref (zad G o), .int x1, .int x2] μ (some (.int r)) μ' := by
  refine zC.mk (by decide +kernel) (Nat.le_of_ble_eq_true rfl) ?_
  intro p e s m below meth c ls B hl hW
  have B : zB ZC G cX1_saleBrings 4 "DarkShares$Night" (some .int) p s m [.ref (zad G o), .int x1, .int x2].toArray meth c := B
  have hl : lv_has ls 4 [(0, .ref (zad G o)), (1, .int x1), (2, .int x2)] := hl
  have hx := B.1
  have hb := B.2.1
  have hf := h
  unfold f_X1_saleBrings at hf
  refine lv_aload_n (pc := 0) hx hb dX1_saleBrings_0 rfl (lv_at hl 0 rfl) ?_
  refine lv_iload_n (pc := 1) hx hb dX1_saleBrings_1 rfl (lv_at hl 2 rfl) ?_
  refine s_X1_56 (pc := 2) B hW hl.1 ho (by decide) (zle8 rfl) dX1_saleBrings_2 (fun _ _ h => c_X1_cellsOf ho h) hf (fun r2 μ1 H locs hW hf => ?_)
  refine lv_istore_n (pc := 5) (lv' := [(3, .int r2), (0, .ref (zad G o)), (1, .int x1), (2, .int x2)]) hx hb dX1_saleBrings_5 rfl hl (by decide) rfl (fun ls hl => ?_)
  refine lv_aload_n (pc := 6) hx hb dX1_saleBrings_6 rfl (lv_at hl 1 rfl) ?_
  refine lv_iload_n (pc := 7) hx hb dX1_saleBrings_7 rfl (lv_at hl 3 rfl) ?_
  refine lv_iload_n (pc := 8) hx hb dX1_saleBrings_8 rfl (lv_at hl 0 rfl) ?_
  refine lv_iconst (pc := 9) (v := (1 : Int32)) hx hb dX1_saleBrings_9 rfl ?_
  refine lv_iload_n (pc := 10) hx hb dX1_saleBrings_10 rfl (lv_at hl 2 rfl) ?_
  refine lv_ishl (pc := 11) hx hb dX1_saleBrings_11 ?_
  refine lv_ior (pc := 12) hx hb dX1_saleBrings_12 ?_
  refine s_X1_79 (pc := 13) B hW hl.1 ho (by decide) (zle8 rfl) dX1_saleBrings_13 (fun _ _ h => c_X1_worthTo ho h) hf (fun r4 μ3 H locs hW hf => ?_)
  refine lv_aload_n (pc := 16) hx hb dX1_saleBrings_16 rfl (lv_at hl 1 rfl) ?_
  refine lv_iload_n (pc := 17) hx hb dX1_saleBrings_17 rfl (lv_at hl 3 rfl) ?_
  refine lv_iload_n (pc := 18) hx hb dX1_saleBrings_18 rfl (lv_at hl 0 rfl) ?_
  refine s_X1_79 (pc := 19) B hW hl.1 ho (by decide) (zle8 rfl) dX1_saleBrings_19 (fun _ _ h => c_X1_worthTo ho h) hf (fun r6 μ5 H locs hW hf => ?_)
  refine lv_isub (pc := 22) hx hb dX1_saleBrings_22 ?_
  refine lv_aload_n (pc := 23) hx hb dX1_saleBrings_23 rfl (lv_at hl 1 rfl) ?_
  refine lv_iload_n (pc := 24) hx hb dX1_saleBrings_24 rfl (lv_at hl 2 rfl) ?_
  refine s_X1_95 (pc := 25) B hW hl.1 ho (by decide) (zle8 rfl) dX1_saleBrings_25 (fun _ _ h => c_X1_lossOf ho h) hf (fun r8 μ7 H locs hW hf => ?_)
  refine lv_isub (pc := 28) hx hb dX1_saleBrings_28 ?_
  exact zreti (pc := 29) B hW hf dX1_saleBrings_29
noncomputable def f_X1_bestBuyer_14 (o : Nat) : Nat → Int32 → Int32 → Int32 → Int32 → Int32 → Mem → Option (Int32 × Mem)
  | 0, _, _, _, _, _, _ => none
  | n + 1, x1, x2, x3, x4, x5, μ => (if (μ.1 o 7) ≤ x5 then some (x3, μ) else zck (zin x1 12) ((if x5 = (μ.1 (o + 4) (x1).toNatClampNeg) then f_X1_bestBuyer_14 o n x1 x2 x3 x4 (x5 + (1 : Int32)) μ else zck (zin x5 5) ((if x2 ≤ (μ.1 (o + 3) (x5).toNatClampNeg) then zbind (f_X1_saleBrings o x1 x5 μ) (fun r2 μ1 => (if r2 ≤ x4 then f_X1_bestBuyer_14 o n x1 x2 x3 x4 (x5 + (1 : Int32)) μ1 else f_X1_bestBuyer_14 o n x1 x2 x5 r2 (x5 + (1 : Int32)) μ1)) else f_X1_bestBuyer_14 o n x1 x2 x3 x4 (x5 + (1 : Int32)) μ)))))
set_option maxRecDepth 100000 in
theorem t_X1_bestBuyer_14 {G : ZG} {p : Program} {l : Launch} {e : Env} {s : State} {m : MethodId} {args : Array Value} {below : List Frame} {meth : Method} {c : Code} (B : zB ZC G cX1_bestBuyer 7 "DarkShares$Night" (some .int) p s m args meth c) {o : Nat} (ho : zN o) : ∀ (n : Nat) {x1 : Int32} {x2 : Int32} {x3 : Int32} {x4 : Int32} {x5 : Int32} {μ : Mem} {H : Heap} {locs : List Loc} {ls : Array Slot} {r : Int32} {μ' : Mem}, lv_has ls 7 [(0, .ref (zad G o)), (1, .int x1), (2, .int x2), (3, .int x3), (4, .int x4), (5, .int x5)] → zW ZC G s H locs μ → f_X1_bestBuyer_14 o n x1 x2 x3 x4 x5 μ = some (r, μ') → W p l e (zR 7) s m args below meth c H locs 0 0 (MQ below (zQ ZC G (some (.int r)) μ') args s 0 0 (zAd ZC G)) (F0 m 14 ls []) := by
  have hx := B.1
  have hb := B.2.1
  intro n
  induction n with
  | zero => intro _ _ _ _ _ _ _ _ _ _ _ hl hW hf; cases hf
  | succ n ih =>
    intro x1 x2 x3 x4 x5 μ H locs ls r μ' hl hW hf
    rw [f_X1_bestBuyer_14] at hf
    refine lv_iload (pc := 14) hx hb dX1_bestBuyer_14 (lv_at hl 5 rfl) ?_
    refine lv_aload_n (pc := 16) hx hb dX1_bestBuyer_16 rfl (lv_at hl 0 rfl) ?_
    refine g_X1_40 (pc := 17) B hW ho dX1_bestBuyer_17 ?_
    refine yic_ge (pc := 20) (tgt := 77) B dX1_bestBuyer_20 (by decide) hf (fun hf => ?_) (fun hf => ?_)
    · refine lv_iload_n (pc := 77) hx hb dX1_bestBuyer_77 rfl (lv_at hl 3 rfl) ?_
      exact zreti (pc := 78) B hW hf dX1_bestBuyer_78
    · refine lv_iload (pc := 23) hx hb dX1_bestBuyer_23 (lv_at hl 5 rfl) ?_
      refine lv_aload_n (pc := 25) hx hb dX1_bestBuyer_25 rfl (lv_at hl 0 rfl) ?_
      refine g_X1_21 (pc := 26) B hW ho dX1_bestBuyer_26 ?_
      refine lv_iload_n (pc := 29) hx hb dX1_bestBuyer_29 rfl (lv_at hl 1 rfl) ?_
      refine yald (pc := 30) B hW (arN4 ho) dX1_bestBuyer_30 hf (fun hf => ?_)
      refine yic_eq (pc := 31) (tgt := 71) B dX1_bestBuyer_31 (by decide) hf (fun hf => ?_) (fun hf => ?_)
      · refine lv_iinc (pc := 71) (v := (x5 + (1 : Int32))) (lv' := [(5, .int (x5 + (1 : Int32))), (0, .ref (zad G o)), (1, .int x1), (2, .int x2), (3, .int x3), (4, .int x4)]) hx hb dX1_bestBuyer_71 hl (k := 5) rfl rfl (by decide) rfl (fun ls hl => ?_)
        refine lv_goto (pc := 74) (tgt := 14) hx hb dX1_bestBuyer_74 (by decide) ?_
        exact ih (lv_sub hl [1, 2, 3, 4, 5, 0] rfl) hW hf
      · refine lv_aload_n (pc := 34) hx hb dX1_bestBuyer_34 rfl (lv_at hl 0 rfl) ?_
        refine g_X1_18 (pc := 35) B hW ho dX1_bestBuyer_35 ?_
        refine lv_iload (pc := 38) hx hb dX1_bestBuyer_38 (lv_at hl 5 rfl) ?_
        refine yald (pc := 40) B hW (arN3 ho) dX1_bestBuyer_40 hf (fun hf => ?_)
        refine lv_iload_n (pc := 41) hx hb dX1_bestBuyer_41 rfl (lv_at hl 2 rfl) ?_
        refine yic_ge (pc := 42) (tgt := 48) B dX1_bestBuyer_42 (by decide) hf (fun hf => ?_) (fun hf => ?_)
        · refine lv_aload_n (pc := 48) hx hb dX1_bestBuyer_48 rfl (lv_at hl 0 rfl) ?_
          refine lv_iload_n (pc := 49) hx hb dX1_bestBuyer_49 rfl (lv_at hl 1 rfl) ?_
          refine lv_iload (pc := 50) hx hb dX1_bestBuyer_50 (lv_at hl 5 rfl) ?_
          refine s_X1_98 (pc := 52) B hW hl.1 ho (by decide) (zle8 rfl) dX1_bestBuyer_52 (fun _ _ h => c_X1_saleBrings ho h) hf (fun r2 μ1 H locs hW hf => ?_)
          refine lv_istore (pc := 55) (lv' := [(6, .int r2), (0, .ref (zad G o)), (1, .int x1), (2, .int x2), (3, .int x3), (4, .int x4), (5, .int x5)]) hx hb dX1_bestBuyer_55 hl (by decide) rfl (fun ls hl => ?_)
          refine lv_iload (pc := 57) hx hb dX1_bestBuyer_57 (lv_at hl 0 rfl) ?_
          refine lv_iload (pc := 59) hx hb dX1_bestBuyer_59 (lv_at hl 5 rfl) ?_
          refine yic_le (pc := 61) (tgt := 71) B dX1_bestBuyer_61 (by decide) hf (fun hf => ?_) (fun hf => ?_)
          · refine lv_iinc (pc := 71) (v := (x5 + (1 : Int32))) (lv' := [(5, .int (x5 + (1 : Int32))), (6, .int r2), (0, .ref (zad G o)), (1, .int x1), (2, .int x2), (3, .int x3), (4, .int x4)]) hx hb dX1_bestBuyer_71 hl (k := 6) rfl rfl (by decide) rfl (fun ls hl => ?_)
            refine lv_goto (pc := 74) (tgt := 14) hx hb dX1_bestBuyer_74 (by decide) ?_
            exact ih (lv_sub hl [2, 3, 4, 5, 6, 0] rfl) hW hf
          · refine lv_iload (pc := 64) hx hb dX1_bestBuyer_64 (lv_at hl 0 rfl) ?_
            refine lv_istore (pc := 66) (lv' := [(4, .int r2), (6, .int r2), (0, .ref (zad G o)), (1, .int x1), (2, .int x2), (3, .int x3), (5, .int x5)]) hx hb dX1_bestBuyer_66 hl (by decide) rfl (fun ls hl => ?_)
            refine lv_iload (pc := 68) hx hb dX1_bestBuyer_68 (lv_at hl 6 rfl) ?_
            refine lv_istore_n (pc := 70) (lv' := [(3, .int x5), (4, .int r2), (6, .int r2), (0, .ref (zad G o)), (1, .int x1), (2, .int x2), (5, .int x5)]) hx hb dX1_bestBuyer_70 rfl hl (by decide) rfl (fun ls hl => ?_)
            refine lv_iinc (pc := 71) (v := (x5 + (1 : Int32))) (lv' := [(5, .int (x5 + (1 : Int32))), (3, .int x5), (4, .int r2), (6, .int r2), (0, .ref (zad G o)), (1, .int x1), (2, .int x2)]) hx hb dX1_bestBuyer_71 hl (k := 6) rfl rfl (by decide) rfl (fun ls hl => ?_)
            refine lv_goto (pc := 74) (tgt := 14) hx hb dX1_bestBuyer_74 (by decide) ?_
            exact ih (lv_sub hl [4, 5, 6, 1, 2, 0] rfl) hW hf
        · refine lv_goto (pc := 45) (tgt := 71) hx hb dX1_bestBuyer_45 (by decide) ?_
          refine lv_iinc (pc := 71) (v := (x5 + (1 : Int32))) (lv' := [(5, .int (x5 + (1 : Int32))), (0, .ref (zad G o)), (1, .int x1), (2, .int x2), (3, .int x3), (4, .int x4)]) hx hb dX1_bestBuyer_71 hl (k := 5) rfl rfl (by decide) rfl (fun ls hl => ?_)
          refine lv_goto (pc := 74) (tgt := 14) hx hb dX1_bestBuyer_74 (by decide) ?_
          exact ih (lv_sub hl [1, 2, 3, 4, 5, 0] rfl) hW hf
noncomputable def f_X1_bestBuyer (o : Nat) (x1 : Int32) (μ : Mem) : Option (Int32 × Mem) := zbind (f_X1_lossOf o x1 μ) (fun r2 μ1 => f_X1_bestBuyer_14 o zFU x1 r2 (-1 : Int32) (0 : Int32) (0 : Int32) μ1)
set_option maxRecDepth 100000 in
theorem c_X1_bestBuyer {G : ZG} {l : Launch} {o : Nat} (ho : zN o) {x1 : Int32} {μ : Mem} {r : Int32} {μ' : Mem} (h : f_X1_bestBuyer o x1 μ = some (r, μ')) : zC ZC G l yX1_bestBuyer cX1_bestBuyer 7 (some .int) 7 [.ref (zad G o), .int x1] μ (some (.int r)) μ' := by
  refine zC.mk (by decide +kernel) (Nat.le_of_ble_eq_true rfl) ?_
  intro p e s m below meth c ls B hl hW
  have B : zB ZC G cX1_bestBuyer 7 "DarkShares$Night" (some .int) p s m [.ref (zad G o), .int x1].toArray meth c := B
  have hl : lv_has ls 7 [(0, .ref (zad G o)), (1, .int x1)] := hl
  have hx := B.1
  have hb := B.2.1
  have hf := h
  unfold f_X1_bestBuyer at hf
  refine lv_aload_n (pc := 0) hx hb dX1_bestBuyer_0 rfl (lv_at hl 0 rfl) ?_
  refine lv_iload_n (pc := 1) hx hb dX1_bestBuyer_1 rfl (lv_at hl 1 rfl) ?_
  refine s_X1_95 (pc := 2) B hW hl.1 ho (by decide) (zle8 rfl) dX1_bestBuyer_2 (fun _ _ h => c_X1_lossOf ho h) hf (fun r2 μ1 H locs hW hf => ?_)
  refine lv_istore_n (pc := 5) (lv' := [(2, .int r2), (0, .ref (zad G o)), (1, .int x1)]) hx hb dX1_bestBuyer_5 rfl hl (by decide) rfl (fun ls hl => ?_)
  refine lv_iconst (pc := 6) (v := (-1 : Int32)) hx hb dX1_bestBuyer_6 rfl ?_
  refine lv_istore_n (pc := 7) (lv' := [(3, .int (-1 : Int32)), (2, .int r2), (0, .ref (zad G o)), (1, .int x1)]) hx hb dX1_bestBuyer_7 rfl hl (by decide) rfl (fun ls hl => ?_)
  refine lv_iconst (pc := 8) (v := (0 : Int32)) hx hb dX1_bestBuyer_8 rfl ?_
  refine lv_istore (pc := 9) (lv' := [(4, .int (0 : Int32)), (3, .int (-1 : Int32)), (2, .int r2), (0, .ref (zad G o)), (1, .int x1)]) hx hb dX1_bestBuyer_9 hl (by decide) rfl (fun ls hl => ?_)
  refine lv_iconst (pc := 11) (v := (0 : Int32)) hx hb dX1_bestBuyer_11 rfl ?_
  refine lv_istore (pc := 12) (lv' := [(5, .int (0 : Int32)), (4, .int (0 : Int32)), (3, .int (-1 : Int32)), (2, .int r2), (0, .ref (zad G o)), (1, .int x1)]) hx hb dX1_bestBuyer_12 hl (by decide) rfl (fun ls hl => ?_)
  exact t_X1_bestBuyer_14 B ho zFU (lv_sub hl [4, 5, 3, 2, 1, 0] rfl) hW hf
noncomputable def f_X1_fitsAll_57 (o : Nat) (K2 : Int32 → Nat → Int32 → Mem → Option (Int32 × Mem)) (x1 : Int32) (x2 : Nat) (x3 : Int32) (x4 : Int32) (s0 : Nat) (s1 : Int32) (s2 : Int32) (μ : Mem) : Option (Int32 × Mem) := zbind (f_ofCell s0 s1 s2 μ) (fun r2 μ1 => zck (zin (x4 + (2 : Int32)) 24) ((if r2 = (μ1.1 (o + 5) ((x4 + (2 : Int32))).toNatClampNeg) then K2 x1 x2 (x3 + (1 : Int32)) μ1 else some ((0 : Int32), μ1))))
set_option maxRecDepth 100000 in
theorem t_X1_fitsAll_57 {G : ZG} {p : Program} {l : Launch} {e : Env} {s : State} {m : MethodId} {args : Array Value} {below : List Frame} {meth : Method} {c : Code} (B : zB ZC G cX1_fitsAll 5 "DarkShares$Night" (some .boolean) p s m args meth c) {o : Nat} (ho : zN o) {K2 : Int32 → Nat → Int32 → Mem → Option (Int32 × Mem)} (hK2 : ∀ {x1 : Int32} {x2 : Nat} {x3 : Int32} {μ : Mem} {H : Heap} {locs : List Loc} {ls : Array Slot} {r : Int32} {μ' : Mem}, lv_has ls 5 [(0, .ref (zad G o)), (1, .int x1), (2, .ref (zad G x2)), (3, .int x3)] → zW ZC G s H locs μ → K2 x1 x2 x3 μ = some (r, μ') → W p l e (zR 4) s m args below meth c H locs 0 0 (MQ below (zQ ZC G (some (.int r)) μ') args s 0 0 (zAd ZC G)) (F0 m 2 ls [])) {x1 : Int32} {x2 : Nat} {x3 : Int32} {x4 : Int32} {s0 : Nat} {s1 : Int32} {s2 : Int32} {μ : Mem} {H : Heap} {locs : List Loc} {ls : Array Slot} {r : Int32} {μ' : Mem} (hl : lv_has ls 5 [(0, .ref (zad G o)), (1, .int x1), (2, .ref (zad G x2)), (3, .int x3), (4, .int x4)]) (hW : zW ZC G s H locs μ) (hf : f_X1_fitsAll_57 o K2 x1 x2 x3 x4 s0 s1 s2 μ = some (r, μ')) : W p l e (zR 4) s m args below meth c H locs 0 0 (MQ below (zQ ZC G (some (.int r)) μ') args s 0 0 (zAd ZC G)) (F0 m 57 ls [.int s2, .int s1, .ref (zad G s0)]) := by
  have hx := B.1
  have hb := B.2.1
  unfold f_X1_fitsAll_57 at hf
  refine s_X1_73 (pc := 57) B hW hl.1 (by decide) (zle8 rfl) dX1_fitsAll_57 hf (fun r2 μ1 H locs hW hf => ?_)
  refine lv_aload_n (pc := 60) hx hb dX1_fitsAll_60 rfl (lv_at hl 0 rfl) ?_
  refine g_X1_24 (pc := 61) B hW ho dX1_fitsAll_61 ?_
  refine lv_iload (pc := 64) hx hb dX1_fitsAll_64 (lv_at hl 4 rfl) ?_
  refine lv_iconst (pc := 66) (v := (2 : Int32)) hx hb dX1_fitsAll_66 rfl ?_
  refine lv_iadd (pc := 67) hx hb dX1_fitsAll_67 ?_
  refine yald (pc := 68) B hW (arN5 ho) dX1_fitsAll_68 hf (fun hf => ?_)
  refine yic_eq (pc := 69) (tgt := 74) B dX1_fitsAll_69 (by decide) hf (fun hf => ?_) (fun hf => ?_)
  · refine lv_iinc (pc := 74) (v := (x3 + (1 : Int32))) (lv' := [(3, .int (x3 + (1 : Int32))), (0, .ref (zad G o)), (1, .int x1), (2, .ref (zad G x2)), (4, .int x4)]) hx hb dX1_fitsAll_74 hl (k := 3) rfl rfl (by decide) rfl (fun ls hl => ?_)
    refine lv_goto (pc := 77) (tgt := 2) hx hb dX1_fitsAll_77 (by decide) ?_
    exact hK2 (lv_sub hl [1, 2, 3, 0] rfl) hW hf
  · refine lv_iconst (pc := 72) (v := (0 : Int32)) hx hb dX1_fitsAll_72 rfl ?_
    exact zretz (pc := 73) B hW rfl hf dX1_fitsAll_73
noncomputable def f_X1_fitsAll_2 (o : Nat) : Nat → Int32 → Nat → Int32 → Mem → Option (Int32 × Mem)
  | 0, _, _, _, _ => none
  | n + 1, x1, x2, x3, μ => (if (μ.1 o 8) ≤ x3 then some ((1 : Int32), μ) else zck (zin (x3 * (4 : Int32)) 24) ((if (μ.1 (o + 5) ((x3 * (4 : Int32))).toNatClampNeg) = x1 then zck (zin ((x3 * (4 : Int32)) + (1 : Int32)) 24) (zck (zin ((x3 * (4 : Int32)) + (3 : Int32)) 24) ((if (μ.1 (o + 5) (((x3 * (4 : Int32)) + (3 : Int32))).toNatClampNeg) = (1 : Int32) then f_X1_fitsAll_57 o (fun a0 a1 a2 ν => f_X1_fitsAll_2 o n a0 a1 a2 ν) x1 x2 x3 (x3 * (4 : Int32)) x2 (μ.1 (o + 5) (((x3 * (4 : Int32)) + (1 : Int32))).toNatClampNeg) (1 : Int32) μ else f_X1_fitsAll_57 o (fun a0 a1 a2 ν => f_X1_fitsAll_2 o n a0 a1 a2 ν) x1 x2 x3 (x3 * (4 : Int32)) x2 (μ.1 (o + 5) (((x3 * (4 : Int32)) + (1 : Int32))).toNatClampNeg) (0 : Int32) μ))) else f_X1_fitsAll_2 o n x1 x2 (x3 + (1 : Int32)) μ)))
set_option maxRecDepth 100000 in
theorem t_X1_fitsAll_2 {G : ZG} {p : Program} {l : Launch} {e : Env} {s : State} {m : MethodId} {args : Array Value} {below : List Frame} {meth : Method} {c : Code} (B : zB ZC G cX1_fitsAll 5 "DarkShares$Night" (some .boolean) p s m args meth c) {o : Nat} (ho : zN o) : ∀ (n : Nat) {x1 : Int32} {x2 : Nat} {x3 : Int32} {μ : Mem} {H : Heap} {locs : List Loc} {ls : Array Slot} {r : Int32} {μ' : Mem}, lv_has ls 5 [(0, .ref (zad G o)), (1, .int x1), (2, .ref (zad G x2)), (3, .int x3)] → zW ZC G s H locs μ → f_X1_fitsAll_2 o n x1 x2 x3 μ = some (r, μ') → W p l e (zR 4) s m args below meth c H locs 0 0 (MQ below (zQ ZC G (some (.int r)) μ') args s 0 0 (zAd ZC G)) (F0 m 2 ls []) := by
  have hx := B.1
  have hb := B.2.1
  intro n
  induction n with
  | zero => intro _ _ _ _ _ _ _ _ _ hl hW hf; cases hf
  | succ n ih =>
    intro x1 x2 x3 μ H locs ls r μ' hl hW hf
    rw [f_X1_fitsAll_2] at hf
    refine lv_iload_n (pc := 2) hx hb dX1_fitsAll_2 rfl (lv_at hl 3 rfl) ?_
    refine lv_aload_n (pc := 3) hx hb dX1_fitsAll_3 rfl (lv_at hl 0 rfl) ?_
    refine g_X1_44 (pc := 4) B hW ho dX1_fitsAll_4 ?_
    refine yic_ge (pc := 7) (tgt := 80) B dX1_fitsAll_7 (by decide) hf (fun hf => ?_) (fun hf => ?_)
    · refine lv_iconst (pc := 80) (v := (1 : Int32)) hx hb dX1_fitsAll_80 rfl ?_
      exact zretz (pc := 81) B hW rfl hf dX1_fitsAll_81
    · refine lv_iload_n (pc := 10) hx hb dX1_fitsAll_10 rfl (lv_at hl 3 rfl) ?_
      refine lv_iconst (pc := 11) (v := (4 : Int32)) hx hb dX1_fitsAll_11 rfl ?_
      refine lv_imul (pc := 12) hx hb dX1_fitsAll_12 ?_
      refine lv_istore (pc := 13) (lv' := [(4, .int (x3 * (4 : Int32))), (0, .ref (zad G o)), (1, .int x1), (2, .ref (zad G x2)), (3, .int x3)]) hx hb dX1_fitsAll_13 hl (by decide) rfl (fun ls hl => ?_)
      refine lv_aload_n (pc := 15) hx hb dX1_fitsAll_15 rfl (lv_at hl 1 rfl) ?_
      refine g_X1_24 (pc := 16) B hW ho dX1_fitsAll_16 ?_
      refine lv_iload (pc := 19) hx hb dX1_fitsAll_19 (lv_at hl 0 rfl) ?_
      refine yald (pc := 21) B hW (arN5 ho) dX1_fitsAll_21 hf (fun hf => ?_)
      refine lv_iload_n (pc := 22) hx hb dX1_fitsAll_22 rfl (lv_at hl 2 rfl) ?_
      refine yic_eq (pc := 23) (tgt := 29) B dX1_fitsAll_23 (by decide) hf (fun hf => ?_) (fun hf => ?_)
      · refine lv_aload_n (pc := 29) hx hb dX1_fitsAll_29 rfl (lv_at hl 3 rfl) ?_
        refine lv_aload_n (pc := 30) hx hb dX1_fitsAll_30 rfl (lv_at hl 1 rfl) ?_
        refine g_X1_24 (pc := 31) B hW ho dX1_fitsAll_31 ?_
        refine lv_iload (pc := 34) hx hb dX1_fitsAll_34 (lv_at hl 0 rfl) ?_
        refine lv_iconst (pc := 36) (v := (1 : Int32)) hx hb dX1_fitsAll_36 rfl ?_
        refine lv_iadd (pc := 37) hx hb dX1_fitsAll_37 ?_
        refine yald (pc := 38) B hW (arN5 ho) dX1_fitsAll_38 hf (fun hf => ?_)
        refine lv_aload_n (pc := 39) hx hb dX1_fitsAll_39 rfl (lv_at hl 1 rfl) ?_
        refine g_X1_24 (pc := 40) B hW ho dX1_fitsAll_40 ?_
        refine lv_iload (pc := 43) hx hb dX1_fitsAll_43 (lv_at hl 0 rfl) ?_
        refine lv_iconst (pc := 45) (v := (3 : Int32)) hx hb dX1_fitsAll_45 rfl ?_
        refine lv_iadd (pc := 46) hx hb dX1_fitsAll_46 ?_
        refine yald (pc := 47) B hW (arN5 ho) dX1_fitsAll_47 hf (fun hf => ?_)
        refine lv_iconst (pc := 48) (v := (1 : Int32)) hx hb dX1_fitsAll_48 rfl ?_
        refine yic_ne (pc := 49) (tgt := 56) B dX1_fitsAll_49 (by decide) hf (fun hf => ?_) (fun hf => ?_)
        · refine lv_iconst (pc := 56) (v := (0 : Int32)) hx hb dX1_fitsAll_56 rfl ?_
          exact t_X1_fitsAll_57 B ho @ih (lv_sub hl [1, 2, 3, 4, 0] rfl) hW hf
        · refine lv_iconst (pc := 52) (v := (1 : Int32)) hx hb dX1_fitsAll_52 rfl ?_
          refine lv_goto (pc := 53) (tgt := 57) hx hb dX1_fitsAll_53 (by decide) ?_
          exact t_X1_fitsAll_57 B ho @ih (lv_sub hl [1, 2, 3, 4, 0] rfl) hW hf
      · refine lv_goto (pc := 26) (tgt := 74) hx hb dX1_fitsAll_26 (by decide) ?_
        refine lv_iinc (pc := 74) (v := (x3 + (1 : Int32))) (lv' := [(3, .int (x3 + (1 : Int32))), (4, .int (x3 * (4 : Int32))), (0, .ref (zad G o)), (1, .int x1), (2, .ref (zad G x2))]) hx hb dX1_fitsAll_74 hl (k := 4) rfl rfl (by decide) rfl (fun ls hl => ?_)
        refine lv_goto (pc := 77) (tgt := 2) hx hb dX1_fitsAll_77 (by decide) ?_
        exact ih (lv_sub hl [2, 3, 4, 0] rfl) hW hf
noncomputable def f_X1_fitsAll (o : Nat) (x1 : Int32) (x2 : Nat) (μ : Mem) : Option (Int32 × Mem) := f_X1_fitsAll_2 o zFU x1 x2 (0 : Int32) μ
set_option maxRecDepth 100000 in
theorem c_X1_fitsAll {G : ZG} {l : Launch} {o : Nat} (ho : zN o) {x1 : Int32} {x2 : Nat} {μ : Mem} {r : Int32} {μ' : Mem} (h : f_X1_fitsAll o x1 x2 μ = some (r, μ')) : zC ZC G l yX1_fitsAll cX1_fitsAll 5 (some .boolean) 4 [.ref (zad G o), .int x1, .ref (zad G x2)] μ (some (.int r)) μ' := by
  refine zC.mk (by decide +kernel) (Nat.le_of_ble_eq_true rfl) ?_
  intro p e s m below meth c ls B hl hW
  have B : zB ZC G cX1_fitsAll 5 "DarkShares$Night" (some .boolean) p s m [.ref (zad G o), .int x1, .ref (zad G x2)].toArray meth c := B
  have hl : lv_has ls 5 [(0, .ref (zad G o)), (1, .int x1), (2, .ref (zad G x2))] := hl
  have hx := B.1
  have hb := B.2.1
  have hf := h
  unfold f_X1_fitsAll at hf
  refine lv_iconst (pc := 0) (v := (0 : Int32)) hx hb dX1_fitsAll_0 rfl ?_
  refine lv_istore_n (pc := 1) (lv' := [(3, .int (0 : Int32)), (0, .ref (zad G o)), (1, .int x1), (2, .ref (zad G x2))]) hx hb dX1_fitsAll_1 rfl hl (by decide) rfl (fun ls hl => ?_)
  exact t_X1_fitsAll_2 B ho zFU (lv_sub hl [1, 2, 3, 0] rfl) hW hf
noncomputable def f_X1_fittingKinds_4 (o : Nat) : Nat → Int32 → Int32 → Int32 → Mem → Option (Int32 × Mem)
  | 0, _, _, _, _ => none
  | n + 1, x1, x2, x3, μ => (if (6 : Int32) ≤ x3 then some (x2, μ) else zck (zin x3 6) (zbind (f_X1_fitsAll o x1 (30 + (x3).toNatClampNeg) μ) (fun r2 μ1 => (if r2 = 0 then f_X1_fittingKinds_4 o n x1 x2 (x3 + (1 : Int32)) μ1 else f_X1_fittingKinds_4 o n x1 (x2 ||| ((1 : Int32) <<< (x3 &&& 31))) (x3 + (1 : Int32)) μ1))))
set_option maxRecDepth 100000 in
theorem t_X1_fittingKinds_4 {G : ZG} {p : Program} {l : Launch} {e : Env} {s : State} {m : MethodId} {args : Array Value} {below : List Frame} {meth : Method} {c : Code} (B : zB ZC G cX1_fittingKinds 4 "DarkShares$Night" (some .int) p s m args meth c) {o : Nat} (ho : zN o) : ∀ (n : Nat) {x1 : Int32} {x2 : Int32} {x3 : Int32} {μ : Mem} {H : Heap} {locs : List Loc} {ls : Array Slot} {r : Int32} {μ' : Mem}, lv_has ls 4 [(0, .ref (zad G o)), (1, .int x1), (2, .int x2), (3, .int x3)] → zW ZC G s H locs μ → f_X1_fittingKinds_4 o n x1 x2 x3 μ = some (r, μ') → W p l e (zR 5) s m args below meth c H locs 0 0 (MQ below (zQ ZC G (some (.int r)) μ') args s 0 0 (zAd ZC G)) (F0 m 4 ls []) := by
  have hx := B.1
  have hb := B.2.1
  intro n
  induction n with
  | zero => intro _ _ _ _ _ _ _ _ _ hl hW hf; cases hf
  | succ n ih =>
    intro x1 x2 x3 μ H locs ls r μ' hl hW hf
    rw [f_X1_fittingKinds_4] at hf
    refine lv_iload_n (pc := 4) hx hb dX1_fittingKinds_4 rfl (lv_at hl 3 rfl) ?_
    refine lv_bipush (pc := 5) (v := (6 : Int32)) hx hb dX1_fittingKinds_5 rfl ?_
    refine yic_ge (pc := 7) (tgt := 36) B dX1_fittingKinds_7 (by decide) hf (fun hf => ?_) (fun hf => ?_)
    · refine lv_iload_n (pc := 36) hx hb dX1_fittingKinds_36 rfl (lv_at hl 2 rfl) ?_
      exact zreti (pc := 37) B hW hf dX1_fittingKinds_37
    · refine lv_aload_n (pc := 10) hx hb dX1_fittingKinds_10 rfl (lv_at hl 0 rfl) ?_
      refine lv_iload_n (pc := 11) hx hb dX1_fittingKinds_11 rfl (lv_at hl 1 rfl) ?_
      refine lv_aload_n (pc := 12) hx hb dX1_fittingKinds_12 rfl (lv_at hl 0 rfl) ?_
      refine g_X1_30 (pc := 13) B hW ho dX1_fittingKinds_13 ?_
      refine lv_iload_n (pc := 16) hx hb dX1_fittingKinds_16 rfl (lv_at hl 3 rfl) ?_
      refine yaldK (pc := 17) B hW dX1_fittingKinds_17 hf (fun hf => ?_)
      refine s_X1_101 (pc := 18) B hW hl.1 ho (by decide) (zle8 rfl) dX1_fittingKinds_18 (fun _ _ h => c_X1_fitsAll ho h) hf (fun r2 μ1 H locs hW hf => ?_)
      refine yif_eq (pc := 21) (tgt := 30) B dX1_fittingKinds_21 (by decide) hf (fun hf => ?_) (fun hf => ?_)
      · refine lv_iinc (pc := 30) (v := (x3 + (1 : Int32))) (lv' := [(3, .int (x3 + (1 : Int32))), (0, .ref (zad G o)), (1, .int x1), (2, .int x2)]) hx hb dX1_fittingKinds_30 hl (k := 3) rfl rfl (by decide) rfl (fun ls hl => ?_)
        refine lv_goto (pc := 33) (tgt := 4) hx hb dX1_fittingKinds_33 (by decide) ?_
        exact ih (lv_sub hl [1, 2, 3, 0] rfl) hW hf
      · refine lv_iload_n (pc := 24) hx hb dX1_fittingKinds_24 rfl (lv_at hl 2 rfl) ?_
        refine lv_iconst (pc := 25) (v := (1 : Int32)) hx hb dX1_fittingKinds_25 rfl ?_
        refine lv_iload_n (pc := 26) hx hb dX1_fittingKinds_26 rfl (lv_at hl 3 rfl) ?_
        refine lv_ishl (pc := 27) hx hb dX1_fittingKinds_27 ?_
        refine lv_ior (pc := 28) hx hb dX1_fittingKinds_28 ?_
        refine lv_istore_n (pc := 29) (lv' := [(2, .int (x2 ||| ((1 : Int32) <<< (x3 &&& 31)))), (0, .ref (zad G o)), (1, .int x1), (3, .int x3)]) hx hb dX1_fittingKinds_29 rfl hl (by decide) rfl (fun ls hl => ?_)
        refine lv_iinc (pc := 30) (v := (x3 + (1 : Int32))) (lv' := [(3, .int (x3 + (1 : Int32))), (2, .int (x2 ||| ((1 : Int32) <<< (x3 &&& 31)))), (0, .ref (zad G o)), (1, .int x1)]) hx hb dX1_fittingKinds_30 hl (k := 3) rfl rfl (by decide) rfl (fun ls hl => ?_)
        refine lv_goto (pc := 33) (tgt := 4) hx hb dX1_fittingKinds_33 (by decide) ?_
        exact ih (lv_sub hl [2, 3, 1, 0] rfl) hW hf
noncomputable def f_X1_fittingKinds (o : Nat) (x1 : Int32) (μ : Mem) : Option (Int32 × Mem) := f_X1_fittingKinds_4 o zFU x1 (0 : Int32) (0 : Int32) μ
set_option maxRecDepth 100000 in
theorem c_X1_fittingKinds {G : ZG} {l : Launch} {o : Nat} (ho : zN o) {x1 : Int32} {μ : Mem} {r : Int32} {μ' : Mem} (h : f_X1_fittingKinds o x1 μ = some (r, μ')) : zC ZC G l yX1_fittingKinds cX1_fittingKinds 4 (some .int) 5 [.ref (zad G o), .int x1] μ (some (.int r)) μ' := by
  refine zC.mk (by decide +kernel) (Nat.le_of_ble_eq_true rfl) ?_
  intro p e s m below meth c ls B hl hW
  have B : zB ZC G cX1_fittingKinds 4 "DarkShares$Night" (some .int) p s m [.ref (zad G o), .int x1].toArray meth c := B
  have hl : lv_has ls 4 [(0, .ref (zad G o)), (1, .int x1)] := hl
  have hx := B.1
  have hb := B.2.1
  have hf := h
  unfold f_X1_fittingKinds at hf
  refine lv_iconst (pc := 0) (v := (0 : Int32)) hx hb dX1_fittingKinds_0 rfl ?_
  refine lv_istore_n (pc := 1) (lv' := [(2, .int (0 : Int32)), (0, .ref (zad G o)), (1, .int x1)]) hx hb dX1_fittingKinds_1 rfl hl (by decide) rfl (fun ls hl => ?_)
  refine lv_iconst (pc := 2) (v := (0 : Int32)) hx hb dX1_fittingKinds_2 rfl ?_
  refine lv_istore_n (pc := 3) (lv' := [(3, .int (0 : Int32)), (2, .int (0 : Int32)), (0, .ref (zad G o)), (1, .int x1)]) hx hb dX1_fittingKinds_3 rfl hl (by decide) rfl (fun ls hl => ?_)
  exact t_X1_fittingKinds_4 B ho zFU (lv_sub hl [2, 3, 1, 0] rfl) hW hf
noncomputable def f_X1_howManyAs_6 (o : Nat) : Nat → Int32 → Int32 → Int32 → Int32 → Int32 → Mem → Option (Int32 × Mem)
  | 0, _, _, _, _, _, _ => none
  | n + 1, x1, x2, x3, x4, x5, μ => (if (6 : Int32) ≤ x5 then some (x4, μ) else zbind (f_X9_has x1 x5 μ) (fun r2 μ1 => (if r2 = 0 then f_X1_howManyAs_6 o n x1 x2 x3 x4 (x5 + (1 : Int32)) μ1 else zck (zin x5 6) (zbind (f_ofCell (30 + (x5).toNatClampNeg) x2 (0 : Int32) μ1) (fun r4 μ3 => (if r4 = x3 then f_X1_howManyAs_6 o n x1 x2 x3 (x4 + (1 : Int32)) (x5 + (1 : Int32)) μ3 else f_X1_howManyAs_6 o n x1 x2 x3 x4 (x5 + (1 : Int32)) μ3))))))
set_option maxRecDepth 100000 in
theorem t_X1_howManyAs_6 {G : ZG} {p : Program} {l : Launch} {e : Env} {s : State} {m : MethodId} {args : Array Value} {below : List Frame} {meth : Method} {c : Code} (B : zB ZC G cX1_howManyAs 6 "DarkShares$Night" (some .int) p s m args meth c) {o : Nat} (ho : zN o) : ∀ (n : Nat) {x1 : Int32} {x2 : Int32} {x3 : Int32} {x4 : Int32} {x5 : Int32} {μ : Mem} {H : Heap} {locs : List Loc} {ls : Array Slot} {r : Int32} {μ' : Mem}, lv_has ls 6 [(0, .ref (zad G o)), (1, .int x1), (2, .int x2), (3, .int x3), (4, .int x4), (5, .int x5)] → zW ZC G s H locs μ → f_X1_howManyAs_6 o n x1 x2 x3 x4 x5 μ = some (r, μ') → W p l e (zR 4) s m args below meth c H locs 0 0 (MQ below (zQ ZC G (some (.int r)) μ') args s 0 0 (zAd ZC G)) (F0 m 6 ls []) := by
  have hx := B.1
  have hb := B.2.1
  intro n
  induction n with
  | zero => intro _ _ _ _ _ _ _ _ _ _ _ hl hW hf; cases hf
  | succ n ih =>
    intro x1 x2 x3 x4 x5 μ H locs ls r μ' hl hW hf
    rw [f_X1_howManyAs_6] at hf
    refine lv_iload (pc := 6) hx hb dX1_howManyAs_6 (lv_at hl 5 rfl) ?_
    refine lv_bipush (pc := 8) (v := (6 : Int32)) hx hb dX1_howManyAs_8 rfl ?_
    refine yic_ge (pc := 10) (tgt := 47) B dX1_howManyAs_10 (by decide) hf (fun hf => ?_) (fun hf => ?_)
    · refine lv_iload (pc := 47) hx hb dX1_howManyAs_47 (lv_at hl 4 rfl) ?_
      exact zreti (pc := 49) B hW hf dX1_howManyAs_49
    · refine lv_iload_n (pc := 13) hx hb dX1_howManyAs_13 rfl (lv_at hl 1 rfl) ?_
      refine lv_iload (pc := 14) hx hb dX1_howManyAs_14 (lv_at hl 5 rfl) ?_
      refine s_X1_69 (pc := 16) B hW hl.1 (by decide) (zle8 rfl) dX1_howManyAs_16 (fun _ _ h => c_X9_has h) hf (fun r2 μ1 H locs hW hf => ?_)
      refine yif_eq (pc := 19) (tgt := 41) B dX1_howManyAs_19 (by decide) hf (fun hf => ?_) (fun hf => ?_)
      · refine lv_iinc (pc := 41) (v := (x5 + (1 : Int32))) (lv' := [(5, .int (x5 + (1 : Int32))), (0, .ref (zad G o)), (1, .int x1), (2, .int x2), (3, .int x3), (4, .int x4)]) hx hb dX1_howManyAs_41 hl (k := 5) rfl rfl (by decide) rfl (fun ls hl => ?_)
        refine lv_goto (pc := 44) (tgt := 6) hx hb dX1_howManyAs_44 (by decide) ?_
        exact ih (lv_sub hl [1, 2, 3, 4, 5, 0] rfl) hW hf
      · refine lv_aload_n (pc := 22) hx hb dX1_howManyAs_22 rfl (lv_at hl 0 rfl) ?_
        refine g_X1_30 (pc := 23) B hW ho dX1_howManyAs_23 ?_
        refine lv_iload (pc := 26) hx hb dX1_howManyAs_26 (lv_at hl 5 rfl) ?_
        refine yaldK (pc := 28) B hW dX1_howManyAs_28 hf (fun hf => ?_)
        refine lv_iload_n (pc := 29) hx hb dX1_howManyAs_29 rfl (lv_at hl 2 rfl) ?_
        refine lv_iconst (pc := 30) (v := (0 : Int32)) hx hb dX1_howManyAs_30 rfl ?_
        refine s_X1_73 (pc := 31) B hW hl.1 (by decide) (zle8 rfl) dX1_howManyAs_31 hf (fun r4 μ3 H locs hW hf => ?_)
        refine lv_iload_n (pc := 34) hx hb dX1_howManyAs_34 rfl (lv_at hl 3 rfl) ?_
        refine yic_ne (pc := 35) (tgt := 41) B dX1_howManyAs_35 (by decide) hf (fun hf => ?_) (fun hf => ?_)
        · refine lv_iinc (pc := 41) (v := (x5 + (1 : Int32))) (lv' := [(5, .int (x5 + (1 : Int32))), (0, .ref (zad G o)), (1, .int x1), (2, .int x2), (3, .int x3), (4, .int x4)]) hx hb dX1_howManyAs_41 hl (k := 5) rfl rfl (by decide) rfl (fun ls hl => ?_)
          refine lv_goto (pc := 44) (tgt := 6) hx hb dX1_howManyAs_44 (by decide) ?_
          exact ih (lv_sub hl [1, 2, 3, 4, 5, 0] rfl) hW hf
        · refine lv_iinc (pc := 38) (v := (x4 + (1 : Int32))) (lv' := [(4, .int (x4 + (1 : Int32))), (0, .ref (zad G o)), (1, .int x1), (2, .int x2), (3, .int x3), (5, .int x5)]) hx hb dX1_howManyAs_38 hl (k := 4) rfl rfl (by decide) rfl (fun ls hl => ?_)
          refine lv_iinc (pc := 41) (v := (x5 + (1 : Int32))) (lv' := [(5, .int (x5 + (1 : Int32))), (4, .int (x4 + (1 : Int32))), (0, .ref (zad G o)), (1, .int x1), (2, .int x2), (3, .int x3)]) hx hb dX1_howManyAs_41 hl (k := 5) rfl rfl (by decide) rfl (fun ls hl => ?_)
          refine lv_goto (pc := 44) (tgt := 6) hx hb dX1_howManyAs_44 (by decide) ?_
          exact ih (lv_sub hl [2, 3, 4, 5, 1, 0] rfl) hW hf
noncomputable def f_X1_howManyAs (o : Nat) (x1 : Int32) (x2 : Int32) (x3 : Int32) (μ : Mem) : Option (Int32 × Mem) := f_X1_howManyAs_6 o zFU x1 x2 x3 (0 : Int32) (0 : Int32) μ
set_option maxRecDepth 100000 in
theorem c_X1_howManyAs {G : ZG} {l : Launch} {o : Nat} (ho : zN o) {x1 : Int32} {x2 : Int32} {x3 : Int32} {μ : Mem} {r : Int32} {μ' : Mem} (h : f_X1_howManyAs o x1 x2 x3 μ = some (r, μ')) : zC ZC G l yX1_howManyAs cX1_howManyAs 6 (some .int) 4 [.ref (zad G o), .int x1, .int x2, .int x3] μ (some (.int r)) μ' := by
  refine zC.mk (by decide +kernel) (Nat.le_of_ble_eq_true rfl) ?_
  intro p e s m below meth c ls B hl hW
  have B : zB ZC G cX1_howManyAs 6 "DarkShares$Night" (some .int) p s m [.ref (zad G o), .int x1, .int x2, .int x3].toArray meth c := B
  have hl : lv_has ls 6 [(0, .ref (zad G o)), (1, .int x1), (2, .int x2), (3, .int x3)] := hl
  have hx := B.1
  have hb := B.2.1
  have hf := h
  unfold f_X1_howManyAs at hf
  refine lv_iconst (pc := 0) (v := (0 : Int32)) hx hb dX1_howManyAs_0 rfl ?_
  refine lv_istore (pc := 1) (lv' := [(4, .int (0 : Int32)), (0, .ref (zad G o)), (1, .int x1), (2, .int x2), (3, .int x3)]) hx hb dX1_howManyAs_1 hl (by decide) rfl (fun ls hl => ?_)
  refine lv_iconst (pc := 3) (v := (0 : Int32)) hx hb dX1_howManyAs_3 rfl ?_
  refine lv_istore (pc := 4) (lv' := [(5, .int (0 : Int32)), (4, .int (0 : Int32)), (0, .ref (zad G o)), (1, .int x1), (2, .int x2), (3, .int x3)]) hx hb dX1_howManyAs_4 hl (by decide) rfl (fun ls hl => ?_)
  exact t_X1_howManyAs_6 B ho zFU (lv_sub hl [2, 3, 4, 5, 1, 0] rfl) hW hf
noncomputable def f_X1_mostAlike_5 (o : Nat) : Nat → Int32 → Int32 → Int32 → Int32 → Mem → Option (Int32 × Mem)
  | 0, _, _, _, _, _ => none
  | n + 1, x1, x2, x3, x4, μ => (if (6 : Int32) ≤ x4 then some (x3, μ) else zbind (f_X9_has x1 x4 μ) (fun r2 μ1 => (if r2 = 0 then f_X1_mostAlike_5 o n x1 x2 x3 (x4 + (1 : Int32)) μ1 else zck (zin x4 6) (zbind (f_ofCell (30 + (x4).toNatClampNeg) x2 (0 : Int32) μ1) (fun r4 μ3 => zbind (f_X1_howManyAs o x1 x2 r4 μ3) (fun r6 μ5 => f_X1_mostAlike_5 o n x1 x2 (if x3 < r6 then r6 else x3) (x4 + (1 : Int32)) μ5))))))
set_option maxRecDepth 100000 in
theorem t_X1_mostAlike_5 {G : ZG} {p : Program} {l : Launch} {e : Env} {s : State} {m : MethodId} {args : Array Value} {below : List Frame} {meth : Method} {c : Code} (B : zB ZC G cX1_mostAlike 5 "DarkShares$Night" (some .int) p s m args meth c) {o : Nat} (ho : zN o) : ∀ (n : Nat) {x1 : Int32} {x2 : Int32} {x3 : Int32} {x4 : Int32} {μ : Mem} {H : Heap} {locs : List Loc} {ls : Array Slot} {r : Int32} {μ' : Mem}, lv_has ls 5 [(0, .ref (zad G o)), (1, .int x1), (2, .int x2), (3, .int x3), (4, .int x4)] → zW ZC G s H locs μ → f_X1_mostAlike_5 o n x1 x2 x3 x4 μ = some (r, μ') → W p l e (zR 5) s m args below meth c H locs 0 0 (MQ below (zQ ZC G (some (.int r)) μ') args s 0 0 (zAd ZC G)) (F0 m 5 ls []) := by
  have hx := B.1
  have hb := B.2.1
  intro n
  induction n with
  | zero => intro _ _ _ _ _ _ _ _ _ _ hl hW hf; cases hf
  | succ n ih =>
    intro x1 x2 x3 x4 μ H locs ls r μ' hl hW hf
    rw [f_X1_mostAlike_5] at hf
    refine lv_iload (pc := 5) hx hb dX1_mostAlike_5 (lv_at hl 4 rfl) ?_
    refine lv_bipush (pc := 7) (v := (6 : Int32)) hx hb dX1_mostAlike_7 rfl ?_
    refine yic_ge (pc := 9) (tgt := 50) B dX1_mostAlike_9 (by decide) hf (fun hf => ?_) (fun hf => ?_)
    · refine lv_iload_n (pc := 50) hx hb dX1_mostAlike_50 rfl (lv_at hl 3 rfl) ?_
      exact zreti (pc := 51) B hW hf dX1_mostAlike_51
    · refine lv_iload_n (pc := 12) hx hb dX1_mostAlike_12 rfl (lv_at hl 1 rfl) ?_
      refine lv_iload (pc := 13) hx hb dX1_mostAlike_13 (lv_at hl 4 rfl) ?_
      refine s_X1_69 (pc := 15) B hW hl.1 (by decide) (zle8 rfl) dX1_mostAlike_15 (fun _ _ h => c_X9_has h) hf (fun r2 μ1 H locs hW hf => ?_)
      refine yif_eq (pc := 18) (tgt := 44) B dX1_mostAlike_18 (by decide) hf (fun hf => ?_) (fun hf => ?_)
      · refine lv_iinc (pc := 44) (v := (x4 + (1 : Int32))) (lv' := [(4, .int (x4 + (1 : Int32))), (0, .ref (zad G o)), (1, .int x1), (2, .int x2), (3, .int x3)]) hx hb dX1_mostAlike_44 hl (k := 4) rfl rfl (by decide) rfl (fun ls hl => ?_)
        refine lv_goto (pc := 47) (tgt := 5) hx hb dX1_mostAlike_47 (by decide) ?_
        exact ih (lv_sub hl [1, 2, 3, 4, 0] rfl) hW hf
      · refine lv_iload_n (pc := 21) hx hb dX1_mostAlike_21 rfl (lv_at hl 3 rfl) ?_
        refine lv_aload_n (pc := 22) hx hb dX1_mostAlike_22 rfl (lv_at hl 0 rfl) ?_
        refine lv_iload_n (pc := 23) hx hb dX1_mostAlike_23 rfl (lv_at hl 1 rfl) ?_
        refine lv_iload_n (pc := 24) hx hb dX1_mostAlike_24 rfl (lv_at hl 2 rfl) ?_
        refine lv_aload_n (pc := 25) hx hb dX1_mostAlike_25 rfl (lv_at hl 0 rfl) ?_
        refine g_X1_30 (pc := 26) B hW ho dX1_mostAlike_26 ?_
        refine lv_iload (pc := 29) hx hb dX1_mostAlike_29 (lv_at hl 4 rfl) ?_
        refine yaldK (pc := 31) B hW dX1_mostAlike_31 hf (fun hf => ?_)
        refine lv_iload_n (pc := 32) hx hb dX1_mostAlike_32 rfl (lv_at hl 2 rfl) ?_
        refine lv_iconst (pc := 33) (v := (0 : Int32)) hx hb dX1_mostAlike_33 rfl ?_
        refine s_X1_73 (pc := 34) B hW hl.1 (by decide) (zle8 rfl) dX1_mostAlike_34 hf (fun r4 μ3 H locs hW hf => ?_)
        refine s_X1_108 (pc := 37) B hW hl.1 ho (by decide) (zle8 rfl) dX1_mostAlike_37 (fun _ _ h => c_X1_howManyAs ho h) hf (fun r6 μ5 H locs hW hf => ?_)
        refine ymax (pc := 40) B hl.1 kw667 (by decide) (Nat.le_of_ble_eq_true rfl) (Nat.zero_le _) (Nat.zero_le _) dX1_mostAlike_40 ?_
        refine lv_istore_n (pc := 43) (lv' := [(3, .int (if x3 < r6 then r6 else x3)), (0, .ref (zad G o)), (1, .int x1), (2, .int x2), (4, .int x4)]) hx hb dX1_mostAlike_43 rfl hl (by decide) rfl (fun ls hl => ?_)
        refine lv_iinc (pc := 44) (v := (x4 + (1 : Int32))) (lv' := [(4, .int (x4 + (1 : Int32))), (3, .int (if x3 < r6 then r6 else x3)), (0, .ref (zad G o)), (1, .int x1), (2, .int x2)]) hx hb dX1_mostAlike_44 hl (k := 4) rfl rfl (by decide) rfl (fun ls hl => ?_)
        refine lv_goto (pc := 47) (tgt := 5) hx hb dX1_mostAlike_47 (by decide) ?_
        exact ih (lv_sub hl [2, 3, 4, 1, 0] rfl) hW hf
noncomputable def f_X1_mostAlike (o : Nat) (x1 : Int32) (x2 : Int32) (μ : Mem) : Option (Int32 × Mem) := f_X1_mostAlike_5 o zFU x1 x2 (0 : Int32) (0 : Int32) μ
set_option maxRecDepth 100000 in
theorem c_X1_mostAlike {G : ZG} {l : Launch} {o : Nat} (ho : zN o) {x1 : Int32} {x2 : Int32} {μ : Mem} {r : Int32} {μ' : Mem} (h : f_X1_mostAlike o x1 x2 μ = some (r, μ')) : zC ZC G l yX1_mostAlike cX1_mostAlike 5 (some .int) 5 [.ref (zad G o), .int x1, .int x2] μ (some (.int r)) μ' := by
  refine zC.mk (by decide +kernel) (Nat.le_of_ble_eq_true rfl) ?_
  intro p e s m below meth c ls B hl hW
  have B : zB ZC G cX1_mostAlike 5 "DarkShares$Night" (some .int) p s m [.ref (zad G o), .int x1, .int x2].toArray meth c := B
  have hl : lv_has ls 5 [(0, .ref (zad G o)), (1, .int x1), (2, .int x2)] := hl
  have hx := B.1
  have hb := B.2.1
  have hf := h
  unfold f_X1_mostAlike at hf
  refine lv_iconst (pc := 0) (v := (0 : Int32)) hx hb dX1_mostAlike_0 rfl ?_
  refine lv_istore_n (pc := 1) (lv' := [(3, .int (0 : Int32)), (0, .ref (zad G o)), (1, .int x1), (2, .int x2)]) hx hb dX1_mostAlike_1 rfl hl (by decide) rfl (fun ls hl => ?_)
  refine lv_iconst (pc := 2) (v := (0 : Int32)) hx hb dX1_mostAlike_2 rfl ?_
  refine lv_istore (pc := 3) (lv' := [(4, .int (0 : Int32)), (3, .int (0 : Int32)), (0, .ref (zad G o)), (1, .int x1), (2, .int x2)]) hx hb dX1_mostAlike_3 hl (by decide) rfl (fun ls hl => ?_)
  exact t_X1_mostAlike_5 B ho zFU (lv_sub hl [2, 3, 4, 1, 0] rfl) hW hf
noncomputable def f_X1_tellingCell_14 (o : Nat) : Nat → Int32 → Int32 → Int32 → Int32 → Mem → Option (Int32 × Mem)
  | 0, _, _, _, _, _ => none
  | n + 1, x1, x2, x3, x4, μ => (if (12 : Int32) ≤ x4 then some (x2, μ) else zbind (f_X1_mostAlike o x1 x4 μ) (fun r2 μ1 => (if x3 ≤ r2 then f_X1_tellingCell_14 o n x1 x2 x3 (x4 + (1 : Int32)) μ1 else f_X1_tellingCell_14 o n x1 x4 r2 (x4 + (1 : Int32)) μ1)))
set_option maxRecDepth 100000 in
theorem t_X1_tellingCell_14 {G : ZG} {p : Program} {l : Launch} {e : Env} {s : State} {m : MethodId} {args : Array Value} {below : List Frame} {meth : Method} {c : Code} (B : zB ZC G cX1_tellingCell 6 "DarkShares$Night" (some .int) p s m args meth c) {o : Nat} (ho : zN o) : ∀ (n : Nat) {x1 : Int32} {x2 : Int32} {x3 : Int32} {x4 : Int32} {μ : Mem} {H : Heap} {locs : List Loc} {ls : Array Slot} {r : Int32} {μ' : Mem}, lv_has ls 6 [(0, .ref (zad G o)), (1, .int x1), (2, .int x2), (3, .int x3), (4, .int x4)] → zW ZC G s H locs μ → f_X1_tellingCell_14 o n x1 x2 x3 x4 μ = some (r, μ') → W p l e (zR 6) s m args below meth c H locs 0 0 (MQ below (zQ ZC G (some (.int r)) μ') args s 0 0 (zAd ZC G)) (F0 m 14 ls []) := by
  have hx := B.1
  have hb := B.2.1
  intro n
  induction n with
  | zero => intro _ _ _ _ _ _ _ _ _ _ hl hW hf; cases hf
  | succ n ih =>
    intro x1 x2 x3 x4 μ H locs ls r μ' hl hW hf
    rw [f_X1_tellingCell_14] at hf
    refine lv_iload (pc := 14) hx hb dX1_tellingCell_14 (lv_at hl 4 rfl) ?_
    refine lv_bipush (pc := 16) (v := (12 : Int32)) hx hb dX1_tellingCell_16 rfl ?_
    refine yic_ge (pc := 18) (tgt := 48) B dX1_tellingCell_18 (by decide) hf (fun hf => ?_) (fun hf => ?_)
    · refine lv_iload_n (pc := 48) hx hb dX1_tellingCell_48 rfl (lv_at hl 2 rfl) ?_
      exact zreti (pc := 49) B hW hf dX1_tellingCell_49
    · refine lv_aload_n (pc := 21) hx hb dX1_tellingCell_21 rfl (lv_at hl 0 rfl) ?_
      refine lv_iload_n (pc := 22) hx hb dX1_tellingCell_22 rfl (lv_at hl 1 rfl) ?_
      refine lv_iload (pc := 23) hx hb dX1_tellingCell_23 (lv_at hl 4 rfl) ?_
      refine s_X1_105 (pc := 25) B hW hl.1 ho (by decide) (zle8 rfl) dX1_tellingCell_25 (fun _ _ h => c_X1_mostAlike ho h) hf (fun r2 μ1 H locs hW hf => ?_)
      refine lv_istore (pc := 28) (lv' := [(5, .int r2), (0, .ref (zad G o)), (1, .int x1), (2, .int x2), (3, .int x3), (4, .int x4)]) hx hb dX1_tellingCell_28 hl (by decide) rfl (fun ls hl => ?_)
      refine lv_iload (pc := 30) hx hb dX1_tellingCell_30 (lv_at hl 0 rfl) ?_
      refine lv_iload_n (pc := 32) hx hb dX1_tellingCell_32 rfl (lv_at hl 4 rfl) ?_
      refine yic_ge (pc := 33) (tgt := 42) B dX1_tellingCell_33 (by decide) hf (fun hf => ?_) (fun hf => ?_)
      · refine lv_iinc (pc := 42) (v := (x4 + (1 : Int32))) (lv' := [(4, .int (x4 + (1 : Int32))), (5, .int r2), (0, .ref (zad G o)), (1, .int x1), (2, .int x2), (3, .int x3)]) hx hb dX1_tellingCell_42 hl (k := 5) rfl rfl (by decide) rfl (fun ls hl => ?_)
        refine lv_goto (pc := 45) (tgt := 14) hx hb dX1_tellingCell_45 (by decide) ?_
        exact ih (lv_sub hl [2, 3, 4, 5, 0] rfl) hW hf
      · refine lv_iload (pc := 36) hx hb dX1_tellingCell_36 (lv_at hl 0 rfl) ?_
        refine lv_istore_n (pc := 38) (lv' := [(3, .int r2), (5, .int r2), (0, .ref (zad G o)), (1, .int x1), (2, .int x2), (4, .int x4)]) hx hb dX1_tellingCell_38 rfl hl (by decide) rfl (fun ls hl => ?_)
        refine lv_iload (pc := 39) hx hb dX1_tellingCell_39 (lv_at hl 5 rfl) ?_
        refine lv_istore_n (pc := 41) (lv' := [(2, .int x4), (3, .int r2), (5, .int r2), (0, .ref (zad G o)), (1, .int x1), (4, .int x4)]) hx hb dX1_tellingCell_41 rfl hl (by decide) rfl (fun ls hl => ?_)
        refine lv_iinc (pc := 42) (v := (x4 + (1 : Int32))) (lv' := [(4, .int (x4 + (1 : Int32))), (2, .int x4), (3, .int r2), (5, .int r2), (0, .ref (zad G o)), (1, .int x1)]) hx hb dX1_tellingCell_42 hl (k := 5) rfl rfl (by decide) rfl (fun ls hl => ?_)
        refine lv_goto (pc := 45) (tgt := 14) hx hb dX1_tellingCell_45 (by decide) ?_
        exact ih (lv_sub hl [4, 5, 1, 2, 0] rfl) hW hf
noncomputable def f_X1_tellingCell (o : Nat) (x1 : Int32) (μ : Mem) : Option (Int32 × Mem) := (if x1 = 0 then some ((-1 : Int32), μ) else f_X1_tellingCell_14 o zFU x1 (-1 : Int32) (7 : Int32) (0 : Int32) μ)
set_option maxRecDepth 100000 in
theorem c_X1_tellingCell {G : ZG} {l : Launch} {o : Nat} (ho : zN o) {x1 : Int32} {μ : Mem} {r : Int32} {μ' : Mem} (h : f_X1_tellingCell o x1 μ = some (r, μ')) : zC ZC G l yX1_tellingCell cX1_tellingCell 6 (some .int) 6 [.ref (zad G o), .int x1] μ (some (.int r)) μ' := by
  refine zC.mk (by decide +kernel) (Nat.le_of_ble_eq_true rfl) ?_
  intro p e s m below meth c ls B hl hW
  have B : zB ZC G cX1_tellingCell 6 "DarkShares$Night" (some .int) p s m [.ref (zad G o), .int x1].toArray meth c := B
  have hl : lv_has ls 6 [(0, .ref (zad G o)), (1, .int x1)] := hl
  have hx := B.1
  have hb := B.2.1
  have hf := h
  unfold f_X1_tellingCell at hf
  refine lv_iload_n (pc := 0) hx hb dX1_tellingCell_0 rfl (lv_at hl 1 rfl) ?_
  refine yif_ne (pc := 1) (tgt := 6) B dX1_tellingCell_1 (by decide) hf (fun hf => ?_) (fun hf => ?_)
  · refine lv_iconst (pc := 6) (v := (-1 : Int32)) hx hb dX1_tellingCell_6 rfl ?_
    refine lv_istore_n (pc := 7) (lv' := [(2, .int (-1 : Int32)), (0, .ref (zad G o)), (1, .int x1)]) hx hb dX1_tellingCell_7 rfl hl (by decide) rfl (fun ls hl => ?_)
    refine lv_bipush (pc := 8) (v := (7 : Int32)) hx hb dX1_tellingCell_8 rfl ?_
    refine lv_istore_n (pc := 10) (lv' := [(3, .int (7 : Int32)), (2, .int (-1 : Int32)), (0, .ref (zad G o)), (1, .int x1)]) hx hb dX1_tellingCell_10 rfl hl (by decide) rfl (fun ls hl => ?_)
    refine lv_iconst (pc := 11) (v := (0 : Int32)) hx hb dX1_tellingCell_11 rfl ?_
    refine lv_istore (pc := 12) (lv' := [(4, .int (0 : Int32)), (3, .int (7 : Int32)), (2, .int (-1 : Int32)), (0, .ref (zad G o)), (1, .int x1)]) hx hb dX1_tellingCell_12 hl (by decide) rfl (fun ls hl => ?_)
    exact t_X1_tellingCell_14 B ho zFU (lv_sub hl [3, 4, 2, 1, 0] rfl) hW hf
  · refine lv_iconst (pc := 4) (v := (-1 : Int32)) hx hb dX1_tellingCell_4 rfl ?_
    exact zreti (pc := 5) B hW hf dX1_tellingCell_5
noncomputable def f_X1_robbedBy_29 (o : Nat) : Nat → Int32 → Int32 → Int32 → Int32 → Mem → Option (Int32 × Mem)
  | 0, _, _, _, _, _ => none
  | n + 1, x1, x4, x5, x6, μ => (if (μ.1 o 7) ≤ x6 then some (x5, μ) else (if x6 = x1 then f_X1_robbedBy_29 o n x1 x4 x5 (x6 + (1 : Int32)) μ else zbind (f_X1_cellsOf o x6 μ) (fun r2 μ1 => (if (x4 &&& (r2 ^^^ (-1 : Int32))) = 0 then f_X1_robbedBy_29 o n x1 x4 (x5 ||| ((1 : Int32) <<< (x6 &&& 31))) (x6 + (1 : Int32)) μ1 else f_X1_robbedBy_29 o n x1 x4 x5 (x6 + (1 : Int32)) μ1))))
set_option maxRecDepth 100000 in
theorem t_X1_robbedBy_29 {G : ZG} {p : Program} {l : Launch} {e : Env} {s : State} {m : MethodId} {args : Array Value} {below : List Frame} {meth : Method} {c : Code} (B : zB ZC G cX1_robbedBy 7 "DarkShares$Night" (some .int) p s m args meth c) {o : Nat} (ho : zN o) : ∀ (n : Nat) {x1 : Int32} {x4 : Int32} {x5 : Int32} {x6 : Int32} {μ : Mem} {H : Heap} {locs : List Loc} {ls : Array Slot} {r : Int32} {μ' : Mem}, lv_has ls 7 [(0, .ref (zad G o)), (1, .int x1), (4, .int x4), (5, .int x5), (6, .int x6)] → zW ZC G s H locs μ → f_X1_robbedBy_29 o n x1 x4 x5 x6 μ = some (r, μ') → W p l e (zR 2) s m args below meth c H locs 0 0 (MQ below (zQ ZC G (some (.int r)) μ') args s 0 0 (zAd ZC G)) (F0 m 29 ls []) := by
  have hx := B.1
  have hb := B.2.1
  intro n
  induction n with
  | zero => intro _ _ _ _ _ _ _ _ _ _ hl hW hf; cases hf
  | succ n ih =>
    intro x1 x4 x5 x6 μ H locs ls r μ' hl hW hf
    rw [f_X1_robbedBy_29] at hf
    refine lv_iload (pc := 29) hx hb dX1_robbedBy_29 (lv_at hl 4 rfl) ?_
    refine lv_aload_n (pc := 31) hx hb dX1_robbedBy_31 rfl (lv_at hl 0 rfl) ?_
    refine g_X1_40 (pc := 32) B hW ho dX1_robbedBy_32 ?_
    refine yic_ge (pc := 35) (tgt := 73) B dX1_robbedBy_35 (by decide) hf (fun hf => ?_) (fun hf => ?_)
    · refine lv_iload (pc := 73) hx hb dX1_robbedBy_73 (lv_at hl 3 rfl) ?_
      exact zreti (pc := 75) B hW hf dX1_robbedBy_75
    · refine lv_iload (pc := 38) hx hb dX1_robbedBy_38 (lv_at hl 4 rfl) ?_
      refine lv_iload_n (pc := 40) hx hb dX1_robbedBy_40 rfl (lv_at hl 1 rfl) ?_
      refine yic_eq (pc := 41) (tgt := 67) B dX1_robbedBy_41 (by decide) hf (fun hf => ?_) (fun hf => ?_)
      · refine lv_iinc (pc := 67) (v := (x6 + (1 : Int32))) (lv' := [(6, .int (x6 + (1 : Int32))), (0, .ref (zad G o)), (1, .int x1), (4, .int x4), (5, .int x5)]) hx hb dX1_robbedBy_67 hl (k := 4) rfl rfl (by decide) rfl (fun ls hl => ?_)
        refine lv_goto (pc := 70) (tgt := 29) hx hb dX1_robbedBy_70 (by decide) ?_
        exact ih (lv_sub hl [1, 2, 3, 4, 0] rfl) hW hf
      · refine lv_iload (pc := 44) hx hb dX1_robbedBy_44 (lv_at hl 2 rfl) ?_
        refine lv_aload_n (pc := 46) hx hb dX1_robbedBy_46 rfl (lv_at hl 0 rfl) ?_
        refine lv_iload (pc := 47) hx hb dX1_robbedBy_47 (lv_at hl 4 rfl) ?_
        refine s_X1_56 (pc := 49) B hW hl.1 ho (by decide) (zle8 rfl) dX1_robbedBy_49 (fun _ _ h => c_X1_cellsOf ho h) hf (fun r2 μ1 H locs hW hf => ?_)
        refine lv_iconst (pc := 52) (v := (-1 : Int32)) hx hb dX1_robbedBy_52 rfl ?_
        refine lv_ixor (pc := 53) hx hb dX1_robbedBy_53 ?_
        refine lv_iand (pc := 54) hx hb dX1_robbedBy_54 ?_
        refine yif_ne (pc := 55) (tgt := 67) B dX1_robbedBy_55 (by decide) hf (fun hf => ?_) (fun hf => ?_)
        · refine lv_iinc (pc := 67) (v := (x6 + (1 : Int32))) (lv' := [(6, .int (x6 + (1 : Int32))), (0, .ref (zad G o)), (1, .int x1), (4, .int x4), (5, .int x5)]) hx hb dX1_robbedBy_67 hl (k := 4) rfl rfl (by decide) rfl (fun ls hl => ?_)
          refine lv_goto (pc := 70) (tgt := 29) hx hb dX1_robbedBy_70 (by decide) ?_
          exact ih (lv_sub hl [1, 2, 3, 4, 0] rfl) hW hf
        · refine lv_iload (pc := 58) hx hb dX1_robbedBy_58 (lv_at hl 3 rfl) ?_
          refine lv_iconst (pc := 60) (v := (1 : Int32)) hx hb dX1_robbedBy_60 rfl ?_
          refine lv_iload (pc := 61) hx hb dX1_robbedBy_61 (lv_at hl 4 rfl) ?_
          refine lv_ishl (pc := 63) hx hb dX1_robbedBy_63 ?_
          refine lv_ior (pc := 64) hx hb dX1_robbedBy_64 ?_
          refine lv_istore (pc := 65) (lv' := [(5, .int (x5 ||| ((1 : Int32) <<< (x6 &&& 31)))), (0, .ref (zad G o)), (1, .int x1), (4, .int x4), (6, .int x6)]) hx hb dX1_robbedBy_65 hl (by decide) rfl (fun ls hl => ?_)
          refine lv_iinc (pc := 67) (v := (x6 + (1 : Int32))) (lv' := [(6, .int (x6 + (1 : Int32))), (5, .int (x5 ||| ((1 : Int32) <<< (x6 &&& 31)))), (0, .ref (zad G o)), (1, .int x1), (4, .int x4)]) hx hb dX1_robbedBy_67 hl (k := 4) rfl rfl (by decide) rfl (fun ls hl => ?_)
          refine lv_goto (pc := 70) (tgt := 29) hx hb dX1_robbedBy_70 (by decide) ?_
          exact ih (lv_sub hl [2, 3, 4, 1, 0] rfl) hW hf
noncomputable def f_X1_robbedBy (o : Nat) (x1 : Int32) (x2 : Int32) (μ : Mem) : Option (Int32 × Mem) := zbind (f_X1_cellsOf o x1 μ) (fun r2 μ1 => (if (r2 &&& (x2 ^^^ (-1 : Int32))) = 0 then f_X1_robbedBy_29 o zFU x1 (x2 &&& (r2 ^^^ (-1 : Int32))) (0 : Int32) (0 : Int32) μ1 else some ((0 : Int32), μ1)))
set_option maxRecDepth 100000 in
theorem c_X1_robbedBy {G : ZG} {l : Launch} {o : Nat} (ho : zN o) {x1 : Int32} {x2 : Int32} {μ : Mem} {r : Int32} {μ' : Mem} (h : f_X1_robbedBy o x1 x2 μ = some (r, μ')) : zC ZC G l yX1_robbedBy cX1_robbedBy 7 (some .int) 2 [.ref (zad G o), .int x1, .int x2] μ (some (.int r)) μ' := by
  refine zC.mk (by decide +kernel) (Nat.le_of_ble_eq_true rfl) ?_
  intro p e s m below meth c ls B hl hW
  have B : zB ZC G cX1_robbedBy 7 "DarkShares$Night" (some .int) p s m [.ref (zad G o), .int x1, .int x2].toArray meth c := B
  have hl : lv_has ls 7 [(0, .ref (zad G o)), (1, .int x1), (2, .int x2)] := hl
  have hx := B.1
  have hb := B.2.1
  have hf := h
  unfold f_X1_robbedBy at hf
  refine lv_aload_n (pc := 0) hx hb dX1_robbedBy_0 rfl (lv_at hl 0 rfl) ?_
  refine lv_iload_n (pc := 1) hx hb dX1_robbedBy_1 rfl (lv_at hl 1 rfl) ?_
  refine s_X1_56 (pc := 2) B hW hl.1 ho (by decide) (zle8 rfl) dX1_robbedBy_2 (fun _ _ h => c_X1_cellsOf ho h) hf (fun r2 μ1 H locs hW hf => ?_)
  refine lv_istore_n (pc := 5) (lv' := [(3, .int r2), (0, .ref (zad G o)), (1, .int x1), (2, .int x2)]) hx hb dX1_robbedBy_5 rfl hl (by decide) rfl (fun ls hl => ?_)
  refine lv_iload_n (pc := 6) hx hb dX1_robbedBy_6 rfl (lv_at hl 0 rfl) ?_
  refine lv_iload_n (pc := 7) hx hb dX1_robbedBy_7 rfl (lv_at hl 3 rfl) ?_
  refine lv_iconst (pc := 8) (v := (-1 : Int32)) hx hb dX1_robbedBy_8 rfl ?_
  refine lv_ixor (pc := 9) hx hb dX1_robbedBy_9 ?_
  refine lv_iand (pc := 10) hx hb dX1_robbedBy_10 ?_
  refine yif_eq (pc := 11) (tgt := 16) B dX1_robbedBy_11 (by decide) hf (fun hf => ?_) (fun hf => ?_)
  · refine lv_iload_n (pc := 16) hx hb dX1_robbedBy_16 rfl (lv_at hl 3 rfl) ?_
    refine lv_iload_n (pc := 17) hx hb dX1_robbedBy_17 rfl (lv_at hl 0 rfl) ?_
    refine lv_iconst (pc := 18) (v := (-1 : Int32)) hx hb dX1_robbedBy_18 rfl ?_
    refine lv_ixor (pc := 19) hx hb dX1_robbedBy_19 ?_
    refine lv_iand (pc := 20) hx hb dX1_robbedBy_20 ?_
    refine lv_istore (pc := 21) (lv' := [(4, .int (x2 &&& (r2 ^^^ (-1 : Int32)))), (3, .int r2), (0, .ref (zad G o)), (1, .int x1), (2, .int x2)]) hx hb dX1_robbedBy_21 hl (by decide) rfl (fun ls hl => ?_)
    refine lv_iconst (pc := 23) (v := (0 : Int32)) hx hb dX1_robbedBy_23 rfl ?_
    refine lv_istore (pc := 24) (lv' := [(5, .int (0 : Int32)), (4, .int (x2 &&& (r2 ^^^ (-1 : Int32)))), (3, .int r2), (0, .ref (zad G o)), (1, .int x1), (2, .int x2)]) hx hb dX1_robbedBy_24 hl (by decide) rfl (fun ls hl => ?_)
    refine lv_iconst (pc := 26) (v := (0 : Int32)) hx hb dX1_robbedBy_26 rfl ?_
    refine lv_istore (pc := 27) (lv' := [(6, .int (0 : Int32)), (5, .int (0 : Int32)), (4, .int (x2 &&& (r2 ^^^ (-1 : Int32)))), (3, .int r2), (0, .ref (zad G o)), (1, .int x1), (2, .int x2)]) hx hb dX1_robbedBy_27 hl (by decide) rfl (fun ls hl => ?_)
    exact t_X1_robbedBy_29 B ho zFU (lv_sub hl [4, 5, 2, 1, 0] rfl) hW hf
  · refine lv_iconst (pc := 14) (v := (0 : Int32)) hx hb dX1_robbedBy_14 rfl ?_
    exact zreti (pc := 15) B hW hf dX1_robbedBy_15
noncomputable def f_X1_tenfoldMean_12 (o : Nat) : Nat → Int32 → Int32 → Int32 → Int32 → Int32 → Mem → Option (Int32 × Mem)
  | 0, _, _, _, _, _, _ => none
  | n + 1, x1, x2, x3, x4, x5, μ => (if (12 : Int32) ≤ x5 then some (x4, μ) else zbind (f_X9_has x3 x5 μ) (fun r2 μ1 => (if r2 = 0 then f_X1_tenfoldMean_12 o n x1 x2 x3 x4 (x5 + (1 : Int32)) μ1 else zbind (f_X1_kindOf o x1 μ1) (fun r4 μ3 => zbind (f_X9_has x3 (x5 - (1 : Int32)) μ3) (fun r6 μ5 => zbind (f_ofCell r4 x5 r6 μ5) (fun r8 μ7 => zbind (f_X9_isMiddle x5 μ7) (fun r10 μ9 => (if r10 = 0 then f_X1_tenfoldMean_12 o n x1 x2 x3 (x4 + (r8 * (10 : Int32))) (x5 + (1 : Int32)) μ9 else f_X1_tenfoldMean_12 o n x1 x2 x3 (x4 + (r8 * ((10 : Int32) - x2))) (x5 + (1 : Int32)) μ9))))))))
set_option maxRecDepth 100000 in
theorem t_X1_tenfoldMean_12 {G : ZG} {p : Program} {l : Launch} {e : Env} {s : State} {m : MethodId} {args : Array Value} {below : List Frame} {meth : Method} {c : Code} (B : zB ZC G cX1_tenfoldMean 7 "DarkShares$Night" (some .int) p s m args meth c) {o : Nat} (ho : zN o) : ∀ (n : Nat) {x1 : Int32} {x2 : Int32} {x3 : Int32} {x4 : Int32} {x5 : Int32} {μ : Mem} {H : Heap} {locs : List Loc} {ls : Array Slot} {r : Int32} {μ' : Mem}, lv_has ls 7 [(0, .ref (zad G o)), (1, .int x1), (2, .int x2), (3, .int x3), (4, .int x4), (5, .int x5)] → zW ZC G s H locs μ → f_X1_tenfoldMean_12 o n x1 x2 x3 x4 x5 μ = some (r, μ') → W p l e (zR 4) s m args below meth c H locs 0 0 (MQ below (zQ ZC G (some (.int r)) μ') args s 0 0 (zAd ZC G)) (F0 m 12 ls []) := by
  have hx := B.1
  have hb := B.2.1
  intro n
  induction n with
  | zero => intro _ _ _ _ _ _ _ _ _ _ _ hl hW hf; cases hf
  | succ n ih =>
    intro x1 x2 x3 x4 x5 μ H locs ls r μ' hl hW hf
    rw [f_X1_tenfoldMean_12] at hf
    refine lv_iload (pc := 12) hx hb dX1_tenfoldMean_12 (lv_at hl 5 rfl) ?_
    refine lv_bipush (pc := 14) (v := (12 : Int32)) hx hb dX1_tenfoldMean_14 rfl ?_
    refine yic_ge (pc := 16) (tgt := 82) B dX1_tenfoldMean_16 (by decide) hf (fun hf => ?_) (fun hf => ?_)
    · refine lv_iload (pc := 82) hx hb dX1_tenfoldMean_82 (lv_at hl 4 rfl) ?_
      exact zreti (pc := 84) B hW hf dX1_tenfoldMean_84
    · refine lv_iload_n (pc := 19) hx hb dX1_tenfoldMean_19 rfl (lv_at hl 3 rfl) ?_
      refine lv_iload (pc := 20) hx hb dX1_tenfoldMean_20 (lv_at hl 5 rfl) ?_
      refine s_X1_69 (pc := 22) B hW hl.1 (by decide) (zle8 rfl) dX1_tenfoldMean_22 (fun _ _ h => c_X9_has h) hf (fun r2 μ1 H locs hW hf => ?_)
      refine yif_ne (pc := 25) (tgt := 31) B dX1_tenfoldMean_25 (by decide) hf (fun hf => ?_) (fun hf => ?_)
      · refine lv_aload_n (pc := 31) hx hb dX1_tenfoldMean_31 rfl (lv_at hl 0 rfl) ?_
        refine lv_iload_n (pc := 32) hx hb dX1_tenfoldMean_32 rfl (lv_at hl 1 rfl) ?_
        refine s_X1_65 (pc := 33) B hW hl.1 ho (by decide) (zle8 rfl) dX1_tenfoldMean_33 (fun _ _ h => c_X1_kindOf ho h) hf (fun r4 μ3 H locs hW hf => ?_)
        refine lv_iload (pc := 36) hx hb dX1_tenfoldMean_36 (lv_at hl 5 rfl) ?_
        refine lv_iload_n (pc := 38) hx hb dX1_tenfoldMean_38 rfl (lv_at hl 3 rfl) ?_
        refine lv_iload (pc := 39) hx hb dX1_tenfoldMean_39 (lv_at hl 5 rfl) ?_
        refine lv_iconst (pc := 41) (v := (1 : Int32)) hx hb dX1_tenfoldMean_41 rfl ?_
        refine lv_isub (pc := 42) hx hb dX1_tenfoldMean_42 ?_
        refine s_X1_69 (pc := 43) B hW hl.1 (by decide) (zle8 rfl) dX1_tenfoldMean_43 (fun _ _ h => c_X9_has h) hf (fun r6 μ5 H locs hW hf => ?_)
        refine s_X1_73 (pc := 46) B hW hl.1 (by decide) (zle8 rfl) dX1_tenfoldMean_46 hf (fun r8 μ7 H locs hW hf => ?_)
        refine lv_istore (pc := 49) (lv' := [(6, .int r8), (0, .ref (zad G o)), (1, .int x1), (2, .int x2), (3, .int x3), (4, .int x4), (5, .int x5)]) hx hb dX1_tenfoldMean_49 hl (by decide) rfl (fun ls hl => ?_)
        refine lv_iload (pc := 51) hx hb dX1_tenfoldMean_51 (lv_at hl 5 rfl) ?_
        refine lv_iload (pc := 53) hx hb dX1_tenfoldMean_53 (lv_at hl 0 rfl) ?_
        refine lv_iload (pc := 55) hx hb dX1_tenfoldMean_55 (lv_at hl 6 rfl) ?_
        refine s_X1_117 (pc := 57) B hW hl.1 (by decide) (zle8 rfl) dX1_tenfoldMean_57 (fun _ _ h => c_X9_isMiddle h) hf (fun r10 μ9 H locs hW hf => ?_)
        refine yif_eq (pc := 60) (tgt := 70) B dX1_tenfoldMean_60 (by decide) hf (fun hf => ?_) (fun hf => ?_)
        · refine lv_bipush (pc := 70) (v := (10 : Int32)) hx hb dX1_tenfoldMean_70 rfl ?_
          refine lv_imul (pc := 72) hx hb dX1_tenfoldMean_72 ?_
          refine lv_iadd (pc := 73) hx hb dX1_tenfoldMean_73 ?_
          refine lv_istore (pc := 74) (lv' := [(4, .int (x4 + (r8 * (10 : Int32)))), (6, .int r8), (0, .ref (zad G o)), (1, .int x1), (2, .int x2), (3, .int x3), (5, .int x5)]) hx hb dX1_tenfoldMean_74 hl (by decide) rfl (fun ls hl => ?_)
          refine lv_iinc (pc := 76) (v := (x5 + (1 : Int32))) (lv' := [(5, .int (x5 + (1 : Int32))), (4, .int (x4 + (r8 * (10 : Int32)))), (6, .int r8), (0, .ref (zad G o)), (1, .int x1), (2, .int x2), (3, .int x3)]) hx hb dX1_tenfoldMean_76 hl (k := 6) rfl rfl (by decide) rfl (fun ls hl => ?_)
          refine lv_goto (pc := 79) (tgt := 12) hx hb dX1_tenfoldMean_79 (by decide) ?_
          exact ih (lv_sub hl [3, 4, 5, 6, 1, 0] rfl) hW hf
        · refine lv_bipush (pc := 63) (v := (10 : Int32)) hx hb dX1_tenfoldMean_63 rfl ?_
          refine lv_iload_n (pc := 65) hx hb dX1_tenfoldMean_65 rfl (lv_at hl 3 rfl) ?_
          refine lv_isub (pc := 66) hx hb dX1_tenfoldMean_66 ?_
          refine lv_goto (pc := 67) (tgt := 72) hx hb dX1_tenfoldMean_67 (by decide) ?_
          refine lv_imul (pc := 72) hx hb dX1_tenfoldMean_72 ?_
          refine lv_iadd (pc := 73) hx hb dX1_tenfoldMean_73 ?_
          refine lv_istore (pc := 74) (lv' := [(4, .int (x4 + (r8 * ((10 : Int32) - x2)))), (6, .int r8), (0, .ref (zad G o)), (1, .int x1), (2, .int x2), (3, .int x3), (5, .int x5)]) hx hb dX1_tenfoldMean_74 hl (by decide) rfl (fun ls hl => ?_)
          refine lv_iinc (pc := 76) (v := (x5 + (1 : Int32))) (lv' := [(5, .int (x5 + (1 : Int32))), (4, .int (x4 + (r8 * ((10 : Int32) - x2)))), (6, .int r8), (0, .ref (zad G o)), (1, .int x1), (2, .int x2), (3, .int x3)]) hx hb dX1_tenfoldMean_76 hl (k := 6) rfl rfl (by decide) rfl (fun ls hl => ?_)
          refine lv_goto (pc := 79) (tgt := 12) hx hb dX1_tenfoldMean_79 (by decide) ?_
          exact ih (lv_sub hl [3, 4, 5, 6, 1, 0] rfl) hW hf
      · refine lv_goto (pc := 28) (tgt := 76) hx hb dX1_tenfoldMean_28 (by decide) ?_
        refine lv_iinc (pc := 76) (v := (x5 + (1 : Int32))) (lv' := [(5, .int (x5 + (1 : Int32))), (0, .ref (zad G o)), (1, .int x1), (2, .int x2), (3, .int x3), (4, .int x4)]) hx hb dX1_tenfoldMean_76 hl (k := 5) rfl rfl (by decide) rfl (fun ls hl => ?_)
        refine lv_goto (pc := 79) (tgt := 12) hx hb dX1_tenfoldMean_79 (by decide) ?_
        exact ih (lv_sub hl [1, 2, 3, 4, 5, 0] rfl) hW hf
noncomputable def f_X1_tenfoldMean (o : Nat) (x1 : Int32) (x2 : Int32) (μ : Mem) : Option (Int32 × Mem) := zbind (f_X1_cellsOf o x1 μ) (fun r2 μ1 => f_X1_tenfoldMean_12 o zFU x1 x2 r2 (0 : Int32) (0 : Int32) μ1)
set_option maxRecDepth 100000 in
theorem c_X1_tenfoldMean {G : ZG} {l : Launch} {o : Nat} (ho : zN o) {x1 : Int32} {x2 : Int32} {μ : Mem} {r : Int32} {μ' : Mem} (h : f_X1_tenfoldMean o x1 x2 μ = some (r, μ')) : zC ZC G l yX1_tenfoldMean cX1_tenfoldMean 7 (some .int) 4 [.ref (zad G o), .int x1, .int x2] μ (some (.int r)) μ' := by
  refine zC.mk (by decide +kernel) (Nat.le_of_ble_eq_true rfl) ?_
  intro p e s m below meth c ls B hl hW
  have B : zB ZC G cX1_tenfoldMean 7 "DarkShares$Night" (some .int) p s m [.ref (zad G o), .int x1, .int x2].toArray meth c := B
  have hl : lv_has ls 7 [(0, .ref (zad G o)), (1, .int x1), (2, .int x2)] := hl
  have hx := B.1
  have hb := B.2.1
  have hf := h
  unfold f_X1_tenfoldMean at hf
  refine lv_aload_n (pc := 0) hx hb dX1_tenfoldMean_0 rfl (lv_at hl 0 rfl) ?_
  refine lv_iload_n (pc := 1) hx hb dX1_tenfoldMean_1 rfl (lv_at hl 1 rfl) ?_
  refine s_X1_56 (pc := 2) B hW hl.1 ho (by decide) (zle8 rfl) dX1_tenfoldMean_2 (fun _ _ h => c_X1_cellsOf ho h) hf (fun r2 μ1 H locs hW hf => ?_)
  refine lv_istore_n (pc := 5) (lv' := [(3, .int r2), (0, .ref (zad G o)), (1, .int x1), (2, .int x2)]) hx hb dX1_tenfoldMean_5 rfl hl (by decide) rfl (fun ls hl => ?_)
  refine lv_iconst (pc := 6) (v := (0 : Int32)) hx hb dX1_tenfoldMean_6 rfl ?_
  refine lv_istore (pc := 7) (lv' := [(4, .int (0 : Int32)), (3, .int r2), (0, .ref (zad G o)), (1, .int x1), (2, .int x2)]) hx hb dX1_tenfoldMean_7 hl (by decide) rfl (fun ls hl => ?_)
  refine lv_iconst (pc := 9) (v := (0 : Int32)) hx hb dX1_tenfoldMean_9 rfl ?_
  refine lv_istore (pc := 10) (lv' := [(5, .int (0 : Int32)), (4, .int (0 : Int32)), (3, .int r2), (0, .ref (zad G o)), (1, .int x1), (2, .int x2)]) hx hb dX1_tenfoldMean_10 hl (by decide) rfl (fun ls hl => ?_)
  exact t_X1_tenfoldMean_12 B ho zFU (lv_sub hl [3, 4, 5, 2, 1, 0] rfl) hW hf
noncomputable def f_X1_mixInto_99 (o : Nat) : Nat → Int64 → Int32 → Mem → Option (Int64 × Mem)
  | 0, _, _, _ => none
  | n + 1, x3, x5, μ => (if ((μ.1 o 8) * (4 : Int32)) ≤ x5 then some (x3, μ) else zck (zin x5 24) (f_X1_mixInto_99 o n (((31 : Int64) * x3) + (((μ.1 (o + 5) (x5).toNatClampNeg)).toInt64)) (x5 + (1 : Int32)) μ))
set_option maxRecDepth 100000 in
theorem t_X1_mixInto_99 {G : ZG} {p : Program} {l : Launch} {e : Env} {s : State} {m : MethodId} {args : Array Value} {below : List Frame} {meth : Method} {c : Code} (B : zB ZC G cX1_mixInto 6 "DarkShares$Night" (some .long) p s m args meth c) {o : Nat} (ho : zN o) : ∀ (n : Nat) {x3 : Int64} {x5 : Int32} {μ : Mem} {H : Heap} {locs : List Loc} {ls : Array Slot} {r : Int64} {μ' : Mem}, lv_has ls 6 [(0, .ref (zad G o)), (3, .long x3), (5, .int x5)] → zW ZC G s H locs μ → f_X1_mixInto_99 o n x3 x5 μ = some (r, μ') → W p l e (zR 1) s m args below meth c H locs 0 0 (MQ below (zQ ZC G (some (.long r)) μ') args s 0 0 (zAd ZC G)) (F0 m 99 ls []) := by
  have hx := B.1
  have hb := B.2.1
  intro n
  induction n with
  | zero => intro _ _ _ _ _ _ _ _ hl hW hf; cases hf
  | succ n ih =>
    intro x3 x5 μ H locs ls r μ' hl hW hf
    rw [f_X1_mixInto_99] at hf
    refine lv_iload (pc := 99) hx hb dX1_mixInto_99 (lv_at hl 2 rfl) ?_
    refine lv_aload_n (pc := 101) hx hb dX1_mixInto_101 rfl (lv_at hl 0 rfl) ?_
    refine g_X1_44 (pc := 102) B hW ho dX1_mixInto_102 ?_
    refine lv_iconst (pc := 105) (v := (4 : Int32)) hx hb dX1_mixInto_105 rfl ?_
    refine lv_imul (pc := 106) hx hb dX1_mixInto_106 ?_
    refine yic_ge (pc := 107) (tgt := 131) B dX1_mixInto_107 (by decide) hf (fun hf => ?_) (fun hf => ?_)
    · refine lv_lload_n (pc := 131) hx hb dX1_mixInto_131 rfl (lv_at hl 1 rfl) ?_
      exact zretl (pc := 132) B hW hf dX1_mixInto_132
    · refine lv_ldc2 (pc := 110) hx hb B.2.2.2.1 (B.2.2.2.2.1 _ kw745) dX1_mixInto_110 ?_
      refine lv_lload_n (pc := 113) hx hb dX1_mixInto_113 rfl (lv_at hl 1 rfl) ?_
      refine lv_lmul (pc := 114) hx hb dX1_mixInto_114 ?_
      refine lv_aload_n (pc := 115) hx hb dX1_mixInto_115 rfl (lv_at hl 0 rfl) ?_
      refine g_X1_24 (pc := 116) B hW ho dX1_mixInto_116 ?_
      refine lv_iload (pc := 119) hx hb dX1_mixInto_119 (lv_at hl 2 rfl) ?_
      refine yald (pc := 121) B hW (arN5 ho) dX1_mixInto_121 hf (fun hf => ?_)
      refine lv_i2l (pc := 122) (v := ((μ.1 (o + 5) (x5).toNatClampNeg)).toInt64) hx hb dX1_mixInto_122 rfl ?_
      refine lv_ladd (pc := 123) hx hb dX1_mixInto_123 ?_
      refine lv_lstore_n (pc := 124) (lv' := [(3, .long (((31 : Int64) * x3) + (((μ.1 (o + 5) (x5).toNatClampNeg)).toInt64))), (0, .ref (zad G o)), (5, .int x5)]) hx hb dX1_mixInto_124 rfl hl (by decide) rfl (fun ls hl => ?_)
      refine lv_iinc (pc := 125) (v := (x5 + (1 : Int32))) (lv' := [(5, .int (x5 + (1 : Int32))), (3, .long (((31 : Int64) * x3) + (((μ.1 (o + 5) (x5).toNatClampNeg)).toInt64))), (0, .ref (zad G o))]) hx hb dX1_mixInto_125 hl (k := 2) rfl rfl (by decide) rfl (fun ls hl => ?_)
      refine lv_goto (pc := 128) (tgt := 99) hx hb dX1_mixInto_128 (by decide) ?_
      exact ih (lv_sub hl [2, 1, 0] rfl) hW hf
noncomputable def f_X1_mixInto_68 (o : Nat) : Nat → Int64 → Int32 → Mem → Option (Int64 × Mem)
  | 0, _, _, _ => none
  | n + 1, x3, x5, μ => (if (12 : Int32) ≤ x5 then f_X1_mixInto_99 o zFU x3 (0 : Int32) μ else zck (zin x5 12) (f_X1_mixInto_68 o n (((31 : Int64) * x3) + (((μ.1 (o + 4) (x5).toNatClampNeg)).toInt64)) (x5 + (1 : Int32)) μ))
set_option maxRecDepth 100000 in
theorem t_X1_mixInto_68 {G : ZG} {p : Program} {l : Launch} {e : Env} {s : State} {m : MethodId} {args : Array Value} {below : List Frame} {meth : Method} {c : Code} (B : zB ZC G cX1_mixInto 6 "DarkShares$Night" (some .long) p s m args meth c) {o : Nat} (ho : zN o) : ∀ (n : Nat) {x3 : Int64} {x5 : Int32} {μ : Mem} {H : Heap} {locs : List Loc} {ls : Array Slot} {r : Int64} {μ' : Mem}, lv_has ls 6 [(0, .ref (zad G o)), (3, .long x3), (5, .int x5)] → zW ZC G s H locs μ → f_X1_mixInto_68 o n x3 x5 μ = some (r, μ') → W p l e (zR 1) s m args below meth c H locs 0 0 (MQ below (zQ ZC G (some (.long r)) μ') args s 0 0 (zAd ZC G)) (F0 m 68 ls []) := by
  have hx := B.1
  have hb := B.2.1
  intro n
  induction n with
  | zero => intro _ _ _ _ _ _ _ _ hl hW hf; cases hf
  | succ n ih =>
    intro x3 x5 μ H locs ls r μ' hl hW hf
    rw [f_X1_mixInto_68] at hf
    refine lv_iload (pc := 68) hx hb dX1_mixInto_68 (lv_at hl 2 rfl) ?_
    refine lv_bipush (pc := 70) (v := (12 : Int32)) hx hb dX1_mixInto_70 rfl ?_
    refine yic_ge (pc := 72) (tgt := 96) B dX1_mixInto_72 (by decide) hf (fun hf => ?_) (fun hf => ?_)
    · refine lv_iconst (pc := 96) (v := (0 : Int32)) hx hb dX1_mixInto_96 rfl ?_
      refine lv_istore (pc := 97) (lv' := [(5, .int (0 : Int32)), (0, .ref (zad G o)), (3, .long x3)]) hx hb dX1_mixInto_97 hl (by decide) rfl (fun ls hl => ?_)
      exact t_X1_mixInto_99 B ho zFU (lv_sub hl [1, 2, 0] rfl) hW hf
    · refine lv_ldc2 (pc := 75) hx hb B.2.2.2.1 (B.2.2.2.2.1 _ kw745) dX1_mixInto_75 ?_
      refine lv_lload_n (pc := 78) hx hb dX1_mixInto_78 rfl (lv_at hl 1 rfl) ?_
      refine lv_lmul (pc := 79) hx hb dX1_mixInto_79 ?_
      refine lv_aload_n (pc := 80) hx hb dX1_mixInto_80 rfl (lv_at hl 0 rfl) ?_
      refine g_X1_21 (pc := 81) B hW ho dX1_mixInto_81 ?_
      refine lv_iload (pc := 84) hx hb dX1_mixInto_84 (lv_at hl 2 rfl) ?_
      refine yald (pc := 86) B hW (arN4 ho) dX1_mixInto_86 hf (fun hf => ?_)
      refine lv_i2l (pc := 87) (v := ((μ.1 (o + 4) (x5).toNatClampNeg)).toInt64) hx hb dX1_mixInto_87 rfl ?_
      refine lv_ladd (pc := 88) hx hb dX1_mixInto_88 ?_
      refine lv_lstore_n (pc := 89) (lv' := [(3, .long (((31 : Int64) * x3) + (((μ.1 (o + 4) (x5).toNatClampNeg)).toInt64))), (0, .ref (zad G o)), (5, .int x5)]) hx hb dX1_mixInto_89 rfl hl (by decide) rfl (fun ls hl => ?_)
      refine lv_iinc (pc := 90) (v := (x5 + (1 : Int32))) (lv' := [(5, .int (x5 + (1 : Int32))), (3, .long (((31 : Int64) * x3) + (((μ.1 (o + 4) (x5).toNatClampNeg)).toInt64))), (0, .ref (zad G o))]) hx hb dX1_mixInto_90 hl (k := 2) rfl rfl (by decide) rfl (fun ls hl => ?_)
      refine lv_goto (pc := 93) (tgt := 68) hx hb dX1_mixInto_93 (by decide) ?_
      exact ih (lv_sub hl [2, 1, 0] rfl) hW hf
noncomputable def f_X1_mixInto_5 (o : Nat) : Nat → Int64 → Int32 → Mem → Option (Int64 × Mem)
  | 0, _, _, _ => none
  | n + 1, x3, x5, μ => (if (μ.1 o 7) ≤ x5 then f_X1_mixInto_68 o zFU x3 (0 : Int32) μ else zck (zin x5 5) (zck (zin x5 5) (zlet (((31 : Int64) * (((31 : Int64) * x3) + (((μ.1 (o + 1) (x5).toNatClampNeg)).toInt64))) + (((μ.1 (o + 2) (x5).toNatClampNeg)).toInt64)) (fun y1 => zck (zin x5 5) (f_X1_mixInto_5 o n (((31 : Int64) * y1) + (((μ.1 (o + 3) (x5).toNatClampNeg)).toInt64)) (x5 + (1 : Int32)) μ)))))
set_option maxRecDepth 100000 in
theorem t_X1_mixInto_5 {G : ZG} {p : Program} {l : Launch} {e : Env} {s : State} {m : MethodId} {args : Array Value} {below : List Frame} {meth : Method} {c : Code} (B : zB ZC G cX1_mixInto 6 "DarkShares$Night" (some .long) p s m args meth c) {o : Nat} (ho : zN o) : ∀ (n : Nat) {x3 : Int64} {x5 : Int32} {μ : Mem} {H : Heap} {locs : List Loc} {ls : Array Slot} {r : Int64} {μ' : Mem}, lv_has ls 6 [(0, .ref (zad G o)), (3, .long x3), (5, .int x5)] → zW ZC G s H locs μ → f_X1_mixInto_5 o n x3 x5 μ = some (r, μ') → W p l e (zR 1) s m args below meth c H locs 0 0 (MQ below (zQ ZC G (some (.long r)) μ') args s 0 0 (zAd ZC G)) (F0 m 5 ls []) := by
  have hx := B.1
  have hb := B.2.1
  intro n
  induction n with
  | zero => intro _ _ _ _ _ _ _ _ hl hW hf; cases hf
  | succ n ih =>
    intro x3 x5 μ H locs ls r μ' hl hW hf
    rw [f_X1_mixInto_5] at hf
    refine lv_iload (pc := 5) hx hb dX1_mixInto_5 (lv_at hl 2 rfl) ?_
    refine lv_aload_n (pc := 7) hx hb dX1_mixInto_7 rfl (lv_at hl 0 rfl) ?_
    refine g_X1_40 (pc := 8) B hW ho dX1_mixInto_8 ?_
    refine yic_ge (pc := 11) (tgt := 65) B dX1_mixInto_11 (by decide) hf (fun hf => ?_) (fun hf => ?_)
    · refine lv_iconst (pc := 65) (v := (0 : Int32)) hx hb dX1_mixInto_65 rfl ?_
      refine lv_istore (pc := 66) (lv' := [(5, .int (0 : Int32)), (0, .ref (zad G o)), (3, .long x3)]) hx hb dX1_mixInto_66 hl (by decide) rfl (fun ls hl => ?_)
      exact t_X1_mixInto_68 B ho zFU (lv_sub hl [1, 2, 0] rfl) hW hf
    · refine lv_ldc2 (pc := 14) hx hb B.2.2.2.1 (B.2.2.2.2.1 _ kw745) dX1_mixInto_14 ?_
      refine lv_lload_n (pc := 17) hx hb dX1_mixInto_17 rfl (lv_at hl 1 rfl) ?_
      refine lv_lmul (pc := 18) hx hb dX1_mixInto_18 ?_
      refine lv_aload_n (pc := 19) hx hb dX1_mixInto_19 rfl (lv_at hl 0 rfl) ?_
      refine g_X1_9 (pc := 20) B hW ho dX1_mixInto_20 ?_
      refine lv_iload (pc := 23) hx hb dX1_mixInto_23 (lv_at hl 2 rfl) ?_
      refine yald (pc := 25) B hW (arN1 ho) dX1_mixInto_25 hf (fun hf => ?_)
      refine lv_i2l (pc := 26) (v := ((μ.1 (o + 1) (x5).toNatClampNeg)).toInt64) hx hb dX1_mixInto_26 rfl ?_
      refine lv_ladd (pc := 27) hx hb dX1_mixInto_27 ?_
      refine lv_lstore_n (pc := 28) (lv' := [(3, .long (((31 : Int64) * x3) + (((μ.1 (o + 1) (x5).toNatClampNeg)).toInt64))), (0, .ref (zad G o)), (5, .int x5)]) hx hb dX1_mixInto_28 rfl hl (by decide) rfl (fun ls hl => ?_)
      refine lv_ldc2 (pc := 29) hx hb B.2.2.2.1 (B.2.2.2.2.1 _ kw745) dX1_mixInto_29 ?_
      refine lv_lload_n (pc := 32) hx hb dX1_mixInto_32 rfl (lv_at hl 0 rfl) ?_
      refine lv_lmul (pc := 33) hx hb dX1_mixInto_33 ?_
      refine lv_aload_n (pc := 34) hx hb dX1_mixInto_34 rfl (lv_at hl 1 rfl) ?_
      refine g_X1_15 (pc := 35) B hW ho dX1_mixInto_35 ?_
      refine lv_iload (pc := 38) hx hb dX1_mixInto_38 (lv_at hl 2 rfl) ?_
      refine yald (pc := 40) B hW (arN2 ho) dX1_mixInto_40 hf (fun hf => ?_)
      refine lv_i2l (pc := 41) (v := ((μ.1 (o + 2) (x5).toNatClampNeg)).toInt64) hx hb dX1_mixInto_41 rfl ?_
      refine lv_ladd (pc := 42) hx hb dX1_mixInto_42 ?_
      refine ytopl (pc := 43) hf (fun y1 hf => ?_)
      refine lv_lstore_n (pc := 43) (lv' := [(3, .long y1), (0, .ref (zad G o)), (5, .int x5)]) hx hb dX1_mixInto_43 rfl hl (by decide) rfl (fun ls hl => ?_)
      refine lv_ldc2 (pc := 44) hx hb B.2.2.2.1 (B.2.2.2.2.1 _ kw745) dX1_mixInto_44 ?_
      refine lv_lload_n (pc := 47) hx hb dX1_mixInto_47 rfl (lv_at hl 0 rfl) ?_
      refine lv_lmul (pc := 48) hx hb dX1_mixInto_48 ?_
      refine lv_aload_n (pc := 49) hx hb dX1_mixInto_49 rfl (lv_at hl 1 rfl) ?_
      refine g_X1_18 (pc := 50) B hW ho dX1_mixInto_50 ?_
      refine lv_iload (pc := 53) hx hb dX1_mixInto_53 (lv_at hl 2 rfl) ?_
      refine yald (pc := 55) B hW (arN3 ho) dX1_mixInto_55 hf (fun hf => ?_)
      refine lv_i2l (pc := 56) (v := ((μ.1 (o + 3) (x5).toNatClampNeg)).toInt64) hx hb dX1_mixInto_56 rfl ?_
      refine lv_ladd (pc := 57) hx hb dX1_mixInto_57 ?_
      refine lv_lstore_n (pc := 58) (lv' := [(3, .long (((31 : Int64) * y1) + (((μ.1 (o + 3) (x5).toNatClampNeg)).toInt64))), (0, .ref (zad G o)), (5, .int x5)]) hx hb dX1_mixInto_58 rfl hl (by decide) rfl (fun ls hl => ?_)
      refine lv_iinc (pc := 59) (v := (x5 + (1 : Int32))) (lv' := [(5, .int (x5 + (1 : Int32))), (3, .long (((31 : Int64) * y1) + (((μ.1 (o + 3) (x5).toNatClampNeg)).toInt64))), (0, .ref (zad G o))]) hx hb dX1_mixInto_59 hl (k := 2) rfl rfl (by decide) rfl (fun ls hl => ?_)
      refine lv_goto (pc := 62) (tgt := 5) hx hb dX1_mixInto_62 (by decide) ?_
      exact ih (lv_sub hl [2, 1, 0] rfl) hW hf
noncomputable def f_X1_mixInto (o : Nat) (x1 : Int64) (μ : Mem) : Option (Int64 × Mem) := f_X1_mixInto_5 o zFU x1 (0 : Int32) μ
set_option maxRecDepth 100000 in
theorem c_X1_mixInto {G : ZG} {l : Launch} {o : Nat} (ho : zN o) {x1 : Int64} {μ : Mem} {r : Int64} {μ' : Mem} (h : f_X1_mixInto o x1 μ = some (r, μ')) : zC ZC G l yX1_mixInto cX1_mixInto 6 (some .long) 1 [.ref (zad G o), .long x1] μ (some (.long r)) μ' := by
  refine zC.mk (by decide +kernel) (Nat.le_of_ble_eq_true rfl) ?_
  intro p e s m below meth c ls B hl hW
  have B : zB ZC G cX1_mixInto 6 "DarkShares$Night" (some .long) p s m [.ref (zad G o), .long x1].toArray meth c := B
  have hl : lv_has ls 6 [(0, .ref (zad G o)), (1, .long x1)] := hl
  have hx := B.1
  have hb := B.2.1
  have hf := h
  unfold f_X1_mixInto at hf
  refine lv_lload_n (pc := 0) hx hb dX1_mixInto_0 rfl (lv_at hl 1 rfl) ?_
  refine lv_lstore_n (pc := 1) (lv' := [(3, .long x1), (0, .ref (zad G o)), (1, .long x1)]) hx hb dX1_mixInto_1 rfl hl (by decide) rfl (fun ls hl => ?_)
  refine lv_iconst (pc := 2) (v := (0 : Int32)) hx hb dX1_mixInto_2 rfl ?_
  refine lv_istore (pc := 3) (lv' := [(5, .int (0 : Int32)), (3, .long x1), (0, .ref (zad G o)), (1, .long x1)]) hx hb dX1_mixInto_3 hl (by decide) rfl (fun ls hl => ?_)
  exact t_X1_mixInto_5 B ho zFU (lv_sub hl [2, 1, 0] rfl) hW hf
