noncomputable def f_X10_bad (μ : Mem) : Option (Int32 × Mem) := zck (zin (0 : Int32) 3) (zck (zin (0 : Int32) 3) (zlet (zI μ 1 ((0 : Int32)).toNatClampNeg ((μ.1 1 ((0 : Int32)).toNatClampNeg) + (1 : Int32))) (fun μ1 => some ((-2 : Int32), μ1))))
set_option maxRecDepth 100000 in
theorem c_X10_bad {G : ZG} {l : Launch} {μ : Mem} {r : Int32} {μ' : Mem} (h : f_X10_bad μ = some (r, μ')) : zC ZM G l yX10_bad cX10_bad 1 (some .int) 1 [.ref (zad G 0)] μ (some (.int r)) μ' := by
  refine zC.mk (by decide +kernel) (Nat.le_of_ble_eq_true rfl) ?_
  intro p e s m below meth c ls B hl hW
  have B : zB ZM G cX10_bad 1 "DarkSharesModel" (some .int) p s m [.ref (zad G 0)].toArray meth c := B
  have hl : lv_has ls 1 [(0, .ref (zad G 0))] := hl
  have hx := B.1
  have hb := B.2.1
  have hf := h
  unfold f_X10_bad at hf
  refine lv_aload_n (pc := 0) hx hb dX10_bad_0 rfl (lv_at hl 0 rfl) ?_
  refine g_X10_1 (pc := 1) B hW dX10_bad_1 ?_
  refine lv_iconst (pc := 4) (v := (0 : Int32)) hx hb dX10_bad_4 rfl ?_
  refine lv_dup2_11 (pc := 5) hx hb dX10_bad_5 rfl rfl ?_
  refine yald (pc := 6) B hW mr1 dX10_bad_6 hf (fun hf => ?_)
  refine lv_iconst (pc := 7) (v := (1 : Int32)) hx hb dX10_bad_7 rfl ?_
  refine lv_iadd (pc := 8) hx hb dX10_bad_8 ?_
  refine yast (pc := 9) B hW mr1 dX10_bad_9 hf (fun μ1 H locs hW hf => ?_)
  refine lv_bipush (pc := 10) (v := (-2 : Int32)) hx hb dX10_bad_10 rfl ?_
  exact zreti (pc := 12) B hW hf dX10_bad_12
noncomputable def f_X10_ten (μ : Mem) : Option (Int32 × Mem) := zck (zin (0 : Int32) 3) (zck (zin (0 : Int32) 3) (zlet (zI μ 1 ((0 : Int32)).toNatClampNeg ((μ.1 1 ((0 : Int32)).toNatClampNeg) + (1 : Int32))) (fun μ1 => some ((-10 : Int32), μ1))))
set_option maxRecDepth 100000 in
theorem c_X10_ten {G : ZG} {l : Launch} {μ : Mem} {r : Int32} {μ' : Mem} (h : f_X10_ten μ = some (r, μ')) : zC ZM G l yX10_ten cX10_ten 1 (some .int) 1 [.ref (zad G 0)] μ (some (.int r)) μ' := by
  refine zC.mk (by decide +kernel) (Nat.le_of_ble_eq_true rfl) ?_
  intro p e s m below meth c ls B hl hW
  have B : zB ZM G cX10_ten 1 "DarkSharesModel" (some .int) p s m [.ref (zad G 0)].toArray meth c := B
  have hl : lv_has ls 1 [(0, .ref (zad G 0))] := hl
  have hx := B.1
  have hb := B.2.1
  have hf := h
  unfold f_X10_ten at hf
  refine lv_aload_n (pc := 0) hx hb dX10_ten_0 rfl (lv_at hl 0 rfl) ?_
  refine g_X10_1 (pc := 1) B hW dX10_ten_1 ?_
  refine lv_iconst (pc := 4) (v := (0 : Int32)) hx hb dX10_ten_4 rfl ?_
  refine lv_dup2_11 (pc := 5) hx hb dX10_ten_5 rfl rfl ?_
  refine yald (pc := 6) B hW mr1 dX10_ten_6 hf (fun hf => ?_)
  refine lv_iconst (pc := 7) (v := (1 : Int32)) hx hb dX10_ten_7 rfl ?_
  refine lv_iadd (pc := 8) hx hb dX10_ten_8 ?_
  refine yast (pc := 9) B hW mr1 dX10_ten_9 hf (fun μ1 H locs hW hf => ?_)
  refine lv_bipush (pc := 10) (v := (-10 : Int32)) hx hb dX10_ten_10 rfl ?_
  exact zreti (pc := 12) B hW hf dX10_ten_12
noncomputable def f_X10_no (μ : Mem) : Option (Int32 × Mem) := zck (zin (1 : Int32) 3) (zck (zin (1 : Int32) 3) (zlet (zI μ 1 ((1 : Int32)).toNatClampNeg ((μ.1 1 ((1 : Int32)).toNatClampNeg) + (1 : Int32))) (fun μ1 => some ((-3 : Int32), μ1))))
set_option maxRecDepth 100000 in
theorem c_X10_no {G : ZG} {l : Launch} {μ : Mem} {r : Int32} {μ' : Mem} (h : f_X10_no μ = some (r, μ')) : zC ZM G l yX10_no cX10_no 1 (some .int) 1 [.ref (zad G 0)] μ (some (.int r)) μ' := by
  refine zC.mk (by decide +kernel) (Nat.le_of_ble_eq_true rfl) ?_
  intro p e s m below meth c ls B hl hW
  have B : zB ZM G cX10_no 1 "DarkSharesModel" (some .int) p s m [.ref (zad G 0)].toArray meth c := B
  have hl : lv_has ls 1 [(0, .ref (zad G 0))] := hl
  have hx := B.1
  have hb := B.2.1
  have hf := h
  unfold f_X10_no at hf
  refine lv_aload_n (pc := 0) hx hb dX10_no_0 rfl (lv_at hl 0 rfl) ?_
  refine g_X10_1 (pc := 1) B hW dX10_no_1 ?_
  refine lv_iconst (pc := 4) (v := (1 : Int32)) hx hb dX10_no_4 rfl ?_
  refine lv_dup2_11 (pc := 5) hx hb dX10_no_5 rfl rfl ?_
  refine yald (pc := 6) B hW mr1 dX10_no_6 hf (fun hf => ?_)
  refine lv_iconst (pc := 7) (v := (1 : Int32)) hx hb dX10_no_7 rfl ?_
  refine lv_iadd (pc := 8) hx hb dX10_no_8 ?_
  refine yast (pc := 9) B hW mr1 dX10_no_9 hf (fun μ1 H locs hW hf => ?_)
  refine lv_bipush (pc := 10) (v := (-3 : Int32)) hx hb dX10_no_10 rfl ?_
  exact zreti (pc := 12) B hW hf dX10_no_12
noncomputable def f_X10_full (μ : Mem) : Option (Int32 × Mem) := zck (zin (2 : Int32) 3) (zck (zin (2 : Int32) 3) (zlet (zI μ 1 ((2 : Int32)).toNatClampNeg ((μ.1 1 ((2 : Int32)).toNatClampNeg) + (1 : Int32))) (fun μ1 => some ((-4 : Int32), μ1))))
set_option maxRecDepth 100000 in
theorem c_X10_full {G : ZG} {l : Launch} {μ : Mem} {r : Int32} {μ' : Mem} (h : f_X10_full μ = some (r, μ')) : zC ZM G l yX10_full cX10_full 1 (some .int) 1 [.ref (zad G 0)] μ (some (.int r)) μ' := by
  refine zC.mk (by decide +kernel) (Nat.le_of_ble_eq_true rfl) ?_
  intro p e s m below meth c ls B hl hW
  have B : zB ZM G cX10_full 1 "DarkSharesModel" (some .int) p s m [.ref (zad G 0)].toArray meth c := B
  have hl : lv_has ls 1 [(0, .ref (zad G 0))] := hl
  have hx := B.1
  have hb := B.2.1
  have hf := h
  unfold f_X10_full at hf
  refine lv_aload_n (pc := 0) hx hb dX10_full_0 rfl (lv_at hl 0 rfl) ?_
  refine g_X10_1 (pc := 1) B hW dX10_full_1 ?_
  refine lv_iconst (pc := 4) (v := (2 : Int32)) hx hb dX10_full_4 rfl ?_
  refine lv_dup2_11 (pc := 5) hx hb dX10_full_5 rfl rfl ?_
  refine yald (pc := 6) B hW mr1 dX10_full_6 hf (fun hf => ?_)
  refine lv_iconst (pc := 7) (v := (1 : Int32)) hx hb dX10_full_7 rfl ?_
  refine lv_iadd (pc := 8) hx hb dX10_full_8 ?_
  refine yast (pc := 9) B hW mr1 dX10_full_9 hf (fun μ1 H locs hW hf => ?_)
  refine lv_bipush (pc := 10) (v := (-4 : Int32)) hx hb dX10_full_10 rfl ?_
  exact zreti (pc := 12) B hW hf dX10_full_12
noncomputable def f_X10_in (x0 : Int32) (x1 : Int32) (x2 : Int32) (μ : Mem) : Option (Int32 × Mem) := (if x0 < x1 then some ((0 : Int32), μ) else (if x2 < x0 then some ((0 : Int32), μ) else some ((1 : Int32), μ)))
set_option maxRecDepth 100000 in
theorem c_X10_in {G : ZG} {l : Launch} {x0 : Int32} {x1 : Int32} {x2 : Int32} {μ : Mem} {r : Int32} {μ' : Mem} (h : f_X10_in x0 x1 x2 μ = some (r, μ')) : zC ZM G l yX10_in cX10_in 3 (some .boolean) 1 [.int x0, .int x1, .int x2] μ (some (.int r)) μ' := by
  refine zC.mk (by decide +kernel) (Nat.le_of_ble_eq_true rfl) ?_
  intro p e s m below meth c ls B hl hW
  have B : zB ZM G cX10_in 3 "DarkSharesModel" (some .boolean) p s m [.int x0, .int x1, .int x2].toArray meth c := B
  have hl : lv_has ls 3 [(0, .int x0), (1, .int x1), (2, .int x2)] := hl
  have hx := B.1
  have hb := B.2.1
  have hf := h
  unfold f_X10_in at hf
  refine lv_iload_n (pc := 0) hx hb dX10_in_0 rfl (lv_at hl 0 rfl) ?_
  refine lv_iload_n (pc := 1) hx hb dX10_in_1 rfl (lv_at hl 1 rfl) ?_
  refine yic_lt (pc := 2) (tgt := 14) B dX10_in_2 (by decide) hf (fun hf => ?_) (fun hf => ?_)
  · refine lv_iconst (pc := 14) (v := (0 : Int32)) hx hb dX10_in_14 rfl ?_
    exact zretz (pc := 15) B hW rfl hf dX10_in_15
  · refine lv_iload_n (pc := 5) hx hb dX10_in_5 rfl (lv_at hl 0 rfl) ?_
    refine lv_iload_n (pc := 6) hx hb dX10_in_6 rfl (lv_at hl 2 rfl) ?_
    refine yic_gt (pc := 7) (tgt := 14) B dX10_in_7 (by decide) hf (fun hf => ?_) (fun hf => ?_)
    · refine lv_iconst (pc := 14) (v := (0 : Int32)) hx hb dX10_in_14 rfl ?_
      exact zretz (pc := 15) B hW rfl hf dX10_in_15
    · refine lv_iconst (pc := 10) (v := (1 : Int32)) hx hb dX10_in_10 rfl ?_
      refine lv_goto (pc := 11) (tgt := 15) hx hb dX10_in_11 (by decide) ?_
      exact zretz (pc := 15) B hW rfl hf dX10_in_15
noncomputable def f_X10_has (x0 : Int32) (x1 : Int32) (μ : Mem) : Option (Int32 × Mem) := (if ((x0 >>> (x1 &&& 31)) &&& (1 : Int32)) = (1 : Int32) then some ((1 : Int32), μ) else some ((0 : Int32), μ))
set_option maxRecDepth 100000 in
theorem c_X10_has {G : ZG} {l : Launch} {x0 : Int32} {x1 : Int32} {μ : Mem} {r : Int32} {μ' : Mem} (h : f_X10_has x0 x1 μ = some (r, μ')) : zC ZM G l yX10_has cX10_has 2 (some .boolean) 1 [.int x0, .int x1] μ (some (.int r)) μ' := by
  refine zC.mk (by decide +kernel) (Nat.le_of_ble_eq_true rfl) ?_
  intro p e s m below meth c ls B hl hW
  have B : zB ZM G cX10_has 2 "DarkSharesModel" (some .boolean) p s m [.int x0, .int x1].toArray meth c := B
  have hl : lv_has ls 2 [(0, .int x0), (1, .int x1)] := hl
  have hx := B.1
  have hb := B.2.1
  have hf := h
  unfold f_X10_has at hf
  refine lv_iload_n (pc := 0) hx hb dX10_has_0 rfl (lv_at hl 0 rfl) ?_
  refine lv_iload_n (pc := 1) hx hb dX10_has_1 rfl (lv_at hl 1 rfl) ?_
  refine lv_ishr (pc := 2) hx hb dX10_has_2 ?_
  refine lv_iconst (pc := 3) (v := (1 : Int32)) hx hb dX10_has_3 rfl ?_
  refine lv_iand (pc := 4) hx hb dX10_has_4 ?_
  refine lv_iconst (pc := 5) (v := (1 : Int32)) hx hb dX10_has_5 rfl ?_
  refine yic_ne (pc := 6) (tgt := 13) B dX10_has_6 (by decide) hf (fun hf => ?_) (fun hf => ?_)
  · refine lv_iconst (pc := 13) (v := (0 : Int32)) hx hb dX10_has_13 rfl ?_
    exact zretz (pc := 14) B hW rfl hf dX10_has_14
  · refine lv_iconst (pc := 9) (v := (1 : Int32)) hx hb dX10_has_9 rfl ?_
    refine lv_goto (pc := 10) (tgt := 14) hx hb dX10_has_10 (by decide) ?_
    exact zretz (pc := 14) B hW rfl hf dX10_has_14
noncomputable def f_X10_bits_4 : Nat → Int32 → Int32 → Int32 → Mem → Option (Int32 × Mem)
  | 0, _, _, _, _ => none
  | n + 1, x0, x1, x2, μ => (if (12 : Int32) ≤ x2 then some (x1, μ) else f_X10_bits_4 n x0 (x1 + ((x0 >>> (x2 &&& 31)) &&& (1 : Int32))) (x2 + (1 : Int32)) μ)
set_option maxRecDepth 100000 in
theorem t_X10_bits_4 {G : ZG} {p : Program} {l : Launch} {e : Env} {s : State} {m : MethodId} {args : Array Value} {below : List Frame} {meth : Method} {c : Code} (B : zB ZM G cX10_bits 3 "DarkSharesModel" (some .int) p s m args meth c) : ∀ (n : Nat) {x0 : Int32} {x1 : Int32} {x2 : Int32} {μ : Mem} {H : Heap} {locs : List Loc} {ls : Array Slot} {r : Int32} {μ' : Mem}, lv_has ls 3 [(0, .int x0), (1, .int x1), (2, .int x2)] → zW ZM G s H locs μ → f_X10_bits_4 n x0 x1 x2 μ = some (r, μ') → W p l e (zR 1) s m args below meth c H locs 0 0 (MQ below (zQ ZM G (some (.int r)) μ') args s 0 0 (zAd ZM G)) (F0 m 4 ls []) := by
  have hx := B.1
  have hb := B.2.1
  intro n
  induction n with
  | zero => intro _ _ _ _ _ _ _ _ _ hl hW hf; cases hf
  | succ n ih =>
    intro x0 x1 x2 μ H locs ls r μ' hl hW hf
    rw [f_X10_bits_4] at hf
    refine lv_iload_n (pc := 4) hx hb dX10_bits_4 rfl (lv_at hl 2 rfl) ?_
    refine lv_bipush (pc := 5) (v := (12 : Int32)) hx hb dX10_bits_5 rfl ?_
    refine yic_ge (pc := 7) (tgt := 24) B dX10_bits_7 (by decide) hf (fun hf => ?_) (fun hf => ?_)
    · refine lv_iload_n (pc := 24) hx hb dX10_bits_24 rfl (lv_at hl 1 rfl) ?_
      exact zreti (pc := 25) B hW hf dX10_bits_25
    · refine lv_iload_n (pc := 10) hx hb dX10_bits_10 rfl (lv_at hl 1 rfl) ?_
      refine lv_iload_n (pc := 11) hx hb dX10_bits_11 rfl (lv_at hl 0 rfl) ?_
      refine lv_iload_n (pc := 12) hx hb dX10_bits_12 rfl (lv_at hl 2 rfl) ?_
      refine lv_ishr (pc := 13) hx hb dX10_bits_13 ?_
      refine lv_iconst (pc := 14) (v := (1 : Int32)) hx hb dX10_bits_14 rfl ?_
      refine lv_iand (pc := 15) hx hb dX10_bits_15 ?_
      refine lv_iadd (pc := 16) hx hb dX10_bits_16 ?_
      refine lv_istore_n (pc := 17) (lv' := [(1, .int (x1 + ((x0 >>> (x2 &&& 31)) &&& (1 : Int32)))), (0, .int x0), (2, .int x2)]) hx hb dX10_bits_17 rfl hl (by decide) rfl (fun ls hl => ?_)
      refine lv_iinc (pc := 18) (v := (x2 + (1 : Int32))) (lv' := [(2, .int (x2 + (1 : Int32))), (1, .int (x1 + ((x0 >>> (x2 &&& 31)) &&& (1 : Int32)))), (0, .int x0)]) hx hb dX10_bits_18 hl (k := 2) rfl rfl (by decide) rfl (fun ls hl => ?_)
      refine lv_goto (pc := 21) (tgt := 4) hx hb dX10_bits_21 (by decide) ?_
      exact ih (lv_sub hl [2, 1, 0] rfl) hW hf
noncomputable def f_X10_bits (x0 : Int32) (μ : Mem) : Option (Int32 × Mem) := f_X10_bits_4 zFU x0 (0 : Int32) (0 : Int32) μ
set_option maxRecDepth 100000 in
theorem c_X10_bits {G : ZG} {l : Launch} {x0 : Int32} {μ : Mem} {r : Int32} {μ' : Mem} (h : f_X10_bits x0 μ = some (r, μ')) : zC ZM G l yX10_bits cX10_bits 3 (some .int) 1 [.int x0] μ (some (.int r)) μ' := by
  refine zC.mk (by decide +kernel) (Nat.le_of_ble_eq_true rfl) ?_
  intro p e s m below meth c ls B hl hW
  have B : zB ZM G cX10_bits 3 "DarkSharesModel" (some .int) p s m [.int x0].toArray meth c := B
  have hl : lv_has ls 3 [(0, .int x0)] := hl
  have hx := B.1
  have hb := B.2.1
  have hf := h
  unfold f_X10_bits at hf
  refine lv_iconst (pc := 0) (v := (0 : Int32)) hx hb dX10_bits_0 rfl ?_
  refine lv_istore_n (pc := 1) (lv' := [(1, .int (0 : Int32)), (0, .int x0)]) hx hb dX10_bits_1 rfl hl (by decide) rfl (fun ls hl => ?_)
  refine lv_iconst (pc := 2) (v := (0 : Int32)) hx hb dX10_bits_2 rfl ?_
  refine lv_istore_n (pc := 3) (lv' := [(2, .int (0 : Int32)), (1, .int (0 : Int32)), (0, .int x0)]) hx hb dX10_bits_3 rfl hl (by decide) rfl (fun ls hl => ?_)
  exact t_X10_bits_4 B zFU (lv_sub hl [2, 1, 0] rfl) hW hf
noncomputable def f_X10_begin_17 : Nat → Int32 → Mem → Option (Unit × Mem)
  | 0, _, _ => none
  | n + 1, x1, μ => (if (12 : Int32) ≤ x1 then some ((), μ) else zck (zin x1 12) (zlet (zI μ 5 (x1).toNatClampNeg (-1 : Int32)) (fun μ1 => f_X10_begin_17 n (x1 + (1 : Int32)) μ1)))
set_option maxRecDepth 100000 in
theorem t_X10_begin_17 {G : ZG} {p : Program} {l : Launch} {e : Env} {s : State} {m : MethodId} {args : Array Value} {below : List Frame} {meth : Method} {c : Code} (B : zB ZM G cX10_begin 2 "DarkSharesModel" none p s m args meth c) : ∀ (n : Nat) {x1 : Int32} {μ : Mem} {H : Heap} {locs : List Loc} {ls : Array Slot} {r : Unit} {μ' : Mem}, lv_has ls 2 [(0, .ref (zad G 0)), (1, .int x1)] → zW ZM G s H locs μ → f_X10_begin_17 n x1 μ = some (r, μ') → W p l e (zR 1) s m args below meth c H locs 0 0 (MQ below (zQ ZM G none μ') args s 0 0 (zAd ZM G)) (F0 m 17 ls []) := by
  have hx := B.1
  have hb := B.2.1
  intro n
  induction n with
  | zero => intro _ _ _ _ _ _ _ hl hW hf; cases hf
  | succ n ih =>
    intro x1 μ H locs ls r μ' hl hW hf
    rw [f_X10_begin_17] at hf
    refine lv_iload_n (pc := 17) hx hb dX10_begin_17 rfl (lv_at hl 1 rfl) ?_
    refine lv_bipush (pc := 18) (v := (12 : Int32)) hx hb dX10_begin_18 rfl ?_
    refine yic_ge (pc := 20) (tgt := 36) B dX10_begin_20 (by decide) hf (fun hf => ?_) (fun hf => ?_)
    · exact zretv (pc := 36) B hW hf dX10_begin_36
    · refine lv_aload_n (pc := 23) hx hb dX10_begin_23 rfl (lv_at hl 0 rfl) ?_
      refine g_X10_22 (pc := 24) B hW dX10_begin_24 ?_
      refine lv_iload_n (pc := 27) hx hb dX10_begin_27 rfl (lv_at hl 1 rfl) ?_
      refine lv_iconst (pc := 28) (v := (-1 : Int32)) hx hb dX10_begin_28 rfl ?_
      refine yast (pc := 29) B hW mr5 dX10_begin_29 hf (fun μ1 H locs hW hf => ?_)
      refine lv_iinc (pc := 30) (v := (x1 + (1 : Int32))) (lv' := [(1, .int (x1 + (1 : Int32))), (0, .ref (zad G 0))]) hx hb dX10_begin_30 hl (k := 1) rfl rfl (by decide) rfl (fun ls hl => ?_)
      refine lv_goto (pc := 33) (tgt := 17) hx hb dX10_begin_33 (by decide) ?_
      exact ih (lv_sub hl [1, 0] rfl) hW hf
noncomputable def f_X10_begin (μ : Mem) : Option (Unit × Mem) := zlet (zI μ 0 1 (0 : Int32)) (fun μ1 => zlet (zI μ1 0 2 (0 : Int32)) (fun μ2 => zlet (zI μ2 0 19 (0 : Int32)) (fun μ3 => f_X10_begin_17 zFU (0 : Int32) μ3)))
set_option maxRecDepth 100000 in
theorem c_X10_begin {G : ZG} {l : Launch} {μ : Mem} {r : Unit} {μ' : Mem} (h : f_X10_begin μ = some (r, μ')) : zC ZM G l yX10_begin cX10_begin 2 none 1 [.ref (zad G 0)] μ none μ' := by
  refine zC.mk (by decide +kernel) (Nat.le_of_ble_eq_true rfl) ?_
  intro p e s m below meth c ls B hl hW
  have B : zB ZM G cX10_begin 2 "DarkSharesModel" none p s m [.ref (zad G 0)].toArray meth c := B
  have hl : lv_has ls 2 [(0, .ref (zad G 0))] := hl
  have hx := B.1
  have hb := B.2.1
  have hf := h
  unfold f_X10_begin at hf
  refine lv_aload_n (pc := 0) hx hb dX10_begin_0 rfl (lv_at hl 0 rfl) ?_
  refine lv_iconst (pc := 1) (v := (0 : Int32)) hx hb dX10_begin_1 rfl ?_
  refine p_X10_71 (pc := 2) B hW dX10_begin_2 hf (fun μ1 H locs hW hf => ?_)
  refine lv_aload_n (pc := 5) hx hb dX10_begin_5 rfl (lv_at hl 0 rfl) ?_
  refine lv_iconst (pc := 6) (v := (0 : Int32)) hx hb dX10_begin_6 rfl ?_
  refine p_X10_75 (pc := 7) B hW dX10_begin_7 hf (fun μ2 H locs hW hf => ?_)
  refine lv_aload_n (pc := 10) hx hb dX10_begin_10 rfl (lv_at hl 0 rfl) ?_
  refine lv_iconst (pc := 11) (v := (0 : Int32)) hx hb dX10_begin_11 rfl ?_
  refine p_X10_78 (pc := 12) B hW dX10_begin_12 hf (fun μ3 H locs hW hf => ?_)
  refine lv_iconst (pc := 15) (v := (0 : Int32)) hx hb dX10_begin_15 rfl ?_
  refine lv_istore_n (pc := 16) (lv' := [(1, .int (0 : Int32)), (0, .ref (zad G 0))]) hx hb dX10_begin_16 rfl hl (by decide) rfl (fun ls hl => ?_)
  exact t_X10_begin_17 B zFU (lv_sub hl [1, 0] rfl) hW hf
noncomputable def f_X10_isBoy (x1 : Int32) (μ : Mem) : Option (Int32 × Mem) := zbind (f_X10_in x1 (0 : Int32) ((μ.1 0 1) - (1 : Int32)) μ) (fun r2 μ1 => zck (zbo r2) (some (r2, μ1)))
set_option maxRecDepth 100000 in
theorem c_X10_isBoy {G : ZG} {l : Launch} {x1 : Int32} {μ : Mem} {r : Int32} {μ' : Mem} (h : f_X10_isBoy x1 μ = some (r, μ')) : zC ZM G l yX10_isBoy cX10_isBoy 2 (some .boolean) 2 [.ref (zad G 0), .int x1] μ (some (.int r)) μ' := by
  refine zC.mk (by decide +kernel) (Nat.le_of_ble_eq_true rfl) ?_
  intro p e s m below meth c ls B hl hW
  have B : zB ZM G cX10_isBoy 2 "DarkSharesModel" (some .boolean) p s m [.ref (zad G 0), .int x1].toArray meth c := B
  have hl : lv_has ls 2 [(0, .ref (zad G 0)), (1, .int x1)] := hl
  have hx := B.1
  have hb := B.2.1
  have hf := h
  unfold f_X10_isBoy at hf
  refine lv_iload_n (pc := 0) hx hb dX10_isBoy_0 rfl (lv_at hl 1 rfl) ?_
  refine lv_iconst (pc := 1) (v := (0 : Int32)) hx hb dX10_isBoy_1 rfl ?_
  refine lv_aload_n (pc := 2) hx hb dX10_isBoy_2 rfl (lv_at hl 0 rfl) ?_
  refine g_X10_71 (pc := 3) B hW dX10_isBoy_3 ?_
  refine lv_iconst (pc := 6) (v := (1 : Int32)) hx hb dX10_isBoy_6 rfl ?_
  refine lv_isub (pc := 7) hx hb dX10_isBoy_7 ?_
  refine s_X10_81 (pc := 8) B hW hl.1 (by decide) (zle8 rfl) dX10_isBoy_8 (fun _ _ h => c_X10_in h) hf (fun r2 μ1 H locs hW hf => ?_)
  exact yretb (pc := 11) B hW hf dX10_isBoy_11
noncomputable def f_X10_isCell (x0 : Int32) (μ : Mem) : Option (Int32 × Mem) := zbind (f_X10_in x0 (0 : Int32) (11 : Int32) μ) (fun r2 μ1 => zck (zbo r2) (some (r2, μ1)))
set_option maxRecDepth 100000 in
theorem c_X10_isCell {G : ZG} {l : Launch} {x0 : Int32} {μ : Mem} {r : Int32} {μ' : Mem} (h : f_X10_isCell x0 μ = some (r, μ')) : zC ZM G l yX10_isCell cX10_isCell 1 (some .boolean) 2 [.int x0] μ (some (.int r)) μ' := by
  refine zC.mk (by decide +kernel) (Nat.le_of_ble_eq_true rfl) ?_
  intro p e s m below meth c ls B hl hW
  have B : zB ZM G cX10_isCell 1 "DarkSharesModel" (some .boolean) p s m [.int x0].toArray meth c := B
  have hl : lv_has ls 1 [(0, .int x0)] := hl
  have hx := B.1
  have hb := B.2.1
  have hf := h
  unfold f_X10_isCell at hf
  refine lv_iload_n (pc := 0) hx hb dX10_isCell_0 rfl (lv_at hl 0 rfl) ?_
  refine lv_iconst (pc := 1) (v := (0 : Int32)) hx hb dX10_isCell_1 rfl ?_
  refine lv_bipush (pc := 2) (v := (11 : Int32)) hx hb dX10_isCell_2 rfl ?_
  refine s_X10_81 (pc := 4) B hW hl.1 (by decide) (zle8 rfl) dX10_isCell_4 (fun _ _ h => c_X10_in h) hf (fun r2 μ1 H locs hW hf => ?_)
  exact yretb (pc := 7) B hW hf dX10_isCell_7
noncomputable def f_X10_night (μ : Mem) : Option (Int32 × Mem) := zbind (f_X10_begin μ) (fun _ μ1 => some ((μ.1 0 1), μ1))
set_option maxRecDepth 100000 in
theorem c_X10_night {G : ZG} {l : Launch} {μ : Mem} {r : Int32} {μ' : Mem} (h : f_X10_night μ = some (r, μ')) : zC ZM G l yX10_night cX10_night 2 (some .int) 2 [.ref (zad G 0)] μ (some (.int r)) μ' := by
  refine zC.mk (by decide +kernel) (Nat.le_of_ble_eq_true rfl) ?_
  intro p e s m below meth c ls B hl hW
  have B : zB ZM G cX10_night 2 "DarkSharesModel" (some .int) p s m [.ref (zad G 0)].toArray meth c := B
  have hl : lv_has ls 2 [(0, .ref (zad G 0))] := hl
  have hx := B.1
  have hb := B.2.1
  have hf := h
  unfold f_X10_night at hf
  refine lv_aload_n (pc := 0) hx hb dX10_night_0 rfl (lv_at hl 0 rfl) ?_
  refine g_X10_71 (pc := 1) B hW dX10_night_1 ?_
  refine lv_istore_n (pc := 4) (lv' := [(1, .int (μ.1 0 1)), (0, .ref (zad G 0))]) hx hb dX10_night_4 rfl hl (by decide) rfl (fun ls hl => ?_)
  refine lv_aload_n (pc := 5) hx hb dX10_night_5 rfl (lv_at hl 1 rfl) ?_
  refine s_X10_68 (pc := 6) B hW hl.1 (by decide) (zle8 rfl) dX10_night_6 (fun _ _ h => c_X10_begin h) hf (fun _ μ1 H locs hW hf => ?_)
  refine lv_iload_n (pc := 9) hx hb dX10_night_9 rfl (lv_at hl 0 rfl) ?_
  exact zreti (pc := 10) B hW hf dX10_night_10
noncomputable def f_X10_addBoy (x1 : Int32) (x2 : Int32) (x3 : Int32) (μ : Mem) : Option (Int32 × Mem) := zck (zin (μ.1 0 1) 5) (zlet (zI μ 2 ((μ.1 0 1)).toNatClampNeg x1) (fun μ1 => zck (zin (μ1.1 0 1) 5) (zlet (zI μ1 3 ((μ1.1 0 1)).toNatClampNeg x2) (fun μ2 => zck (zin (μ2.1 0 1) 5) (zlet (zI μ2 4 ((μ2.1 0 1)).toNatClampNeg x3) (fun μ3 => zlet (zI μ3 0 1 ((μ3.1 0 1) + (1 : Int32))) (fun μ4 => zlet (zI μ4 0 19 (0 : Int32)) (fun μ5 => some (((μ5.1 0 1) - (1 : Int32)), μ5)))))))))
set_option maxRecDepth 100000 in
theorem c_X10_addBoy {G : ZG} {l : Launch} {x1 : Int32} {x2 : Int32} {x3 : Int32} {μ : Mem} {r : Int32} {μ' : Mem} (h : f_X10_addBoy x1 x2 x3 μ = some (r, μ')) : zC ZM G l yX10_addBoy cX10_addBoy 4 (some .int) 1 [.ref (zad G 0), .int x1, .int x2, .int x3] μ (some (.int r)) μ' := by
  refine zC.mk (by decide +kernel) (Nat.le_of_ble_eq_true rfl) ?_
  intro p e s m below meth c ls B hl hW
  have B : zB ZM G cX10_addBoy 4 "DarkSharesModel" (some .int) p s m [.ref (zad G 0), .int x1, .int x2, .int x3].toArray meth c := B
  have hl : lv_has ls 4 [(0, .ref (zad G 0)), (1, .int x1), (2, .int x2), (3, .int x3)] := hl
  have hx := B.1
  have hb := B.2.1
  have hf := h
  unfold f_X10_addBoy at hf
  refine lv_aload_n (pc := 0) hx hb dX10_addBoy_0 rfl (lv_at hl 0 rfl) ?_
  refine g_X10_13 (pc := 1) B hW dX10_addBoy_1 ?_
  refine lv_aload_n (pc := 4) hx hb dX10_addBoy_4 rfl (lv_at hl 0 rfl) ?_
  refine g_X10_71 (pc := 5) B hW dX10_addBoy_5 ?_
  refine lv_iload_n (pc := 8) hx hb dX10_addBoy_8 rfl (lv_at hl 1 rfl) ?_
  refine yast (pc := 9) B hW mr2 dX10_addBoy_9 hf (fun μ1 H locs hW hf => ?_)
  refine lv_aload_n (pc := 10) hx hb dX10_addBoy_10 rfl (lv_at hl 0 rfl) ?_
  refine g_X10_16 (pc := 11) B hW dX10_addBoy_11 ?_
  refine lv_aload_n (pc := 14) hx hb dX10_addBoy_14 rfl (lv_at hl 0 rfl) ?_
  refine g_X10_71 (pc := 15) B hW dX10_addBoy_15 ?_
  refine lv_iload_n (pc := 18) hx hb dX10_addBoy_18 rfl (lv_at hl 2 rfl) ?_
  refine yast (pc := 19) B hW mr3 dX10_addBoy_19 hf (fun μ2 H locs hW hf => ?_)
  refine lv_aload_n (pc := 20) hx hb dX10_addBoy_20 rfl (lv_at hl 0 rfl) ?_
  refine g_X10_19 (pc := 21) B hW dX10_addBoy_21 ?_
  refine lv_aload_n (pc := 24) hx hb dX10_addBoy_24 rfl (lv_at hl 0 rfl) ?_
  refine g_X10_71 (pc := 25) B hW dX10_addBoy_25 ?_
  refine lv_iload_n (pc := 28) hx hb dX10_addBoy_28 rfl (lv_at hl 3 rfl) ?_
  refine yast (pc := 29) B hW mr4 dX10_addBoy_29 hf (fun μ3 H locs hW hf => ?_)
  refine lv_aload_n (pc := 30) hx hb dX10_addBoy_30 rfl (lv_at hl 0 rfl) ?_
  refine lv_dup (pc := 31) hx hb dX10_addBoy_31 rfl ?_
  refine g_X10_71 (pc := 32) B hW dX10_addBoy_32 ?_
  refine lv_iconst (pc := 35) (v := (1 : Int32)) hx hb dX10_addBoy_35 rfl ?_
  refine lv_iadd (pc := 36) hx hb dX10_addBoy_36 ?_
  refine p_X10_71 (pc := 37) B hW dX10_addBoy_37 hf (fun μ4 H locs hW hf => ?_)
  refine lv_aload_n (pc := 40) hx hb dX10_addBoy_40 rfl (lv_at hl 0 rfl) ?_
  refine lv_iconst (pc := 41) (v := (0 : Int32)) hx hb dX10_addBoy_41 rfl ?_
  refine p_X10_78 (pc := 42) B hW dX10_addBoy_42 hf (fun μ5 H locs hW hf => ?_)
  refine lv_aload_n (pc := 45) hx hb dX10_addBoy_45 rfl (lv_at hl 0 rfl) ?_
  refine g_X10_71 (pc := 46) B hW dX10_addBoy_46 ?_
  refine lv_iconst (pc := 49) (v := (1 : Int32)) hx hb dX10_addBoy_49 rfl ?_
  refine lv_isub (pc := 50) hx hb dX10_addBoy_50 ?_
  exact zreti (pc := 51) B hW hf dX10_addBoy_51
noncomputable def f_X10_boy (x1 : Int32) (x2 : Int32) (x3 : Int32) (μ : Mem) : Option (Int32 × Mem) := zbind (f_X10_in x1 (0 : Int32) (5 : Int32) μ) (fun r2 μ1 => (if r2 = 0 then zbind (f_X10_bad μ1) (fun r4 μ3 => some (r4, μ3)) else zbind (f_X10_in x2 (0 : Int32) (12 : Int32) μ1) (fun r6 μ5 => (if r6 = 0 then zbind (f_X10_bad μ5) (fun r8 μ7 => some (r8, μ7)) else zbind (f_X10_in x3 (0 : Int32) (40 : Int32) μ5) (fun r10 μ9 => (if r10 = 0 then zbind (f_X10_bad μ9) (fun r16 μ15 => some (r16, μ15)) else (if (μ9.1 0 1) = (5 : Int32) then zbind (f_X10_full μ9) (fun r14 μ13 => some (r14, μ13)) else zbind (f_X10_addBoy x1 x2 x3 μ9) (fun r12 μ11 => some (r12, μ11)))))))))
set_option maxRecDepth 100000 in
theorem c_X10_boy {G : ZG} {l : Launch} {x1 : Int32} {x2 : Int32} {x3 : Int32} {μ : Mem} {r : Int32} {μ' : Mem} (h : f_X10_boy x1 x2 x3 μ = some (r, μ')) : zC ZM G l yX10_boy cX10_boy 4 (some .int) 2 [.ref (zad G 0), .int x1, .int x2, .int x3] μ (some (.int r)) μ' := by
  refine zC.mk (by decide +kernel) (Nat.le_of_ble_eq_true rfl) ?_
  intro p e s m below meth c ls B hl hW
  have B : zB ZM G cX10_boy 4 "DarkSharesModel" (some .int) p s m [.ref (zad G 0), .int x1, .int x2, .int x3].toArray meth c := B
  have hl : lv_has ls 4 [(0, .ref (zad G 0)), (1, .int x1), (2, .int x2), (3, .int x3)] := hl
  have hx := B.1
  have hb := B.2.1
  have hf := h
  unfold f_X10_boy at hf
  refine lv_iload_n (pc := 0) hx hb dX10_boy_0 rfl (lv_at hl 1 rfl) ?_
  refine lv_iconst (pc := 1) (v := (0 : Int32)) hx hb dX10_boy_1 rfl ?_
  refine lv_iconst (pc := 2) (v := (5 : Int32)) hx hb dX10_boy_2 rfl ?_
  refine s_X10_81 (pc := 3) B hW hl.1 (by decide) (zle8 rfl) dX10_boy_3 (fun _ _ h => c_X10_in h) hf (fun r2 μ1 H locs hW hf => ?_)
  refine yif_eq (pc := 6) (tgt := 29) B dX10_boy_6 (by decide) hf (fun hf => ?_) (fun hf => ?_)
  · refine lv_aload_n (pc := 29) hx hb dX10_boy_29 rfl (lv_at hl 0 rfl) ?_
    refine s_X10_85 (pc := 30) B hW hl.1 (by decide) (zle8 rfl) dX10_boy_30 (fun _ _ h => c_X10_bad h) hf (fun r4 μ3 H locs hW hf => ?_)
    exact zreti (pc := 33) B hW hf dX10_boy_33
  · refine lv_iload_n (pc := 9) hx hb dX10_boy_9 rfl (lv_at hl 2 rfl) ?_
    refine lv_iconst (pc := 10) (v := (0 : Int32)) hx hb dX10_boy_10 rfl ?_
    refine lv_bipush (pc := 11) (v := (12 : Int32)) hx hb dX10_boy_11 rfl ?_
    refine s_X10_81 (pc := 13) B hW hl.1 (by decide) (zle8 rfl) dX10_boy_13 (fun _ _ h => c_X10_in h) hf (fun r6 μ5 H locs hW hf => ?_)
    refine yif_eq (pc := 16) (tgt := 29) B dX10_boy_16 (by decide) hf (fun hf => ?_) (fun hf => ?_)
    · refine lv_aload_n (pc := 29) hx hb dX10_boy_29 rfl (lv_at hl 0 rfl) ?_
      refine s_X10_85 (pc := 30) B hW hl.1 (by decide) (zle8 rfl) dX10_boy_30 (fun _ _ h => c_X10_bad h) hf (fun r8 μ7 H locs hW hf => ?_)
      exact zreti (pc := 33) B hW hf dX10_boy_33
    · refine lv_iload_n (pc := 19) hx hb dX10_boy_19 rfl (lv_at hl 3 rfl) ?_
      refine lv_iconst (pc := 20) (v := (0 : Int32)) hx hb dX10_boy_20 rfl ?_
      refine lv_bipush (pc := 21) (v := (40 : Int32)) hx hb dX10_boy_21 rfl ?_
      refine s_X10_81 (pc := 23) B hW hl.1 (by decide) (zle8 rfl) dX10_boy_23 (fun _ _ h => c_X10_in h) hf (fun r10 μ9 H locs hW hf => ?_)
      refine yif_ne (pc := 26) (tgt := 34) B dX10_boy_26 (by decide) hf (fun hf => ?_) (fun hf => ?_)
      · refine lv_aload_n (pc := 34) hx hb dX10_boy_34 rfl (lv_at hl 0 rfl) ?_
        refine g_X10_71 (pc := 35) B hW dX10_boy_35 ?_
        refine lv_iconst (pc := 38) (v := (5 : Int32)) hx hb dX10_boy_38 rfl ?_
        refine yic_ne (pc := 39) (tgt := 49) B dX10_boy_39 (by decide) hf (fun hf => ?_) (fun hf => ?_)
        · refine lv_aload_n (pc := 49) hx hb dX10_boy_49 rfl (lv_at hl 0 rfl) ?_
          refine lv_iload_n (pc := 50) hx hb dX10_boy_50 rfl (lv_at hl 1 rfl) ?_
          refine lv_iload_n (pc := 51) hx hb dX10_boy_51 rfl (lv_at hl 2 rfl) ?_
          refine lv_iload_n (pc := 52) hx hb dX10_boy_52 rfl (lv_at hl 3 rfl) ?_
          refine s_X10_92 (pc := 53) B hW hl.1 (by decide) (zle8 rfl) dX10_boy_53 (fun _ _ h => c_X10_addBoy h) hf (fun r12 μ11 H locs hW hf => ?_)
          exact zreti (pc := 56) B hW hf dX10_boy_56
        · refine lv_aload_n (pc := 42) hx hb dX10_boy_42 rfl (lv_at hl 0 rfl) ?_
          refine s_X10_89 (pc := 43) B hW hl.1 (by decide) (zle8 rfl) dX10_boy_43 (fun _ _ h => c_X10_full h) hf (fun r14 μ13 H locs hW hf => ?_)
          refine lv_goto (pc := 46) (tgt := 56) hx hb dX10_boy_46 (by decide) ?_
          exact zreti (pc := 56) B hW hf dX10_boy_56
      · refine lv_aload_n (pc := 29) hx hb dX10_boy_29 rfl (lv_at hl 0 rfl) ?_
        refine s_X10_85 (pc := 30) B hW hl.1 (by decide) (zle8 rfl) dX10_boy_30 (fun _ _ h => c_X10_bad h) hf (fun r16 μ15 H locs hW hf => ?_)
        exact zreti (pc := 33) B hW hf dX10_boy_33
noncomputable def f_X10_type (x1 : Int32) (μ : Mem) : Option (Int32 × Mem) := zbind (f_X10_in x1 (0 : Int32) (127 : Int32) μ) (fun r2 μ1 => (if r2 = 0 then zbind (f_X10_bad μ1) (fun r8 μ7 => some (r8, μ7)) else (if (μ1.1 0 12) = (150 : Int32) then zbind (f_X10_full μ1) (fun r6 μ5 => some (r6, μ5)) else zck (zin (μ1.1 0 12) 150) (zlet (zI μ1 10 ((μ1.1 0 12)).toNatClampNeg x1) (fun μ3 => zlet (zI μ3 0 12 ((μ3.1 0 12) + (1 : Int32))) (fun μ4 => some ((μ4.1 0 12), μ4)))))))
set_option maxRecDepth 100000 in
theorem c_X10_type {G : ZG} {l : Launch} {x1 : Int32} {μ : Mem} {r : Int32} {μ' : Mem} (h : f_X10_type x1 μ = some (r, μ')) : zC ZM G l yX10_type cX10_type 2 (some .int) 2 [.ref (zad G 0), .int x1] μ (some (.int r)) μ' := by
  refine zC.mk (by decide +kernel) (Nat.le_of_ble_eq_true rfl) ?_
  intro p e s m below meth c ls B hl hW
  have B : zB ZM G cX10_type 2 "DarkSharesModel" (some .int) p s m [.ref (zad G 0), .int x1].toArray meth c := B
  have hl : lv_has ls 2 [(0, .ref (zad G 0)), (1, .int x1)] := hl
  have hx := B.1
  have hb := B.2.1
  have hf := h
  unfold f_X10_type at hf
  refine lv_iload_n (pc := 0) hx hb dX10_type_0 rfl (lv_at hl 1 rfl) ?_
  refine lv_iconst (pc := 1) (v := (0 : Int32)) hx hb dX10_type_1 rfl ?_
  refine lv_bipush (pc := 2) (v := (127 : Int32)) hx hb dX10_type_2 rfl ?_
  refine s_X10_81 (pc := 4) B hW hl.1 (by decide) (zle8 rfl) dX10_type_4 (fun _ _ h => c_X10_in h) hf (fun r2 μ1 H locs hW hf => ?_)
  refine yif_ne (pc := 7) (tgt := 15) B dX10_type_7 (by decide) hf (fun hf => ?_) (fun hf => ?_)
  · refine lv_aload_n (pc := 15) hx hb dX10_type_15 rfl (lv_at hl 0 rfl) ?_
    refine g_X10_96 (pc := 16) B hW dX10_type_16 ?_
    refine lv_sipush (pc := 19) (v := (150 : Int32)) hx hb dX10_type_19 rfl ?_
    refine yic_ne (pc := 22) (tgt := 30) B dX10_type_22 (by decide) hf (fun hf => ?_) (fun hf => ?_)
    · refine lv_aload_n (pc := 30) hx hb dX10_type_30 rfl (lv_at hl 0 rfl) ?_
      refine g_X10_37 (pc := 31) B hW dX10_type_31 ?_
      refine lv_aload_n (pc := 34) hx hb dX10_type_34 rfl (lv_at hl 0 rfl) ?_
      refine g_X10_96 (pc := 35) B hW dX10_type_35 ?_
      refine lv_iload_n (pc := 38) hx hb dX10_type_38 rfl (lv_at hl 1 rfl) ?_
      refine yast (pc := 39) B hW mr10 dX10_type_39 hf (fun μ3 H locs hW hf => ?_)
      refine lv_aload_n (pc := 40) hx hb dX10_type_40 rfl (lv_at hl 0 rfl) ?_
      refine lv_dup (pc := 41) hx hb dX10_type_41 rfl ?_
      refine g_X10_96 (pc := 42) B hW dX10_type_42 ?_
      refine lv_iconst (pc := 45) (v := (1 : Int32)) hx hb dX10_type_45 rfl ?_
      refine lv_iadd (pc := 46) hx hb dX10_type_46 ?_
      refine p_X10_96 (pc := 47) B hW dX10_type_47 hf (fun μ4 H locs hW hf => ?_)
      refine lv_aload_n (pc := 50) hx hb dX10_type_50 rfl (lv_at hl 0 rfl) ?_
      refine g_X10_96 (pc := 51) B hW dX10_type_51 ?_
      exact zreti (pc := 54) B hW hf dX10_type_54
    · refine lv_aload_n (pc := 25) hx hb dX10_type_25 rfl (lv_at hl 0 rfl) ?_
      refine s_X10_89 (pc := 26) B hW hl.1 (by decide) (zle8 rfl) dX10_type_26 (fun _ _ h => c_X10_full h) hf (fun r6 μ5 H locs hW hf => ?_)
      exact zreti (pc := 29) B hW hf dX10_type_29
  · refine lv_aload_n (pc := 10) hx hb dX10_type_10 rfl (lv_at hl 0 rfl) ?_
    refine s_X10_85 (pc := 11) B hW hl.1 (by decide) (zle8 rfl) dX10_type_11 (fun _ _ h => c_X10_bad h) hf (fun r8 μ7 H locs hW hf => ?_)
    exact zreti (pc := 14) B hW hf dX10_type_14
noncomputable def f_X10_clear (μ : Mem) : Option (Int32 × Mem) := zlet (zI μ 0 12 (0 : Int32)) (fun μ1 => some ((μ.1 0 12), μ1))
set_option maxRecDepth 100000 in
theorem c_X10_clear {G : ZG} {l : Launch} {μ : Mem} {r : Int32} {μ' : Mem} (h : f_X10_clear μ = some (r, μ')) : zC ZM G l yX10_clear cX10_clear 2 (some .int) 1 [.ref (zad G 0)] μ (some (.int r)) μ' := by
  refine zC.mk (by decide +kernel) (Nat.le_of_ble_eq_true rfl) ?_
  intro p e s m below meth c ls B hl hW
  have B : zB ZM G cX10_clear 2 "DarkSharesModel" (some .int) p s m [.ref (zad G 0)].toArray meth c := B
  have hl : lv_has ls 2 [(0, .ref (zad G 0))] := hl
  have hx := B.1
  have hb := B.2.1
  have hf := h
  unfold f_X10_clear at hf
  refine lv_aload_n (pc := 0) hx hb dX10_clear_0 rfl (lv_at hl 0 rfl) ?_
  refine g_X10_96 (pc := 1) B hW dX10_clear_1 ?_
  refine lv_istore_n (pc := 4) (lv' := [(1, .int (μ.1 0 12)), (0, .ref (zad G 0))]) hx hb dX10_clear_4 rfl hl (by decide) rfl (fun ls hl => ?_)
  refine lv_aload_n (pc := 5) hx hb dX10_clear_5 rfl (lv_at hl 1 rfl) ?_
  refine lv_iconst (pc := 6) (v := (0 : Int32)) hx hb dX10_clear_6 rfl ?_
  refine p_X10_96 (pc := 7) B hW dX10_clear_7 hf (fun μ1 H locs hW hf => ?_)
  refine lv_iload_n (pc := 10) hx hb dX10_clear_10 rfl (lv_at hl 0 rfl) ?_
  exact zreti (pc := 11) B hW hf dX10_clear_11
noncomputable def f_X10_here (μ : Mem) : Option (Int32 × Mem) := (if (μ.1 0 12) ≤ (μ.1 0 13) then some ((-1 : Int32), μ) else zck (zin (μ.1 0 13) 150) (some ((μ.1 10 ((μ.1 0 13)).toNatClampNeg), μ)))
set_option maxRecDepth 100000 in
theorem c_X10_here {G : ZG} {l : Launch} {μ : Mem} {r : Int32} {μ' : Mem} (h : f_X10_here μ = some (r, μ')) : zC ZM G l yX10_here cX10_here 1 (some .int) 1 [.ref (zad G 0)] μ (some (.int r)) μ' := by
  refine zC.mk (by decide +kernel) (Nat.le_of_ble_eq_true rfl) ?_
  intro p e s m below meth c ls B hl hW
  have B : zB ZM G cX10_here 1 "DarkSharesModel" (some .int) p s m [.ref (zad G 0)].toArray meth c := B
  have hl : lv_has ls 1 [(0, .ref (zad G 0))] := hl
  have hx := B.1
  have hb := B.2.1
  have hf := h
  unfold f_X10_here at hf
  refine lv_aload_n (pc := 0) hx hb dX10_here_0 rfl (lv_at hl 0 rfl) ?_
  refine g_X10_99 (pc := 1) B hW dX10_here_1 ?_
  refine lv_aload_n (pc := 4) hx hb dX10_here_4 rfl (lv_at hl 0 rfl) ?_
  refine g_X10_96 (pc := 5) B hW dX10_here_5 ?_
  refine yic_ge (pc := 8) (tgt := 23) B dX10_here_8 (by decide) hf (fun hf => ?_) (fun hf => ?_)
  · refine lv_iconst (pc := 23) (v := (-1 : Int32)) hx hb dX10_here_23 rfl ?_
    exact zreti (pc := 24) B hW hf dX10_here_24
  · refine lv_aload_n (pc := 11) hx hb dX10_here_11 rfl (lv_at hl 0 rfl) ?_
    refine g_X10_37 (pc := 12) B hW dX10_here_12 ?_
    refine lv_aload_n (pc := 15) hx hb dX10_here_15 rfl (lv_at hl 0 rfl) ?_
    refine g_X10_99 (pc := 16) B hW dX10_here_16 ?_
    refine yald (pc := 19) B hW mr10 dX10_here_19 hf (fun hf => ?_)
    refine lv_goto (pc := 20) (tgt := 24) hx hb dX10_here_20 (by decide) ?_
    exact zreti (pc := 24) B hW hf dX10_here_24
noncomputable def f_X10_skip_0 : Nat → Mem → Option (Unit × Mem)
  | 0, _ => none
  | n + 1, μ => zbind (f_X10_here μ) (fun r2 μ1 => (if r2 = (32 : Int32) then zlet (zI μ1 0 13 ((μ1.1 0 13) + (1 : Int32))) (fun μ3 => f_X10_skip_0 n μ3) else some ((), μ1)))
set_option maxRecDepth 100000 in
theorem t_X10_skip_0 {G : ZG} {p : Program} {l : Launch} {e : Env} {s : State} {m : MethodId} {args : Array Value} {below : List Frame} {meth : Method} {c : Code} (B : zB ZM G cX10_skip 1 "DarkSharesModel" none p s m args meth c) : ∀ (n : Nat) {μ : Mem} {H : Heap} {locs : List Loc} {ls : Array Slot} {r : Unit} {μ' : Mem}, lv_has ls 1 [(0, .ref (zad G 0))] → zW ZM G s H locs μ → f_X10_skip_0 n μ = some (r, μ') → W p l e (zR 2) s m args below meth c H locs 0 0 (MQ below (zQ ZM G none μ') args s 0 0 (zAd ZM G)) (F0 m 0 ls []) := by
  have hx := B.1
  have hb := B.2.1
  intro n
  induction n with
  | zero => intro _ _ _ _ _ _ hl hW hf; cases hf
  | succ n ih =>
    intro  μ H locs ls r μ' hl hW hf
    rw [f_X10_skip_0] at hf
    refine lv_aload_n (pc := 0) hx hb dX10_skip_0 rfl (lv_at hl 0 rfl) ?_
    refine s_X10_102 (pc := 1) B hW hl.1 (by decide) (zle8 rfl) dX10_skip_1 (fun _ _ h => c_X10_here h) hf (fun r2 μ1 H locs hW hf => ?_)
    refine lv_bipush (pc := 4) (v := (32 : Int32)) hx hb dX10_skip_4 rfl ?_
    refine yic_ne (pc := 6) (tgt := 22) B dX10_skip_6 (by decide) hf (fun hf => ?_) (fun hf => ?_)
    · exact zretv (pc := 22) B hW hf dX10_skip_22
    · refine lv_aload_n (pc := 9) hx hb dX10_skip_9 rfl (lv_at hl 0 rfl) ?_
      refine lv_dup (pc := 10) hx hb dX10_skip_10 rfl ?_
      refine g_X10_99 (pc := 11) B hW dX10_skip_11 ?_
      refine lv_iconst (pc := 14) (v := (1 : Int32)) hx hb dX10_skip_14 rfl ?_
      refine lv_iadd (pc := 15) hx hb dX10_skip_15 ?_
      refine p_X10_99 (pc := 16) B hW dX10_skip_16 hf (fun μ3 H locs hW hf => ?_)
      refine lv_goto (pc := 19) (tgt := 0) hx hb dX10_skip_19 (by decide) ?_
      exact ih (lv_sub hl [0] rfl) hW hf
noncomputable def f_X10_skip (μ : Mem) : Option (Unit × Mem) := f_X10_skip_0 zFU μ
set_option maxRecDepth 100000 in
theorem c_X10_skip {G : ZG} {l : Launch} {μ : Mem} {r : Unit} {μ' : Mem} (h : f_X10_skip μ = some (r, μ')) : zC ZM G l yX10_skip cX10_skip 1 none 2 [.ref (zad G 0)] μ none μ' := by
  refine zC.mk (by decide +kernel) (Nat.le_of_ble_eq_true rfl) ?_
  intro p e s m below meth c ls B hl hW
  have B : zB ZM G cX10_skip 1 "DarkSharesModel" none p s m [.ref (zad G 0)].toArray meth c := B
  have hl : lv_has ls 1 [(0, .ref (zad G 0))] := hl
  have hx := B.1
  have hb := B.2.1
  have hf := h
  unfold f_X10_skip at hf
  exact t_X10_skip_0 B zFU (lv_sub hl [0] rfl) hW hf
noncomputable def f_X10_isLetter (x0 : Int32) (μ : Mem) : Option (Int32 × Mem) := zbind (f_X10_in x0 (97 : Int32) (122 : Int32) μ) (fun r2 μ1 => zck (zbo r2) (some (r2, μ1)))
set_option maxRecDepth 100000 in
theorem c_X10_isLetter {G : ZG} {l : Launch} {x0 : Int32} {μ : Mem} {r : Int32} {μ' : Mem} (h : f_X10_isLetter x0 μ = some (r, μ')) : zC ZM G l yX10_isLetter cX10_isLetter 1 (some .boolean) 2 [.int x0] μ (some (.int r)) μ' := by
  refine zC.mk (by decide +kernel) (Nat.le_of_ble_eq_true rfl) ?_
  intro p e s m below meth c ls B hl hW
  have B : zB ZM G cX10_isLetter 1 "DarkSharesModel" (some .boolean) p s m [.int x0].toArray meth c := B
  have hl : lv_has ls 1 [(0, .int x0)] := hl
  have hx := B.1
  have hb := B.2.1
  have hf := h
  unfold f_X10_isLetter at hf
  refine lv_iload_n (pc := 0) hx hb dX10_isLetter_0 rfl (lv_at hl 0 rfl) ?_
  refine lv_bipush (pc := 1) (v := (97 : Int32)) hx hb dX10_isLetter_1 rfl ?_
  refine lv_bipush (pc := 3) (v := (122 : Int32)) hx hb dX10_isLetter_3 rfl ?_
  refine s_X10_81 (pc := 5) B hW hl.1 (by decide) (zle8 rfl) dX10_isLetter_5 (fun _ _ h => c_X10_in h) hf (fun r2 μ1 H locs hW hf => ?_)
  exact yretb (pc := 8) B hW hf dX10_isLetter_8
noncomputable def f_X10_isFigure (x0 : Int32) (μ : Mem) : Option (Int32 × Mem) := zbind (f_X10_in x0 (48 : Int32) (57 : Int32) μ) (fun r2 μ1 => zck (zbo r2) (some (r2, μ1)))
set_option maxRecDepth 100000 in
theorem c_X10_isFigure {G : ZG} {l : Launch} {x0 : Int32} {μ : Mem} {r : Int32} {μ' : Mem} (h : f_X10_isFigure x0 μ = some (r, μ')) : zC ZM G l yX10_isFigure cX10_isFigure 1 (some .boolean) 2 [.int x0] μ (some (.int r)) μ' := by
  refine zC.mk (by decide +kernel) (Nat.le_of_ble_eq_true rfl) ?_
  intro p e s m below meth c ls B hl hW
  have B : zB ZM G cX10_isFigure 1 "DarkSharesModel" (some .boolean) p s m [.int x0].toArray meth c := B
  have hl : lv_has ls 1 [(0, .int x0)] := hl
  have hx := B.1
  have hb := B.2.1
  have hf := h
  unfold f_X10_isFigure at hf
  refine lv_iload_n (pc := 0) hx hb dX10_isFigure_0 rfl (lv_at hl 0 rfl) ?_
  refine lv_bipush (pc := 1) (v := (48 : Int32)) hx hb dX10_isFigure_1 rfl ?_
  refine lv_bipush (pc := 3) (v := (57 : Int32)) hx hb dX10_isFigure_3 rfl ?_
  refine s_X10_81 (pc := 5) B hW hl.1 (by decide) (zle8 rfl) dX10_isFigure_5 (fun _ _ h => c_X10_in h) hf (fun r2 μ1 H locs hW hf => ?_)
  exact yretb (pc := 8) B hW hf dX10_isFigure_8
noncomputable def f_X10_wordSize_2 : Nat → Int32 → Mem → Option (Int32 × Mem)
  | 0, _, _ => none
  | n + 1, x1, μ => (if (μ.1 0 12) ≤ ((μ.1 0 13) + x1) then some (x1, μ) else zck (zin ((μ.1 0 13) + x1) 150) (zbind (f_X10_isLetter (μ.1 10 (((μ.1 0 13) + x1)).toNatClampNeg) μ) (fun r2 μ1 => (if r2 = 0 then some (x1, μ1) else f_X10_wordSize_2 n (x1 + (1 : Int32)) μ1))))
set_option maxRecDepth 100000 in
theorem t_X10_wordSize_2 {G : ZG} {p : Program} {l : Launch} {e : Env} {s : State} {m : MethodId} {args : Array Value} {below : List Frame} {meth : Method} {c : Code} (B : zB ZM G cX10_wordSize 2 "DarkSharesModel" (some .int) p s m args meth c) : ∀ (n : Nat) {x1 : Int32} {μ : Mem} {H : Heap} {locs : List Loc} {ls : Array Slot} {r : Int32} {μ' : Mem}, lv_has ls 2 [(0, .ref (zad G 0)), (1, .int x1)] → zW ZM G s H locs μ → f_X10_wordSize_2 n x1 μ = some (r, μ') → W p l e (zR 3) s m args below meth c H locs 0 0 (MQ below (zQ ZM G (some (.int r)) μ') args s 0 0 (zAd ZM G)) (F0 m 2 ls []) := by
  have hx := B.1
  have hb := B.2.1
  intro n
  induction n with
  | zero => intro _ _ _ _ _ _ _ hl hW hf; cases hf
  | succ n ih =>
    intro x1 μ H locs ls r μ' hl hW hf
    rw [f_X10_wordSize_2] at hf
    refine lv_aload_n (pc := 2) hx hb dX10_wordSize_2 rfl (lv_at hl 0 rfl) ?_
    refine g_X10_99 (pc := 3) B hW dX10_wordSize_3 ?_
    refine lv_iload_n (pc := 6) hx hb dX10_wordSize_6 rfl (lv_at hl 1 rfl) ?_
    refine lv_iadd (pc := 7) hx hb dX10_wordSize_7 ?_
    refine lv_aload_n (pc := 8) hx hb dX10_wordSize_8 rfl (lv_at hl 0 rfl) ?_
    refine g_X10_96 (pc := 9) B hW dX10_wordSize_9 ?_
    refine yic_ge (pc := 12) (tgt := 38) B dX10_wordSize_12 (by decide) hf (fun hf => ?_) (fun hf => ?_)
    · refine lv_iload_n (pc := 38) hx hb dX10_wordSize_38 rfl (lv_at hl 1 rfl) ?_
      exact zreti (pc := 39) B hW hf dX10_wordSize_39
    · refine lv_aload_n (pc := 15) hx hb dX10_wordSize_15 rfl (lv_at hl 0 rfl) ?_
      refine g_X10_37 (pc := 16) B hW dX10_wordSize_16 ?_
      refine lv_aload_n (pc := 19) hx hb dX10_wordSize_19 rfl (lv_at hl 0 rfl) ?_
      refine g_X10_99 (pc := 20) B hW dX10_wordSize_20 ?_
      refine lv_iload_n (pc := 23) hx hb dX10_wordSize_23 rfl (lv_at hl 1 rfl) ?_
      refine lv_iadd (pc := 24) hx hb dX10_wordSize_24 ?_
      refine yald (pc := 25) B hW mr10 dX10_wordSize_25 hf (fun hf => ?_)
      refine s_X10_105 (pc := 26) B hW hl.1 (by decide) (zle8 rfl) dX10_wordSize_26 (fun _ _ h => c_X10_isLetter h) hf (fun r2 μ1 H locs hW hf => ?_)
      refine yif_eq (pc := 29) (tgt := 38) B dX10_wordSize_29 (by decide) hf (fun hf => ?_) (fun hf => ?_)
      · refine lv_iload_n (pc := 38) hx hb dX10_wordSize_38 rfl (lv_at hl 1 rfl) ?_
        exact zreti (pc := 39) B hW hf dX10_wordSize_39
      · refine lv_iinc (pc := 32) (v := (x1 + (1 : Int32))) (lv' := [(1, .int (x1 + (1 : Int32))), (0, .ref (zad G 0))]) hx hb dX10_wordSize_32 hl (k := 1) rfl rfl (by decide) rfl (fun ls hl => ?_)
        refine lv_goto (pc := 35) (tgt := 2) hx hb dX10_wordSize_35 (by decide) ?_
        exact ih (lv_sub hl [1, 0] rfl) hW hf
noncomputable def f_X10_wordSize (μ : Mem) : Option (Int32 × Mem) := f_X10_wordSize_2 zFU (0 : Int32) μ
set_option maxRecDepth 100000 in
theorem c_X10_wordSize {G : ZG} {l : Launch} {μ : Mem} {r : Int32} {μ' : Mem} (h : f_X10_wordSize μ = some (r, μ')) : zC ZM G l yX10_wordSize cX10_wordSize 2 (some .int) 3 [.ref (zad G 0)] μ (some (.int r)) μ' := by
  refine zC.mk (by decide +kernel) (Nat.le_of_ble_eq_true rfl) ?_
  intro p e s m below meth c ls B hl hW
  have B : zB ZM G cX10_wordSize 2 "DarkSharesModel" (some .int) p s m [.ref (zad G 0)].toArray meth c := B
  have hl : lv_has ls 2 [(0, .ref (zad G 0))] := hl
  have hx := B.1
  have hb := B.2.1
  have hf := h
  unfold f_X10_wordSize at hf
  refine lv_iconst (pc := 0) (v := (0 : Int32)) hx hb dX10_wordSize_0 rfl ?_
  refine lv_istore_n (pc := 1) (lv' := [(1, .int (0 : Int32)), (0, .ref (zad G 0))]) hx hb dX10_wordSize_1 rfl hl (by decide) rfl (fun ls hl => ?_)
  exact t_X10_wordSize_2 B zFU (lv_sub hl [1, 0] rfl) hW hf
noncomputable def f_X10_letter (x1 : Int32) (μ : Mem) : Option (Int32 × Mem) := zck (zin ((μ.1 0 13) + x1) 150) (some ((μ.1 10 (((μ.1 0 13) + x1)).toNatClampNeg), μ))
set_option maxRecDepth 100000 in
theorem c_X10_letter {G : ZG} {l : Launch} {x1 : Int32} {μ : Mem} {r : Int32} {μ' : Mem} (h : f_X10_letter x1 μ = some (r, μ')) : zC ZM G l yX10_letter cX10_letter 2 (some .int) 1 [.ref (zad G 0), .int x1] μ (some (.int r)) μ' := by
  refine zC.mk (by decide +kernel) (Nat.le_of_ble_eq_true rfl) ?_
  intro p e s m below meth c ls B hl hW
  have B : zB ZM G cX10_letter 2 "DarkSharesModel" (some .int) p s m [.ref (zad G 0), .int x1].toArray meth c := B
  have hl : lv_has ls 2 [(0, .ref (zad G 0)), (1, .int x1)] := hl
  have hx := B.1
  have hb := B.2.1
  have hf := h
  unfold f_X10_letter at hf
  refine lv_aload_n (pc := 0) hx hb dX10_letter_0 rfl (lv_at hl 0 rfl) ?_
  refine g_X10_37 (pc := 1) B hW dX10_letter_1 ?_
  refine lv_aload_n (pc := 4) hx hb dX10_letter_4 rfl (lv_at hl 0 rfl) ?_
  refine g_X10_99 (pc := 5) B hW dX10_letter_5 ?_
  refine lv_iload_n (pc := 8) hx hb dX10_letter_8 rfl (lv_at hl 1 rfl) ?_
  refine lv_iadd (pc := 9) hx hb dX10_letter_9 ?_
  refine yald (pc := 10) B hW mr10 dX10_letter_10 hf (fun hf => ?_)
  exact zreti (pc := 11) B hW hf dX10_letter_11
noncomputable def f_X10_wordHere_167 (x2 : Int32) (x3 : Int32) (s0 : Int32) (μ : Mem) : Option (Int32 × Mem) := (if x2 = 0 then (if x3 = 0 then (if s0 = 0 then some ((-1 : Int32), μ) else some ((2 : Int32), μ)) else some ((1 : Int32), μ)) else some ((0 : Int32), μ))
set_option maxRecDepth 100000 in
theorem t_X10_wordHere_167 {G : ZG} {p : Program} {l : Launch} {e : Env} {s : State} {m : MethodId} {args : Array Value} {below : List Frame} {meth : Method} {c : Code} (B : zB ZM G cX10_wordHere 5 "DarkSharesModel" (some .int) p s m args meth c) {x2 : Int32} {x3 : Int32} {s0 : Int32} {μ : Mem} {H : Heap} {locs : List Loc} {ls : Array Slot} {r : Int32} {μ' : Mem} (hl : lv_has ls 5 [(2, .int x2), (3, .int x3)]) (hW : zW ZM G s H locs μ) (hf : f_X10_wordHere_167 x2 x3 s0 μ = some (r, μ')) : W p l e (zR 4) s m args below meth c H locs 0 0 (MQ below (zQ ZM G (some (.int r)) μ') args s 0 0 (zAd ZM G)) (F0 m 167 ls [.int s0]) := by
  have hx := B.1
  have hb := B.2.1
  unfold f_X10_wordHere_167 at hf
  refine lv_istore (pc := 167) (lv' := [(4, .int s0), (2, .int x2), (3, .int x3)]) hx hb dX10_wordHere_167 hl (by decide) rfl (fun ls hl => ?_)
  refine lv_iload_n (pc := 169) hx hb dX10_wordHere_169 rfl (lv_at hl 1 rfl) ?_
  refine yif_eq (pc := 170) (tgt := 177) B dX10_wordHere_170 (by decide) hf (fun hf => ?_) (fun hf => ?_)
  · refine lv_iload_n (pc := 177) hx hb dX10_wordHere_177 rfl (lv_at hl 2 rfl) ?_
    refine yif_eq (pc := 178) (tgt := 185) B dX10_wordHere_178 (by decide) hf (fun hf => ?_) (fun hf => ?_)
    · refine lv_iload (pc := 185) hx hb dX10_wordHere_185 (lv_at hl 0 rfl) ?_
      refine yif_eq (pc := 187) (tgt := 194) B dX10_wordHere_187 (by decide) hf (fun hf => ?_) (fun hf => ?_)
      · refine lv_iconst (pc := 194) (v := (-1 : Int32)) hx hb dX10_wordHere_194 rfl ?_
        exact zreti (pc := 195) B hW hf dX10_wordHere_195
      · refine lv_iconst (pc := 190) (v := (2 : Int32)) hx hb dX10_wordHere_190 rfl ?_
        refine lv_goto (pc := 191) (tgt := 195) hx hb dX10_wordHere_191 (by decide) ?_
        exact zreti (pc := 195) B hW hf dX10_wordHere_195
    · refine lv_iconst (pc := 181) (v := (1 : Int32)) hx hb dX10_wordHere_181 rfl ?_
      refine lv_goto (pc := 182) (tgt := 195) hx hb dX10_wordHere_182 (by decide) ?_
      exact zreti (pc := 195) B hW hf dX10_wordHere_195
  · refine lv_iconst (pc := 173) (v := (0 : Int32)) hx hb dX10_wordHere_173 rfl ?_
    refine lv_goto (pc := 174) (tgt := 195) hx hb dX10_wordHere_174 (by decide) ?_
    exact zreti (pc := 195) B hW hf dX10_wordHere_195
noncomputable def f_X10_wordHere_106 (x1 : Int32) (x2 : Int32) (s0 : Int32) (μ : Mem) : Option (Int32 × Mem) := (if x1 = (5 : Int32) then zbind (f_X10_letter (0 : Int32) μ) (fun r2 μ1 => (if r2 = (99 : Int32) then zbind (f_X10_letter (1 : Int32) μ1) (fun r4 μ3 => (if r4 = (101 : Int32) then zbind (f_X10_letter (2 : Int32) μ3) (fun r6 μ5 => (if r6 = (108 : Int32) then zbind (f_X10_letter (3 : Int32) μ5) (fun r8 μ7 => (if r8 = (108 : Int32) then zbind (f_X10_letter (4 : Int32) μ7) (fun r10 μ9 => (if r10 = (115 : Int32) then f_X10_wordHere_167 x2 s0 (1 : Int32) μ9 else f_X10_wordHere_167 x2 s0 (0 : Int32) μ9)) else f_X10_wordHere_167 x2 s0 (0 : Int32) μ7)) else f_X10_wordHere_167 x2 s0 (0 : Int32) μ5)) else f_X10_wordHere_167 x2 s0 (0 : Int32) μ3)) else f_X10_wordHere_167 x2 s0 (0 : Int32) μ1)) else f_X10_wordHere_167 x2 s0 (0 : Int32) μ)
set_option maxRecDepth 100000 in
theorem t_X10_wordHere_106 {G : ZG} {p : Program} {l : Launch} {e : Env} {s : State} {m : MethodId} {args : Array Value} {below : List Frame} {meth : Method} {c : Code} (B : zB ZM G cX10_wordHere 5 "DarkSharesModel" (some .int) p s m args meth c) {x1 : Int32} {x2 : Int32} {s0 : Int32} {μ : Mem} {H : Heap} {locs : List Loc} {ls : Array Slot} {r : Int32} {μ' : Mem} (hl : lv_has ls 5 [(0, .ref (zad G 0)), (1, .int x1), (2, .int x2)]) (hW : zW ZM G s H locs μ) (hf : f_X10_wordHere_106 x1 x2 s0 μ = some (r, μ')) : W p l e (zR 4) s m args below meth c H locs 0 0 (MQ below (zQ ZM G (some (.int r)) μ') args s 0 0 (zAd ZM G)) (F0 m 106 ls [.int s0]) := by
  have hx := B.1
  have hb := B.2.1
  unfold f_X10_wordHere_106 at hf
  refine lv_istore_n (pc := 106) (lv' := [(3, .int s0), (0, .ref (zad G 0)), (1, .int x1), (2, .int x2)]) hx hb dX10_wordHere_106 rfl hl (by decide) rfl (fun ls hl => ?_)
  refine lv_iload_n (pc := 107) hx hb dX10_wordHere_107 rfl (lv_at hl 2 rfl) ?_
  refine lv_iconst (pc := 108) (v := (5 : Int32)) hx hb dX10_wordHere_108 rfl ?_
  refine yic_ne (pc := 109) (tgt := 166) B dX10_wordHere_109 (by decide) hf (fun hf => ?_) (fun hf => ?_)
  · refine lv_iconst (pc := 166) (v := (0 : Int32)) hx hb dX10_wordHere_166 rfl ?_
    exact t_X10_wordHere_167 B (lv_sub hl [3, 0] rfl) hW hf
  · refine lv_aload_n (pc := 112) hx hb dX10_wordHere_112 rfl (lv_at hl 1 rfl) ?_
    refine lv_iconst (pc := 113) (v := (0 : Int32)) hx hb dX10_wordHere_113 rfl ?_
    refine s_X10_112 (pc := 114) B hW hl.1 (by decide) (zle8 rfl) dX10_wordHere_114 (fun _ _ h => c_X10_letter h) hf (fun r2 μ1 H locs hW hf => ?_)
    refine lv_bipush (pc := 117) (v := (99 : Int32)) hx hb dX10_wordHere_117 rfl ?_
    refine yic_ne (pc := 119) (tgt := 166) B dX10_wordHere_119 (by decide) hf (fun hf => ?_) (fun hf => ?_)
    · refine lv_iconst (pc := 166) (v := (0 : Int32)) hx hb dX10_wordHere_166 rfl ?_
      exact t_X10_wordHere_167 B (lv_sub hl [3, 0] rfl) hW hf
    · refine lv_aload_n (pc := 122) hx hb dX10_wordHere_122 rfl (lv_at hl 1 rfl) ?_
      refine lv_iconst (pc := 123) (v := (1 : Int32)) hx hb dX10_wordHere_123 rfl ?_
      refine s_X10_112 (pc := 124) B hW hl.1 (by decide) (zle8 rfl) dX10_wordHere_124 (fun _ _ h => c_X10_letter h) hf (fun r4 μ3 H locs hW hf => ?_)
      refine lv_bipush (pc := 127) (v := (101 : Int32)) hx hb dX10_wordHere_127 rfl ?_
      refine yic_ne (pc := 129) (tgt := 166) B dX10_wordHere_129 (by decide) hf (fun hf => ?_) (fun hf => ?_)
      · refine lv_iconst (pc := 166) (v := (0 : Int32)) hx hb dX10_wordHere_166 rfl ?_
        exact t_X10_wordHere_167 B (lv_sub hl [3, 0] rfl) hW hf
      · refine lv_aload_n (pc := 132) hx hb dX10_wordHere_132 rfl (lv_at hl 1 rfl) ?_
        refine lv_iconst (pc := 133) (v := (2 : Int32)) hx hb dX10_wordHere_133 rfl ?_
        refine s_X10_112 (pc := 134) B hW hl.1 (by decide) (zle8 rfl) dX10_wordHere_134 (fun _ _ h => c_X10_letter h) hf (fun r6 μ5 H locs hW hf => ?_)
        refine lv_bipush (pc := 137) (v := (108 : Int32)) hx hb dX10_wordHere_137 rfl ?_
        refine yic_ne (pc := 139) (tgt := 166) B dX10_wordHere_139 (by decide) hf (fun hf => ?_) (fun hf => ?_)
        · refine lv_iconst (pc := 166) (v := (0 : Int32)) hx hb dX10_wordHere_166 rfl ?_
          exact t_X10_wordHere_167 B (lv_sub hl [3, 0] rfl) hW hf
        · refine lv_aload_n (pc := 142) hx hb dX10_wordHere_142 rfl (lv_at hl 1 rfl) ?_
          refine lv_iconst (pc := 143) (v := (3 : Int32)) hx hb dX10_wordHere_143 rfl ?_
          refine s_X10_112 (pc := 144) B hW hl.1 (by decide) (zle8 rfl) dX10_wordHere_144 (fun _ _ h => c_X10_letter h) hf (fun r8 μ7 H locs hW hf => ?_)
          refine lv_bipush (pc := 147) (v := (108 : Int32)) hx hb dX10_wordHere_147 rfl ?_
          refine yic_ne (pc := 149) (tgt := 166) B dX10_wordHere_149 (by decide) hf (fun hf => ?_) (fun hf => ?_)
          · refine lv_iconst (pc := 166) (v := (0 : Int32)) hx hb dX10_wordHere_166 rfl ?_
            exact t_X10_wordHere_167 B (lv_sub hl [3, 0] rfl) hW hf
          · refine lv_aload_n (pc := 152) hx hb dX10_wordHere_152 rfl (lv_at hl 1 rfl) ?_
            refine lv_iconst (pc := 153) (v := (4 : Int32)) hx hb dX10_wordHere_153 rfl ?_
            refine s_X10_112 (pc := 154) B hW hl.1 (by decide) (zle8 rfl) dX10_wordHere_154 (fun _ _ h => c_X10_letter h) hf (fun r10 μ9 H locs hW hf => ?_)
            refine lv_bipush (pc := 157) (v := (115 : Int32)) hx hb dX10_wordHere_157 rfl ?_
            refine yic_ne (pc := 159) (tgt := 166) B dX10_wordHere_159 (by decide) hf (fun hf => ?_) (fun hf => ?_)
            · refine lv_iconst (pc := 166) (v := (0 : Int32)) hx hb dX10_wordHere_166 rfl ?_
              exact t_X10_wordHere_167 B (lv_sub hl [3, 0] rfl) hW hf
            · refine lv_iconst (pc := 162) (v := (1 : Int32)) hx hb dX10_wordHere_162 rfl ?_
              refine lv_goto (pc := 163) (tgt := 167) hx hb dX10_wordHere_163 (by decide) ?_
              exact t_X10_wordHere_167 B (lv_sub hl [3, 0] rfl) hW hf
noncomputable def f_X10_wordHere_65 (x1 : Int32) (s0 : Int32) (μ : Mem) : Option (Int32 × Mem) := (if x1 = (3 : Int32) then zbind (f_X10_letter (0 : Int32) μ) (fun r2 μ1 => (if r2 = (98 : Int32) then zbind (f_X10_letter (1 : Int32) μ1) (fun r4 μ3 => (if r4 = (111 : Int32) then zbind (f_X10_letter (2 : Int32) μ3) (fun r6 μ5 => (if r6 = (121 : Int32) then f_X10_wordHere_106 x1 s0 (1 : Int32) μ5 else f_X10_wordHere_106 x1 s0 (0 : Int32) μ5)) else f_X10_wordHere_106 x1 s0 (0 : Int32) μ3)) else f_X10_wordHere_106 x1 s0 (0 : Int32) μ1)) else f_X10_wordHere_106 x1 s0 (0 : Int32) μ)
set_option maxRecDepth 100000 in
theorem t_X10_wordHere_65 {G : ZG} {p : Program} {l : Launch} {e : Env} {s : State} {m : MethodId} {args : Array Value} {below : List Frame} {meth : Method} {c : Code} (B : zB ZM G cX10_wordHere 5 "DarkSharesModel" (some .int) p s m args meth c) {x1 : Int32} {s0 : Int32} {μ : Mem} {H : Heap} {locs : List Loc} {ls : Array Slot} {r : Int32} {μ' : Mem} (hl : lv_has ls 5 [(0, .ref (zad G 0)), (1, .int x1)]) (hW : zW ZM G s H locs μ) (hf : f_X10_wordHere_65 x1 s0 μ = some (r, μ')) : W p l e (zR 4) s m args below meth c H locs 0 0 (MQ below (zQ ZM G (some (.int r)) μ') args s 0 0 (zAd ZM G)) (F0 m 65 ls [.int s0]) := by
  have hx := B.1
  have hb := B.2.1
  unfold f_X10_wordHere_65 at hf
  refine lv_istore_n (pc := 65) (lv' := [(2, .int s0), (0, .ref (zad G 0)), (1, .int x1)]) hx hb dX10_wordHere_65 rfl hl (by decide) rfl (fun ls hl => ?_)
  refine lv_iload_n (pc := 66) hx hb dX10_wordHere_66 rfl (lv_at hl 2 rfl) ?_
  refine lv_iconst (pc := 67) (v := (3 : Int32)) hx hb dX10_wordHere_67 rfl ?_
  refine yic_ne (pc := 68) (tgt := 105) B dX10_wordHere_68 (by decide) hf (fun hf => ?_) (fun hf => ?_)
  · refine lv_iconst (pc := 105) (v := (0 : Int32)) hx hb dX10_wordHere_105 rfl ?_
    exact t_X10_wordHere_106 B (lv_sub hl [1, 2, 0] rfl) hW hf
  · refine lv_aload_n (pc := 71) hx hb dX10_wordHere_71 rfl (lv_at hl 1 rfl) ?_
    refine lv_iconst (pc := 72) (v := (0 : Int32)) hx hb dX10_wordHere_72 rfl ?_
    refine s_X10_112 (pc := 73) B hW hl.1 (by decide) (zle8 rfl) dX10_wordHere_73 (fun _ _ h => c_X10_letter h) hf (fun r2 μ1 H locs hW hf => ?_)
    refine lv_bipush (pc := 76) (v := (98 : Int32)) hx hb dX10_wordHere_76 rfl ?_
    refine yic_ne (pc := 78) (tgt := 105) B dX10_wordHere_78 (by decide) hf (fun hf => ?_) (fun hf => ?_)
    · refine lv_iconst (pc := 105) (v := (0 : Int32)) hx hb dX10_wordHere_105 rfl ?_
      exact t_X10_wordHere_106 B (lv_sub hl [1, 2, 0] rfl) hW hf
    · refine lv_aload_n (pc := 81) hx hb dX10_wordHere_81 rfl (lv_at hl 1 rfl) ?_
      refine lv_iconst (pc := 82) (v := (1 : Int32)) hx hb dX10_wordHere_82 rfl ?_
      refine s_X10_112 (pc := 83) B hW hl.1 (by decide) (zle8 rfl) dX10_wordHere_83 (fun _ _ h => c_X10_letter h) hf (fun r4 μ3 H locs hW hf => ?_)
      refine lv_bipush (pc := 86) (v := (111 : Int32)) hx hb dX10_wordHere_86 rfl ?_
      refine yic_ne (pc := 88) (tgt := 105) B dX10_wordHere_88 (by decide) hf (fun hf => ?_) (fun hf => ?_)
      · refine lv_iconst (pc := 105) (v := (0 : Int32)) hx hb dX10_wordHere_105 rfl ?_
        exact t_X10_wordHere_106 B (lv_sub hl [1, 2, 0] rfl) hW hf
      · refine lv_aload_n (pc := 91) hx hb dX10_wordHere_91 rfl (lv_at hl 1 rfl) ?_
        refine lv_iconst (pc := 92) (v := (2 : Int32)) hx hb dX10_wordHere_92 rfl ?_
        refine s_X10_112 (pc := 93) B hW hl.1 (by decide) (zle8 rfl) dX10_wordHere_93 (fun _ _ h => c_X10_letter h) hf (fun r6 μ5 H locs hW hf => ?_)
        refine lv_bipush (pc := 96) (v := (121 : Int32)) hx hb dX10_wordHere_96 rfl ?_
        refine yic_ne (pc := 98) (tgt := 105) B dX10_wordHere_98 (by decide) hf (fun hf => ?_) (fun hf => ?_)
        · refine lv_iconst (pc := 105) (v := (0 : Int32)) hx hb dX10_wordHere_105 rfl ?_
          exact t_X10_wordHere_106 B (lv_sub hl [1, 2, 0] rfl) hW hf
        · refine lv_iconst (pc := 101) (v := (1 : Int32)) hx hb dX10_wordHere_101 rfl ?_
          refine lv_goto (pc := 102) (tgt := 106) hx hb dX10_wordHere_102 (by decide) ?_
          exact t_X10_wordHere_106 B (lv_sub hl [1, 2, 0] rfl) hW hf
noncomputable def f_X10_wordHere (μ : Mem) : Option (Int32 × Mem) := zbind (f_X10_wordSize μ) (fun r2 μ1 => (if r2 = (5 : Int32) then zbind (f_X10_letter (0 : Int32) μ1) (fun r4 μ3 => (if r4 = (110 : Int32) then zbind (f_X10_letter (1 : Int32) μ3) (fun r6 μ5 => (if r6 = (105 : Int32) then zbind (f_X10_letter (2 : Int32) μ5) (fun r8 μ7 => (if r8 = (103 : Int32) then zbind (f_X10_letter (3 : Int32) μ7) (fun r10 μ9 => (if r10 = (104 : Int32) then zbind (f_X10_letter (4 : Int32) μ9) (fun r12 μ11 => (if r12 = (116 : Int32) then f_X10_wordHere_65 r2 (1 : Int32) μ11 else f_X10_wordHere_65 r2 (0 : Int32) μ11)) else f_X10_wordHere_65 r2 (0 : Int32) μ9)) else f_X10_wordHere_65 r2 (0 : Int32) μ7)) else f_X10_wordHere_65 r2 (0 : Int32) μ5)) else f_X10_wordHere_65 r2 (0 : Int32) μ3)) else f_X10_wordHere_65 r2 (0 : Int32) μ1))
set_option maxRecDepth 100000 in
theorem c_X10_wordHere {G : ZG} {l : Launch} {μ : Mem} {r : Int32} {μ' : Mem} (h : f_X10_wordHere μ = some (r, μ')) : zC ZM G l yX10_wordHere cX10_wordHere 5 (some .int) 4 [.ref (zad G 0)] μ (some (.int r)) μ' := by
  refine zC.mk (by decide +kernel) (Nat.le_of_ble_eq_true rfl) ?_
  intro p e s m below meth c ls B hl hW
  have B : zB ZM G cX10_wordHere 5 "DarkSharesModel" (some .int) p s m [.ref (zad G 0)].toArray meth c := B
  have hl : lv_has ls 5 [(0, .ref (zad G 0))] := hl
  have hx := B.1
  have hb := B.2.1
  have hf := h
  unfold f_X10_wordHere at hf
  refine lv_aload_n (pc := 0) hx hb dX10_wordHere_0 rfl (lv_at hl 0 rfl) ?_
  refine s_X10_109 (pc := 1) B hW hl.1 (by decide) (zle8 rfl) dX10_wordHere_1 (fun _ _ h => c_X10_wordSize h) hf (fun r2 μ1 H locs hW hf => ?_)
  refine lv_istore_n (pc := 4) (lv' := [(1, .int r2), (0, .ref (zad G 0))]) hx hb dX10_wordHere_4 rfl hl (by decide) rfl (fun ls hl => ?_)
  refine lv_iload_n (pc := 5) hx hb dX10_wordHere_5 rfl (lv_at hl 0 rfl) ?_
  refine lv_iconst (pc := 6) (v := (5 : Int32)) hx hb dX10_wordHere_6 rfl ?_
  refine yic_ne (pc := 7) (tgt := 64) B dX10_wordHere_7 (by decide) hf (fun hf => ?_) (fun hf => ?_)
  · refine lv_iconst (pc := 64) (v := (0 : Int32)) hx hb dX10_wordHere_64 rfl ?_
    exact t_X10_wordHere_65 B (lv_sub hl [1, 0] rfl) hW hf
  · refine lv_aload_n (pc := 10) hx hb dX10_wordHere_10 rfl (lv_at hl 1 rfl) ?_
    refine lv_iconst (pc := 11) (v := (0 : Int32)) hx hb dX10_wordHere_11 rfl ?_
    refine s_X10_112 (pc := 12) B hW hl.1 (by decide) (zle8 rfl) dX10_wordHere_12 (fun _ _ h => c_X10_letter h) hf (fun r4 μ3 H locs hW hf => ?_)
    refine lv_bipush (pc := 15) (v := (110 : Int32)) hx hb dX10_wordHere_15 rfl ?_
    refine yic_ne (pc := 17) (tgt := 64) B dX10_wordHere_17 (by decide) hf (fun hf => ?_) (fun hf => ?_)
    · refine lv_iconst (pc := 64) (v := (0 : Int32)) hx hb dX10_wordHere_64 rfl ?_
      exact t_X10_wordHere_65 B (lv_sub hl [1, 0] rfl) hW hf
    · refine lv_aload_n (pc := 20) hx hb dX10_wordHere_20 rfl (lv_at hl 1 rfl) ?_
      refine lv_iconst (pc := 21) (v := (1 : Int32)) hx hb dX10_wordHere_21 rfl ?_
      refine s_X10_112 (pc := 22) B hW hl.1 (by decide) (zle8 rfl) dX10_wordHere_22 (fun _ _ h => c_X10_letter h) hf (fun r6 μ5 H locs hW hf => ?_)
      refine lv_bipush (pc := 25) (v := (105 : Int32)) hx hb dX10_wordHere_25 rfl ?_
      refine yic_ne (pc := 27) (tgt := 64) B dX10_wordHere_27 (by decide) hf (fun hf => ?_) (fun hf => ?_)
      · refine lv_iconst (pc := 64) (v := (0 : Int32)) hx hb dX10_wordHere_64 rfl ?_
        exact t_X10_wordHere_65 B (lv_sub hl [1, 0] rfl) hW hf
      · refine lv_aload_n (pc := 30) hx hb dX10_wordHere_30 rfl (lv_at hl 1 rfl) ?_
        refine lv_iconst (pc := 31) (v := (2 : Int32)) hx hb dX10_wordHere_31 rfl ?_
        refine s_X10_112 (pc := 32) B hW hl.1 (by decide) (zle8 rfl) dX10_wordHere_32 (fun _ _ h => c_X10_letter h) hf (fun r8 μ7 H locs hW hf => ?_)
        refine lv_bipush (pc := 35) (v := (103 : Int32)) hx hb dX10_wordHere_35 rfl ?_
        refine yic_ne (pc := 37) (tgt := 64) B dX10_wordHere_37 (by decide) hf (fun hf => ?_) (fun hf => ?_)
        · refine lv_iconst (pc := 64) (v := (0 : Int32)) hx hb dX10_wordHere_64 rfl ?_
          exact t_X10_wordHere_65 B (lv_sub hl [1, 0] rfl) hW hf
        · refine lv_aload_n (pc := 40) hx hb dX10_wordHere_40 rfl (lv_at hl 1 rfl) ?_
          refine lv_iconst (pc := 41) (v := (3 : Int32)) hx hb dX10_wordHere_41 rfl ?_
          refine s_X10_112 (pc := 42) B hW hl.1 (by decide) (zle8 rfl) dX10_wordHere_42 (fun _ _ h => c_X10_letter h) hf (fun r10 μ9 H locs hW hf => ?_)
          refine lv_bipush (pc := 45) (v := (104 : Int32)) hx hb dX10_wordHere_45 rfl ?_
          refine yic_ne (pc := 47) (tgt := 64) B dX10_wordHere_47 (by decide) hf (fun hf => ?_) (fun hf => ?_)
          · refine lv_iconst (pc := 64) (v := (0 : Int32)) hx hb dX10_wordHere_64 rfl ?_
            exact t_X10_wordHere_65 B (lv_sub hl [1, 0] rfl) hW hf
          · refine lv_aload_n (pc := 50) hx hb dX10_wordHere_50 rfl (lv_at hl 1 rfl) ?_
            refine lv_iconst (pc := 51) (v := (4 : Int32)) hx hb dX10_wordHere_51 rfl ?_
            refine s_X10_112 (pc := 52) B hW hl.1 (by decide) (zle8 rfl) dX10_wordHere_52 (fun _ _ h => c_X10_letter h) hf (fun r12 μ11 H locs hW hf => ?_)
            refine lv_bipush (pc := 55) (v := (116 : Int32)) hx hb dX10_wordHere_55 rfl ?_
            refine yic_ne (pc := 57) (tgt := 64) B dX10_wordHere_57 (by decide) hf (fun hf => ?_) (fun hf => ?_)
            · refine lv_iconst (pc := 64) (v := (0 : Int32)) hx hb dX10_wordHere_64 rfl ?_
              exact t_X10_wordHere_65 B (lv_sub hl [1, 0] rfl) hW hf
            · refine lv_iconst (pc := 60) (v := (1 : Int32)) hx hb dX10_wordHere_60 rfl ?_
              refine lv_goto (pc := 61) (tgt := 65) hx hb dX10_wordHere_61 (by decide) ?_
              exact t_X10_wordHere_65 B (lv_sub hl [1, 0] rfl) hW hf
noncomputable def f_X10_number_77 (x1 : Int32) (x2 : Int32) (x3 : Int32) (x4 : Int32) (μ : Mem) : Option (Int32 × Mem) := zbind (f_X10_in x3 (1 : Int32) (2 : Int32) μ) (fun r2 μ1 => (if r2 = 0 then some ((0 : Int32), μ1) else zbind (f_X10_in x4 x1 x2 μ1) (fun r4 μ3 => (if r4 = 0 then some ((0 : Int32), μ3) else zlet (zI μ3 0 17 x4) (fun μ5 => zlet (zI μ5 0 13 ((μ5.1 0 13) + x3)) (fun μ6 => some ((1 : Int32), μ6)))))))
set_option maxRecDepth 100000 in
theorem t_X10_number_77 {G : ZG} {p : Program} {l : Launch} {e : Env} {s : State} {m : MethodId} {args : Array Value} {below : List Frame} {meth : Method} {c : Code} (B : zB ZM G cX10_number 5 "DarkSharesModel" (some .boolean) p s m args meth c) {x1 : Int32} {x2 : Int32} {x3 : Int32} {x4 : Int32} {μ : Mem} {H : Heap} {locs : List Loc} {ls : Array Slot} {r : Int32} {μ' : Mem} (hl : lv_has ls 5 [(0, .ref (zad G 0)), (1, .int x1), (2, .int x2), (3, .int x3), (4, .int x4)]) (hW : zW ZM G s H locs μ) (hf : f_X10_number_77 x1 x2 x3 x4 μ = some (r, μ')) : W p l e (zR 3) s m args below meth c H locs 0 0 (MQ below (zQ ZM G (some (.int r)) μ') args s 0 0 (zAd ZM G)) (F0 m 77 ls []) := by
  have hx := B.1
  have hb := B.2.1
  unfold f_X10_number_77 at hf
  refine lv_iload_n (pc := 77) hx hb dX10_number_77 rfl (lv_at hl 3 rfl) ?_
  refine lv_iconst (pc := 78) (v := (1 : Int32)) hx hb dX10_number_78 rfl ?_
  refine lv_iconst (pc := 79) (v := (2 : Int32)) hx hb dX10_number_79 rfl ?_
  refine s_X10_81 (pc := 80) B hW hl.1 (by decide) (zle8 rfl) dX10_number_80 (fun _ _ h => c_X10_in h) hf (fun r2 μ1 H locs hW hf => ?_)
  refine yif_eq (pc := 83) (tgt := 96) B dX10_number_83 (by decide) hf (fun hf => ?_) (fun hf => ?_)
  · refine lv_iconst (pc := 96) (v := (0 : Int32)) hx hb dX10_number_96 rfl ?_
    exact zretz (pc := 97) B hW rfl hf dX10_number_97
  · refine lv_iload (pc := 86) hx hb dX10_number_86 (lv_at hl 4 rfl) ?_
    refine lv_iload_n (pc := 88) hx hb dX10_number_88 rfl (lv_at hl 1 rfl) ?_
    refine lv_iload_n (pc := 89) hx hb dX10_number_89 rfl (lv_at hl 2 rfl) ?_
    refine s_X10_81 (pc := 90) B hW hl.1 (by decide) (zle8 rfl) dX10_number_90 (fun _ _ h => c_X10_in h) hf (fun r4 μ3 H locs hW hf => ?_)
    refine yif_ne (pc := 93) (tgt := 98) B dX10_number_93 (by decide) hf (fun hf => ?_) (fun hf => ?_)
    · refine lv_aload_n (pc := 98) hx hb dX10_number_98 rfl (lv_at hl 0 rfl) ?_
      refine lv_iload (pc := 99) hx hb dX10_number_99 (lv_at hl 4 rfl) ?_
      refine p_X10_122 (pc := 101) B hW dX10_number_101 hf (fun μ5 H locs hW hf => ?_)
      refine lv_aload_n (pc := 104) hx hb dX10_number_104 rfl (lv_at hl 0 rfl) ?_
      refine lv_dup (pc := 105) hx hb dX10_number_105 rfl ?_
      refine g_X10_99 (pc := 106) B hW dX10_number_106 ?_
      refine lv_iload_n (pc := 109) hx hb dX10_number_109 rfl (lv_at hl 3 rfl) ?_
      refine lv_iadd (pc := 110) hx hb dX10_number_110 ?_
      refine p_X10_99 (pc := 111) B hW dX10_number_111 hf (fun μ6 H locs hW hf => ?_)
      refine lv_iconst (pc := 114) (v := (1 : Int32)) hx hb dX10_number_114 rfl ?_
      exact zretz (pc := 115) B hW rfl hf dX10_number_115
    · refine lv_iconst (pc := 96) (v := (0 : Int32)) hx hb dX10_number_96 rfl ?_
      exact zretz (pc := 97) B hW rfl hf dX10_number_97
noncomputable def f_X10_number_9 : Nat → Int32 → Int32 → Int32 → Int32 → Mem → Option (Int32 × Mem)
  | 0, _, _, _, _, _ => none
  | n + 1, x1, x2, x3, x4, μ => (if (μ.1 0 12) ≤ ((μ.1 0 13) + x3) then f_X10_number_77 x1 x2 x3 x4 μ else zck (zin ((μ.1 0 13) + x3) 150) (zbind (f_X10_isFigure (μ.1 10 (((μ.1 0 13) + x3)).toNatClampNeg) μ) (fun r2 μ1 => (if r2 = 0 then f_X10_number_77 x1 x2 x3 x4 μ1 else (if (2 : Int32) ≤ x3 then f_X10_number_9 n x1 x2 (x3 + (1 : Int32)) x4 μ1 else zck (zin ((μ1.1 0 13) + x3) 150) (zlet ((((10 : Int32) * x4) + (μ1.1 10 (((μ1.1 0 13) + x3)).toNatClampNeg)) - (48 : Int32)) (fun y3 => f_X10_number_9 n x1 x2 (x3 + (1 : Int32)) y3 μ1)))))))
set_option maxRecDepth 100000 in
theorem t_X10_number_9 {G : ZG} {p : Program} {l : Launch} {e : Env} {s : State} {m : MethodId} {args : Array Value} {below : List Frame} {meth : Method} {c : Code} (B : zB ZM G cX10_number 5 "DarkSharesModel" (some .boolean) p s m args meth c) : ∀ (n : Nat) {x1 : Int32} {x2 : Int32} {x3 : Int32} {x4 : Int32} {μ : Mem} {H : Heap} {locs : List Loc} {ls : Array Slot} {r : Int32} {μ' : Mem}, lv_has ls 5 [(0, .ref (zad G 0)), (1, .int x1), (2, .int x2), (3, .int x3), (4, .int x4)] → zW ZM G s H locs μ → f_X10_number_9 n x1 x2 x3 x4 μ = some (r, μ') → W p l e (zR 3) s m args below meth c H locs 0 0 (MQ below (zQ ZM G (some (.int r)) μ') args s 0 0 (zAd ZM G)) (F0 m 9 ls []) := by
  have hx := B.1
  have hb := B.2.1
  intro n
  induction n with
  | zero => intro _ _ _ _ _ _ _ _ _ _ hl hW hf; cases hf
  | succ n ih =>
    intro x1 x2 x3 x4 μ H locs ls r μ' hl hW hf
    rw [f_X10_number_9] at hf
    refine lv_aload_n (pc := 9) hx hb dX10_number_9 rfl (lv_at hl 0 rfl) ?_
    refine g_X10_99 (pc := 10) B hW dX10_number_10 ?_
    refine lv_iload_n (pc := 13) hx hb dX10_number_13 rfl (lv_at hl 3 rfl) ?_
    refine lv_iadd (pc := 14) hx hb dX10_number_14 ?_
    refine lv_aload_n (pc := 15) hx hb dX10_number_15 rfl (lv_at hl 0 rfl) ?_
    refine g_X10_96 (pc := 16) B hW dX10_number_16 ?_
    refine yic_ge (pc := 19) (tgt := 77) B dX10_number_19 (by decide) hf (fun hf => ?_) (fun hf => ?_)
    · exact t_X10_number_77 B (lv_sub hl [0, 1, 2, 3, 4] rfl) hW hf
    · refine lv_aload_n (pc := 22) hx hb dX10_number_22 rfl (lv_at hl 0 rfl) ?_
      refine g_X10_37 (pc := 23) B hW dX10_number_23 ?_
      refine lv_aload_n (pc := 26) hx hb dX10_number_26 rfl (lv_at hl 0 rfl) ?_
      refine g_X10_99 (pc := 27) B hW dX10_number_27 ?_
      refine lv_iload_n (pc := 30) hx hb dX10_number_30 rfl (lv_at hl 3 rfl) ?_
      refine lv_iadd (pc := 31) hx hb dX10_number_31 ?_
      refine yald (pc := 32) B hW mr10 dX10_number_32 hf (fun hf => ?_)
      refine s_X10_119 (pc := 33) B hW hl.1 (by decide) (zle8 rfl) dX10_number_33 (fun _ _ h => c_X10_isFigure h) hf (fun r2 μ1 H locs hW hf => ?_)
      refine yif_eq (pc := 36) (tgt := 77) B dX10_number_36 (by decide) hf (fun hf => ?_) (fun hf => ?_)
      · exact t_X10_number_77 B (lv_sub hl [0, 1, 2, 3, 4] rfl) hW hf
      · refine lv_iload_n (pc := 39) hx hb dX10_number_39 rfl (lv_at hl 3 rfl) ?_
        refine lv_iconst (pc := 40) (v := (2 : Int32)) hx hb dX10_number_40 rfl ?_
        refine yic_ge (pc := 41) (tgt := 67) B dX10_number_41 (by decide) hf (fun hf => ?_) (fun hf => ?_)
        · refine lv_iload (pc := 67) hx hb dX10_number_67 (lv_at hl 4 rfl) ?_
          refine lv_istore (pc := 69) (lv' := [(4, .int x4), (0, .ref (zad G 0)), (1, .int x1), (2, .int x2), (3, .int x3)]) hx hb dX10_number_69 hl (by decide) rfl (fun ls hl => ?_)
          refine lv_iinc (pc := 71) (v := (x3 + (1 : Int32))) (lv' := [(3, .int (x3 + (1 : Int32))), (4, .int x4), (0, .ref (zad G 0)), (1, .int x1), (2, .int x2)]) hx hb dX10_number_71 hl (k := 4) rfl rfl (by decide) rfl (fun ls hl => ?_)
          refine lv_goto (pc := 74) (tgt := 9) hx hb dX10_number_74 (by decide) ?_
          exact ih (lv_sub hl [2, 3, 4, 0, 1] rfl) hW hf
        · refine lv_bipush (pc := 44) (v := (10 : Int32)) hx hb dX10_number_44 rfl ?_
          refine lv_iload (pc := 46) hx hb dX10_number_46 (lv_at hl 4 rfl) ?_
          refine lv_imul (pc := 48) hx hb dX10_number_48 ?_
          refine lv_aload_n (pc := 49) hx hb dX10_number_49 rfl (lv_at hl 0 rfl) ?_
          refine g_X10_37 (pc := 50) B hW dX10_number_50 ?_
          refine lv_aload_n (pc := 53) hx hb dX10_number_53 rfl (lv_at hl 0 rfl) ?_
          refine g_X10_99 (pc := 54) B hW dX10_number_54 ?_
          refine lv_iload_n (pc := 57) hx hb dX10_number_57 rfl (lv_at hl 3 rfl) ?_
          refine lv_iadd (pc := 58) hx hb dX10_number_58 ?_
          refine yald (pc := 59) B hW mr10 dX10_number_59 hf (fun hf => ?_)
          refine lv_iadd (pc := 60) hx hb dX10_number_60 ?_
          refine lv_bipush (pc := 61) (v := (48 : Int32)) hx hb dX10_number_61 rfl ?_
          refine lv_isub (pc := 63) hx hb dX10_number_63 ?_
          refine lv_goto (pc := 64) (tgt := 69) hx hb dX10_number_64 (by decide) ?_
          refine ytop (pc := 69) hf (fun y3 hf => ?_)
          refine lv_istore (pc := 69) (lv' := [(4, .int y3), (0, .ref (zad G 0)), (1, .int x1), (2, .int x2), (3, .int x3)]) hx hb dX10_number_69 hl (by decide) rfl (fun ls hl => ?_)
          refine lv_iinc (pc := 71) (v := (x3 + (1 : Int32))) (lv' := [(3, .int (x3 + (1 : Int32))), (4, .int y3), (0, .ref (zad G 0)), (1, .int x1), (2, .int x2)]) hx hb dX10_number_71 hl (k := 4) rfl rfl (by decide) rfl (fun ls hl => ?_)
          refine lv_goto (pc := 74) (tgt := 9) hx hb dX10_number_74 (by decide) ?_
          exact ih (lv_sub hl [2, 3, 4, 0, 1] rfl) hW hf
noncomputable def f_X10_number (x1 : Int32) (x2 : Int32) (μ : Mem) : Option (Int32 × Mem) := zbind (f_X10_skip μ) (fun _ μ1 => f_X10_number_9 zFU x1 x2 (0 : Int32) (0 : Int32) μ1)
set_option maxRecDepth 100000 in
theorem c_X10_number {G : ZG} {l : Launch} {x1 : Int32} {x2 : Int32} {μ : Mem} {r : Int32} {μ' : Mem} (h : f_X10_number x1 x2 μ = some (r, μ')) : zC ZM G l yX10_number cX10_number 5 (some .boolean) 3 [.ref (zad G 0), .int x1, .int x2] μ (some (.int r)) μ' := by
  refine zC.mk (by decide +kernel) (Nat.le_of_ble_eq_true rfl) ?_
  intro p e s m below meth c ls B hl hW
  have B : zB ZM G cX10_number 5 "DarkSharesModel" (some .boolean) p s m [.ref (zad G 0), .int x1, .int x2].toArray meth c := B
  have hl : lv_has ls 5 [(0, .ref (zad G 0)), (1, .int x1), (2, .int x2)] := hl
  have hx := B.1
  have hb := B.2.1
  have hf := h
  unfold f_X10_number at hf
  refine lv_aload_n (pc := 0) hx hb dX10_number_0 rfl (lv_at hl 0 rfl) ?_
  refine s_X10_116 (pc := 1) B hW hl.1 (by decide) (zle8 rfl) dX10_number_1 (fun _ _ h => c_X10_skip h) hf (fun _ μ1 H locs hW hf => ?_)
  refine lv_iconst (pc := 4) (v := (0 : Int32)) hx hb dX10_number_4 rfl ?_
  refine lv_istore_n (pc := 5) (lv' := [(3, .int (0 : Int32)), (0, .ref (zad G 0)), (1, .int x1), (2, .int x2)]) hx hb dX10_number_5 rfl hl (by decide) rfl (fun ls hl => ?_)
  refine lv_iconst (pc := 6) (v := (0 : Int32)) hx hb dX10_number_6 rfl ?_
  refine lv_istore (pc := 7) (lv' := [(4, .int (0 : Int32)), (3, .int (0 : Int32)), (0, .ref (zad G 0)), (1, .int x1), (2, .int x2)]) hx hb dX10_number_7 hl (by decide) rfl (fun ls hl => ?_)
  exact t_X10_number_9 B zFU (lv_sub hl [2, 3, 4, 1, 0] rfl) hW hf
noncomputable def f_X10_ends (μ : Mem) : Option (Int32 × Mem) := zbind (f_X10_skip μ) (fun _ μ1 => zbind (f_X10_here μ1) (fun r3 μ2 => (if r3 = (59 : Int32) then zlet (zI μ2 0 13 ((μ2.1 0 13) + (1 : Int32))) (fun μ4 => some ((1 : Int32), μ4)) else some ((0 : Int32), μ2))))
set_option maxRecDepth 100000 in
theorem c_X10_ends {G : ZG} {l : Launch} {μ : Mem} {r : Int32} {μ' : Mem} (h : f_X10_ends μ = some (r, μ')) : zC ZM G l yX10_ends cX10_ends 1 (some .boolean) 3 [.ref (zad G 0)] μ (some (.int r)) μ' := by
  refine zC.mk (by decide +kernel) (Nat.le_of_ble_eq_true rfl) ?_
  intro p e s m below meth c ls B hl hW
  have B : zB ZM G cX10_ends 1 "DarkSharesModel" (some .boolean) p s m [.ref (zad G 0)].toArray meth c := B
  have hl : lv_has ls 1 [(0, .ref (zad G 0))] := hl
  have hx := B.1
  have hb := B.2.1
  have hf := h
  unfold f_X10_ends at hf
  refine lv_aload_n (pc := 0) hx hb dX10_ends_0 rfl (lv_at hl 0 rfl) ?_
  refine s_X10_116 (pc := 1) B hW hl.1 (by decide) (zle8 rfl) dX10_ends_1 (fun _ _ h => c_X10_skip h) hf (fun _ μ1 H locs hW hf => ?_)
  refine lv_aload_n (pc := 4) hx hb dX10_ends_4 rfl (lv_at hl 0 rfl) ?_
  refine s_X10_102 (pc := 5) B hW hl.1 (by decide) (zle8 rfl) dX10_ends_5 (fun _ _ h => c_X10_here h) hf (fun r3 μ2 H locs hW hf => ?_)
  refine lv_bipush (pc := 8) (v := (59 : Int32)) hx hb dX10_ends_8 rfl ?_
  refine yic_eq (pc := 10) (tgt := 15) B dX10_ends_10 (by decide) hf (fun hf => ?_) (fun hf => ?_)
  · refine lv_aload_n (pc := 15) hx hb dX10_ends_15 rfl (lv_at hl 0 rfl) ?_
    refine lv_dup (pc := 16) hx hb dX10_ends_16 rfl ?_
    refine g_X10_99 (pc := 17) B hW dX10_ends_17 ?_
    refine lv_iconst (pc := 20) (v := (1 : Int32)) hx hb dX10_ends_20 rfl ?_
    refine lv_iadd (pc := 21) hx hb dX10_ends_21 ?_
    refine p_X10_99 (pc := 22) B hW dX10_ends_22 hf (fun μ4 H locs hW hf => ?_)
    refine lv_iconst (pc := 25) (v := (1 : Int32)) hx hb dX10_ends_25 rfl ?_
    exact zretz (pc := 26) B hW rfl hf dX10_ends_26
  · refine lv_iconst (pc := 13) (v := (0 : Int32)) hx hb dX10_ends_13 rfl ?_
    exact zretz (pc := 14) B hW rfl hf dX10_ends_14
noncomputable def f_X10_readsBoy_29 (K2 : Int32 → Mem → Option (Int32 × Mem)) (x1 : Int32) (s1 : Int32) (s2 : Int32) (μ : Mem) : Option (Int32 × Mem) := zbind (f_X10_number s1 s2 μ) (fun r2 μ1 => (if r2 = 0 then some ((0 : Int32), μ1) else zck (zin (((3 : Int32) * (μ1.1 0 14)) + x1) 15) (zlet (zI μ1 11 ((((3 : Int32) * (μ1.1 0 14)) + x1)).toNatClampNeg (μ1.1 0 17)) (fun μ3 => K2 (x1 + (1 : Int32)) μ3))))
set_option maxRecDepth 100000 in
theorem t_X10_readsBoy_29 {G : ZG} {p : Program} {l : Launch} {e : Env} {s : State} {m : MethodId} {args : Array Value} {below : List Frame} {meth : Method} {c : Code} (B : zB ZM G cX10_readsBoy 2 "DarkSharesModel" (some .boolean) p s m args meth c) {K2 : Int32 → Mem → Option (Int32 × Mem)} (hK2 : ∀ {x1 : Int32} {μ : Mem} {H : Heap} {locs : List Loc} {ls : Array Slot} {r : Int32} {μ' : Mem}, lv_has ls 2 [(0, .ref (zad G 0)), (1, .int x1)] → zW ZM G s H locs μ → K2 x1 μ = some (r, μ') → W p l e (zR 4) s m args below meth c H locs 0 0 (MQ below (zQ ZM G (some (.int r)) μ') args s 0 0 (zAd ZM G)) (F0 m 2 ls [])) {x1 : Int32} {s1 : Int32} {s2 : Int32} {μ : Mem} {H : Heap} {locs : List Loc} {ls : Array Slot} {r : Int32} {μ' : Mem} (hl : lv_has ls 2 [(0, .ref (zad G 0)), (1, .int x1)]) (hW : zW ZM G s H locs μ) (hf : f_X10_readsBoy_29 K2 x1 s1 s2 μ = some (r, μ')) : W p l e (zR 4) s m args below meth c H locs 0 0 (MQ below (zQ ZM G (some (.int r)) μ') args s 0 0 (zAd ZM G)) (F0 m 29 ls [.int s2, .int s1, .ref (zad G 0)]) := by
  have hx := B.1
  have hb := B.2.1
  unfold f_X10_readsBoy_29 at hf
  refine s_X10_125 (pc := 29) B hW hl.1 (by decide) (zle8 rfl) dX10_readsBoy_29 (fun _ _ h => c_X10_number h) hf (fun r2 μ1 H locs hW hf => ?_)
  refine yif_ne (pc := 32) (tgt := 37) B dX10_readsBoy_32 (by decide) hf (fun hf => ?_) (fun hf => ?_)
  · refine lv_aload_n (pc := 37) hx hb dX10_readsBoy_37 rfl (lv_at hl 0 rfl) ?_
    refine g_X10_40 (pc := 38) B hW dX10_readsBoy_38 ?_
    refine lv_iconst (pc := 41) (v := (3 : Int32)) hx hb dX10_readsBoy_41 rfl ?_
    refine lv_aload_n (pc := 42) hx hb dX10_readsBoy_42 rfl (lv_at hl 0 rfl) ?_
    refine g_X10_129 (pc := 43) B hW dX10_readsBoy_43 ?_
    refine lv_imul (pc := 46) hx hb dX10_readsBoy_46 ?_
    refine lv_iload_n (pc := 47) hx hb dX10_readsBoy_47 rfl (lv_at hl 1 rfl) ?_
    refine lv_iadd (pc := 48) hx hb dX10_readsBoy_48 ?_
    refine lv_aload_n (pc := 49) hx hb dX10_readsBoy_49 rfl (lv_at hl 0 rfl) ?_
    refine g_X10_122 (pc := 50) B hW dX10_readsBoy_50 ?_
    refine yast (pc := 53) B hW mr11 dX10_readsBoy_53 hf (fun μ3 H locs hW hf => ?_)
    refine lv_iinc (pc := 54) (v := (x1 + (1 : Int32))) (lv' := [(1, .int (x1 + (1 : Int32))), (0, .ref (zad G 0))]) hx hb dX10_readsBoy_54 hl (k := 1) rfl rfl (by decide) rfl (fun ls hl => ?_)
    refine lv_goto (pc := 57) (tgt := 2) hx hb dX10_readsBoy_57 (by decide) ?_
    exact hK2 (lv_sub hl [1, 0] rfl) hW hf
  · refine lv_iconst (pc := 35) (v := (0 : Int32)) hx hb dX10_readsBoy_35 rfl ?_
    exact zretz (pc := 36) B hW rfl hf dX10_readsBoy_36
noncomputable def f_X10_readsBoy_2 : Nat → Int32 → Mem → Option (Int32 × Mem)
  | 0, _, _ => none
  | n + 1, x1, μ => (if (3 : Int32) ≤ x1 then zlet (zI μ 0 14 ((μ.1 0 14) + (1 : Int32))) (fun μ1 => zbind (f_X10_ends μ1) (fun r3 μ2 => zck (zbo r3) (some (r3, μ2)))) else (if x1 = 0 then f_X10_readsBoy_29 (fun a0 ν => f_X10_readsBoy_2 n a0 ν) x1 (0 : Int32) (5 : Int32) μ else (if x1 = (1 : Int32) then f_X10_readsBoy_29 (fun a0 ν => f_X10_readsBoy_2 n a0 ν) x1 (0 : Int32) (12 : Int32) μ else f_X10_readsBoy_29 (fun a0 ν => f_X10_readsBoy_2 n a0 ν) x1 (0 : Int32) (40 : Int32) μ)))
set_option maxRecDepth 100000 in
theorem t_X10_readsBoy_2 {G : ZG} {p : Program} {l : Launch} {e : Env} {s : State} {m : MethodId} {args : Array Value} {below : List Frame} {meth : Method} {c : Code} (B : zB ZM G cX10_readsBoy 2 "DarkSharesModel" (some .boolean) p s m args meth c) : ∀ (n : Nat) {x1 : Int32} {μ : Mem} {H : Heap} {locs : List Loc} {ls : Array Slot} {r : Int32} {μ' : Mem}, lv_has ls 2 [(0, .ref (zad G 0)), (1, .int x1)] → zW ZM G s H locs μ → f_X10_readsBoy_2 n x1 μ = some (r, μ') → W p l e (zR 4) s m args below meth c H locs 0 0 (MQ below (zQ ZM G (some (.int r)) μ') args s 0 0 (zAd ZM G)) (F0 m 2 ls []) := by
  have hx := B.1
  have hb := B.2.1
  intro n
  induction n with
  | zero => intro _ _ _ _ _ _ _ hl hW hf; cases hf
  | succ n ih =>
    intro x1 μ H locs ls r μ' hl hW hf
    rw [f_X10_readsBoy_2] at hf
    refine lv_iload_n (pc := 2) hx hb dX10_readsBoy_2 rfl (lv_at hl 1 rfl) ?_
    refine lv_iconst (pc := 3) (v := (3 : Int32)) hx hb dX10_readsBoy_3 rfl ?_
    refine yic_ge (pc := 4) (tgt := 60) B dX10_readsBoy_4 (by decide) hf (fun hf => ?_) (fun hf => ?_)
    · refine lv_aload_n (pc := 60) hx hb dX10_readsBoy_60 rfl (lv_at hl 0 rfl) ?_
      refine lv_dup (pc := 61) hx hb dX10_readsBoy_61 rfl ?_
      refine g_X10_129 (pc := 62) B hW dX10_readsBoy_62 ?_
      refine lv_iconst (pc := 65) (v := (1 : Int32)) hx hb dX10_readsBoy_65 rfl ?_
      refine lv_iadd (pc := 66) hx hb dX10_readsBoy_66 ?_
      refine p_X10_129 (pc := 67) B hW dX10_readsBoy_67 hf (fun μ1 H locs hW hf => ?_)
      refine lv_aload_n (pc := 70) hx hb dX10_readsBoy_70 rfl (lv_at hl 0 rfl) ?_
      refine s_X10_132 (pc := 71) B hW hl.1 (by decide) (zle8 rfl) dX10_readsBoy_71 (fun _ _ h => c_X10_ends h) hf (fun r3 μ2 H locs hW hf => ?_)
      exact yretb (pc := 74) B hW hf dX10_readsBoy_74
    · refine lv_aload_n (pc := 7) hx hb dX10_readsBoy_7 rfl (lv_at hl 0 rfl) ?_
      refine lv_iconst (pc := 8) (v := (0 : Int32)) hx hb dX10_readsBoy_8 rfl ?_
      refine lv_iload_n (pc := 9) hx hb dX10_readsBoy_9 rfl (lv_at hl 1 rfl) ?_
      refine yif_ne (pc := 10) (tgt := 17) B dX10_readsBoy_10 (by decide) hf (fun hf => ?_) (fun hf => ?_)
      · refine lv_iload_n (pc := 17) hx hb dX10_readsBoy_17 rfl (lv_at hl 1 rfl) ?_
        refine lv_iconst (pc := 18) (v := (1 : Int32)) hx hb dX10_readsBoy_18 rfl ?_
        refine yic_ne (pc := 19) (tgt := 27) B dX10_readsBoy_19 (by decide) hf (fun hf => ?_) (fun hf => ?_)
        · refine lv_bipush (pc := 27) (v := (40 : Int32)) hx hb dX10_readsBoy_27 rfl ?_
          exact t_X10_readsBoy_29 B @ih (lv_sub hl [0, 1] rfl) hW hf
        · refine lv_bipush (pc := 22) (v := (12 : Int32)) hx hb dX10_readsBoy_22 rfl ?_
          refine lv_goto (pc := 24) (tgt := 29) hx hb dX10_readsBoy_24 (by decide) ?_
          exact t_X10_readsBoy_29 B @ih (lv_sub hl [0, 1] rfl) hW hf
      · refine lv_iconst (pc := 13) (v := (5 : Int32)) hx hb dX10_readsBoy_13 rfl ?_
        refine lv_goto (pc := 14) (tgt := 29) hx hb dX10_readsBoy_14 (by decide) ?_
        exact t_X10_readsBoy_29 B @ih (lv_sub hl [0, 1] rfl) hW hf
noncomputable def f_X10_readsBoy (μ : Mem) : Option (Int32 × Mem) := f_X10_readsBoy_2 zFU (0 : Int32) μ
set_option maxRecDepth 100000 in
theorem c_X10_readsBoy {G : ZG} {l : Launch} {μ : Mem} {r : Int32} {μ' : Mem} (h : f_X10_readsBoy μ = some (r, μ')) : zC ZM G l yX10_readsBoy cX10_readsBoy 2 (some .boolean) 4 [.ref (zad G 0)] μ (some (.int r)) μ' := by
  refine zC.mk (by decide +kernel) (Nat.le_of_ble_eq_true rfl) ?_
  intro p e s m below meth c ls B hl hW
  have B : zB ZM G cX10_readsBoy 2 "DarkSharesModel" (some .boolean) p s m [.ref (zad G 0)].toArray meth c := B
  have hl : lv_has ls 2 [(0, .ref (zad G 0))] := hl
  have hx := B.1
  have hb := B.2.1
  have hf := h
  unfold f_X10_readsBoy at hf
  refine lv_iconst (pc := 0) (v := (0 : Int32)) hx hb dX10_readsBoy_0 rfl ?_
  refine lv_istore_n (pc := 1) (lv' := [(1, .int (0 : Int32)), (0, .ref (zad G 0))]) hx hb dX10_readsBoy_1 rfl hl (by decide) rfl (fun ls hl => ?_)
  exact t_X10_readsBoy_2 B zFU (lv_sub hl [1, 0] rfl) hW hf
noncomputable def f_X10_readsCells_25 : Nat → Int32 → Mem → Option (Int32 × Mem)
  | 0, _, _ => none
  | n + 1, x1, μ => zbind (f_X10_here μ) (fun r2 μ1 => zbind (f_X10_isFigure r2 μ1) (fun r4 μ3 => (if r4 = 0 then zbind (f_X10_ends μ3) (fun r6 μ5 => zck (zbo r6) (some (r6, μ5))) else zbind (f_X10_number (0 : Int32) (11 : Int32) μ3) (fun r8 μ7 => (if r8 = 0 then some ((0 : Int32), μ7) else zck (zin (μ7.1 0 17) 12) (zlet (zI μ7 12 ((μ7.1 0 17)).toNatClampNeg x1) (fun μ9 => zbind (f_X10_skip μ9) (fun _ μ10 => f_X10_readsCells_25 n x1 μ10))))))))
set_option maxRecDepth 100000 in
theorem t_X10_readsCells_25 {G : ZG} {p : Program} {l : Launch} {e : Env} {s : State} {m : MethodId} {args : Array Value} {below : List Frame} {meth : Method} {c : Code} (B : zB ZM G cX10_readsCells 2 "DarkSharesModel" (some .boolean) p s m args meth c) : ∀ (n : Nat) {x1 : Int32} {μ : Mem} {H : Heap} {locs : List Loc} {ls : Array Slot} {r : Int32} {μ' : Mem}, lv_has ls 2 [(0, .ref (zad G 0)), (1, .int x1)] → zW ZM G s H locs μ → f_X10_readsCells_25 n x1 μ = some (r, μ') → W p l e (zR 4) s m args below meth c H locs 0 0 (MQ below (zQ ZM G (some (.int r)) μ') args s 0 0 (zAd ZM G)) (F0 m 25 ls []) := by
  have hx := B.1
  have hb := B.2.1
  intro n
  induction n with
  | zero => intro _ _ _ _ _ _ _ hl hW hf; cases hf
  | succ n ih =>
    intro x1 μ H locs ls r μ' hl hW hf
    rw [f_X10_readsCells_25] at hf
    refine lv_aload_n (pc := 25) hx hb dX10_readsCells_25 rfl (lv_at hl 0 rfl) ?_
    refine s_X10_102 (pc := 26) B hW hl.1 (by decide) (zle8 rfl) dX10_readsCells_26 (fun _ _ h => c_X10_here h) hf (fun r2 μ1 H locs hW hf => ?_)
    refine s_X10_119 (pc := 29) B hW hl.1 (by decide) (zle8 rfl) dX10_readsCells_29 (fun _ _ h => c_X10_isFigure h) hf (fun r4 μ3 H locs hW hf => ?_)
    refine yif_eq (pc := 32) (tgt := 64) B dX10_readsCells_32 (by decide) hf (fun hf => ?_) (fun hf => ?_)
    · refine lv_aload_n (pc := 64) hx hb dX10_readsCells_64 rfl (lv_at hl 0 rfl) ?_
      refine s_X10_132 (pc := 65) B hW hl.1 (by decide) (zle8 rfl) dX10_readsCells_65 (fun _ _ h => c_X10_ends h) hf (fun r6 μ5 H locs hW hf => ?_)
      exact yretb (pc := 68) B hW hf dX10_readsCells_68
    · refine lv_aload_n (pc := 35) hx hb dX10_readsCells_35 rfl (lv_at hl 0 rfl) ?_
      refine lv_iconst (pc := 36) (v := (0 : Int32)) hx hb dX10_readsCells_36 rfl ?_
      refine lv_bipush (pc := 37) (v := (11 : Int32)) hx hb dX10_readsCells_37 rfl ?_
      refine s_X10_125 (pc := 39) B hW hl.1 (by decide) (zle8 rfl) dX10_readsCells_39 (fun _ _ h => c_X10_number h) hf (fun r8 μ7 H locs hW hf => ?_)
      refine yif_ne (pc := 42) (tgt := 47) B dX10_readsCells_42 (by decide) hf (fun hf => ?_) (fun hf => ?_)
      · refine lv_aload_n (pc := 47) hx hb dX10_readsCells_47 rfl (lv_at hl 0 rfl) ?_
        refine g_X10_43 (pc := 48) B hW dX10_readsCells_48 ?_
        refine lv_aload_n (pc := 51) hx hb dX10_readsCells_51 rfl (lv_at hl 0 rfl) ?_
        refine g_X10_122 (pc := 52) B hW dX10_readsCells_52 ?_
        refine lv_iload_n (pc := 55) hx hb dX10_readsCells_55 rfl (lv_at hl 1 rfl) ?_
        refine yast (pc := 56) B hW mr12 dX10_readsCells_56 hf (fun μ9 H locs hW hf => ?_)
        refine lv_aload_n (pc := 57) hx hb dX10_readsCells_57 rfl (lv_at hl 0 rfl) ?_
        refine s_X10_116 (pc := 58) B hW hl.1 (by decide) (zle8 rfl) dX10_readsCells_58 (fun _ _ h => c_X10_skip h) hf (fun _ μ10 H locs hW hf => ?_)
        refine lv_goto (pc := 61) (tgt := 25) hx hb dX10_readsCells_61 (by decide) ?_
        exact ih (lv_sub hl [0, 1] rfl) hW hf
      · refine lv_iconst (pc := 45) (v := (0 : Int32)) hx hb dX10_readsCells_45 rfl ?_
        exact zretz (pc := 46) B hW rfl hf dX10_readsCells_46
noncomputable def f_X10_readsCells (μ : Mem) : Option (Int32 × Mem) := zbind (f_X10_number (0 : Int32) ((μ.1 0 14) - (1 : Int32)) μ) (fun r2 μ1 => (if r2 = 0 then some ((0 : Int32), μ1) else zbind (f_X10_skip μ1) (fun _ μ3 => f_X10_readsCells_25 zFU (μ1.1 0 17) μ3)))
set_option maxRecDepth 100000 in
theorem c_X10_readsCells {G : ZG} {l : Launch} {μ : Mem} {r : Int32} {μ' : Mem} (h : f_X10_readsCells μ = some (r, μ')) : zC ZM G l yX10_readsCells cX10_readsCells 2 (some .boolean) 4 [.ref (zad G 0)] μ (some (.int r)) μ' := by
  refine zC.mk (by decide +kernel) (Nat.le_of_ble_eq_true rfl) ?_
  intro p e s m below meth c ls B hl hW
  have B : zB ZM G cX10_readsCells 2 "DarkSharesModel" (some .boolean) p s m [.ref (zad G 0)].toArray meth c := B
  have hl : lv_has ls 2 [(0, .ref (zad G 0))] := hl
  have hx := B.1
  have hb := B.2.1
  have hf := h
  unfold f_X10_readsCells at hf
  refine lv_aload_n (pc := 0) hx hb dX10_readsCells_0 rfl (lv_at hl 0 rfl) ?_
  refine lv_iconst (pc := 1) (v := (0 : Int32)) hx hb dX10_readsCells_1 rfl ?_
  refine lv_aload_n (pc := 2) hx hb dX10_readsCells_2 rfl (lv_at hl 0 rfl) ?_
  refine g_X10_129 (pc := 3) B hW dX10_readsCells_3 ?_
  refine lv_iconst (pc := 6) (v := (1 : Int32)) hx hb dX10_readsCells_6 rfl ?_
  refine lv_isub (pc := 7) hx hb dX10_readsCells_7 ?_
  refine s_X10_125 (pc := 8) B hW hl.1 (by decide) (zle8 rfl) dX10_readsCells_8 (fun _ _ h => c_X10_number h) hf (fun r2 μ1 H locs hW hf => ?_)
  refine yif_ne (pc := 11) (tgt := 16) B dX10_readsCells_11 (by decide) hf (fun hf => ?_) (fun hf => ?_)
  · refine lv_aload_n (pc := 16) hx hb dX10_readsCells_16 rfl (lv_at hl 0 rfl) ?_
    refine g_X10_122 (pc := 17) B hW dX10_readsCells_17 ?_
    refine lv_istore_n (pc := 20) (lv' := [(1, .int (μ1.1 0 17)), (0, .ref (zad G 0))]) hx hb dX10_readsCells_20 rfl hl (by decide) rfl (fun ls hl => ?_)
    refine lv_aload_n (pc := 21) hx hb dX10_readsCells_21 rfl (lv_at hl 1 rfl) ?_
    refine s_X10_116 (pc := 22) B hW hl.1 (by decide) (zle8 rfl) dX10_readsCells_22 (fun _ _ h => c_X10_skip h) hf (fun _ μ3 H locs hW hf => ?_)
    exact t_X10_readsCells_25 B zFU (lv_sub hl [1, 0] rfl) hW hf
  · refine lv_iconst (pc := 14) (v := (0 : Int32)) hx hb dX10_readsCells_14 rfl ?_
    exact zretz (pc := 15) B hW rfl hf dX10_readsCells_15
noncomputable def f_X10_readsItem_40 (x1 : Int32) (s1 : Int32) (s2 : Int32) (μ : Mem) : Option (Int32 × Mem) := zlet (zI μ 0 13 (s1 + s2)) (fun μ1 => (if x1 = (1 : Int32) then zbind (f_X10_readsBoy μ1) (fun r5 μ4 => zck (zbo r5) (some (r5, μ4))) else zbind (f_X10_readsCells μ1) (fun r3 μ2 => zck (zbo r3) (some (r3, μ2)))))
set_option maxRecDepth 100000 in
theorem t_X10_readsItem_40 {G : ZG} {p : Program} {l : Launch} {e : Env} {s : State} {m : MethodId} {args : Array Value} {below : List Frame} {meth : Method} {c : Code} (B : zB ZM G cX10_readsItem 2 "DarkSharesModel" (some .boolean) p s m args meth c) {x1 : Int32} {s1 : Int32} {s2 : Int32} {μ : Mem} {H : Heap} {locs : List Loc} {ls : Array Slot} {r : Int32} {μ' : Mem} (hl : lv_has ls 2 [(0, .ref (zad G 0)), (1, .int x1)]) (hW : zW ZM G s H locs μ) (hf : f_X10_readsItem_40 x1 s1 s2 μ = some (r, μ')) : W p l e (zR 5) s m args below meth c H locs 0 0 (MQ below (zQ ZM G (some (.int r)) μ') args s 0 0 (zAd ZM G)) (F0 m 40 ls [.int s2, .int s1, .ref (zad G 0)]) := by
  have hx := B.1
  have hb := B.2.1
  unfold f_X10_readsItem_40 at hf
  refine lv_iadd (pc := 40) hx hb dX10_readsItem_40 ?_
  refine p_X10_99 (pc := 41) B hW dX10_readsItem_41 hf (fun μ1 H locs hW hf => ?_)
  refine lv_iload_n (pc := 44) hx hb dX10_readsItem_44 rfl (lv_at hl 1 rfl) ?_
  refine lv_iconst (pc := 45) (v := (1 : Int32)) hx hb dX10_readsItem_45 rfl ?_
  refine yic_ne (pc := 46) (tgt := 56) B dX10_readsItem_46 (by decide) hf (fun hf => ?_) (fun hf => ?_)
  · refine lv_aload_n (pc := 56) hx hb dX10_readsItem_56 rfl (lv_at hl 0 rfl) ?_
    refine s_X10_142 (pc := 57) B hW hl.1 (by decide) (zle8 rfl) dX10_readsItem_57 (fun _ _ h => c_X10_readsCells h) hf (fun r3 μ2 H locs hW hf => ?_)
    exact yretb (pc := 60) B hW hf dX10_readsItem_60
  · refine lv_aload_n (pc := 49) hx hb dX10_readsItem_49 rfl (lv_at hl 0 rfl) ?_
    refine s_X10_139 (pc := 50) B hW hl.1 (by decide) (zle8 rfl) dX10_readsItem_50 (fun _ _ h => c_X10_readsBoy h) hf (fun r5 μ4 H locs hW hf => ?_)
    refine lv_goto (pc := 53) (tgt := 60) hx hb dX10_readsItem_53 (by decide) ?_
    exact yretb (pc := 60) B hW hf dX10_readsItem_60
noncomputable def f_X10_readsItem_25 (x1 : Int32) (μ : Mem) : Option (Int32 × Mem) := (if x1 = (1 : Int32) then f_X10_readsItem_40 x1 (μ.1 0 13) (3 : Int32) μ else f_X10_readsItem_40 x1 (μ.1 0 13) (5 : Int32) μ)
set_option maxRecDepth 100000 in
theorem t_X10_readsItem_25 {G : ZG} {p : Program} {l : Launch} {e : Env} {s : State} {m : MethodId} {args : Array Value} {below : List Frame} {meth : Method} {c : Code} (B : zB ZM G cX10_readsItem 2 "DarkSharesModel" (some .boolean) p s m args meth c) {x1 : Int32} {μ : Mem} {H : Heap} {locs : List Loc} {ls : Array Slot} {r : Int32} {μ' : Mem} (hl : lv_has ls 2 [(0, .ref (zad G 0)), (1, .int x1)]) (hW : zW ZM G s H locs μ) (hf : f_X10_readsItem_25 x1 μ = some (r, μ')) : W p l e (zR 5) s m args below meth c H locs 0 0 (MQ below (zQ ZM G (some (.int r)) μ') args s 0 0 (zAd ZM G)) (F0 m 25 ls []) := by
  have hx := B.1
  have hb := B.2.1
  unfold f_X10_readsItem_25 at hf
  refine lv_aload_n (pc := 25) hx hb dX10_readsItem_25 rfl (lv_at hl 0 rfl) ?_
  refine lv_dup (pc := 26) hx hb dX10_readsItem_26 rfl ?_
  refine g_X10_99 (pc := 27) B hW dX10_readsItem_27 ?_
  refine lv_iload_n (pc := 30) hx hb dX10_readsItem_30 rfl (lv_at hl 1 rfl) ?_
  refine lv_iconst (pc := 31) (v := (1 : Int32)) hx hb dX10_readsItem_31 rfl ?_
  refine yic_ne (pc := 32) (tgt := 39) B dX10_readsItem_32 (by decide) hf (fun hf => ?_) (fun hf => ?_)
  · refine lv_iconst (pc := 39) (v := (5 : Int32)) hx hb dX10_readsItem_39 rfl ?_
    exact t_X10_readsItem_40 B (lv_sub hl [0, 1] rfl) hW hf
  · refine lv_iconst (pc := 35) (v := (3 : Int32)) hx hb dX10_readsItem_35 rfl ?_
    refine lv_goto (pc := 36) (tgt := 40) hx hb dX10_readsItem_36 (by decide) ?_
    exact t_X10_readsItem_40 B (lv_sub hl [0, 1] rfl) hW hf
noncomputable def f_X10_readsItem (μ : Mem) : Option (Int32 × Mem) := zbind (f_X10_wordHere μ) (fun r2 μ1 => (if r2 < (1 : Int32) then some ((0 : Int32), μ1) else (if r2 = (1 : Int32) then (if (μ1.1 0 14) = (5 : Int32) then some ((0 : Int32), μ1) else f_X10_readsItem_25 r2 μ1) else f_X10_readsItem_25 r2 μ1)))
set_option maxRecDepth 100000 in
theorem c_X10_readsItem {G : ZG} {l : Launch} {μ : Mem} {r : Int32} {μ' : Mem} (h : f_X10_readsItem μ = some (r, μ')) : zC ZM G l yX10_readsItem cX10_readsItem 2 (some .boolean) 5 [.ref (zad G 0)] μ (some (.int r)) μ' := by
  refine zC.mk (by decide +kernel) (Nat.le_of_ble_eq_true rfl) ?_
  intro p e s m below meth c ls B hl hW
  have B : zB ZM G cX10_readsItem 2 "DarkSharesModel" (some .boolean) p s m [.ref (zad G 0)].toArray meth c := B
  have hl : lv_has ls 2 [(0, .ref (zad G 0))] := hl
  have hx := B.1
  have hb := B.2.1
  have hf := h
  unfold f_X10_readsItem at hf
  refine lv_aload_n (pc := 0) hx hb dX10_readsItem_0 rfl (lv_at hl 0 rfl) ?_
  refine s_X10_136 (pc := 1) B hW hl.1 (by decide) (zle8 rfl) dX10_readsItem_1 (fun _ _ h => c_X10_wordHere h) hf (fun r2 μ1 H locs hW hf => ?_)
  refine lv_istore_n (pc := 4) (lv' := [(1, .int r2), (0, .ref (zad G 0))]) hx hb dX10_readsItem_4 rfl hl (by decide) rfl (fun ls hl => ?_)
  refine lv_iload_n (pc := 5) hx hb dX10_readsItem_5 rfl (lv_at hl 0 rfl) ?_
  refine lv_iconst (pc := 6) (v := (1 : Int32)) hx hb dX10_readsItem_6 rfl ?_
  refine yic_lt (pc := 7) (tgt := 23) B dX10_readsItem_7 (by decide) hf (fun hf => ?_) (fun hf => ?_)
  · refine lv_iconst (pc := 23) (v := (0 : Int32)) hx hb dX10_readsItem_23 rfl ?_
    exact zretz (pc := 24) B hW rfl hf dX10_readsItem_24
  · refine lv_iload_n (pc := 10) hx hb dX10_readsItem_10 rfl (lv_at hl 0 rfl) ?_
    refine lv_iconst (pc := 11) (v := (1 : Int32)) hx hb dX10_readsItem_11 rfl ?_
    refine yic_ne (pc := 12) (tgt := 25) B dX10_readsItem_12 (by decide) hf (fun hf => ?_) (fun hf => ?_)
    · exact t_X10_readsItem_25 B (lv_sub hl [1, 0] rfl) hW hf
    · refine lv_aload_n (pc := 15) hx hb dX10_readsItem_15 rfl (lv_at hl 1 rfl) ?_
      refine g_X10_129 (pc := 16) B hW dX10_readsItem_16 ?_
      refine lv_iconst (pc := 19) (v := (5 : Int32)) hx hb dX10_readsItem_19 rfl ?_
      refine yic_ne (pc := 20) (tgt := 25) B dX10_readsItem_20 (by decide) hf (fun hf => ?_) (fun hf => ?_)
      · exact t_X10_readsItem_25 B (lv_sub hl [1, 0] rfl) hW hf
      · refine lv_iconst (pc := 23) (v := (0 : Int32)) hx hb dX10_readsItem_23 rfl ?_
        exact zretz (pc := 24) B hW rfl hf dX10_readsItem_24
noncomputable def f_X10_readsNight_69 : Nat → Int32 → Mem → Option (Int32 × Mem)
  | 0, _, _ => none
  | n + 1, x1, μ => (if (μ.1 0 12) ≤ (μ.1 0 13) then some (x1, μ) else zbind (f_X10_readsItem μ) (fun r2 μ1 => (if r2 = 0 then some ((-1 : Int32), μ1) else zbind (f_X10_skip μ1) (fun _ μ3 => f_X10_readsNight_69 n (x1 + (1 : Int32)) μ3))))
set_option maxRecDepth 100000 in
theorem t_X10_readsNight_69 {G : ZG} {p : Program} {l : Launch} {e : Env} {s : State} {m : MethodId} {args : Array Value} {below : List Frame} {meth : Method} {c : Code} (B : zB ZM G cX10_readsNight 2 "DarkSharesModel" (some .int) p s m args meth c) : ∀ (n : Nat) {x1 : Int32} {μ : Mem} {H : Heap} {locs : List Loc} {ls : Array Slot} {r : Int32} {μ' : Mem}, lv_has ls 2 [(0, .ref (zad G 0)), (1, .int x1)] → zW ZM G s H locs μ → f_X10_readsNight_69 n x1 μ = some (r, μ') → W p l e (zR 6) s m args below meth c H locs 0 0 (MQ below (zQ ZM G (some (.int r)) μ') args s 0 0 (zAd ZM G)) (F0 m 69 ls []) := by
  have hx := B.1
  have hb := B.2.1
  intro n
  induction n with
  | zero => intro _ _ _ _ _ _ _ hl hW hf; cases hf
  | succ n ih =>
    intro x1 μ H locs ls r μ' hl hW hf
    rw [f_X10_readsNight_69] at hf
    refine lv_aload_n (pc := 69) hx hb dX10_readsNight_69 rfl (lv_at hl 0 rfl) ?_
    refine g_X10_99 (pc := 70) B hW dX10_readsNight_70 ?_
    refine lv_aload_n (pc := 73) hx hb dX10_readsNight_73 rfl (lv_at hl 0 rfl) ?_
    refine g_X10_96 (pc := 74) B hW dX10_readsNight_74 ?_
    refine yic_ge (pc := 77) (tgt := 99) B dX10_readsNight_77 (by decide) hf (fun hf => ?_) (fun hf => ?_)
    · refine lv_iload_n (pc := 99) hx hb dX10_readsNight_99 rfl (lv_at hl 1 rfl) ?_
      exact zreti (pc := 100) B hW hf dX10_readsNight_100
    · refine lv_aload_n (pc := 80) hx hb dX10_readsNight_80 rfl (lv_at hl 0 rfl) ?_
      refine s_X10_145 (pc := 81) B hW hl.1 (by decide) (zle8 rfl) dX10_readsNight_81 (fun _ _ h => c_X10_readsItem h) hf (fun r2 μ1 H locs hW hf => ?_)
      refine yif_ne (pc := 84) (tgt := 89) B dX10_readsNight_84 (by decide) hf (fun hf => ?_) (fun hf => ?_)
      · refine lv_iinc (pc := 89) (v := (x1 + (1 : Int32))) (lv' := [(1, .int (x1 + (1 : Int32))), (0, .ref (zad G 0))]) hx hb dX10_readsNight_89 hl (k := 1) rfl rfl (by decide) rfl (fun ls hl => ?_)
        refine lv_aload_n (pc := 92) hx hb dX10_readsNight_92 rfl (lv_at hl 1 rfl) ?_
        refine s_X10_116 (pc := 93) B hW hl.1 (by decide) (zle8 rfl) dX10_readsNight_93 (fun _ _ h => c_X10_skip h) hf (fun _ μ3 H locs hW hf => ?_)
        refine lv_goto (pc := 96) (tgt := 69) hx hb dX10_readsNight_96 (by decide) ?_
        exact ih (lv_sub hl [1, 0] rfl) hW hf
      · refine lv_iconst (pc := 87) (v := (-1 : Int32)) hx hb dX10_readsNight_87 rfl ?_
        exact zreti (pc := 88) B hW hf dX10_readsNight_88
noncomputable def f_X10_readsNight_12 : Nat → Int32 → Mem → Option (Int32 × Mem)
  | 0, _, _ => none
  | n + 1, x1, μ => (if (12 : Int32) ≤ x1 then zbind (f_X10_skip μ) (fun _ μ1 => zbind (f_X10_wordHere μ1) (fun r3 μ2 => (if r3 = 0 then zlet (zI μ2 0 13 ((μ2.1 0 13) + (5 : Int32))) (fun μ4 => zbind (f_X10_ends μ4) (fun r6 μ5 => (if r6 = 0 then some ((-1 : Int32), μ5) else zbind (f_X10_skip μ5) (fun _ μ7 => f_X10_readsNight_69 zFU (1 : Int32) μ7)))) else some ((-1 : Int32), μ2)))) else zck (zin x1 12) (zlet (zI μ 12 (x1).toNatClampNeg (-1 : Int32)) (fun μ8 => f_X10_readsNight_12 n (x1 + (1 : Int32)) μ8)))
set_option maxRecDepth 100000 in
theorem t_X10_readsNight_12 {G : ZG} {p : Program} {l : Launch} {e : Env} {s : State} {m : MethodId} {args : Array Value} {below : List Frame} {meth : Method} {c : Code} (B : zB ZM G cX10_readsNight 2 "DarkSharesModel" (some .int) p s m args meth c) : ∀ (n : Nat) {x1 : Int32} {μ : Mem} {H : Heap} {locs : List Loc} {ls : Array Slot} {r : Int32} {μ' : Mem}, lv_has ls 2 [(0, .ref (zad G 0)), (1, .int x1)] → zW ZM G s H locs μ → f_X10_readsNight_12 n x1 μ = some (r, μ') → W p l e (zR 6) s m args below meth c H locs 0 0 (MQ below (zQ ZM G (some (.int r)) μ') args s 0 0 (zAd ZM G)) (F0 m 12 ls []) := by
  have hx := B.1
  have hb := B.2.1
  intro n
  induction n with
  | zero => intro _ _ _ _ _ _ _ hl hW hf; cases hf
  | succ n ih =>
    intro x1 μ H locs ls r μ' hl hW hf
    rw [f_X10_readsNight_12] at hf
    refine lv_iload_n (pc := 12) hx hb dX10_readsNight_12 rfl (lv_at hl 1 rfl) ?_
    refine lv_bipush (pc := 13) (v := (12 : Int32)) hx hb dX10_readsNight_13 rfl ?_
    refine yic_ge (pc := 15) (tgt := 31) B dX10_readsNight_15 (by decide) hf (fun hf => ?_) (fun hf => ?_)
    · refine lv_aload_n (pc := 31) hx hb dX10_readsNight_31 rfl (lv_at hl 0 rfl) ?_
      refine s_X10_116 (pc := 32) B hW hl.1 (by decide) (zle8 rfl) dX10_readsNight_32 (fun _ _ h => c_X10_skip h) hf (fun _ μ1 H locs hW hf => ?_)
      refine lv_aload_n (pc := 35) hx hb dX10_readsNight_35 rfl (lv_at hl 0 rfl) ?_
      refine s_X10_136 (pc := 36) B hW hl.1 (by decide) (zle8 rfl) dX10_readsNight_36 (fun _ _ h => c_X10_wordHere h) hf (fun r3 μ2 H locs hW hf => ?_)
      refine yif_eq (pc := 39) (tgt := 44) B dX10_readsNight_39 (by decide) hf (fun hf => ?_) (fun hf => ?_)
      · refine lv_aload_n (pc := 44) hx hb dX10_readsNight_44 rfl (lv_at hl 0 rfl) ?_
        refine lv_dup (pc := 45) hx hb dX10_readsNight_45 rfl ?_
        refine g_X10_99 (pc := 46) B hW dX10_readsNight_46 ?_
        refine lv_iconst (pc := 49) (v := (5 : Int32)) hx hb dX10_readsNight_49 rfl ?_
        refine lv_iadd (pc := 50) hx hb dX10_readsNight_50 ?_
        refine p_X10_99 (pc := 51) B hW dX10_readsNight_51 hf (fun μ4 H locs hW hf => ?_)
        refine lv_aload_n (pc := 54) hx hb dX10_readsNight_54 rfl (lv_at hl 0 rfl) ?_
        refine s_X10_132 (pc := 55) B hW hl.1 (by decide) (zle8 rfl) dX10_readsNight_55 (fun _ _ h => c_X10_ends h) hf (fun r6 μ5 H locs hW hf => ?_)
        refine yif_ne (pc := 58) (tgt := 63) B dX10_readsNight_58 (by decide) hf (fun hf => ?_) (fun hf => ?_)
        · refine lv_iconst (pc := 63) (v := (1 : Int32)) hx hb dX10_readsNight_63 rfl ?_
          refine lv_istore_n (pc := 64) (lv' := [(1, .int (1 : Int32)), (0, .ref (zad G 0))]) hx hb dX10_readsNight_64 rfl hl (by decide) rfl (fun ls hl => ?_)
          refine lv_aload_n (pc := 65) hx hb dX10_readsNight_65 rfl (lv_at hl 1 rfl) ?_
          refine s_X10_116 (pc := 66) B hW hl.1 (by decide) (zle8 rfl) dX10_readsNight_66 (fun _ _ h => c_X10_skip h) hf (fun _ μ7 H locs hW hf => ?_)
          exact t_X10_readsNight_69 B zFU (lv_sub hl [1, 0] rfl) hW hf
        · refine lv_iconst (pc := 61) (v := (-1 : Int32)) hx hb dX10_readsNight_61 rfl ?_
          exact zreti (pc := 62) B hW hf dX10_readsNight_62
      · refine lv_iconst (pc := 42) (v := (-1 : Int32)) hx hb dX10_readsNight_42 rfl ?_
        exact zreti (pc := 43) B hW hf dX10_readsNight_43
    · refine lv_aload_n (pc := 18) hx hb dX10_readsNight_18 rfl (lv_at hl 0 rfl) ?_
      refine g_X10_43 (pc := 19) B hW dX10_readsNight_19 ?_
      refine lv_iload_n (pc := 22) hx hb dX10_readsNight_22 rfl (lv_at hl 1 rfl) ?_
      refine lv_iconst (pc := 23) (v := (-1 : Int32)) hx hb dX10_readsNight_23 rfl ?_
      refine yast (pc := 24) B hW mr12 dX10_readsNight_24 hf (fun μ8 H locs hW hf => ?_)
      refine lv_iinc (pc := 25) (v := (x1 + (1 : Int32))) (lv' := [(1, .int (x1 + (1 : Int32))), (0, .ref (zad G 0))]) hx hb dX10_readsNight_25 hl (k := 1) rfl rfl (by decide) rfl (fun ls hl => ?_)
      refine lv_goto (pc := 28) (tgt := 12) hx hb dX10_readsNight_28 (by decide) ?_
      exact ih (lv_sub hl [1, 0] rfl) hW hf
noncomputable def f_X10_readsNight (μ : Mem) : Option (Int32 × Mem) := zlet (zI μ 0 13 (0 : Int32)) (fun μ1 => zlet (zI μ1 0 14 (0 : Int32)) (fun μ2 => f_X10_readsNight_12 zFU (0 : Int32) μ2))
set_option maxRecDepth 100000 in
theorem c_X10_readsNight {G : ZG} {l : Launch} {μ : Mem} {r : Int32} {μ' : Mem} (h : f_X10_readsNight μ = some (r, μ')) : zC ZM G l yX10_readsNight cX10_readsNight 2 (some .int) 6 [.ref (zad G 0)] μ (some (.int r)) μ' := by
  refine zC.mk (by decide +kernel) (Nat.le_of_ble_eq_true rfl) ?_
  intro p e s m below meth c ls B hl hW
  have B : zB ZM G cX10_readsNight 2 "DarkSharesModel" (some .int) p s m [.ref (zad G 0)].toArray meth c := B
  have hl : lv_has ls 2 [(0, .ref (zad G 0))] := hl
  have hx := B.1
  have hb := B.2.1
  have hf := h
  unfold f_X10_readsNight at hf
  refine lv_aload_n (pc := 0) hx hb dX10_readsNight_0 rfl (lv_at hl 0 rfl) ?_
  refine lv_iconst (pc := 1) (v := (0 : Int32)) hx hb dX10_readsNight_1 rfl ?_
  refine p_X10_99 (pc := 2) B hW dX10_readsNight_2 hf (fun μ1 H locs hW hf => ?_)
  refine lv_aload_n (pc := 5) hx hb dX10_readsNight_5 rfl (lv_at hl 0 rfl) ?_
  refine lv_iconst (pc := 6) (v := (0 : Int32)) hx hb dX10_readsNight_6 rfl ?_
  refine p_X10_129 (pc := 7) B hW dX10_readsNight_7 hf (fun μ2 H locs hW hf => ?_)
  refine lv_iconst (pc := 10) (v := (0 : Int32)) hx hb dX10_readsNight_10 rfl ?_
  refine lv_istore_n (pc := 11) (lv' := [(1, .int (0 : Int32)), (0, .ref (zad G 0))]) hx hb dX10_readsNight_11 rfl hl (by decide) rfl (fun ls hl => ?_)
  exact t_X10_readsNight_12 B zFU (lv_sub hl [1, 0] rfl) hW hf
noncomputable def f_X10_read_72 : Nat → Int32 → Int32 → Mem → Option (Int32 × Mem)
  | 0, _, _, _ => none
  | n + 1, x1, x2, μ => (if (12 : Int32) ≤ x2 then some (x1, μ) else zck (zin x2 12) (zck (zin x2 12) (zlet (zI μ 5 (x2).toNatClampNeg (μ.1 12 (x2).toNatClampNeg)) (fun μ1 => f_X10_read_72 n x1 (x2 + (1 : Int32)) μ1))))
set_option maxRecDepth 100000 in
theorem t_X10_read_72 {G : ZG} {p : Program} {l : Launch} {e : Env} {s : State} {m : MethodId} {args : Array Value} {below : List Frame} {meth : Method} {c : Code} (B : zB ZM G cX10_read 3 "DarkSharesModel" (some .int) p s m args meth c) : ∀ (n : Nat) {x1 : Int32} {x2 : Int32} {μ : Mem} {H : Heap} {locs : List Loc} {ls : Array Slot} {r : Int32} {μ' : Mem}, lv_has ls 3 [(0, .ref (zad G 0)), (1, .int x1), (2, .int x2)] → zW ZM G s H locs μ → f_X10_read_72 n x1 x2 μ = some (r, μ') → W p l e (zR 7) s m args below meth c H locs 0 0 (MQ below (zQ ZM G (some (.int r)) μ') args s 0 0 (zAd ZM G)) (F0 m 72 ls []) := by
  have hx := B.1
  have hb := B.2.1
  intro n
  induction n with
  | zero => intro _ _ _ _ _ _ _ _ hl hW hf; cases hf
  | succ n ih =>
    intro x1 x2 μ H locs ls r μ' hl hW hf
    rw [f_X10_read_72] at hf
    refine lv_iload_n (pc := 72) hx hb dX10_read_72 rfl (lv_at hl 2 rfl) ?_
    refine lv_bipush (pc := 73) (v := (12 : Int32)) hx hb dX10_read_73 rfl ?_
    refine yic_ge (pc := 75) (tgt := 96) B dX10_read_75 (by decide) hf (fun hf => ?_) (fun hf => ?_)
    · refine lv_iload_n (pc := 96) hx hb dX10_read_96 rfl (lv_at hl 1 rfl) ?_
      exact zreti (pc := 97) B hW hf dX10_read_97
    · refine lv_aload_n (pc := 78) hx hb dX10_read_78 rfl (lv_at hl 0 rfl) ?_
      refine g_X10_22 (pc := 79) B hW dX10_read_79 ?_
      refine lv_iload_n (pc := 82) hx hb dX10_read_82 rfl (lv_at hl 2 rfl) ?_
      refine lv_aload_n (pc := 83) hx hb dX10_read_83 rfl (lv_at hl 0 rfl) ?_
      refine g_X10_43 (pc := 84) B hW dX10_read_84 ?_
      refine lv_iload_n (pc := 87) hx hb dX10_read_87 rfl (lv_at hl 2 rfl) ?_
      refine yald (pc := 88) B hW mr12 dX10_read_88 hf (fun hf => ?_)
      refine yast (pc := 89) B hW mr5 dX10_read_89 hf (fun μ1 H locs hW hf => ?_)
      refine lv_iinc (pc := 90) (v := (x2 + (1 : Int32))) (lv' := [(2, .int (x2 + (1 : Int32))), (0, .ref (zad G 0)), (1, .int x1)]) hx hb dX10_read_90 hl (k := 2) rfl rfl (by decide) rfl (fun ls hl => ?_)
      refine lv_goto (pc := 93) (tgt := 72) hx hb dX10_read_93 (by decide) ?_
      exact ih (lv_sub hl [1, 2, 0] rfl) hW hf
noncomputable def f_X10_read_23 : Nat → Int32 → Int32 → Mem → Option (Int32 × Mem)
  | 0, _, _, _ => none
  | n + 1, x1, x2, μ => (if (μ.1 0 14) ≤ x2 then f_X10_read_72 zFU x1 (0 : Int32) μ else zck (zin ((3 : Int32) * x2) 15) (zck (zin (((3 : Int32) * x2) + (1 : Int32)) 15) (zck (zin (((3 : Int32) * x2) + (2 : Int32)) 15) (zbind (f_X10_addBoy (μ.1 11 (((3 : Int32) * x2)).toNatClampNeg) (μ.1 11 ((((3 : Int32) * x2) + (1 : Int32))).toNatClampNeg) (μ.1 11 ((((3 : Int32) * x2) + (2 : Int32))).toNatClampNeg) μ) (fun r2 μ1 => f_X10_read_23 n x1 (x2 + (1 : Int32)) μ1)))))
set_option maxRecDepth 100000 in
theorem t_X10_read_23 {G : ZG} {p : Program} {l : Launch} {e : Env} {s : State} {m : MethodId} {args : Array Value} {below : List Frame} {meth : Method} {c : Code} (B : zB ZM G cX10_read 3 "DarkSharesModel" (some .int) p s m args meth c) : ∀ (n : Nat) {x1 : Int32} {x2 : Int32} {μ : Mem} {H : Heap} {locs : List Loc} {ls : Array Slot} {r : Int32} {μ' : Mem}, lv_has ls 3 [(0, .ref (zad G 0)), (1, .int x1), (2, .int x2)] → zW ZM G s H locs μ → f_X10_read_23 n x1 x2 μ = some (r, μ') → W p l e (zR 7) s m args below meth c H locs 0 0 (MQ below (zQ ZM G (some (.int r)) μ') args s 0 0 (zAd ZM G)) (F0 m 23 ls []) := by
  have hx := B.1
  have hb := B.2.1
  intro n
  induction n with
  | zero => intro _ _ _ _ _ _ _ _ hl hW hf; cases hf
  | succ n ih =>
    intro x1 x2 μ H locs ls r μ' hl hW hf
    rw [f_X10_read_23] at hf
    refine lv_iload_n (pc := 23) hx hb dX10_read_23 rfl (lv_at hl 2 rfl) ?_
    refine lv_aload_n (pc := 24) hx hb dX10_read_24 rfl (lv_at hl 0 rfl) ?_
    refine g_X10_129 (pc := 25) B hW dX10_read_25 ?_
    refine yic_ge (pc := 28) (tgt := 70) B dX10_read_28 (by decide) hf (fun hf => ?_) (fun hf => ?_)
    · refine lv_iconst (pc := 70) (v := (0 : Int32)) hx hb dX10_read_70 rfl ?_
      refine lv_istore_n (pc := 71) (lv' := [(2, .int (0 : Int32)), (0, .ref (zad G 0)), (1, .int x1)]) hx hb dX10_read_71 rfl hl (by decide) rfl (fun ls hl => ?_)
      exact t_X10_read_72 B zFU (lv_sub hl [1, 2, 0] rfl) hW hf
    · refine lv_aload_n (pc := 31) hx hb dX10_read_31 rfl (lv_at hl 0 rfl) ?_
      refine lv_aload_n (pc := 32) hx hb dX10_read_32 rfl (lv_at hl 0 rfl) ?_
      refine g_X10_40 (pc := 33) B hW dX10_read_33 ?_
      refine lv_iconst (pc := 36) (v := (3 : Int32)) hx hb dX10_read_36 rfl ?_
      refine lv_iload_n (pc := 37) hx hb dX10_read_37 rfl (lv_at hl 2 rfl) ?_
      refine lv_imul (pc := 38) hx hb dX10_read_38 ?_
      refine yald (pc := 39) B hW mr11 dX10_read_39 hf (fun hf => ?_)
      refine lv_aload_n (pc := 40) hx hb dX10_read_40 rfl (lv_at hl 0 rfl) ?_
      refine g_X10_40 (pc := 41) B hW dX10_read_41 ?_
      refine lv_iconst (pc := 44) (v := (3 : Int32)) hx hb dX10_read_44 rfl ?_
      refine lv_iload_n (pc := 45) hx hb dX10_read_45 rfl (lv_at hl 2 rfl) ?_
      refine lv_imul (pc := 46) hx hb dX10_read_46 ?_
      refine lv_iconst (pc := 47) (v := (1 : Int32)) hx hb dX10_read_47 rfl ?_
      refine lv_iadd (pc := 48) hx hb dX10_read_48 ?_
      refine yald (pc := 49) B hW mr11 dX10_read_49 hf (fun hf => ?_)
      refine lv_aload_n (pc := 50) hx hb dX10_read_50 rfl (lv_at hl 0 rfl) ?_
      refine g_X10_40 (pc := 51) B hW dX10_read_51 ?_
      refine lv_iconst (pc := 54) (v := (3 : Int32)) hx hb dX10_read_54 rfl ?_
      refine lv_iload_n (pc := 55) hx hb dX10_read_55 rfl (lv_at hl 2 rfl) ?_
      refine lv_imul (pc := 56) hx hb dX10_read_56 ?_
      refine lv_iconst (pc := 57) (v := (2 : Int32)) hx hb dX10_read_57 rfl ?_
      refine lv_iadd (pc := 58) hx hb dX10_read_58 ?_
      refine yald (pc := 59) B hW mr11 dX10_read_59 hf (fun hf => ?_)
      refine s_X10_92 (pc := 60) B hW hl.1 (by decide) (zle8 rfl) dX10_read_60 (fun _ _ h => c_X10_addBoy h) hf (fun r2 μ1 H locs hW hf => ?_)
      refine lv_pop (pc := 63) hx hb dX10_read_63 rfl ?_
      refine lv_iinc (pc := 64) (v := (x2 + (1 : Int32))) (lv' := [(2, .int (x2 + (1 : Int32))), (0, .ref (zad G 0)), (1, .int x1)]) hx hb dX10_read_64 hl (k := 2) rfl rfl (by decide) rfl (fun ls hl => ?_)
      refine lv_goto (pc := 67) (tgt := 23) hx hb dX10_read_67 (by decide) ?_
      exact ih (lv_sub hl [1, 2, 0] rfl) hW hf
noncomputable def f_X10_read (μ : Mem) : Option (Int32 × Mem) := zbind (f_X10_readsNight μ) (fun r2 μ1 => (if 0 ≤ r2 then zbind (f_X10_begin μ1) (fun _ μ3 => f_X10_read_23 zFU r2 (0 : Int32) μ3) else some (((-10 : Int32) - (μ1.1 0 13)), μ1)))
set_option maxRecDepth 100000 in
theorem c_X10_read {G : ZG} {l : Launch} {μ : Mem} {r : Int32} {μ' : Mem} (h : f_X10_read μ = some (r, μ')) : zC ZM G l yX10_read cX10_read 3 (some .int) 7 [.ref (zad G 0)] μ (some (.int r)) μ' := by
  refine zC.mk (by decide +kernel) (Nat.le_of_ble_eq_true rfl) ?_
  intro p e s m below meth c ls B hl hW
  have B : zB ZM G cX10_read 3 "DarkSharesModel" (some .int) p s m [.ref (zad G 0)].toArray meth c := B
  have hl : lv_has ls 3 [(0, .ref (zad G 0))] := hl
  have hx := B.1
  have hb := B.2.1
  have hf := h
  unfold f_X10_read at hf
  refine lv_aload_n (pc := 0) hx hb dX10_read_0 rfl (lv_at hl 0 rfl) ?_
  refine s_X10_148 (pc := 1) B hW hl.1 (by decide) (zle8 rfl) dX10_read_1 (fun _ _ h => c_X10_readsNight h) hf (fun r2 μ1 H locs hW hf => ?_)
  refine lv_istore_n (pc := 4) (lv' := [(1, .int r2), (0, .ref (zad G 0))]) hx hb dX10_read_4 rfl hl (by decide) rfl (fun ls hl => ?_)
  refine lv_iload_n (pc := 5) hx hb dX10_read_5 rfl (lv_at hl 0 rfl) ?_
  refine yif_ge (pc := 6) (tgt := 17) B dX10_read_6 (by decide) hf (fun hf => ?_) (fun hf => ?_)
  · refine lv_aload_n (pc := 17) hx hb dX10_read_17 rfl (lv_at hl 1 rfl) ?_
    refine s_X10_68 (pc := 18) B hW hl.1 (by decide) (zle8 rfl) dX10_read_18 (fun _ _ h => c_X10_begin h) hf (fun _ μ3 H locs hW hf => ?_)
    refine lv_iconst (pc := 21) (v := (0 : Int32)) hx hb dX10_read_21 rfl ?_
    refine lv_istore_n (pc := 22) (lv' := [(2, .int (0 : Int32)), (1, .int r2), (0, .ref (zad G 0))]) hx hb dX10_read_22 rfl hl (by decide) rfl (fun ls hl => ?_)
    exact t_X10_read_23 B zFU (lv_sub hl [2, 1, 0] rfl) hW hf
  · refine lv_bipush (pc := 9) (v := (-10 : Int32)) hx hb dX10_read_9 rfl ?_
    refine lv_aload_n (pc := 11) hx hb dX10_read_11 rfl (lv_at hl 1 rfl) ?_
    refine g_X10_99 (pc := 12) B hW dX10_read_12 ?_
    refine lv_isub (pc := 15) hx hb dX10_read_15 ?_
    exact zreti (pc := 16) B hW hf dX10_read_16
noncomputable def f_X10_valueBy_20 (x0 : Int32) (x1 : Int32) (x3 : Int32) (s0 : Int32) (μ : Mem) : Option (Int32 × Mem) := zbind (f_X10_in x1 (4 : Int32) (7 : Int32) μ) (fun r2 μ1 => (if x0 = (1 : Int32) then some (x3, μ1) else (if x0 = (2 : Int32) then (if r2 = 0 then some ((3 : Int32), μ1) else some ((6 : Int32), μ1)) else (if x0 = (3 : Int32) then some (s0, μ1) else (if x0 = (4 : Int32) then (if r2 = 0 then some (x3, μ1) else some ((0 : Int32), μ1)) else (if x0 = (5 : Int32) then (if x1 = (11 : Int32) then some (((s0 - (1 : Int32)) + (3 : Int32)), μ1) else some (((s0 - (1 : Int32)) + (0 : Int32)), μ1)) else some ((3 : Int32), μ1)))))))
set_option maxRecDepth 100000 in
theorem t_X10_valueBy_20 {G : ZG} {p : Program} {l : Launch} {e : Env} {s : State} {m : MethodId} {args : Array Value} {below : List Frame} {meth : Method} {c : Code} (B : zB ZM G cX10_valueBy 6 "DarkSharesModel" (some .int) p s m args meth c) {x0 : Int32} {x1 : Int32} {x3 : Int32} {s0 : Int32} {μ : Mem} {H : Heap} {locs : List Loc} {ls : Array Slot} {r : Int32} {μ' : Mem} (hl : lv_has ls 6 [(0, .int x0), (1, .int x1), (3, .int x3)]) (hW : zW ZM G s H locs μ) (hf : f_X10_valueBy_20 x0 x1 x3 s0 μ = some (r, μ')) : W p l e (zR 2) s m args below meth c H locs 0 0 (MQ below (zQ ZM G (some (.int r)) μ') args s 0 0 (zAd ZM G)) (F0 m 20 ls [.int s0]) := by
  have hx := B.1
  have hb := B.2.1
  unfold f_X10_valueBy_20 at hf
  refine lv_istore (pc := 20) (lv' := [(4, .int s0), (0, .int x0), (1, .int x1), (3, .int x3)]) hx hb dX10_valueBy_20 hl (by decide) rfl (fun ls hl => ?_)
  refine lv_iload_n (pc := 22) hx hb dX10_valueBy_22 rfl (lv_at hl 2 rfl) ?_
  refine lv_iconst (pc := 23) (v := (4 : Int32)) hx hb dX10_valueBy_23 rfl ?_
  refine lv_bipush (pc := 24) (v := (7 : Int32)) hx hb dX10_valueBy_24 rfl ?_
  refine s_X10_81 (pc := 26) B hW hl.1 (by decide) (zle8 rfl) dX10_valueBy_26 (fun _ _ h => c_X10_in h) hf (fun r2 μ1 H locs hW hf => ?_)
  refine lv_istore (pc := 29) (lv' := [(5, .int r2), (4, .int s0), (0, .int x0), (1, .int x1), (3, .int x3)]) hx hb dX10_valueBy_29 hl (by decide) rfl (fun ls hl => ?_)
  refine lv_iload_n (pc := 31) hx hb dX10_valueBy_31 rfl (lv_at hl 2 rfl) ?_
  rcases zsw hf with ⟨c1, hf⟩ | ⟨c1, hf⟩
  · refine ytabin (pc := 32) (tgt := 68) B dX10_valueBy_32 c1 (by decide) (by decide) rfl (by decide) ?_
    refine lv_iload_n (pc := 68) hx hb dX10_valueBy_68 rfl (lv_at hl 4 rfl) ?_
    exact zreti (pc := 69) B hW hf dX10_valueBy_69
  rcases zsw hf with ⟨c2, hf⟩ | ⟨c2, hf⟩
  · refine ytabin (pc := 32) (tgt := 70) B dX10_valueBy_32 c2 (by decide) (by decide) rfl (by decide) ?_
    refine lv_iload (pc := 70) hx hb dX10_valueBy_70 (lv_at hl 0 rfl) ?_
    refine yif_eq (pc := 72) (tgt := 80) B dX10_valueBy_72 (by decide) hf (fun hf => ?_) (fun hf => ?_)
    · refine lv_iconst (pc := 80) (v := (3 : Int32)) hx hb dX10_valueBy_80 rfl ?_
      exact zreti (pc := 81) B hW hf dX10_valueBy_81
    · refine lv_bipush (pc := 75) (v := (6 : Int32)) hx hb dX10_valueBy_75 rfl ?_
      refine lv_goto (pc := 77) (tgt := 81) hx hb dX10_valueBy_77 (by decide) ?_
      exact zreti (pc := 81) B hW hf dX10_valueBy_81
  rcases zsw hf with ⟨c3, hf⟩ | ⟨c3, hf⟩
  · refine ytabin (pc := 32) (tgt := 82) B dX10_valueBy_32 c3 (by decide) (by decide) rfl (by decide) ?_
    refine lv_iload (pc := 82) hx hb dX10_valueBy_82 (lv_at hl 1 rfl) ?_
    exact zreti (pc := 84) B hW hf dX10_valueBy_84
  rcases zsw hf with ⟨c4, hf⟩ | ⟨c4, hf⟩
  · refine ytabin (pc := 32) (tgt := 85) B dX10_valueBy_32 c4 (by decide) (by decide) rfl (by decide) ?_
    refine lv_iload (pc := 85) hx hb dX10_valueBy_85 (lv_at hl 0 rfl) ?_
    refine yif_eq (pc := 87) (tgt := 94) B dX10_valueBy_87 (by decide) hf (fun hf => ?_) (fun hf => ?_)
    · refine lv_iload_n (pc := 94) hx hb dX10_valueBy_94 rfl (lv_at hl 4 rfl) ?_
      exact zreti (pc := 95) B hW hf dX10_valueBy_95
    · refine lv_iconst (pc := 90) (v := (0 : Int32)) hx hb dX10_valueBy_90 rfl ?_
      refine lv_goto (pc := 91) (tgt := 95) hx hb dX10_valueBy_91 (by decide) ?_
      exact zreti (pc := 95) B hW hf dX10_valueBy_95
  rcases zsw hf with ⟨c5, hf⟩ | ⟨c5, hf⟩
  · refine ytabin (pc := 32) (tgt := 96) B dX10_valueBy_32 c5 (by decide) (by decide) rfl (by decide) ?_
    refine lv_iload (pc := 96) hx hb dX10_valueBy_96 (lv_at hl 1 rfl) ?_
    refine lv_iconst (pc := 98) (v := (1 : Int32)) hx hb dX10_valueBy_98 rfl ?_
    refine lv_isub (pc := 99) hx hb dX10_valueBy_99 ?_
    refine lv_iload_n (pc := 100) hx hb dX10_valueBy_100 rfl (lv_at hl 3 rfl) ?_
    refine lv_bipush (pc := 101) (v := (11 : Int32)) hx hb dX10_valueBy_101 rfl ?_
    refine yic_ne (pc := 103) (tgt := 110) B dX10_valueBy_103 (by decide) hf (fun hf => ?_) (fun hf => ?_)
    · refine lv_iconst (pc := 110) (v := (0 : Int32)) hx hb dX10_valueBy_110 rfl ?_
      refine lv_iadd (pc := 111) hx hb dX10_valueBy_111 ?_
      exact zreti (pc := 112) B hW hf dX10_valueBy_112
    · refine lv_iconst (pc := 106) (v := (3 : Int32)) hx hb dX10_valueBy_106 rfl ?_
      refine lv_goto (pc := 107) (tgt := 111) hx hb dX10_valueBy_107 (by decide) ?_
      refine lv_iadd (pc := 111) hx hb dX10_valueBy_111 ?_
      exact zreti (pc := 112) B hW hf dX10_valueBy_112
  have e1 := zne c1 (show ((1 : Int32)).toInt = 1 from by decide)
  have e2 := zne c2 (show ((2 : Int32)).toInt = 2 from by decide)
  have e3 := zne c3 (show ((3 : Int32)).toInt = 3 from by decide)
  have e4 := zne c4 (show ((4 : Int32)).toInt = 4 from by decide)
  have e5 := zne c5 (show ((5 : Int32)).toInt = 5 from by decide)
  refine ytabout (pc := 32) (tgt := 113) B dX10_valueBy_32 (by omega) (by decide) ?_
  refine lv_iconst (pc := 113) (v := (3 : Int32)) hx hb dX10_valueBy_113 rfl ?_
  exact zreti (pc := 114) B hW hf dX10_valueBy_114
noncomputable def f_X10_valueBy (x0 : Int32) (x1 : Int32) (x2 : Int32) (μ : Mem) : Option (Int32 × Mem) := (if (3 : Int32) ≤ x1 then (if x2 = 0 then f_X10_valueBy_20 x0 x1 (3 : Int32) (3 : Int32) μ else f_X10_valueBy_20 x0 x1 (3 : Int32) (5 : Int32) μ) else (if x2 = 0 then f_X10_valueBy_20 x0 x1 (5 : Int32) (3 : Int32) μ else f_X10_valueBy_20 x0 x1 (5 : Int32) (5 : Int32) μ))
set_option maxRecDepth 100000 in
theorem c_X10_valueBy {G : ZG} {l : Launch} {x0 : Int32} {x1 : Int32} {x2 : Int32} {μ : Mem} {r : Int32} {μ' : Mem} (h : f_X10_valueBy x0 x1 x2 μ = some (r, μ')) : zC ZM G l yX10_valueBy cX10_valueBy 6 (some .int) 2 [.int x0, .int x1, .int x2] μ (some (.int r)) μ' := by
  refine zC.mk (by decide +kernel) (Nat.le_of_ble_eq_true rfl) ?_
  intro p e s m below meth c ls B hl hW
  have B : zB ZM G cX10_valueBy 6 "DarkSharesModel" (some .int) p s m [.int x0, .int x1, .int x2].toArray meth c := B
  have hl : lv_has ls 6 [(0, .int x0), (1, .int x1), (2, .int x2)] := hl
  have hx := B.1
  have hb := B.2.1
  have hf := h
  unfold f_X10_valueBy at hf
  refine lv_iload_n (pc := 0) hx hb dX10_valueBy_0 rfl (lv_at hl 1 rfl) ?_
  refine lv_iconst (pc := 1) (v := (3 : Int32)) hx hb dX10_valueBy_1 rfl ?_
  refine yic_ge (pc := 2) (tgt := 9) B dX10_valueBy_2 (by decide) hf (fun hf => ?_) (fun hf => ?_)
  · refine lv_iconst (pc := 9) (v := (3 : Int32)) hx hb dX10_valueBy_9 rfl ?_
    refine lv_istore_n (pc := 10) (lv' := [(3, .int (3 : Int32)), (0, .int x0), (1, .int x1), (2, .int x2)]) hx hb dX10_valueBy_10 rfl hl (by decide) rfl (fun ls hl => ?_)
    refine lv_iload_n (pc := 11) hx hb dX10_valueBy_11 rfl (lv_at hl 3 rfl) ?_
    refine yif_eq (pc := 12) (tgt := 19) B dX10_valueBy_12 (by decide) hf (fun hf => ?_) (fun hf => ?_)
    · refine lv_iconst (pc := 19) (v := (3 : Int32)) hx hb dX10_valueBy_19 rfl ?_
      exact t_X10_valueBy_20 B (lv_sub hl [1, 2, 0] rfl) hW hf
    · refine lv_iconst (pc := 15) (v := (5 : Int32)) hx hb dX10_valueBy_15 rfl ?_
      refine lv_goto (pc := 16) (tgt := 20) hx hb dX10_valueBy_16 (by decide) ?_
      exact t_X10_valueBy_20 B (lv_sub hl [1, 2, 0] rfl) hW hf
  · refine lv_iconst (pc := 5) (v := (5 : Int32)) hx hb dX10_valueBy_5 rfl ?_
    refine lv_goto (pc := 6) (tgt := 10) hx hb dX10_valueBy_6 (by decide) ?_
    refine lv_istore_n (pc := 10) (lv' := [(3, .int (5 : Int32)), (0, .int x0), (1, .int x1), (2, .int x2)]) hx hb dX10_valueBy_10 rfl hl (by decide) rfl (fun ls hl => ?_)
    refine lv_iload_n (pc := 11) hx hb dX10_valueBy_11 rfl (lv_at hl 3 rfl) ?_
    refine yif_eq (pc := 12) (tgt := 19) B dX10_valueBy_12 (by decide) hf (fun hf => ?_) (fun hf => ?_)
    · refine lv_iconst (pc := 19) (v := (3 : Int32)) hx hb dX10_valueBy_19 rfl ?_
      exact t_X10_valueBy_20 B (lv_sub hl [1, 2, 0] rfl) hW hf
    · refine lv_iconst (pc := 15) (v := (5 : Int32)) hx hb dX10_valueBy_15 rfl ?_
      refine lv_goto (pc := 16) (tgt := 20) hx hb dX10_valueBy_16 (by decide) ?_
      exact t_X10_valueBy_20 B (lv_sub hl [1, 2, 0] rfl) hW hf
noncomputable def f_X10_valueIn (x1 : Int32) (x2 : Int32) (x3 : Int32) (μ : Mem) : Option (Int32 × Mem) := zck (zin x1 5) ((if x2 ≤ 0 then zbind (f_X10_valueBy (μ.1 2 (x1).toNatClampNeg) x2 (0 : Int32) μ) (fun r2 μ1 => some (r2, μ1)) else zbind (f_X10_has x3 (x2 - (1 : Int32)) μ) (fun r4 μ3 => (if r4 = 0 then zbind (f_X10_valueBy (μ.1 2 (x1).toNatClampNeg) x2 (0 : Int32) μ3) (fun r6 μ5 => some (r6, μ5)) else zbind (f_X10_valueBy (μ.1 2 (x1).toNatClampNeg) x2 (1 : Int32) μ3) (fun r8 μ7 => some (r8, μ7))))))
set_option maxRecDepth 100000 in
theorem c_X10_valueIn {G : ZG} {l : Launch} {x1 : Int32} {x2 : Int32} {x3 : Int32} {μ : Mem} {r : Int32} {μ' : Mem} (h : f_X10_valueIn x1 x2 x3 μ = some (r, μ')) : zC ZM G l yX10_valueIn cX10_valueIn 4 (some .int) 3 [.ref (zad G 0), .int x1, .int x2, .int x3] μ (some (.int r)) μ' := by
  refine zC.mk (by decide +kernel) (Nat.le_of_ble_eq_true rfl) ?_
  intro p e s m below meth c ls B hl hW
  have B : zB ZM G cX10_valueIn 4 "DarkSharesModel" (some .int) p s m [.ref (zad G 0), .int x1, .int x2, .int x3].toArray meth c := B
  have hl : lv_has ls 4 [(0, .ref (zad G 0)), (1, .int x1), (2, .int x2), (3, .int x3)] := hl
  have hx := B.1
  have hb := B.2.1
  have hf := h
  unfold f_X10_valueIn at hf
  refine lv_aload_n (pc := 0) hx hb dX10_valueIn_0 rfl (lv_at hl 0 rfl) ?_
  refine g_X10_13 (pc := 1) B hW dX10_valueIn_1 ?_
  refine lv_iload_n (pc := 4) hx hb dX10_valueIn_4 rfl (lv_at hl 1 rfl) ?_
  refine yald (pc := 5) B hW mr2 dX10_valueIn_5 hf (fun hf => ?_)
  refine lv_iload_n (pc := 6) hx hb dX10_valueIn_6 rfl (lv_at hl 2 rfl) ?_
  refine lv_iload_n (pc := 7) hx hb dX10_valueIn_7 rfl (lv_at hl 2 rfl) ?_
  refine yif_le (pc := 8) (tgt := 25) B dX10_valueIn_8 (by decide) hf (fun hf => ?_) (fun hf => ?_)
  · refine lv_iconst (pc := 25) (v := (0 : Int32)) hx hb dX10_valueIn_25 rfl ?_
    refine s_X10_154 (pc := 26) B hW hl.1 (by decide) (zle8 rfl) dX10_valueIn_26 (fun _ _ h => c_X10_valueBy h) hf (fun r2 μ1 H locs hW hf => ?_)
    exact zreti (pc := 29) B hW hf dX10_valueIn_29
  · refine lv_iload_n (pc := 11) hx hb dX10_valueIn_11 rfl (lv_at hl 3 rfl) ?_
    refine lv_iload_n (pc := 12) hx hb dX10_valueIn_12 rfl (lv_at hl 2 rfl) ?_
    refine lv_iconst (pc := 13) (v := (1 : Int32)) hx hb dX10_valueIn_13 rfl ?_
    refine lv_isub (pc := 14) hx hb dX10_valueIn_14 ?_
    refine s_X10_151 (pc := 15) B hW hl.1 (by decide) (zle8 rfl) dX10_valueIn_15 (fun _ _ h => c_X10_has h) hf (fun r4 μ3 H locs hW hf => ?_)
    refine yif_eq (pc := 18) (tgt := 25) B dX10_valueIn_18 (by decide) hf (fun hf => ?_) (fun hf => ?_)
    · refine lv_iconst (pc := 25) (v := (0 : Int32)) hx hb dX10_valueIn_25 rfl ?_
      refine s_X10_154 (pc := 26) B hW hl.1 (by decide) (zle8 rfl) dX10_valueIn_26 (fun _ _ h => c_X10_valueBy h) hf (fun r6 μ5 H locs hW hf => ?_)
      exact zreti (pc := 29) B hW hf dX10_valueIn_29
    · refine lv_iconst (pc := 21) (v := (1 : Int32)) hx hb dX10_valueIn_21 rfl ?_
      refine lv_goto (pc := 22) (tgt := 26) hx hb dX10_valueIn_22 (by decide) ?_
      refine s_X10_154 (pc := 26) B hW hl.1 (by decide) (zle8 rfl) dX10_valueIn_26 (fun _ _ h => c_X10_valueBy h) hf (fun r8 μ7 H locs hW hf => ?_)
      exact zreti (pc := 29) B hW hf dX10_valueIn_29
noncomputable def f_X10_worthOf_5 : Nat → Int32 → Int32 → Int32 → Int32 → Mem → Option (Int32 × Mem)
  | 0, _, _, _, _, _ => none
  | n + 1, x1, x2, x3, x4, μ => (if (12 : Int32) ≤ x4 then some (x3, μ) else zbind (f_X10_has x2 x4 μ) (fun r2 μ1 => (if r2 = 0 then f_X10_worthOf_5 n x1 x2 (x3 + (0 : Int32)) (x4 + (1 : Int32)) μ1 else zbind (f_X10_valueIn x1 x4 x2 μ1) (fun r4 μ3 => f_X10_worthOf_5 n x1 x2 (x3 + r4) (x4 + (1 : Int32)) μ3))))
set_option maxRecDepth 100000 in
theorem t_X10_worthOf_5 {G : ZG} {p : Program} {l : Launch} {e : Env} {s : State} {m : MethodId} {args : Array Value} {below : List Frame} {meth : Method} {c : Code} (B : zB ZM G cX10_worthOf 5 "DarkSharesModel" (some .int) p s m args meth c) : ∀ (n : Nat) {x1 : Int32} {x2 : Int32} {x3 : Int32} {x4 : Int32} {μ : Mem} {H : Heap} {locs : List Loc} {ls : Array Slot} {r : Int32} {μ' : Mem}, lv_has ls 5 [(0, .ref (zad G 0)), (1, .int x1), (2, .int x2), (3, .int x3), (4, .int x4)] → zW ZM G s H locs μ → f_X10_worthOf_5 n x1 x2 x3 x4 μ = some (r, μ') → W p l e (zR 4) s m args below meth c H locs 0 0 (MQ below (zQ ZM G (some (.int r)) μ') args s 0 0 (zAd ZM G)) (F0 m 5 ls []) := by
  have hx := B.1
  have hb := B.2.1
  intro n
  induction n with
  | zero => intro _ _ _ _ _ _ _ _ _ _ hl hW hf; cases hf
  | succ n ih =>
    intro x1 x2 x3 x4 μ H locs ls r μ' hl hW hf
    rw [f_X10_worthOf_5] at hf
    refine lv_iload (pc := 5) hx hb dX10_worthOf_5 (lv_at hl 4 rfl) ?_
    refine lv_bipush (pc := 7) (v := (12 : Int32)) hx hb dX10_worthOf_7 rfl ?_
    refine yic_ge (pc := 9) (tgt := 42) B dX10_worthOf_9 (by decide) hf (fun hf => ?_) (fun hf => ?_)
    · refine lv_iload_n (pc := 42) hx hb dX10_worthOf_42 rfl (lv_at hl 3 rfl) ?_
      exact zreti (pc := 43) B hW hf dX10_worthOf_43
    · refine lv_iload_n (pc := 12) hx hb dX10_worthOf_12 rfl (lv_at hl 3 rfl) ?_
      refine lv_iload_n (pc := 13) hx hb dX10_worthOf_13 rfl (lv_at hl 2 rfl) ?_
      refine lv_iload (pc := 14) hx hb dX10_worthOf_14 (lv_at hl 4 rfl) ?_
      refine s_X10_151 (pc := 16) B hW hl.1 (by decide) (zle8 rfl) dX10_worthOf_16 (fun _ _ h => c_X10_has h) hf (fun r2 μ1 H locs hW hf => ?_)
      refine yif_eq (pc := 19) (tgt := 33) B dX10_worthOf_19 (by decide) hf (fun hf => ?_) (fun hf => ?_)
      · refine lv_iconst (pc := 33) (v := (0 : Int32)) hx hb dX10_worthOf_33 rfl ?_
        refine lv_iadd (pc := 34) hx hb dX10_worthOf_34 ?_
        refine lv_istore_n (pc := 35) (lv' := [(3, .int (x3 + (0 : Int32))), (0, .ref (zad G 0)), (1, .int x1), (2, .int x2), (4, .int x4)]) hx hb dX10_worthOf_35 rfl hl (by decide) rfl (fun ls hl => ?_)
        refine lv_iinc (pc := 36) (v := (x4 + (1 : Int32))) (lv' := [(4, .int (x4 + (1 : Int32))), (3, .int (x3 + (0 : Int32))), (0, .ref (zad G 0)), (1, .int x1), (2, .int x2)]) hx hb dX10_worthOf_36 hl (k := 4) rfl rfl (by decide) rfl (fun ls hl => ?_)
        refine lv_goto (pc := 39) (tgt := 5) hx hb dX10_worthOf_39 (by decide) ?_
        exact ih (lv_sub hl [2, 3, 4, 1, 0] rfl) hW hf
      · refine lv_aload_n (pc := 22) hx hb dX10_worthOf_22 rfl (lv_at hl 0 rfl) ?_
        refine lv_iload_n (pc := 23) hx hb dX10_worthOf_23 rfl (lv_at hl 1 rfl) ?_
        refine lv_iload (pc := 24) hx hb dX10_worthOf_24 (lv_at hl 4 rfl) ?_
        refine lv_iload_n (pc := 26) hx hb dX10_worthOf_26 rfl (lv_at hl 2 rfl) ?_
        refine s_X10_158 (pc := 27) B hW hl.1 (by decide) (zle8 rfl) dX10_worthOf_27 (fun _ _ h => c_X10_valueIn h) hf (fun r4 μ3 H locs hW hf => ?_)
        refine lv_goto (pc := 30) (tgt := 34) hx hb dX10_worthOf_30 (by decide) ?_
        refine lv_iadd (pc := 34) hx hb dX10_worthOf_34 ?_
        refine lv_istore_n (pc := 35) (lv' := [(3, .int (x3 + r4)), (0, .ref (zad G 0)), (1, .int x1), (2, .int x2), (4, .int x4)]) hx hb dX10_worthOf_35 rfl hl (by decide) rfl (fun ls hl => ?_)
        refine lv_iinc (pc := 36) (v := (x4 + (1 : Int32))) (lv' := [(4, .int (x4 + (1 : Int32))), (3, .int (x3 + r4)), (0, .ref (zad G 0)), (1, .int x1), (2, .int x2)]) hx hb dX10_worthOf_36 hl (k := 4) rfl rfl (by decide) rfl (fun ls hl => ?_)
        refine lv_goto (pc := 39) (tgt := 5) hx hb dX10_worthOf_39 (by decide) ?_
        exact ih (lv_sub hl [2, 3, 4, 1, 0] rfl) hW hf
noncomputable def f_X10_worthOf (x1 : Int32) (x2 : Int32) (μ : Mem) : Option (Int32 × Mem) := f_X10_worthOf_5 zFU x1 x2 (0 : Int32) (0 : Int32) μ
set_option maxRecDepth 100000 in
theorem c_X10_worthOf {G : ZG} {l : Launch} {x1 : Int32} {x2 : Int32} {μ : Mem} {r : Int32} {μ' : Mem} (h : f_X10_worthOf x1 x2 μ = some (r, μ')) : zC ZM G l yX10_worthOf cX10_worthOf 5 (some .int) 4 [.ref (zad G 0), .int x1, .int x2] μ (some (.int r)) μ' := by
  refine zC.mk (by decide +kernel) (Nat.le_of_ble_eq_true rfl) ?_
  intro p e s m below meth c ls B hl hW
  have B : zB ZM G cX10_worthOf 5 "DarkSharesModel" (some .int) p s m [.ref (zad G 0), .int x1, .int x2].toArray meth c := B
  have hl : lv_has ls 5 [(0, .ref (zad G 0)), (1, .int x1), (2, .int x2)] := hl
  have hx := B.1
  have hb := B.2.1
  have hf := h
  unfold f_X10_worthOf at hf
  refine lv_iconst (pc := 0) (v := (0 : Int32)) hx hb dX10_worthOf_0 rfl ?_
  refine lv_istore_n (pc := 1) (lv' := [(3, .int (0 : Int32)), (0, .ref (zad G 0)), (1, .int x1), (2, .int x2)]) hx hb dX10_worthOf_1 rfl hl (by decide) rfl (fun ls hl => ?_)
  refine lv_iconst (pc := 2) (v := (0 : Int32)) hx hb dX10_worthOf_2 rfl ?_
  refine lv_istore (pc := 3) (lv' := [(4, .int (0 : Int32)), (3, .int (0 : Int32)), (0, .ref (zad G 0)), (1, .int x1), (2, .int x2)]) hx hb dX10_worthOf_3 hl (by decide) rfl (fun ls hl => ?_)
  exact t_X10_worthOf_5 B zFU (lv_sub hl [2, 3, 4, 1, 0] rfl) hW hf
noncomputable def f_X10_setOf_4 : Nat → Int32 → Int32 → Int32 → Mem → Option (Int32 × Mem)
  | 0, _, _, _, _ => none
  | n + 1, x1, x2, x3, μ => (if (12 : Int32) ≤ x3 then some (x2, μ) else zck (zin x3 12) ((if (μ.1 5 (x3).toNatClampNeg) = x1 then f_X10_setOf_4 n x1 (x2 ||| ((1 : Int32) <<< (x3 &&& 31))) (x3 + (1 : Int32)) μ else f_X10_setOf_4 n x1 (x2 ||| (0 : Int32)) (x3 + (1 : Int32)) μ)))
set_option maxRecDepth 100000 in
theorem t_X10_setOf_4 {G : ZG} {p : Program} {l : Launch} {e : Env} {s : State} {m : MethodId} {args : Array Value} {below : List Frame} {meth : Method} {c : Code} (B : zB ZM G cX10_setOf 4 "DarkSharesModel" (some .int) p s m args meth c) : ∀ (n : Nat) {x1 : Int32} {x2 : Int32} {x3 : Int32} {μ : Mem} {H : Heap} {locs : List Loc} {ls : Array Slot} {r : Int32} {μ' : Mem}, lv_has ls 4 [(0, .ref (zad G 0)), (1, .int x1), (2, .int x2), (3, .int x3)] → zW ZM G s H locs μ → f_X10_setOf_4 n x1 x2 x3 μ = some (r, μ') → W p l e (zR 1) s m args below meth c H locs 0 0 (MQ below (zQ ZM G (some (.int r)) μ') args s 0 0 (zAd ZM G)) (F0 m 4 ls []) := by
  have hx := B.1
  have hb := B.2.1
  intro n
  induction n with
  | zero => intro _ _ _ _ _ _ _ _ _ hl hW hf; cases hf
  | succ n ih =>
    intro x1 x2 x3 μ H locs ls r μ' hl hW hf
    rw [f_X10_setOf_4] at hf
    refine lv_iload_n (pc := 4) hx hb dX10_setOf_4 rfl (lv_at hl 3 rfl) ?_
    refine lv_bipush (pc := 5) (v := (12 : Int32)) hx hb dX10_setOf_5 rfl ?_
    refine yic_ge (pc := 7) (tgt := 36) B dX10_setOf_7 (by decide) hf (fun hf => ?_) (fun hf => ?_)
    · refine lv_iload_n (pc := 36) hx hb dX10_setOf_36 rfl (lv_at hl 2 rfl) ?_
      exact zreti (pc := 37) B hW hf dX10_setOf_37
    · refine lv_iload_n (pc := 10) hx hb dX10_setOf_10 rfl (lv_at hl 2 rfl) ?_
      refine lv_aload_n (pc := 11) hx hb dX10_setOf_11 rfl (lv_at hl 0 rfl) ?_
      refine g_X10_22 (pc := 12) B hW dX10_setOf_12 ?_
      refine lv_iload_n (pc := 15) hx hb dX10_setOf_15 rfl (lv_at hl 3 rfl) ?_
      refine yald (pc := 16) B hW mr5 dX10_setOf_16 hf (fun hf => ?_)
      refine lv_iload_n (pc := 17) hx hb dX10_setOf_17 rfl (lv_at hl 1 rfl) ?_
      refine yic_ne (pc := 18) (tgt := 27) B dX10_setOf_18 (by decide) hf (fun hf => ?_) (fun hf => ?_)
      · refine lv_iconst (pc := 27) (v := (0 : Int32)) hx hb dX10_setOf_27 rfl ?_
        refine lv_ior (pc := 28) hx hb dX10_setOf_28 ?_
        refine lv_istore_n (pc := 29) (lv' := [(2, .int (x2 ||| (0 : Int32))), (0, .ref (zad G 0)), (1, .int x1), (3, .int x3)]) hx hb dX10_setOf_29 rfl hl (by decide) rfl (fun ls hl => ?_)
        refine lv_iinc (pc := 30) (v := (x3 + (1 : Int32))) (lv' := [(3, .int (x3 + (1 : Int32))), (2, .int (x2 ||| (0 : Int32))), (0, .ref (zad G 0)), (1, .int x1)]) hx hb dX10_setOf_30 hl (k := 3) rfl rfl (by decide) rfl (fun ls hl => ?_)
        refine lv_goto (pc := 33) (tgt := 4) hx hb dX10_setOf_33 (by decide) ?_
        exact ih (lv_sub hl [2, 3, 1, 0] rfl) hW hf
      · refine lv_iconst (pc := 21) (v := (1 : Int32)) hx hb dX10_setOf_21 rfl ?_
        refine lv_iload_n (pc := 22) hx hb dX10_setOf_22 rfl (lv_at hl 3 rfl) ?_
        refine lv_ishl (pc := 23) hx hb dX10_setOf_23 ?_
        refine lv_goto (pc := 24) (tgt := 28) hx hb dX10_setOf_24 (by decide) ?_
        refine lv_ior (pc := 28) hx hb dX10_setOf_28 ?_
        refine lv_istore_n (pc := 29) (lv' := [(2, .int (x2 ||| ((1 : Int32) <<< (x3 &&& 31)))), (0, .ref (zad G 0)), (1, .int x1), (3, .int x3)]) hx hb dX10_setOf_29 rfl hl (by decide) rfl (fun ls hl => ?_)
        refine lv_iinc (pc := 30) (v := (x3 + (1 : Int32))) (lv' := [(3, .int (x3 + (1 : Int32))), (2, .int (x2 ||| ((1 : Int32) <<< (x3 &&& 31)))), (0, .ref (zad G 0)), (1, .int x1)]) hx hb dX10_setOf_30 hl (k := 3) rfl rfl (by decide) rfl (fun ls hl => ?_)
        refine lv_goto (pc := 33) (tgt := 4) hx hb dX10_setOf_33 (by decide) ?_
        exact ih (lv_sub hl [2, 3, 1, 0] rfl) hW hf
noncomputable def f_X10_setOf (x1 : Int32) (μ : Mem) : Option (Int32 × Mem) := f_X10_setOf_4 zFU x1 (0 : Int32) (0 : Int32) μ
set_option maxRecDepth 100000 in
theorem c_X10_setOf {G : ZG} {l : Launch} {x1 : Int32} {μ : Mem} {r : Int32} {μ' : Mem} (h : f_X10_setOf x1 μ = some (r, μ')) : zC ZM G l yX10_setOf cX10_setOf 4 (some .int) 1 [.ref (zad G 0), .int x1] μ (some (.int r)) μ' := by
  refine zC.mk (by decide +kernel) (Nat.le_of_ble_eq_true rfl) ?_
  intro p e s m below meth c ls B hl hW
  have B : zB ZM G cX10_setOf 4 "DarkSharesModel" (some .int) p s m [.ref (zad G 0), .int x1].toArray meth c := B
  have hl : lv_has ls 4 [(0, .ref (zad G 0)), (1, .int x1)] := hl
  have hx := B.1
  have hb := B.2.1
  have hf := h
  unfold f_X10_setOf at hf
  refine lv_iconst (pc := 0) (v := (0 : Int32)) hx hb dX10_setOf_0 rfl ?_
  refine lv_istore_n (pc := 1) (lv' := [(2, .int (0 : Int32)), (0, .ref (zad G 0)), (1, .int x1)]) hx hb dX10_setOf_1 rfl hl (by decide) rfl (fun ls hl => ?_)
  refine lv_iconst (pc := 2) (v := (0 : Int32)) hx hb dX10_setOf_2 rfl ?_
  refine lv_istore_n (pc := 3) (lv' := [(3, .int (0 : Int32)), (2, .int (0 : Int32)), (0, .ref (zad G 0)), (1, .int x1)]) hx hb dX10_setOf_3 rfl hl (by decide) rfl (fun ls hl => ?_)
  exact t_X10_setOf_4 B zFU (lv_sub hl [2, 3, 1, 0] rfl) hW hf
noncomputable def f_X10_ownWorth (x1 : Int32) (μ : Mem) : Option (Int32 × Mem) := zbind (f_X10_setOf x1 μ) (fun r2 μ1 => zbind (f_X10_worthOf x1 r2 μ1) (fun r4 μ3 => some (r4, μ3)))
set_option maxRecDepth 100000 in
theorem c_X10_ownWorth {G : ZG} {l : Launch} {x1 : Int32} {μ : Mem} {r : Int32} {μ' : Mem} (h : f_X10_ownWorth x1 μ = some (r, μ')) : zC ZM G l yX10_ownWorth cX10_ownWorth 2 (some .int) 5 [.ref (zad G 0), .int x1] μ (some (.int r)) μ' := by
  refine zC.mk (by decide +kernel) (Nat.le_of_ble_eq_true rfl) ?_
  intro p e s m below meth c ls B hl hW
  have B : zB ZM G cX10_ownWorth 2 "DarkSharesModel" (some .int) p s m [.ref (zad G 0), .int x1].toArray meth c := B
  have hl : lv_has ls 2 [(0, .ref (zad G 0)), (1, .int x1)] := hl
  have hx := B.1
  have hb := B.2.1
  have hf := h
  unfold f_X10_ownWorth at hf
  refine lv_aload_n (pc := 0) hx hb dX10_ownWorth_0 rfl (lv_at hl 0 rfl) ?_
  refine lv_iload_n (pc := 1) hx hb dX10_ownWorth_1 rfl (lv_at hl 1 rfl) ?_
  refine lv_aload_n (pc := 2) hx hb dX10_ownWorth_2 rfl (lv_at hl 0 rfl) ?_
  refine lv_iload_n (pc := 3) hx hb dX10_ownWorth_3 rfl (lv_at hl 1 rfl) ?_
  refine s_X10_161 (pc := 4) B hW hl.1 (by decide) (zle8 rfl) dX10_ownWorth_4 (fun _ _ h => c_X10_setOf h) hf (fun r2 μ1 H locs hW hf => ?_)
  refine s_X10_164 (pc := 7) B hW hl.1 (by decide) (zle8 rfl) dX10_ownWorth_7 (fun _ _ h => c_X10_worthOf h) hf (fun r4 μ3 H locs hW hf => ?_)
  exact zreti (pc := 10) B hW hf dX10_ownWorth_10
noncomputable def f_X10_notes_86 : Nat → Int32 → Int32 → Mem → Option (Unit × Mem)
  | 0, _, _, _ => none
  | n + 1, x1, x2, μ => (if (5 : Int32) ≤ x2 then zlet (zI μ 0 19 ((μ.1 0 19) + (1 : Int32))) (fun μ1 => some ((), μ1)) else zck (zin x2 5) (zck (zin ((x1 + (12 : Int32)) + x2) 136) (zlet (zI μ 13 (((x1 + (12 : Int32)) + x2)).toNatClampNeg (μ.1 4 (x2).toNatClampNeg)) (fun μ2 => f_X10_notes_86 n x1 (x2 + (1 : Int32)) μ2))))
set_option maxRecDepth 100000 in
theorem t_X10_notes_86 {G : ZG} {p : Program} {l : Launch} {e : Env} {s : State} {m : MethodId} {args : Array Value} {below : List Frame} {meth : Method} {c : Code} (B : zB ZM G cX10_notes 3 "DarkSharesModel" none p s m args meth c) : ∀ (n : Nat) {x1 : Int32} {x2 : Int32} {μ : Mem} {H : Heap} {locs : List Loc} {ls : Array Slot} {r : Unit} {μ' : Mem}, lv_has ls 3 [(0, .ref (zad G 0)), (1, .int x1), (2, .int x2)] → zW ZM G s H locs μ → f_X10_notes_86 n x1 x2 μ = some (r, μ') → W p l e (zR 1) s m args below meth c H locs 0 0 (MQ below (zQ ZM G none μ') args s 0 0 (zAd ZM G)) (F0 m 86 ls []) := by
  have hx := B.1
  have hb := B.2.1
  intro n
  induction n with
  | zero => intro _ _ _ _ _ _ _ _ hl hW hf; cases hf
  | succ n ih =>
    intro x1 x2 μ H locs ls r μ' hl hW hf
    rw [f_X10_notes_86] at hf
    refine lv_iload_n (pc := 86) hx hb dX10_notes_86 rfl (lv_at hl 2 rfl) ?_
    refine lv_iconst (pc := 87) (v := (5 : Int32)) hx hb dX10_notes_87 rfl ?_
    refine yic_ge (pc := 88) (tgt := 114) B dX10_notes_88 (by decide) hf (fun hf => ?_) (fun hf => ?_)
    · refine lv_aload_n (pc := 114) hx hb dX10_notes_114 rfl (lv_at hl 0 rfl) ?_
      refine lv_dup (pc := 115) hx hb dX10_notes_115 rfl ?_
      refine g_X10_78 (pc := 116) B hW dX10_notes_116 ?_
      refine lv_iconst (pc := 119) (v := (1 : Int32)) hx hb dX10_notes_119 rfl ?_
      refine lv_iadd (pc := 120) hx hb dX10_notes_120 ?_
      refine p_X10_78 (pc := 121) B hW dX10_notes_121 hf (fun μ1 H locs hW hf => ?_)
      exact zretv (pc := 124) B hW hf dX10_notes_124
    · refine lv_aload_n (pc := 91) hx hb dX10_notes_91 rfl (lv_at hl 0 rfl) ?_
      refine g_X10_46 (pc := 92) B hW dX10_notes_92 ?_
      refine lv_iload_n (pc := 95) hx hb dX10_notes_95 rfl (lv_at hl 1 rfl) ?_
      refine lv_bipush (pc := 96) (v := (12 : Int32)) hx hb dX10_notes_96 rfl ?_
      refine lv_iadd (pc := 98) hx hb dX10_notes_98 ?_
      refine lv_iload_n (pc := 99) hx hb dX10_notes_99 rfl (lv_at hl 2 rfl) ?_
      refine lv_iadd (pc := 100) hx hb dX10_notes_100 ?_
      refine lv_aload_n (pc := 101) hx hb dX10_notes_101 rfl (lv_at hl 0 rfl) ?_
      refine g_X10_19 (pc := 102) B hW dX10_notes_102 ?_
      refine lv_iload_n (pc := 105) hx hb dX10_notes_105 rfl (lv_at hl 2 rfl) ?_
      refine yald (pc := 106) B hW mr4 dX10_notes_106 hf (fun hf => ?_)
      refine yast (pc := 107) B hW mr13 dX10_notes_107 hf (fun μ2 H locs hW hf => ?_)
      refine lv_iinc (pc := 108) (v := (x2 + (1 : Int32))) (lv' := [(2, .int (x2 + (1 : Int32))), (0, .ref (zad G 0)), (1, .int x1)]) hx hb dX10_notes_108 hl (k := 2) rfl rfl (by decide) rfl (fun ls hl => ?_)
      refine lv_goto (pc := 111) (tgt := 86) hx hb dX10_notes_111 (by decide) ?_
      exact ih (lv_sub hl [1, 2, 0] rfl) hW hf
noncomputable def f_X10_notes_58 : Nat → Int32 → Int32 → Mem → Option (Unit × Mem)
  | 0, _, _, _ => none
  | n + 1, x1, x2, μ => (if (12 : Int32) ≤ x2 then f_X10_notes_86 zFU x1 (0 : Int32) μ else zck (zin x2 12) (zck (zin (x1 + x2) 136) (zlet (zI μ 13 ((x1 + x2)).toNatClampNeg (μ.1 5 (x2).toNatClampNeg)) (fun μ1 => f_X10_notes_58 n x1 (x2 + (1 : Int32)) μ1))))
set_option maxRecDepth 100000 in
theorem t_X10_notes_58 {G : ZG} {p : Program} {l : Launch} {e : Env} {s : State} {m : MethodId} {args : Array Value} {below : List Frame} {meth : Method} {c : Code} (B : zB ZM G cX10_notes 3 "DarkSharesModel" none p s m args meth c) : ∀ (n : Nat) {x1 : Int32} {x2 : Int32} {μ : Mem} {H : Heap} {locs : List Loc} {ls : Array Slot} {r : Unit} {μ' : Mem}, lv_has ls 3 [(0, .ref (zad G 0)), (1, .int x1), (2, .int x2)] → zW ZM G s H locs μ → f_X10_notes_58 n x1 x2 μ = some (r, μ') → W p l e (zR 1) s m args below meth c H locs 0 0 (MQ below (zQ ZM G none μ') args s 0 0 (zAd ZM G)) (F0 m 58 ls []) := by
  have hx := B.1
  have hb := B.2.1
  intro n
  induction n with
  | zero => intro _ _ _ _ _ _ _ _ hl hW hf; cases hf
  | succ n ih =>
    intro x1 x2 μ H locs ls r μ' hl hW hf
    rw [f_X10_notes_58] at hf
    refine lv_iload_n (pc := 58) hx hb dX10_notes_58 rfl (lv_at hl 2 rfl) ?_
    refine lv_bipush (pc := 59) (v := (12 : Int32)) hx hb dX10_notes_59 rfl ?_
    refine yic_ge (pc := 61) (tgt := 84) B dX10_notes_61 (by decide) hf (fun hf => ?_) (fun hf => ?_)
    · refine lv_iconst (pc := 84) (v := (0 : Int32)) hx hb dX10_notes_84 rfl ?_
      refine lv_istore_n (pc := 85) (lv' := [(2, .int (0 : Int32)), (0, .ref (zad G 0)), (1, .int x1)]) hx hb dX10_notes_85 rfl hl (by decide) rfl (fun ls hl => ?_)
      exact t_X10_notes_86 B zFU (lv_sub hl [1, 2, 0] rfl) hW hf
    · refine lv_aload_n (pc := 64) hx hb dX10_notes_64 rfl (lv_at hl 0 rfl) ?_
      refine g_X10_46 (pc := 65) B hW dX10_notes_65 ?_
      refine lv_iload_n (pc := 68) hx hb dX10_notes_68 rfl (lv_at hl 1 rfl) ?_
      refine lv_iload_n (pc := 69) hx hb dX10_notes_69 rfl (lv_at hl 2 rfl) ?_
      refine lv_iadd (pc := 70) hx hb dX10_notes_70 ?_
      refine lv_aload_n (pc := 71) hx hb dX10_notes_71 rfl (lv_at hl 0 rfl) ?_
      refine g_X10_22 (pc := 72) B hW dX10_notes_72 ?_
      refine lv_iload_n (pc := 75) hx hb dX10_notes_75 rfl (lv_at hl 2 rfl) ?_
      refine yald (pc := 76) B hW mr5 dX10_notes_76 hf (fun hf => ?_)
      refine yast (pc := 77) B hW mr13 dX10_notes_77 hf (fun μ1 H locs hW hf => ?_)
      refine lv_iinc (pc := 78) (v := (x2 + (1 : Int32))) (lv' := [(2, .int (x2 + (1 : Int32))), (0, .ref (zad G 0)), (1, .int x1)]) hx hb dX10_notes_78 hl (k := 2) rfl rfl (by decide) rfl (fun ls hl => ?_)
      refine lv_goto (pc := 81) (tgt := 58) hx hb dX10_notes_81 (by decide) ?_
      exact ih (lv_sub hl [1, 2, 0] rfl) hW hf
noncomputable def f_X10_notes_11 : Nat → Int32 → Mem → Option (Unit × Mem)
  | 0, _, _ => none
  | n + 1, x1, μ => (if (119 : Int32) ≤ x1 then zlet (zI μ 0 19 ((μ.1 0 19) - (1 : Int32))) (fun μ1 => f_X10_notes_58 zFU ((17 : Int32) * (μ1.1 0 19)) (0 : Int32) μ1) else zck (zin (x1 + (17 : Int32)) 136) (zck (zin x1 136) (zlet (zI μ 13 (x1).toNatClampNeg (μ.1 13 ((x1 + (17 : Int32))).toNatClampNeg)) (fun μ2 => f_X10_notes_11 n (x1 + (1 : Int32)) μ2))))
set_option maxRecDepth 100000 in
theorem t_X10_notes_11 {G : ZG} {p : Program} {l : Launch} {e : Env} {s : State} {m : MethodId} {args : Array Value} {below : List Frame} {meth : Method} {c : Code} (B : zB ZM G cX10_notes 3 "DarkSharesModel" none p s m args meth c) : ∀ (n : Nat) {x1 : Int32} {μ : Mem} {H : Heap} {locs : List Loc} {ls : Array Slot} {r : Unit} {μ' : Mem}, lv_has ls 3 [(0, .ref (zad G 0)), (1, .int x1)] → zW ZM G s H locs μ → f_X10_notes_11 n x1 μ = some (r, μ') → W p l e (zR 1) s m args below meth c H locs 0 0 (MQ below (zQ ZM G none μ') args s 0 0 (zAd ZM G)) (F0 m 11 ls []) := by
  have hx := B.1
  have hb := B.2.1
  intro n
  induction n with
  | zero => intro _ _ _ _ _ _ _ hl hW hf; cases hf
  | succ n ih =>
    intro x1 μ H locs ls r μ' hl hW hf
    rw [f_X10_notes_11] at hf
    refine lv_iload_n (pc := 11) hx hb dX10_notes_11 rfl (lv_at hl 1 rfl) ?_
    refine lv_bipush (pc := 12) (v := (119 : Int32)) hx hb dX10_notes_12 rfl ?_
    refine yic_ge (pc := 14) (tgt := 38) B dX10_notes_14 (by decide) hf (fun hf => ?_) (fun hf => ?_)
    · refine lv_aload_n (pc := 38) hx hb dX10_notes_38 rfl (lv_at hl 0 rfl) ?_
      refine lv_dup (pc := 39) hx hb dX10_notes_39 rfl ?_
      refine g_X10_78 (pc := 40) B hW dX10_notes_40 ?_
      refine lv_iconst (pc := 43) (v := (1 : Int32)) hx hb dX10_notes_43 rfl ?_
      refine lv_isub (pc := 44) hx hb dX10_notes_44 ?_
      refine p_X10_78 (pc := 45) B hW dX10_notes_45 hf (fun μ1 H locs hW hf => ?_)
      refine lv_bipush (pc := 48) (v := (17 : Int32)) hx hb dX10_notes_48 rfl ?_
      refine lv_aload_n (pc := 50) hx hb dX10_notes_50 rfl (lv_at hl 0 rfl) ?_
      refine g_X10_78 (pc := 51) B hW dX10_notes_51 ?_
      refine lv_imul (pc := 54) hx hb dX10_notes_54 ?_
      refine lv_istore_n (pc := 55) (lv' := [(1, .int ((17 : Int32) * (μ1.1 0 19))), (0, .ref (zad G 0))]) hx hb dX10_notes_55 rfl hl (by decide) rfl (fun ls hl => ?_)
      refine lv_iconst (pc := 56) (v := (0 : Int32)) hx hb dX10_notes_56 rfl ?_
      refine lv_istore_n (pc := 57) (lv' := [(2, .int (0 : Int32)), (1, .int ((17 : Int32) * (μ1.1 0 19))), (0, .ref (zad G 0))]) hx hb dX10_notes_57 rfl hl (by decide) rfl (fun ls hl => ?_)
      exact t_X10_notes_58 B zFU (lv_sub hl [2, 1, 0] rfl) hW hf
    · refine lv_aload_n (pc := 17) hx hb dX10_notes_17 rfl (lv_at hl 0 rfl) ?_
      refine g_X10_46 (pc := 18) B hW dX10_notes_18 ?_
      refine lv_iload_n (pc := 21) hx hb dX10_notes_21 rfl (lv_at hl 1 rfl) ?_
      refine lv_aload_n (pc := 22) hx hb dX10_notes_22 rfl (lv_at hl 0 rfl) ?_
      refine g_X10_46 (pc := 23) B hW dX10_notes_23 ?_
      refine lv_iload_n (pc := 26) hx hb dX10_notes_26 rfl (lv_at hl 1 rfl) ?_
      refine lv_bipush (pc := 27) (v := (17 : Int32)) hx hb dX10_notes_27 rfl ?_
      refine lv_iadd (pc := 29) hx hb dX10_notes_29 ?_
      refine yald (pc := 30) B hW mr13 dX10_notes_30 hf (fun hf => ?_)
      refine yast (pc := 31) B hW mr13 dX10_notes_31 hf (fun μ2 H locs hW hf => ?_)
      refine lv_iinc (pc := 32) (v := (x1 + (1 : Int32))) (lv' := [(1, .int (x1 + (1 : Int32))), (0, .ref (zad G 0))]) hx hb dX10_notes_32 hl (k := 1) rfl rfl (by decide) rfl (fun ls hl => ?_)
      refine lv_goto (pc := 35) (tgt := 11) hx hb dX10_notes_35 (by decide) ?_
      exact ih (lv_sub hl [1, 0] rfl) hW hf
noncomputable def f_X10_notes (μ : Mem) : Option (Unit × Mem) := (if (μ.1 0 19) = (8 : Int32) then f_X10_notes_11 zFU (0 : Int32) μ else f_X10_notes_58 zFU ((17 : Int32) * (μ.1 0 19)) (0 : Int32) μ)
set_option maxRecDepth 100000 in
theorem c_X10_notes {G : ZG} {l : Launch} {μ : Mem} {r : Unit} {μ' : Mem} (h : f_X10_notes μ = some (r, μ')) : zC ZM G l yX10_notes cX10_notes 3 none 1 [.ref (zad G 0)] μ none μ' := by
  refine zC.mk (by decide +kernel) (Nat.le_of_ble_eq_true rfl) ?_
  intro p e s m below meth c ls B hl hW
  have B : zB ZM G cX10_notes 3 "DarkSharesModel" none p s m [.ref (zad G 0)].toArray meth c := B
  have hl : lv_has ls 3 [(0, .ref (zad G 0))] := hl
  have hx := B.1
  have hb := B.2.1
  have hf := h
  unfold f_X10_notes at hf
  refine lv_aload_n (pc := 0) hx hb dX10_notes_0 rfl (lv_at hl 0 rfl) ?_
  refine g_X10_78 (pc := 1) B hW dX10_notes_1 ?_
  refine lv_bipush (pc := 4) (v := (8 : Int32)) hx hb dX10_notes_4 rfl ?_
  refine yic_ne (pc := 6) (tgt := 48) B dX10_notes_6 (by decide) hf (fun hf => ?_) (fun hf => ?_)
  · refine lv_bipush (pc := 48) (v := (17 : Int32)) hx hb dX10_notes_48 rfl ?_
    refine lv_aload_n (pc := 50) hx hb dX10_notes_50 rfl (lv_at hl 0 rfl) ?_
    refine g_X10_78 (pc := 51) B hW dX10_notes_51 ?_
    refine lv_imul (pc := 54) hx hb dX10_notes_54 ?_
    refine lv_istore_n (pc := 55) (lv' := [(1, .int ((17 : Int32) * (μ.1 0 19))), (0, .ref (zad G 0))]) hx hb dX10_notes_55 rfl hl (by decide) rfl (fun ls hl => ?_)
    refine lv_iconst (pc := 56) (v := (0 : Int32)) hx hb dX10_notes_56 rfl ?_
    refine lv_istore_n (pc := 57) (lv' := [(2, .int (0 : Int32)), (1, .int ((17 : Int32) * (μ.1 0 19))), (0, .ref (zad G 0))]) hx hb dX10_notes_57 rfl hl (by decide) rfl (fun ls hl => ?_)
    exact t_X10_notes_58 B zFU (lv_sub hl [2, 1, 0] rfl) hW hf
  · refine lv_iconst (pc := 9) (v := (0 : Int32)) hx hb dX10_notes_9 rfl ?_
    refine lv_istore_n (pc := 10) (lv' := [(1, .int (0 : Int32)), (0, .ref (zad G 0))]) hx hb dX10_notes_10 rfl hl (by decide) rfl (fun ls hl => ?_)
    exact t_X10_notes_11 B zFU (lv_sub hl [1, 0] rfl) hW hf
noncomputable def f_X10_give_25 (x1 : Int32) (x2 : Int32) (μ : Mem) : Option (Int32 × Mem) := zbind (f_X10_notes μ) (fun _ μ1 => zck (zin x1 12) (zck (zin x1 12) (zlet (zI μ1 5 (x1).toNatClampNeg x2) (fun μ2 => some ((μ1.1 5 (x1).toNatClampNeg), μ2)))))
set_option maxRecDepth 100000 in
theorem t_X10_give_25 {G : ZG} {p : Program} {l : Launch} {e : Env} {s : State} {m : MethodId} {args : Array Value} {below : List Frame} {meth : Method} {c : Code} (B : zB ZM G cX10_give 4 "DarkSharesModel" (some .int) p s m args meth c) {x1 : Int32} {x2 : Int32} {μ : Mem} {H : Heap} {locs : List Loc} {ls : Array Slot} {r : Int32} {μ' : Mem} (hl : lv_has ls 4 [(0, .ref (zad G 0)), (1, .int x1), (2, .int x2)]) (hW : zW ZM G s H locs μ) (hf : f_X10_give_25 x1 x2 μ = some (r, μ')) : W p l e (zR 3) s m args below meth c H locs 0 0 (MQ below (zQ ZM G (some (.int r)) μ') args s 0 0 (zAd ZM G)) (F0 m 25 ls []) := by
  have hx := B.1
  have hb := B.2.1
  unfold f_X10_give_25 at hf
  refine lv_aload_n (pc := 25) hx hb dX10_give_25 rfl (lv_at hl 0 rfl) ?_
  refine s_X10_177 (pc := 26) B hW hl.1 (by decide) (zle8 rfl) dX10_give_26 (fun _ _ h => c_X10_notes h) hf (fun _ μ1 H locs hW hf => ?_)
  refine lv_aload_n (pc := 29) hx hb dX10_give_29 rfl (lv_at hl 0 rfl) ?_
  refine g_X10_22 (pc := 30) B hW dX10_give_30 ?_
  refine lv_iload_n (pc := 33) hx hb dX10_give_33 rfl (lv_at hl 1 rfl) ?_
  refine yald (pc := 34) B hW mr5 dX10_give_34 hf (fun hf => ?_)
  refine lv_istore_n (pc := 35) (lv' := [(3, .int (μ1.1 5 (x1).toNatClampNeg)), (0, .ref (zad G 0)), (1, .int x1), (2, .int x2)]) hx hb dX10_give_35 rfl hl (by decide) rfl (fun ls hl => ?_)
  refine lv_aload_n (pc := 36) hx hb dX10_give_36 rfl (lv_at hl 1 rfl) ?_
  refine g_X10_22 (pc := 37) B hW dX10_give_37 ?_
  refine lv_iload_n (pc := 40) hx hb dX10_give_40 rfl (lv_at hl 2 rfl) ?_
  refine lv_iload_n (pc := 41) hx hb dX10_give_41 rfl (lv_at hl 3 rfl) ?_
  refine yast (pc := 42) B hW mr5 dX10_give_42 hf (fun μ2 H locs hW hf => ?_)
  refine lv_iload_n (pc := 43) hx hb dX10_give_43 rfl (lv_at hl 0 rfl) ?_
  exact zreti (pc := 44) B hW hf dX10_give_44
noncomputable def f_X10_give (x1 : Int32) (x2 : Int32) (μ : Mem) : Option (Int32 × Mem) := zbind (f_X10_isCell x1 μ) (fun r2 μ1 => (if r2 = 0 then zbind (f_X10_ten μ1) (fun r4 μ3 => some (r4, μ3)) else (if x2 = (-1 : Int32) then f_X10_give_25 x1 x2 μ1 else zbind (f_X10_isBoy x2 μ1) (fun r6 μ5 => (if r6 = 0 then zbind (f_X10_ten μ5) (fun r8 μ7 => some (r8, μ7)) else f_X10_give_25 x1 x2 μ5)))))
set_option maxRecDepth 100000 in
theorem c_X10_give {G : ZG} {l : Launch} {x1 : Int32} {x2 : Int32} {μ : Mem} {r : Int32} {μ' : Mem} (h : f_X10_give x1 x2 μ = some (r, μ')) : zC ZM G l yX10_give cX10_give 4 (some .int) 3 [.ref (zad G 0), .int x1, .int x2] μ (some (.int r)) μ' := by
  refine zC.mk (by decide +kernel) (Nat.le_of_ble_eq_true rfl) ?_
  intro p e s m below meth c ls B hl hW
  have B : zB ZM G cX10_give 4 "DarkSharesModel" (some .int) p s m [.ref (zad G 0), .int x1, .int x2].toArray meth c := B
  have hl : lv_has ls 4 [(0, .ref (zad G 0)), (1, .int x1), (2, .int x2)] := hl
  have hx := B.1
  have hb := B.2.1
  have hf := h
  unfold f_X10_give at hf
  refine lv_iload_n (pc := 0) hx hb dX10_give_0 rfl (lv_at hl 1 rfl) ?_
  refine s_X10_168 (pc := 1) B hW hl.1 (by decide) (zle8 rfl) dX10_give_1 (fun _ _ h => c_X10_isCell h) hf (fun r2 μ1 H locs hW hf => ?_)
  refine yif_eq (pc := 4) (tgt := 20) B dX10_give_4 (by decide) hf (fun hf => ?_) (fun hf => ?_)
  · refine lv_aload_n (pc := 20) hx hb dX10_give_20 rfl (lv_at hl 0 rfl) ?_
    refine s_X10_174 (pc := 21) B hW hl.1 (by decide) (zle8 rfl) dX10_give_21 (fun _ _ h => c_X10_ten h) hf (fun r4 μ3 H locs hW hf => ?_)
    exact zreti (pc := 24) B hW hf dX10_give_24
  · refine lv_iload_n (pc := 7) hx hb dX10_give_7 rfl (lv_at hl 2 rfl) ?_
    refine lv_iconst (pc := 8) (v := (-1 : Int32)) hx hb dX10_give_8 rfl ?_
    refine yic_eq (pc := 9) (tgt := 25) B dX10_give_9 (by decide) hf (fun hf => ?_) (fun hf => ?_)
    · exact t_X10_give_25 B (lv_sub hl [0, 1, 2] rfl) hW hf
    · refine lv_aload_n (pc := 12) hx hb dX10_give_12 rfl (lv_at hl 0 rfl) ?_
      refine lv_iload_n (pc := 13) hx hb dX10_give_13 rfl (lv_at hl 2 rfl) ?_
      refine s_X10_171 (pc := 14) B hW hl.1 (by decide) (zle8 rfl) dX10_give_14 (fun _ _ h => c_X10_isBoy h) hf (fun r6 μ5 H locs hW hf => ?_)
      refine yif_ne (pc := 17) (tgt := 25) B dX10_give_17 (by decide) hf (fun hf => ?_) (fun hf => ?_)
      · exact t_X10_give_25 B (lv_sub hl [0, 1, 2] rfl) hW hf
      · refine lv_aload_n (pc := 20) hx hb dX10_give_20 rfl (lv_at hl 0 rfl) ?_
        refine s_X10_174 (pc := 21) B hW hl.1 (by decide) (zle8 rfl) dX10_give_21 (fun _ _ h => c_X10_ten h) hf (fun r8 μ7 H locs hW hf => ?_)
        exact zreti (pc := 24) B hW hf dX10_give_24
noncomputable def f_X10_changes (x1 : Int32) (x2 : Int32) (μ : Mem) : Option (Unit × Mem) := zck (zin x1 12) (zck (zin x2 12) (zck (zin x1 12) (zlet (zI μ 5 (x1).toNatClampNeg (μ.1 5 (x2).toNatClampNeg)) (fun μ1 => zck (zin x2 12) (zlet (zI μ1 5 (x2).toNatClampNeg (μ.1 5 (x1).toNatClampNeg)) (fun μ2 => some ((), μ2)))))))
set_option maxRecDepth 100000 in
theorem c_X10_changes {G : ZG} {l : Launch} {x1 : Int32} {x2 : Int32} {μ : Mem} {r : Unit} {μ' : Mem} (h : f_X10_changes x1 x2 μ = some (r, μ')) : zC ZM G l yX10_changes cX10_changes 4 none 1 [.ref (zad G 0), .int x1, .int x2] μ none μ' := by
  refine zC.mk (by decide +kernel) (Nat.le_of_ble_eq_true rfl) ?_
  intro p e s m below meth c ls B hl hW
  have B : zB ZM G cX10_changes 4 "DarkSharesModel" none p s m [.ref (zad G 0), .int x1, .int x2].toArray meth c := B
  have hl : lv_has ls 4 [(0, .ref (zad G 0)), (1, .int x1), (2, .int x2)] := hl
  have hx := B.1
  have hb := B.2.1
  have hf := h
  unfold f_X10_changes at hf
  refine lv_aload_n (pc := 0) hx hb dX10_changes_0 rfl (lv_at hl 0 rfl) ?_
  refine g_X10_22 (pc := 1) B hW dX10_changes_1 ?_
  refine lv_iload_n (pc := 4) hx hb dX10_changes_4 rfl (lv_at hl 1 rfl) ?_
  refine yald (pc := 5) B hW mr5 dX10_changes_5 hf (fun hf => ?_)
  refine lv_istore_n (pc := 6) (lv' := [(3, .int (μ.1 5 (x1).toNatClampNeg)), (0, .ref (zad G 0)), (1, .int x1), (2, .int x2)]) hx hb dX10_changes_6 rfl hl (by decide) rfl (fun ls hl => ?_)
  refine lv_aload_n (pc := 7) hx hb dX10_changes_7 rfl (lv_at hl 1 rfl) ?_
  refine g_X10_22 (pc := 8) B hW dX10_changes_8 ?_
  refine lv_iload_n (pc := 11) hx hb dX10_changes_11 rfl (lv_at hl 2 rfl) ?_
  refine lv_aload_n (pc := 12) hx hb dX10_changes_12 rfl (lv_at hl 1 rfl) ?_
  refine g_X10_22 (pc := 13) B hW dX10_changes_13 ?_
  refine lv_iload_n (pc := 16) hx hb dX10_changes_16 rfl (lv_at hl 3 rfl) ?_
  refine yald (pc := 17) B hW mr5 dX10_changes_17 hf (fun hf => ?_)
  refine yast (pc := 18) B hW mr5 dX10_changes_18 hf (fun μ1 H locs hW hf => ?_)
  refine lv_aload_n (pc := 19) hx hb dX10_changes_19 rfl (lv_at hl 1 rfl) ?_
  refine g_X10_22 (pc := 20) B hW dX10_changes_20 ?_
  refine lv_iload_n (pc := 23) hx hb dX10_changes_23 rfl (lv_at hl 3 rfl) ?_
  refine lv_iload_n (pc := 24) hx hb dX10_changes_24 rfl (lv_at hl 0 rfl) ?_
  refine yast (pc := 25) B hW mr5 dX10_changes_25 hf (fun μ2 H locs hW hf => ?_)
  exact zretv (pc := 26) B hW hf dX10_changes_26
noncomputable def f_X10_swap (x1 : Int32) (x2 : Int32) (μ : Mem) : Option (Int32 × Mem) := zbind (f_X10_isCell x1 μ) (fun r2 μ1 => (if r2 = 0 then zbind (f_X10_bad μ1) (fun r4 μ3 => some (r4, μ3)) else zbind (f_X10_isCell x2 μ1) (fun r6 μ5 => (if r6 = 0 then zbind (f_X10_bad μ5) (fun r8 μ7 => some (r8, μ7)) else (if x1 = x2 then zbind (f_X10_bad μ5) (fun r18 μ17 => some (r18, μ17)) else zck (zin x1 12) ((if (μ5.1 5 (x1).toNatClampNeg) = (-1 : Int32) then zbind (f_X10_no μ5) (fun r10 μ9 => some (r10, μ9)) else zck (zin x2 12) ((if (μ5.1 5 (x2).toNatClampNeg) = (-1 : Int32) then zbind (f_X10_no μ5) (fun r12 μ11 => some (r12, μ11)) else zck (zin x1 12) (zck (zin x2 12) ((if (μ5.1 5 (x1).toNatClampNeg) = (μ5.1 5 (x2).toNatClampNeg) then zbind (f_X10_no μ5) (fun r16 μ15 => some (r16, μ15)) else zbind (f_X10_notes μ5) (fun _ μ13 => zbind (f_X10_changes x1 x2 μ13) (fun _ μ14 => some ((1 : Int32), μ14)))))))))))))))
set_option maxRecDepth 100000 in
theorem c_X10_swap {G : ZG} {l : Launch} {x1 : Int32} {x2 : Int32} {μ : Mem} {r : Int32} {μ' : Mem} (h : f_X10_swap x1 x2 μ = some (r, μ')) : zC ZM G l yX10_swap cX10_swap 3 (some .int) 3 [.ref (zad G 0), .int x1, .int x2] μ (some (.int r)) μ' := by
  refine zC.mk (by decide +kernel) (Nat.le_of_ble_eq_true rfl) ?_
  intro p e s m below meth c ls B hl hW
  have B : zB ZM G cX10_swap 3 "DarkSharesModel" (some .int) p s m [.ref (zad G 0), .int x1, .int x2].toArray meth c := B
  have hl : lv_has ls 3 [(0, .ref (zad G 0)), (1, .int x1), (2, .int x2)] := hl
  have hx := B.1
  have hb := B.2.1
  have hf := h
  unfold f_X10_swap at hf
  refine lv_iload_n (pc := 0) hx hb dX10_swap_0 rfl (lv_at hl 1 rfl) ?_
  refine s_X10_168 (pc := 1) B hW hl.1 (by decide) (zle8 rfl) dX10_swap_1 (fun _ _ h => c_X10_isCell h) hf (fun r2 μ1 H locs hW hf => ?_)
  refine yif_eq (pc := 4) (tgt := 19) B dX10_swap_4 (by decide) hf (fun hf => ?_) (fun hf => ?_)
  · refine lv_aload_n (pc := 19) hx hb dX10_swap_19 rfl (lv_at hl 0 rfl) ?_
    refine s_X10_85 (pc := 20) B hW hl.1 (by decide) (zle8 rfl) dX10_swap_20 (fun _ _ h => c_X10_bad h) hf (fun r4 μ3 H locs hW hf => ?_)
    exact zreti (pc := 23) B hW hf dX10_swap_23
  · refine lv_iload_n (pc := 7) hx hb dX10_swap_7 rfl (lv_at hl 2 rfl) ?_
    refine s_X10_168 (pc := 8) B hW hl.1 (by decide) (zle8 rfl) dX10_swap_8 (fun _ _ h => c_X10_isCell h) hf (fun r6 μ5 H locs hW hf => ?_)
    refine yif_eq (pc := 11) (tgt := 19) B dX10_swap_11 (by decide) hf (fun hf => ?_) (fun hf => ?_)
    · refine lv_aload_n (pc := 19) hx hb dX10_swap_19 rfl (lv_at hl 0 rfl) ?_
      refine s_X10_85 (pc := 20) B hW hl.1 (by decide) (zle8 rfl) dX10_swap_20 (fun _ _ h => c_X10_bad h) hf (fun r8 μ7 H locs hW hf => ?_)
      exact zreti (pc := 23) B hW hf dX10_swap_23
    · refine lv_iload_n (pc := 14) hx hb dX10_swap_14 rfl (lv_at hl 1 rfl) ?_
      refine lv_iload_n (pc := 15) hx hb dX10_swap_15 rfl (lv_at hl 2 rfl) ?_
      refine yic_ne (pc := 16) (tgt := 24) B dX10_swap_16 (by decide) hf (fun hf => ?_) (fun hf => ?_)
      · refine lv_aload_n (pc := 24) hx hb dX10_swap_24 rfl (lv_at hl 0 rfl) ?_
        refine g_X10_22 (pc := 25) B hW dX10_swap_25 ?_
        refine lv_iload_n (pc := 28) hx hb dX10_swap_28 rfl (lv_at hl 1 rfl) ?_
        refine yald (pc := 29) B hW mr5 dX10_swap_29 hf (fun hf => ?_)
        refine lv_iconst (pc := 30) (v := (-1 : Int32)) hx hb dX10_swap_30 rfl ?_
        refine yic_eq (pc := 31) (tgt := 59) B dX10_swap_31 (by decide) hf (fun hf => ?_) (fun hf => ?_)
        · refine lv_aload_n (pc := 59) hx hb dX10_swap_59 rfl (lv_at hl 0 rfl) ?_
          refine s_X10_180 (pc := 60) B hW hl.1 (by decide) (zle8 rfl) dX10_swap_60 (fun _ _ h => c_X10_no h) hf (fun r10 μ9 H locs hW hf => ?_)
          exact zreti (pc := 63) B hW hf dX10_swap_63
        · refine lv_aload_n (pc := 34) hx hb dX10_swap_34 rfl (lv_at hl 0 rfl) ?_
          refine g_X10_22 (pc := 35) B hW dX10_swap_35 ?_
          refine lv_iload_n (pc := 38) hx hb dX10_swap_38 rfl (lv_at hl 2 rfl) ?_
          refine yald (pc := 39) B hW mr5 dX10_swap_39 hf (fun hf => ?_)
          refine lv_iconst (pc := 40) (v := (-1 : Int32)) hx hb dX10_swap_40 rfl ?_
          refine yic_eq (pc := 41) (tgt := 59) B dX10_swap_41 (by decide) hf (fun hf => ?_) (fun hf => ?_)
          · refine lv_aload_n (pc := 59) hx hb dX10_swap_59 rfl (lv_at hl 0 rfl) ?_
            refine s_X10_180 (pc := 60) B hW hl.1 (by decide) (zle8 rfl) dX10_swap_60 (fun _ _ h => c_X10_no h) hf (fun r12 μ11 H locs hW hf => ?_)
            exact zreti (pc := 63) B hW hf dX10_swap_63
          · refine lv_aload_n (pc := 44) hx hb dX10_swap_44 rfl (lv_at hl 0 rfl) ?_
            refine g_X10_22 (pc := 45) B hW dX10_swap_45 ?_
            refine lv_iload_n (pc := 48) hx hb dX10_swap_48 rfl (lv_at hl 1 rfl) ?_
            refine yald (pc := 49) B hW mr5 dX10_swap_49 hf (fun hf => ?_)
            refine lv_aload_n (pc := 50) hx hb dX10_swap_50 rfl (lv_at hl 0 rfl) ?_
            refine g_X10_22 (pc := 51) B hW dX10_swap_51 ?_
            refine lv_iload_n (pc := 54) hx hb dX10_swap_54 rfl (lv_at hl 2 rfl) ?_
            refine yald (pc := 55) B hW mr5 dX10_swap_55 hf (fun hf => ?_)
            refine yic_ne (pc := 56) (tgt := 64) B dX10_swap_56 (by decide) hf (fun hf => ?_) (fun hf => ?_)
            · refine lv_aload_n (pc := 64) hx hb dX10_swap_64 rfl (lv_at hl 0 rfl) ?_
              refine s_X10_177 (pc := 65) B hW hl.1 (by decide) (zle8 rfl) dX10_swap_65 (fun _ _ h => c_X10_notes h) hf (fun _ μ13 H locs hW hf => ?_)
              refine lv_aload_n (pc := 68) hx hb dX10_swap_68 rfl (lv_at hl 0 rfl) ?_
              refine lv_iload_n (pc := 69) hx hb dX10_swap_69 rfl (lv_at hl 1 rfl) ?_
              refine lv_iload_n (pc := 70) hx hb dX10_swap_70 rfl (lv_at hl 2 rfl) ?_
              refine s_X10_183 (pc := 71) B hW hl.1 (by decide) (zle8 rfl) dX10_swap_71 (fun _ _ h => c_X10_changes h) hf (fun _ μ14 H locs hW hf => ?_)
              refine lv_iconst (pc := 74) (v := (1 : Int32)) hx hb dX10_swap_74 rfl ?_
              exact zreti (pc := 75) B hW hf dX10_swap_75
            · refine lv_aload_n (pc := 59) hx hb dX10_swap_59 rfl (lv_at hl 0 rfl) ?_
              refine s_X10_180 (pc := 60) B hW hl.1 (by decide) (zle8 rfl) dX10_swap_60 (fun _ _ h => c_X10_no h) hf (fun r16 μ15 H locs hW hf => ?_)
              exact zreti (pc := 63) B hW hf dX10_swap_63
      · refine lv_aload_n (pc := 19) hx hb dX10_swap_19 rfl (lv_at hl 0 rfl) ?_
        refine s_X10_85 (pc := 20) B hW hl.1 (by decide) (zle8 rfl) dX10_swap_20 (fun _ _ h => c_X10_bad h) hf (fun r18 μ17 H locs hW hf => ?_)
        exact zreti (pc := 23) B hW hf dX10_swap_23
noncomputable def f_X10_sell_94 (x1 : Int32) (x2 : Int32) (μ : Mem) : Option (Int32 × Mem) := zck (zin x1 12) (zlet (zI μ 5 (x1).toNatClampNeg x2) (fun μ1 => zck (zin x2 5) (some ((μ1.1 4 (x2).toNatClampNeg), μ1))))
set_option maxRecDepth 100000 in
theorem t_X10_sell_94 {G : ZG} {p : Program} {l : Launch} {e : Env} {s : State} {m : MethodId} {args : Array Value} {below : List Frame} {meth : Method} {c : Code} (B : zB ZM G cX10_sell 4 "DarkSharesModel" (some .int) p s m args meth c) {x1 : Int32} {x2 : Int32} {μ : Mem} {H : Heap} {locs : List Loc} {ls : Array Slot} {r : Int32} {μ' : Mem} (hl : lv_has ls 4 [(0, .ref (zad G 0)), (1, .int x1), (2, .int x2)]) (hW : zW ZM G s H locs μ) (hf : f_X10_sell_94 x1 x2 μ = some (r, μ')) : W p l e (zR 3) s m args below meth c H locs 0 0 (MQ below (zQ ZM G (some (.int r)) μ') args s 0 0 (zAd ZM G)) (F0 m 94 ls []) := by
  have hx := B.1
  have hb := B.2.1
  unfold f_X10_sell_94 at hf
  refine lv_aload_n (pc := 94) hx hb dX10_sell_94 rfl (lv_at hl 0 rfl) ?_
  refine g_X10_22 (pc := 95) B hW dX10_sell_95 ?_
  refine lv_iload_n (pc := 98) hx hb dX10_sell_98 rfl (lv_at hl 1 rfl) ?_
  refine lv_iload_n (pc := 99) hx hb dX10_sell_99 rfl (lv_at hl 2 rfl) ?_
  refine yast (pc := 100) B hW mr5 dX10_sell_100 hf (fun μ1 H locs hW hf => ?_)
  refine lv_aload_n (pc := 101) hx hb dX10_sell_101 rfl (lv_at hl 0 rfl) ?_
  refine g_X10_19 (pc := 102) B hW dX10_sell_102 ?_
  refine lv_iload_n (pc := 105) hx hb dX10_sell_105 rfl (lv_at hl 2 rfl) ?_
  refine yald (pc := 106) B hW mr4 dX10_sell_106 hf (fun hf => ?_)
  exact zreti (pc := 107) B hW hf dX10_sell_107
noncomputable def f_X10_sell (x1 : Int32) (x2 : Int32) (x3 : Int32) (μ : Mem) : Option (Int32 × Mem) := zbind (f_X10_isCell x1 μ) (fun r2 μ1 => (if r2 = 0 then zbind (f_X10_bad μ1) (fun r4 μ3 => some (r4, μ3)) else zbind (f_X10_isBoy x2 μ1) (fun r6 μ5 => (if r6 = 0 then zbind (f_X10_bad μ5) (fun r8 μ7 => some (r8, μ7)) else zbind (f_X10_in x3 (0 : Int32) (40 : Int32) μ5) (fun r10 μ9 => (if r10 = 0 then zbind (f_X10_bad μ9) (fun r19 μ18 => some (r19, μ18)) else zck (zin x1 12) ((if (μ9.1 5 (x1).toNatClampNeg) = x2 then zbind (f_X10_no μ9) (fun r12 μ11 => some (r12, μ11)) else zck (zin x2 5) ((if x3 ≤ (μ9.1 4 (x2).toNatClampNeg) then zbind (f_X10_notes μ9) (fun _ μ13 => zck (zin x2 5) (zck (zin x2 5) (zlet (zI μ13 4 (x2).toNatClampNeg ((μ13.1 4 (x2).toNatClampNeg) - x3)) (fun μ14 => zck (zin x1 12) ((if (μ14.1 5 (x1).toNatClampNeg) = (-1 : Int32) then f_X10_sell_94 x1 x2 μ14 else zck (zin x1 12) (zck (zin (μ14.1 5 (x1).toNatClampNeg) 5) (zck (zin (μ14.1 5 (x1).toNatClampNeg) 5) (zlet (zI μ14 4 ((μ14.1 5 (x1).toNatClampNeg)).toNatClampNeg ((μ14.1 4 ((μ14.1 5 (x1).toNatClampNeg)).toNatClampNeg) + x3)) (fun μ15 => f_X10_sell_94 x1 x2 μ15)))))))))) else zbind (f_X10_no μ9) (fun r17 μ16 => some (r17, μ16))))))))))))
set_option maxRecDepth 100000 in
theorem c_X10_sell {G : ZG} {l : Launch} {x1 : Int32} {x2 : Int32} {x3 : Int32} {μ : Mem} {r : Int32} {μ' : Mem} (h : f_X10_sell x1 x2 x3 μ = some (r, μ')) : zC ZM G l yX10_sell cX10_sell 4 (some .int) 3 [.ref (zad G 0), .int x1, .int x2, .int x3] μ (some (.int r)) μ' := by
  refine zC.mk (by decide +kernel) (Nat.le_of_ble_eq_true rfl) ?_
  intro p e s m below meth c ls B hl hW
  have B : zB ZM G cX10_sell 4 "DarkSharesModel" (some .int) p s m [.ref (zad G 0), .int x1, .int x2, .int x3].toArray meth c := B
  have hl : lv_has ls 4 [(0, .ref (zad G 0)), (1, .int x1), (2, .int x2), (3, .int x3)] := hl
  have hx := B.1
  have hb := B.2.1
  have hf := h
  unfold f_X10_sell at hf
  refine lv_iload_n (pc := 0) hx hb dX10_sell_0 rfl (lv_at hl 1 rfl) ?_
  refine s_X10_168 (pc := 1) B hW hl.1 (by decide) (zle8 rfl) dX10_sell_1 (fun _ _ h => c_X10_isCell h) hf (fun r2 μ1 H locs hW hf => ?_)
  refine yif_eq (pc := 4) (tgt := 25) B dX10_sell_4 (by decide) hf (fun hf => ?_) (fun hf => ?_)
  · refine lv_aload_n (pc := 25) hx hb dX10_sell_25 rfl (lv_at hl 0 rfl) ?_
    refine s_X10_85 (pc := 26) B hW hl.1 (by decide) (zle8 rfl) dX10_sell_26 (fun _ _ h => c_X10_bad h) hf (fun r4 μ3 H locs hW hf => ?_)
    exact zreti (pc := 29) B hW hf dX10_sell_29
  · refine lv_aload_n (pc := 7) hx hb dX10_sell_7 rfl (lv_at hl 0 rfl) ?_
    refine lv_iload_n (pc := 8) hx hb dX10_sell_8 rfl (lv_at hl 2 rfl) ?_
    refine s_X10_171 (pc := 9) B hW hl.1 (by decide) (zle8 rfl) dX10_sell_9 (fun _ _ h => c_X10_isBoy h) hf (fun r6 μ5 H locs hW hf => ?_)
    refine yif_eq (pc := 12) (tgt := 25) B dX10_sell_12 (by decide) hf (fun hf => ?_) (fun hf => ?_)
    · refine lv_aload_n (pc := 25) hx hb dX10_sell_25 rfl (lv_at hl 0 rfl) ?_
      refine s_X10_85 (pc := 26) B hW hl.1 (by decide) (zle8 rfl) dX10_sell_26 (fun _ _ h => c_X10_bad h) hf (fun r8 μ7 H locs hW hf => ?_)
      exact zreti (pc := 29) B hW hf dX10_sell_29
    · refine lv_iload_n (pc := 15) hx hb dX10_sell_15 rfl (lv_at hl 3 rfl) ?_
      refine lv_iconst (pc := 16) (v := (0 : Int32)) hx hb dX10_sell_16 rfl ?_
      refine lv_bipush (pc := 17) (v := (40 : Int32)) hx hb dX10_sell_17 rfl ?_
      refine s_X10_81 (pc := 19) B hW hl.1 (by decide) (zle8 rfl) dX10_sell_19 (fun _ _ h => c_X10_in h) hf (fun r10 μ9 H locs hW hf => ?_)
      refine yif_ne (pc := 22) (tgt := 30) B dX10_sell_22 (by decide) hf (fun hf => ?_) (fun hf => ?_)
      · refine lv_aload_n (pc := 30) hx hb dX10_sell_30 rfl (lv_at hl 0 rfl) ?_
        refine g_X10_22 (pc := 31) B hW dX10_sell_31 ?_
        refine lv_iload_n (pc := 34) hx hb dX10_sell_34 rfl (lv_at hl 1 rfl) ?_
        refine yald (pc := 35) B hW mr5 dX10_sell_35 hf (fun hf => ?_)
        refine lv_iload_n (pc := 36) hx hb dX10_sell_36 rfl (lv_at hl 2 rfl) ?_
        refine yic_eq (pc := 37) (tgt := 50) B dX10_sell_37 (by decide) hf (fun hf => ?_) (fun hf => ?_)
        · refine lv_aload_n (pc := 50) hx hb dX10_sell_50 rfl (lv_at hl 0 rfl) ?_
          refine s_X10_180 (pc := 51) B hW hl.1 (by decide) (zle8 rfl) dX10_sell_51 (fun _ _ h => c_X10_no h) hf (fun r12 μ11 H locs hW hf => ?_)
          exact zreti (pc := 54) B hW hf dX10_sell_54
        · refine lv_aload_n (pc := 40) hx hb dX10_sell_40 rfl (lv_at hl 0 rfl) ?_
          refine g_X10_19 (pc := 41) B hW dX10_sell_41 ?_
          refine lv_iload_n (pc := 44) hx hb dX10_sell_44 rfl (lv_at hl 2 rfl) ?_
          refine yald (pc := 45) B hW mr4 dX10_sell_45 hf (fun hf => ?_)
          refine lv_iload_n (pc := 46) hx hb dX10_sell_46 rfl (lv_at hl 3 rfl) ?_
          refine yic_ge (pc := 47) (tgt := 55) B dX10_sell_47 (by decide) hf (fun hf => ?_) (fun hf => ?_)
          · refine lv_aload_n (pc := 55) hx hb dX10_sell_55 rfl (lv_at hl 0 rfl) ?_
            refine s_X10_177 (pc := 56) B hW hl.1 (by decide) (zle8 rfl) dX10_sell_56 (fun _ _ h => c_X10_notes h) hf (fun _ μ13 H locs hW hf => ?_)
            refine lv_aload_n (pc := 59) hx hb dX10_sell_59 rfl (lv_at hl 0 rfl) ?_
            refine g_X10_19 (pc := 60) B hW dX10_sell_60 ?_
            refine lv_iload_n (pc := 63) hx hb dX10_sell_63 rfl (lv_at hl 2 rfl) ?_
            refine lv_dup2_11 (pc := 64) hx hb dX10_sell_64 rfl rfl ?_
            refine yald (pc := 65) B hW mr4 dX10_sell_65 hf (fun hf => ?_)
            refine lv_iload_n (pc := 66) hx hb dX10_sell_66 rfl (lv_at hl 3 rfl) ?_
            refine lv_isub (pc := 67) hx hb dX10_sell_67 ?_
            refine yast (pc := 68) B hW mr4 dX10_sell_68 hf (fun μ14 H locs hW hf => ?_)
            refine lv_aload_n (pc := 69) hx hb dX10_sell_69 rfl (lv_at hl 0 rfl) ?_
            refine g_X10_22 (pc := 70) B hW dX10_sell_70 ?_
            refine lv_iload_n (pc := 73) hx hb dX10_sell_73 rfl (lv_at hl 1 rfl) ?_
            refine yald (pc := 74) B hW mr5 dX10_sell_74 hf (fun hf => ?_)
            refine lv_iconst (pc := 75) (v := (-1 : Int32)) hx hb dX10_sell_75 rfl ?_
            refine yic_eq (pc := 76) (tgt := 94) B dX10_sell_76 (by decide) hf (fun hf => ?_) (fun hf => ?_)
            · exact t_X10_sell_94 B (lv_sub hl [0, 1, 2] rfl) hW hf
            · refine lv_aload_n (pc := 79) hx hb dX10_sell_79 rfl (lv_at hl 0 rfl) ?_
              refine g_X10_19 (pc := 80) B hW dX10_sell_80 ?_
              refine lv_aload_n (pc := 83) hx hb dX10_sell_83 rfl (lv_at hl 0 rfl) ?_
              refine g_X10_22 (pc := 84) B hW dX10_sell_84 ?_
              refine lv_iload_n (pc := 87) hx hb dX10_sell_87 rfl (lv_at hl 1 rfl) ?_
              refine yald (pc := 88) B hW mr5 dX10_sell_88 hf (fun hf => ?_)
              refine lv_dup2_11 (pc := 89) hx hb dX10_sell_89 rfl rfl ?_
              refine yald (pc := 90) B hW mr4 dX10_sell_90 hf (fun hf => ?_)
              refine lv_iload_n (pc := 91) hx hb dX10_sell_91 rfl (lv_at hl 3 rfl) ?_
              refine lv_iadd (pc := 92) hx hb dX10_sell_92 ?_
              refine yast (pc := 93) B hW mr4 dX10_sell_93 hf (fun μ15 H locs hW hf => ?_)
              exact t_X10_sell_94 B (lv_sub hl [0, 1, 2] rfl) hW hf
          · refine lv_aload_n (pc := 50) hx hb dX10_sell_50 rfl (lv_at hl 0 rfl) ?_
            refine s_X10_180 (pc := 51) B hW hl.1 (by decide) (zle8 rfl) dX10_sell_51 (fun _ _ h => c_X10_no h) hf (fun r17 μ16 H locs hW hf => ?_)
            exact zreti (pc := 54) B hW hf dX10_sell_54
      · refine lv_aload_n (pc := 25) hx hb dX10_sell_25 rfl (lv_at hl 0 rfl) ?_
        refine s_X10_85 (pc := 26) B hW hl.1 (by decide) (zle8 rfl) dX10_sell_26 (fun _ _ h => c_X10_bad h) hf (fun r19 μ18 H locs hW hf => ?_)
        exact zreti (pc := 29) B hW hf dX10_sell_29
noncomputable def f_X10_greyMany (μ : Mem) : Option (Int32 × Mem) := zbind (f_X10_setOf (-1 : Int32) μ) (fun r2 μ1 => zbind (f_X10_bits r2 μ1) (fun r4 μ3 => some (r4, μ3)))
set_option maxRecDepth 100000 in
theorem c_X10_greyMany {G : ZG} {l : Launch} {μ : Mem} {r : Int32} {μ' : Mem} (h : f_X10_greyMany μ = some (r, μ')) : zC ZM G l yX10_greyMany cX10_greyMany 1 (some .int) 2 [.ref (zad G 0)] μ (some (.int r)) μ' := by
  refine zC.mk (by decide +kernel) (Nat.le_of_ble_eq_true rfl) ?_
  intro p e s m below meth c ls B hl hW
  have B : zB ZM G cX10_greyMany 1 "DarkSharesModel" (some .int) p s m [.ref (zad G 0)].toArray meth c := B
  have hl : lv_has ls 1 [(0, .ref (zad G 0))] := hl
  have hx := B.1
  have hb := B.2.1
  have hf := h
  unfold f_X10_greyMany at hf
  refine lv_aload_n (pc := 0) hx hb dX10_greyMany_0 rfl (lv_at hl 0 rfl) ?_
  refine lv_iconst (pc := 1) (v := (-1 : Int32)) hx hb dX10_greyMany_1 rfl ?_
  refine s_X10_161 (pc := 2) B hW hl.1 (by decide) (zle8 rfl) dX10_greyMany_2 (fun _ _ h => c_X10_setOf h) hf (fun r2 μ1 H locs hW hf => ?_)
  refine s_X10_187 (pc := 5) B hW hl.1 (by decide) (zle8 rfl) dX10_greyMany_5 (fun _ _ h => c_X10_bits h) hf (fun r4 μ3 H locs hW hf => ?_)
  exact zreti (pc := 8) B hW hf dX10_greyMany_8
noncomputable def f_X10_undo_60 : Nat → Int32 → Int32 → Mem → Option (Int32 × Mem)
  | 0, _, _, _ => none
  | n + 1, x1, x2, μ => (if (5 : Int32) ≤ x2 then zbind (f_X10_greyMany μ) (fun r2 μ1 => some (r2, μ1)) else zck (zin ((x1 + (12 : Int32)) + x2) 136) (zck (zin x2 5) (zlet (zI μ 4 (x2).toNatClampNeg (μ.1 13 (((x1 + (12 : Int32)) + x2)).toNatClampNeg)) (fun μ3 => f_X10_undo_60 n x1 (x2 + (1 : Int32)) μ3))))
set_option maxRecDepth 100000 in
theorem t_X10_undo_60 {G : ZG} {p : Program} {l : Launch} {e : Env} {s : State} {m : MethodId} {args : Array Value} {below : List Frame} {meth : Method} {c : Code} (B : zB ZM G cX10_undo 3 "DarkSharesModel" (some .int) p s m args meth c) : ∀ (n : Nat) {x1 : Int32} {x2 : Int32} {μ : Mem} {H : Heap} {locs : List Loc} {ls : Array Slot} {r : Int32} {μ' : Mem}, lv_has ls 3 [(0, .ref (zad G 0)), (1, .int x1), (2, .int x2)] → zW ZM G s H locs μ → f_X10_undo_60 n x1 x2 μ = some (r, μ') → W p l e (zR 3) s m args below meth c H locs 0 0 (MQ below (zQ ZM G (some (.int r)) μ') args s 0 0 (zAd ZM G)) (F0 m 60 ls []) := by
  have hx := B.1
  have hb := B.2.1
  intro n
  induction n with
  | zero => intro _ _ _ _ _ _ _ _ hl hW hf; cases hf
  | succ n ih =>
    intro x1 x2 μ H locs ls r μ' hl hW hf
    rw [f_X10_undo_60] at hf
    refine lv_iload_n (pc := 60) hx hb dX10_undo_60 rfl (lv_at hl 2 rfl) ?_
    refine lv_iconst (pc := 61) (v := (5 : Int32)) hx hb dX10_undo_61 rfl ?_
    refine yic_ge (pc := 62) (tgt := 88) B dX10_undo_62 (by decide) hf (fun hf => ?_) (fun hf => ?_)
    · refine lv_aload_n (pc := 88) hx hb dX10_undo_88 rfl (lv_at hl 0 rfl) ?_
      refine s_X10_190 (pc := 89) B hW hl.1 (by decide) (zle8 rfl) dX10_undo_89 (fun _ _ h => c_X10_greyMany h) hf (fun r2 μ1 H locs hW hf => ?_)
      exact zreti (pc := 92) B hW hf dX10_undo_92
    · refine lv_aload_n (pc := 65) hx hb dX10_undo_65 rfl (lv_at hl 0 rfl) ?_
      refine g_X10_19 (pc := 66) B hW dX10_undo_66 ?_
      refine lv_iload_n (pc := 69) hx hb dX10_undo_69 rfl (lv_at hl 2 rfl) ?_
      refine lv_aload_n (pc := 70) hx hb dX10_undo_70 rfl (lv_at hl 0 rfl) ?_
      refine g_X10_46 (pc := 71) B hW dX10_undo_71 ?_
      refine lv_iload_n (pc := 74) hx hb dX10_undo_74 rfl (lv_at hl 1 rfl) ?_
      refine lv_bipush (pc := 75) (v := (12 : Int32)) hx hb dX10_undo_75 rfl ?_
      refine lv_iadd (pc := 77) hx hb dX10_undo_77 ?_
      refine lv_iload_n (pc := 78) hx hb dX10_undo_78 rfl (lv_at hl 2 rfl) ?_
      refine lv_iadd (pc := 79) hx hb dX10_undo_79 ?_
      refine yald (pc := 80) B hW mr13 dX10_undo_80 hf (fun hf => ?_)
      refine yast (pc := 81) B hW mr4 dX10_undo_81 hf (fun μ3 H locs hW hf => ?_)
      refine lv_iinc (pc := 82) (v := (x2 + (1 : Int32))) (lv' := [(2, .int (x2 + (1 : Int32))), (0, .ref (zad G 0)), (1, .int x1)]) hx hb dX10_undo_82 hl (k := 2) rfl rfl (by decide) rfl (fun ls hl => ?_)
      refine lv_goto (pc := 85) (tgt := 60) hx hb dX10_undo_85 (by decide) ?_
      exact ih (lv_sub hl [1, 2, 0] rfl) hW hf
noncomputable def f_X10_undo_32 : Nat → Int32 → Int32 → Mem → Option (Int32 × Mem)
  | 0, _, _, _ => none
  | n + 1, x1, x2, μ => (if (12 : Int32) ≤ x2 then f_X10_undo_60 zFU x1 (0 : Int32) μ else zck (zin (x1 + x2) 136) (zck (zin x2 12) (zlet (zI μ 5 (x2).toNatClampNeg (μ.1 13 ((x1 + x2)).toNatClampNeg)) (fun μ1 => f_X10_undo_32 n x1 (x2 + (1 : Int32)) μ1))))
set_option maxRecDepth 100000 in
theorem t_X10_undo_32 {G : ZG} {p : Program} {l : Launch} {e : Env} {s : State} {m : MethodId} {args : Array Value} {below : List Frame} {meth : Method} {c : Code} (B : zB ZM G cX10_undo 3 "DarkSharesModel" (some .int) p s m args meth c) : ∀ (n : Nat) {x1 : Int32} {x2 : Int32} {μ : Mem} {H : Heap} {locs : List Loc} {ls : Array Slot} {r : Int32} {μ' : Mem}, lv_has ls 3 [(0, .ref (zad G 0)), (1, .int x1), (2, .int x2)] → zW ZM G s H locs μ → f_X10_undo_32 n x1 x2 μ = some (r, μ') → W p l e (zR 3) s m args below meth c H locs 0 0 (MQ below (zQ ZM G (some (.int r)) μ') args s 0 0 (zAd ZM G)) (F0 m 32 ls []) := by
  have hx := B.1
  have hb := B.2.1
  intro n
  induction n with
  | zero => intro _ _ _ _ _ _ _ _ hl hW hf; cases hf
  | succ n ih =>
    intro x1 x2 μ H locs ls r μ' hl hW hf
    rw [f_X10_undo_32] at hf
    refine lv_iload_n (pc := 32) hx hb dX10_undo_32 rfl (lv_at hl 2 rfl) ?_
    refine lv_bipush (pc := 33) (v := (12 : Int32)) hx hb dX10_undo_33 rfl ?_
    refine yic_ge (pc := 35) (tgt := 58) B dX10_undo_35 (by decide) hf (fun hf => ?_) (fun hf => ?_)
    · refine lv_iconst (pc := 58) (v := (0 : Int32)) hx hb dX10_undo_58 rfl ?_
      refine lv_istore_n (pc := 59) (lv' := [(2, .int (0 : Int32)), (0, .ref (zad G 0)), (1, .int x1)]) hx hb dX10_undo_59 rfl hl (by decide) rfl (fun ls hl => ?_)
      exact t_X10_undo_60 B zFU (lv_sub hl [1, 2, 0] rfl) hW hf
    · refine lv_aload_n (pc := 38) hx hb dX10_undo_38 rfl (lv_at hl 0 rfl) ?_
      refine g_X10_22 (pc := 39) B hW dX10_undo_39 ?_
      refine lv_iload_n (pc := 42) hx hb dX10_undo_42 rfl (lv_at hl 2 rfl) ?_
      refine lv_aload_n (pc := 43) hx hb dX10_undo_43 rfl (lv_at hl 0 rfl) ?_
      refine g_X10_46 (pc := 44) B hW dX10_undo_44 ?_
      refine lv_iload_n (pc := 47) hx hb dX10_undo_47 rfl (lv_at hl 1 rfl) ?_
      refine lv_iload_n (pc := 48) hx hb dX10_undo_48 rfl (lv_at hl 2 rfl) ?_
      refine lv_iadd (pc := 49) hx hb dX10_undo_49 ?_
      refine yald (pc := 50) B hW mr13 dX10_undo_50 hf (fun hf => ?_)
      refine yast (pc := 51) B hW mr5 dX10_undo_51 hf (fun μ1 H locs hW hf => ?_)
      refine lv_iinc (pc := 52) (v := (x2 + (1 : Int32))) (lv' := [(2, .int (x2 + (1 : Int32))), (0, .ref (zad G 0)), (1, .int x1)]) hx hb dX10_undo_52 hl (k := 2) rfl rfl (by decide) rfl (fun ls hl => ?_)
      refine lv_goto (pc := 55) (tgt := 32) hx hb dX10_undo_55 (by decide) ?_
      exact ih (lv_sub hl [1, 2, 0] rfl) hW hf
noncomputable def f_X10_undo (μ : Mem) : Option (Int32 × Mem) := (if (μ.1 0 19) = 0 then zbind (f_X10_no μ) (fun r3 μ2 => some (r3, μ2)) else zlet (zI μ 0 19 ((μ.1 0 19) - (1 : Int32))) (fun μ1 => f_X10_undo_32 zFU ((17 : Int32) * (μ1.1 0 19)) (0 : Int32) μ1))
set_option maxRecDepth 100000 in
theorem c_X10_undo {G : ZG} {l : Launch} {μ : Mem} {r : Int32} {μ' : Mem} (h : f_X10_undo μ = some (r, μ')) : zC ZM G l yX10_undo cX10_undo 3 (some .int) 3 [.ref (zad G 0)] μ (some (.int r)) μ' := by
  refine zC.mk (by decide +kernel) (Nat.le_of_ble_eq_true rfl) ?_
  intro p e s m below meth c ls B hl hW
  have B : zB ZM G cX10_undo 3 "DarkSharesModel" (some .int) p s m [.ref (zad G 0)].toArray meth c := B
  have hl : lv_has ls 3 [(0, .ref (zad G 0))] := hl
  have hx := B.1
  have hb := B.2.1
  have hf := h
  unfold f_X10_undo at hf
  refine lv_aload_n (pc := 0) hx hb dX10_undo_0 rfl (lv_at hl 0 rfl) ?_
  refine g_X10_78 (pc := 1) B hW dX10_undo_1 ?_
  refine yif_ne (pc := 4) (tgt := 12) B dX10_undo_4 (by decide) hf (fun hf => ?_) (fun hf => ?_)
  · refine lv_aload_n (pc := 12) hx hb dX10_undo_12 rfl (lv_at hl 0 rfl) ?_
    refine lv_dup (pc := 13) hx hb dX10_undo_13 rfl ?_
    refine g_X10_78 (pc := 14) B hW dX10_undo_14 ?_
    refine lv_iconst (pc := 17) (v := (1 : Int32)) hx hb dX10_undo_17 rfl ?_
    refine lv_isub (pc := 18) hx hb dX10_undo_18 ?_
    refine p_X10_78 (pc := 19) B hW dX10_undo_19 hf (fun μ1 H locs hW hf => ?_)
    refine lv_bipush (pc := 22) (v := (17 : Int32)) hx hb dX10_undo_22 rfl ?_
    refine lv_aload_n (pc := 24) hx hb dX10_undo_24 rfl (lv_at hl 0 rfl) ?_
    refine g_X10_78 (pc := 25) B hW dX10_undo_25 ?_
    refine lv_imul (pc := 28) hx hb dX10_undo_28 ?_
    refine lv_istore_n (pc := 29) (lv' := [(1, .int ((17 : Int32) * (μ1.1 0 19))), (0, .ref (zad G 0))]) hx hb dX10_undo_29 rfl hl (by decide) rfl (fun ls hl => ?_)
    refine lv_iconst (pc := 30) (v := (0 : Int32)) hx hb dX10_undo_30 rfl ?_
    refine lv_istore_n (pc := 31) (lv' := [(2, .int (0 : Int32)), (1, .int ((17 : Int32) * (μ1.1 0 19))), (0, .ref (zad G 0))]) hx hb dX10_undo_31 rfl hl (by decide) rfl (fun ls hl => ?_)
    exact t_X10_undo_32 B zFU (lv_sub hl [2, 1, 0] rfl) hW hf
  · refine lv_aload_n (pc := 7) hx hb dX10_undo_7 rfl (lv_at hl 0 rfl) ?_
    refine s_X10_180 (pc := 8) B hW hl.1 (by decide) (zle8 rfl) dX10_undo_8 (fun _ _ h => c_X10_no h) hf (fun r3 μ2 H locs hW hf => ?_)
    exact zreti (pc := 11) B hW hf dX10_undo_11
noncomputable def f_X10_of (x1 : Int32) (x2 : Int32) (μ : Mem) : Option (Int32 × Mem) := zbind (f_X10_isBoy x1 μ) (fun r2 μ1 => (if r2 = 0 then zbind (f_X10_bad μ1) (fun r4 μ3 => some (r4, μ3)) else zbind (f_X10_in x2 (0 : Int32) (4 : Int32) μ1) (fun r6 μ5 => (if r6 = 0 then zbind (f_X10_bad μ5) (fun r12 μ11 => some (r12, μ11)) else (if x2 = (0 : Int32) then zck (zin x1 5) (some ((μ5.1 2 (x1).toNatClampNeg), μ5)) else (if x2 = (1 : Int32) then zck (zin x1 5) (some ((μ5.1 3 (x1).toNatClampNeg), μ5)) else (if x2 = (2 : Int32) then zck (zin x1 5) (some ((μ5.1 4 (x1).toNatClampNeg), μ5)) else (if x2 = (3 : Int32) then zbind (f_X10_setOf x1 μ5) (fun r8 μ7 => some (r8, μ7)) else zbind (f_X10_ownWorth x1 μ5) (fun r10 μ9 => some (r10, μ9))))))))))
set_option maxRecDepth 100000 in
theorem c_X10_of {G : ZG} {l : Launch} {x1 : Int32} {x2 : Int32} {μ : Mem} {r : Int32} {μ' : Mem} (h : f_X10_of x1 x2 μ = some (r, μ')) : zC ZM G l yX10_of cX10_of 3 (some .int) 6 [.ref (zad G 0), .int x1, .int x2] μ (some (.int r)) μ' := by
  refine zC.mk (by decide +kernel) (Nat.le_of_ble_eq_true rfl) ?_
  intro p e s m below meth c ls B hl hW
  have B : zB ZM G cX10_of 3 "DarkSharesModel" (some .int) p s m [.ref (zad G 0), .int x1, .int x2].toArray meth c := B
  have hl : lv_has ls 3 [(0, .ref (zad G 0)), (1, .int x1), (2, .int x2)] := hl
  have hx := B.1
  have hb := B.2.1
  have hf := h
  unfold f_X10_of at hf
  refine lv_aload_n (pc := 0) hx hb dX10_of_0 rfl (lv_at hl 0 rfl) ?_
  refine lv_iload_n (pc := 1) hx hb dX10_of_1 rfl (lv_at hl 1 rfl) ?_
  refine s_X10_171 (pc := 2) B hW hl.1 (by decide) (zle8 rfl) dX10_of_2 (fun _ _ h => c_X10_isBoy h) hf (fun r2 μ1 H locs hW hf => ?_)
  refine yif_eq (pc := 5) (tgt := 17) B dX10_of_5 (by decide) hf (fun hf => ?_) (fun hf => ?_)
  · refine lv_aload_n (pc := 17) hx hb dX10_of_17 rfl (lv_at hl 0 rfl) ?_
    refine s_X10_85 (pc := 18) B hW hl.1 (by decide) (zle8 rfl) dX10_of_18 (fun _ _ h => c_X10_bad h) hf (fun r4 μ3 H locs hW hf => ?_)
    exact zreti (pc := 21) B hW hf dX10_of_21
  · refine lv_iload_n (pc := 8) hx hb dX10_of_8 rfl (lv_at hl 2 rfl) ?_
    refine lv_iconst (pc := 9) (v := (0 : Int32)) hx hb dX10_of_9 rfl ?_
    refine lv_iconst (pc := 10) (v := (4 : Int32)) hx hb dX10_of_10 rfl ?_
    refine s_X10_81 (pc := 11) B hW hl.1 (by decide) (zle8 rfl) dX10_of_11 (fun _ _ h => c_X10_in h) hf (fun r6 μ5 H locs hW hf => ?_)
    refine yif_ne (pc := 14) (tgt := 22) B dX10_of_14 (by decide) hf (fun hf => ?_) (fun hf => ?_)
    · refine lv_iload_n (pc := 22) hx hb dX10_of_22 rfl (lv_at hl 2 rfl) ?_
      rcases zsw hf with ⟨c0, hf⟩ | ⟨c0, hf⟩
      · refine ytabin (pc := 23) (tgt := 52) B dX10_of_23 c0 (by decide) (by decide) rfl (by decide) ?_
        refine lv_aload_n (pc := 52) hx hb dX10_of_52 rfl (lv_at hl 0 rfl) ?_
        refine g_X10_13 (pc := 53) B hW dX10_of_53 ?_
        refine lv_iload_n (pc := 56) hx hb dX10_of_56 rfl (lv_at hl 1 rfl) ?_
        refine yald (pc := 57) B hW mr2 dX10_of_57 hf (fun hf => ?_)
        exact zreti (pc := 58) B hW hf dX10_of_58
      rcases zsw hf with ⟨c1, hf⟩ | ⟨c1, hf⟩
      · refine ytabin (pc := 23) (tgt := 59) B dX10_of_23 c1 (by decide) (by decide) rfl (by decide) ?_
        refine lv_aload_n (pc := 59) hx hb dX10_of_59 rfl (lv_at hl 0 rfl) ?_
        refine g_X10_16 (pc := 60) B hW dX10_of_60 ?_
        refine lv_iload_n (pc := 63) hx hb dX10_of_63 rfl (lv_at hl 1 rfl) ?_
        refine yald (pc := 64) B hW mr3 dX10_of_64 hf (fun hf => ?_)
        exact zreti (pc := 65) B hW hf dX10_of_65
      rcases zsw hf with ⟨c2, hf⟩ | ⟨c2, hf⟩
      · refine ytabin (pc := 23) (tgt := 66) B dX10_of_23 c2 (by decide) (by decide) rfl (by decide) ?_
        refine lv_aload_n (pc := 66) hx hb dX10_of_66 rfl (lv_at hl 0 rfl) ?_
        refine g_X10_19 (pc := 67) B hW dX10_of_67 ?_
        refine lv_iload_n (pc := 70) hx hb dX10_of_70 rfl (lv_at hl 1 rfl) ?_
        refine yald (pc := 71) B hW mr4 dX10_of_71 hf (fun hf => ?_)
        exact zreti (pc := 72) B hW hf dX10_of_72
      rcases zsw hf with ⟨c3, hf⟩ | ⟨c3, hf⟩
      · refine ytabin (pc := 23) (tgt := 73) B dX10_of_23 c3 (by decide) (by decide) rfl (by decide) ?_
        refine lv_aload_n (pc := 73) hx hb dX10_of_73 rfl (lv_at hl 0 rfl) ?_
        refine lv_iload_n (pc := 74) hx hb dX10_of_74 rfl (lv_at hl 1 rfl) ?_
        refine s_X10_161 (pc := 75) B hW hl.1 (by decide) (zle8 rfl) dX10_of_75 (fun _ _ h => c_X10_setOf h) hf (fun r8 μ7 H locs hW hf => ?_)
        exact zreti (pc := 78) B hW hf dX10_of_78
      have e0 := zne c0 (show ((0 : Int32)).toInt = 0 from by decide)
      have e1 := zne c1 (show ((1 : Int32)).toInt = 1 from by decide)
      have e2 := zne c2 (show ((2 : Int32)).toInt = 2 from by decide)
      have e3 := zne c3 (show ((3 : Int32)).toInt = 3 from by decide)
      refine ytabout (pc := 23) (tgt := 79) B dX10_of_23 (by omega) (by decide) ?_
      refine lv_aload_n (pc := 79) hx hb dX10_of_79 rfl (lv_at hl 0 rfl) ?_
      refine lv_iload_n (pc := 80) hx hb dX10_of_80 rfl (lv_at hl 1 rfl) ?_
      refine s_X10_193 (pc := 81) B hW hl.1 (by decide) (zle8 rfl) dX10_of_81 (fun _ _ h => c_X10_ownWorth h) hf (fun r10 μ9 H locs hW hf => ?_)
      exact zreti (pc := 84) B hW hf dX10_of_84
    · refine lv_aload_n (pc := 17) hx hb dX10_of_17 rfl (lv_at hl 0 rfl) ?_
      refine s_X10_85 (pc := 18) B hW hl.1 (by decide) (zle8 rfl) dX10_of_18 (fun _ _ h => c_X10_bad h) hf (fun r12 μ11 H locs hW hf => ?_)
      exact zreti (pc := 21) B hW hf dX10_of_21
noncomputable def f_X10_worth (x1 : Int32) (x2 : Int32) (μ : Mem) : Option (Int32 × Mem) := zbind (f_X10_isBoy x1 μ) (fun r2 μ1 => (if r2 = 0 then zbind (f_X10_bad μ1) (fun r4 μ3 => some (r4, μ3)) else zbind (f_X10_in x2 (0 : Int32) (4095 : Int32) μ1) (fun r6 μ5 => (if r6 = 0 then zbind (f_X10_bad μ5) (fun r8 μ7 => some (r8, μ7)) else zbind (f_X10_worthOf x1 x2 μ5) (fun r10 μ9 => some (r10, μ9))))))
set_option maxRecDepth 100000 in
theorem c_X10_worth {G : ZG} {l : Launch} {x1 : Int32} {x2 : Int32} {μ : Mem} {r : Int32} {μ' : Mem} (h : f_X10_worth x1 x2 μ = some (r, μ')) : zC ZM G l yX10_worth cX10_worth 3 (some .int) 5 [.ref (zad G 0), .int x1, .int x2] μ (some (.int r)) μ' := by
  refine zC.mk (by decide +kernel) (Nat.le_of_ble_eq_true rfl) ?_
  intro p e s m below meth c ls B hl hW
  have B : zB ZM G cX10_worth 3 "DarkSharesModel" (some .int) p s m [.ref (zad G 0), .int x1, .int x2].toArray meth c := B
  have hl : lv_has ls 3 [(0, .ref (zad G 0)), (1, .int x1), (2, .int x2)] := hl
  have hx := B.1
  have hb := B.2.1
  have hf := h
  unfold f_X10_worth at hf
  refine lv_aload_n (pc := 0) hx hb dX10_worth_0 rfl (lv_at hl 0 rfl) ?_
  refine lv_iload_n (pc := 1) hx hb dX10_worth_1 rfl (lv_at hl 1 rfl) ?_
  refine s_X10_171 (pc := 2) B hW hl.1 (by decide) (zle8 rfl) dX10_worth_2 (fun _ _ h => c_X10_isBoy h) hf (fun r2 μ1 H locs hW hf => ?_)
  refine yif_eq (pc := 5) (tgt := 28) B dX10_worth_5 (by decide) hf (fun hf => ?_) (fun hf => ?_)
  · refine lv_aload_n (pc := 28) hx hb dX10_worth_28 rfl (lv_at hl 0 rfl) ?_
    refine s_X10_85 (pc := 29) B hW hl.1 (by decide) (zle8 rfl) dX10_worth_29 (fun _ _ h => c_X10_bad h) hf (fun r4 μ3 H locs hW hf => ?_)
    exact zreti (pc := 32) B hW hf dX10_worth_32
  · refine lv_iload_n (pc := 8) hx hb dX10_worth_8 rfl (lv_at hl 2 rfl) ?_
    refine lv_iconst (pc := 9) (v := (0 : Int32)) hx hb dX10_worth_9 rfl ?_
    refine lv_sipush (pc := 10) (v := (4095 : Int32)) hx hb dX10_worth_10 rfl ?_
    refine s_X10_81 (pc := 13) B hW hl.1 (by decide) (zle8 rfl) dX10_worth_13 (fun _ _ h => c_X10_in h) hf (fun r6 μ5 H locs hW hf => ?_)
    refine yif_eq (pc := 16) (tgt := 28) B dX10_worth_16 (by decide) hf (fun hf => ?_) (fun hf => ?_)
    · refine lv_aload_n (pc := 28) hx hb dX10_worth_28 rfl (lv_at hl 0 rfl) ?_
      refine s_X10_85 (pc := 29) B hW hl.1 (by decide) (zle8 rfl) dX10_worth_29 (fun _ _ h => c_X10_bad h) hf (fun r8 μ7 H locs hW hf => ?_)
      exact zreti (pc := 32) B hW hf dX10_worth_32
    · refine lv_aload_n (pc := 19) hx hb dX10_worth_19 rfl (lv_at hl 0 rfl) ?_
      refine lv_iload_n (pc := 20) hx hb dX10_worth_20 rfl (lv_at hl 1 rfl) ?_
      refine lv_iload_n (pc := 21) hx hb dX10_worth_21 rfl (lv_at hl 2 rfl) ?_
      refine s_X10_164 (pc := 22) B hW hl.1 (by decide) (zle8 rfl) dX10_worth_22 (fun _ _ h => c_X10_worthOf h) hf (fun r10 μ9 H locs hW hf => ?_)
      refine lv_goto (pc := 25) (tgt := 32) hx hb dX10_worth_25 (by decide) ?_
      exact zreti (pc := 32) B hW hf dX10_worth_32
noncomputable def f_X10_whose (x1 : Int32) (μ : Mem) : Option (Int32 × Mem) := zbind (f_X10_isCell x1 μ) (fun r2 μ1 => (if r2 = 0 then zbind (f_X10_ten μ1) (fun r4 μ3 => some (r4, μ3)) else zck (zin x1 12) (some ((μ1.1 5 (x1).toNatClampNeg), μ1))))
set_option maxRecDepth 100000 in
theorem c_X10_whose {G : ZG} {l : Launch} {x1 : Int32} {μ : Mem} {r : Int32} {μ' : Mem} (h : f_X10_whose x1 μ = some (r, μ')) : zC ZM G l yX10_whose cX10_whose 2 (some .int) 3 [.ref (zad G 0), .int x1] μ (some (.int r)) μ' := by
  refine zC.mk (by decide +kernel) (Nat.le_of_ble_eq_true rfl) ?_
  intro p e s m below meth c ls B hl hW
  have B : zB ZM G cX10_whose 2 "DarkSharesModel" (some .int) p s m [.ref (zad G 0), .int x1].toArray meth c := B
  have hl : lv_has ls 2 [(0, .ref (zad G 0)), (1, .int x1)] := hl
  have hx := B.1
  have hb := B.2.1
  have hf := h
  unfold f_X10_whose at hf
  refine lv_iload_n (pc := 0) hx hb dX10_whose_0 rfl (lv_at hl 1 rfl) ?_
  refine s_X10_168 (pc := 1) B hW hl.1 (by decide) (zle8 rfl) dX10_whose_1 (fun _ _ h => c_X10_isCell h) hf (fun r2 μ1 H locs hW hf => ?_)
  refine yif_eq (pc := 4) (tgt := 16) B dX10_whose_4 (by decide) hf (fun hf => ?_) (fun hf => ?_)
  · refine lv_aload_n (pc := 16) hx hb dX10_whose_16 rfl (lv_at hl 0 rfl) ?_
    refine s_X10_174 (pc := 17) B hW hl.1 (by decide) (zle8 rfl) dX10_whose_17 (fun _ _ h => c_X10_ten h) hf (fun r4 μ3 H locs hW hf => ?_)
    exact zreti (pc := 20) B hW hf dX10_whose_20
  · refine lv_aload_n (pc := 7) hx hb dX10_whose_7 rfl (lv_at hl 0 rfl) ?_
    refine g_X10_22 (pc := 8) B hW dX10_whose_8 ?_
    refine lv_iload_n (pc := 11) hx hb dX10_whose_11 rfl (lv_at hl 1 rfl) ?_
    refine yald (pc := 12) B hW mr5 dX10_whose_12 hf (fun hf => ?_)
    refine lv_goto (pc := 13) (tgt := 20) hx hb dX10_whose_13 (by decide) ?_
    exact zreti (pc := 20) B hW hf dX10_whose_20
noncomputable def f_X10_enough_4 : Nat → Int32 → Int32 → Mem → Option (Int32 × Mem)
  | 0, _, _, _ => none
  | n + 1, x1, x2, μ => (if (μ.1 0 1) ≤ x2 then some (x1, μ) else zbind (f_X10_setOf x2 μ) (fun r2 μ1 => zbind (f_X10_bits r2 μ1) (fun r4 μ3 => zck (zin x2 5) ((if r4 < (μ3.1 3 (x2).toNatClampNeg) then f_X10_enough_4 n (x1 ||| (0 : Int32)) (x2 + (1 : Int32)) μ3 else f_X10_enough_4 n (x1 ||| ((1 : Int32) <<< (x2 &&& 31))) (x2 + (1 : Int32)) μ3)))))
set_option maxRecDepth 100000 in
theorem t_X10_enough_4 {G : ZG} {p : Program} {l : Launch} {e : Env} {s : State} {m : MethodId} {args : Array Value} {below : List Frame} {meth : Method} {c : Code} (B : zB ZM G cX10_enough 3 "DarkSharesModel" (some .int) p s m args meth c) : ∀ (n : Nat) {x1 : Int32} {x2 : Int32} {μ : Mem} {H : Heap} {locs : List Loc} {ls : Array Slot} {r : Int32} {μ' : Mem}, lv_has ls 3 [(0, .ref (zad G 0)), (1, .int x1), (2, .int x2)] → zW ZM G s H locs μ → f_X10_enough_4 n x1 x2 μ = some (r, μ') → W p l e (zR 2) s m args below meth c H locs 0 0 (MQ below (zQ ZM G (some (.int r)) μ') args s 0 0 (zAd ZM G)) (F0 m 4 ls []) := by
  have hx := B.1
  have hb := B.2.1
  intro n
  induction n with
  | zero => intro _ _ _ _ _ _ _ _ hl hW hf; cases hf
  | succ n ih =>
    intro x1 x2 μ H locs ls r μ' hl hW hf
    rw [f_X10_enough_4] at hf
    refine lv_iload_n (pc := 4) hx hb dX10_enough_4 rfl (lv_at hl 2 rfl) ?_
    refine lv_aload_n (pc := 5) hx hb dX10_enough_5 rfl (lv_at hl 0 rfl) ?_
    refine g_X10_71 (pc := 6) B hW dX10_enough_6 ?_
    refine yic_ge (pc := 9) (tgt := 45) B dX10_enough_9 (by decide) hf (fun hf => ?_) (fun hf => ?_)
    · refine lv_iload_n (pc := 45) hx hb dX10_enough_45 rfl (lv_at hl 1 rfl) ?_
      exact zreti (pc := 46) B hW hf dX10_enough_46
    · refine lv_iload_n (pc := 12) hx hb dX10_enough_12 rfl (lv_at hl 1 rfl) ?_
      refine lv_aload_n (pc := 13) hx hb dX10_enough_13 rfl (lv_at hl 0 rfl) ?_
      refine lv_iload_n (pc := 14) hx hb dX10_enough_14 rfl (lv_at hl 2 rfl) ?_
      refine s_X10_161 (pc := 15) B hW hl.1 (by decide) (zle8 rfl) dX10_enough_15 (fun _ _ h => c_X10_setOf h) hf (fun r2 μ1 H locs hW hf => ?_)
      refine s_X10_187 (pc := 18) B hW hl.1 (by decide) (zle8 rfl) dX10_enough_18 (fun _ _ h => c_X10_bits h) hf (fun r4 μ3 H locs hW hf => ?_)
      refine lv_aload_n (pc := 21) hx hb dX10_enough_21 rfl (lv_at hl 0 rfl) ?_
      refine g_X10_16 (pc := 22) B hW dX10_enough_22 ?_
      refine lv_iload_n (pc := 25) hx hb dX10_enough_25 rfl (lv_at hl 2 rfl) ?_
      refine yald (pc := 26) B hW mr3 dX10_enough_26 hf (fun hf => ?_)
      refine yic_lt (pc := 27) (tgt := 36) B dX10_enough_27 (by decide) hf (fun hf => ?_) (fun hf => ?_)
      · refine lv_iconst (pc := 36) (v := (0 : Int32)) hx hb dX10_enough_36 rfl ?_
        refine lv_ior (pc := 37) hx hb dX10_enough_37 ?_
        refine lv_istore_n (pc := 38) (lv' := [(1, .int (x1 ||| (0 : Int32))), (0, .ref (zad G 0)), (2, .int x2)]) hx hb dX10_enough_38 rfl hl (by decide) rfl (fun ls hl => ?_)
        refine lv_iinc (pc := 39) (v := (x2 + (1 : Int32))) (lv' := [(2, .int (x2 + (1 : Int32))), (1, .int (x1 ||| (0 : Int32))), (0, .ref (zad G 0))]) hx hb dX10_enough_39 hl (k := 2) rfl rfl (by decide) rfl (fun ls hl => ?_)
        refine lv_goto (pc := 42) (tgt := 4) hx hb dX10_enough_42 (by decide) ?_
        exact ih (lv_sub hl [2, 1, 0] rfl) hW hf
      · refine lv_iconst (pc := 30) (v := (1 : Int32)) hx hb dX10_enough_30 rfl ?_
        refine lv_iload_n (pc := 31) hx hb dX10_enough_31 rfl (lv_at hl 2 rfl) ?_
        refine lv_ishl (pc := 32) hx hb dX10_enough_32 ?_
        refine lv_goto (pc := 33) (tgt := 37) hx hb dX10_enough_33 (by decide) ?_
        refine lv_ior (pc := 37) hx hb dX10_enough_37 ?_
        refine lv_istore_n (pc := 38) (lv' := [(1, .int (x1 ||| ((1 : Int32) <<< (x2 &&& 31)))), (0, .ref (zad G 0)), (2, .int x2)]) hx hb dX10_enough_38 rfl hl (by decide) rfl (fun ls hl => ?_)
        refine lv_iinc (pc := 39) (v := (x2 + (1 : Int32))) (lv' := [(2, .int (x2 + (1 : Int32))), (1, .int (x1 ||| ((1 : Int32) <<< (x2 &&& 31)))), (0, .ref (zad G 0))]) hx hb dX10_enough_39 hl (k := 2) rfl rfl (by decide) rfl (fun ls hl => ?_)
        refine lv_goto (pc := 42) (tgt := 4) hx hb dX10_enough_42 (by decide) ?_
        exact ih (lv_sub hl [2, 1, 0] rfl) hW hf
noncomputable def f_X10_enough (μ : Mem) : Option (Int32 × Mem) := f_X10_enough_4 zFU (0 : Int32) (0 : Int32) μ
set_option maxRecDepth 100000 in
theorem c_X10_enough {G : ZG} {l : Launch} {μ : Mem} {r : Int32} {μ' : Mem} (h : f_X10_enough μ = some (r, μ')) : zC ZM G l yX10_enough cX10_enough 3 (some .int) 2 [.ref (zad G 0)] μ (some (.int r)) μ' := by
  refine zC.mk (by decide +kernel) (Nat.le_of_ble_eq_true rfl) ?_
  intro p e s m below meth c ls B hl hW
  have B : zB ZM G cX10_enough 3 "DarkSharesModel" (some .int) p s m [.ref (zad G 0)].toArray meth c := B
  have hl : lv_has ls 3 [(0, .ref (zad G 0))] := hl
  have hx := B.1
  have hb := B.2.1
  have hf := h
  unfold f_X10_enough at hf
  refine lv_iconst (pc := 0) (v := (0 : Int32)) hx hb dX10_enough_0 rfl ?_
  refine lv_istore_n (pc := 1) (lv' := [(1, .int (0 : Int32)), (0, .ref (zad G 0))]) hx hb dX10_enough_1 rfl hl (by decide) rfl (fun ls hl => ?_)
  refine lv_iconst (pc := 2) (v := (0 : Int32)) hx hb dX10_enough_2 rfl ?_
  refine lv_istore_n (pc := 3) (lv' := [(2, .int (0 : Int32)), (1, .int (0 : Int32)), (0, .ref (zad G 0))]) hx hb dX10_enough_3 rfl hl (by decide) rfl (fun ls hl => ?_)
  exact t_X10_enough_4 B zFU (lv_sub hl [2, 1, 0] rfl) hW hf
noncomputable def f_X10_envy_17 : Nat → Int32 → Int32 → Int32 → Mem → Option (Int32 × Mem)
  | 0, _, _, _, _ => none
  | n + 1, x1, x2, x3, μ => (if (μ.1 0 1) ≤ x3 then some (x2, μ) else zbind (f_X10_setOf x3 μ) (fun r2 μ1 => zbind (f_X10_worthOf x1 r2 μ1) (fun r4 μ3 => zbind (f_X10_ownWorth x1 μ3) (fun r6 μ5 => (if r4 ≤ r6 then f_X10_envy_17 n x1 (x2 ||| (0 : Int32)) (x3 + (1 : Int32)) μ5 else f_X10_envy_17 n x1 (x2 ||| ((1 : Int32) <<< (x3 &&& 31))) (x3 + (1 : Int32)) μ5)))))
set_option maxRecDepth 100000 in
theorem t_X10_envy_17 {G : ZG} {p : Program} {l : Launch} {e : Env} {s : State} {m : MethodId} {args : Array Value} {below : List Frame} {meth : Method} {c : Code} (B : zB ZM G cX10_envy 4 "DarkSharesModel" (some .int) p s m args meth c) : ∀ (n : Nat) {x1 : Int32} {x2 : Int32} {x3 : Int32} {μ : Mem} {H : Heap} {locs : List Loc} {ls : Array Slot} {r : Int32} {μ' : Mem}, lv_has ls 4 [(0, .ref (zad G 0)), (1, .int x1), (2, .int x2), (3, .int x3)] → zW ZM G s H locs μ → f_X10_envy_17 n x1 x2 x3 μ = some (r, μ') → W p l e (zR 6) s m args below meth c H locs 0 0 (MQ below (zQ ZM G (some (.int r)) μ') args s 0 0 (zAd ZM G)) (F0 m 17 ls []) := by
  have hx := B.1
  have hb := B.2.1
  intro n
  induction n with
  | zero => intro _ _ _ _ _ _ _ _ _ hl hW hf; cases hf
  | succ n ih =>
    intro x1 x2 x3 μ H locs ls r μ' hl hW hf
    rw [f_X10_envy_17] at hf
    refine lv_iload_n (pc := 17) hx hb dX10_envy_17 rfl (lv_at hl 3 rfl) ?_
    refine lv_aload_n (pc := 18) hx hb dX10_envy_18 rfl (lv_at hl 0 rfl) ?_
    refine g_X10_71 (pc := 19) B hW dX10_envy_19 ?_
    refine yic_ge (pc := 22) (tgt := 59) B dX10_envy_22 (by decide) hf (fun hf => ?_) (fun hf => ?_)
    · refine lv_iload_n (pc := 59) hx hb dX10_envy_59 rfl (lv_at hl 2 rfl) ?_
      exact zreti (pc := 60) B hW hf dX10_envy_60
    · refine lv_iload_n (pc := 25) hx hb dX10_envy_25 rfl (lv_at hl 2 rfl) ?_
      refine lv_aload_n (pc := 26) hx hb dX10_envy_26 rfl (lv_at hl 0 rfl) ?_
      refine lv_iload_n (pc := 27) hx hb dX10_envy_27 rfl (lv_at hl 1 rfl) ?_
      refine lv_aload_n (pc := 28) hx hb dX10_envy_28 rfl (lv_at hl 0 rfl) ?_
      refine lv_iload_n (pc := 29) hx hb dX10_envy_29 rfl (lv_at hl 3 rfl) ?_
      refine s_X10_161 (pc := 30) B hW hl.1 (by decide) (zle8 rfl) dX10_envy_30 (fun _ _ h => c_X10_setOf h) hf (fun r2 μ1 H locs hW hf => ?_)
      refine s_X10_164 (pc := 33) B hW hl.1 (by decide) (zle8 rfl) dX10_envy_33 (fun _ _ h => c_X10_worthOf h) hf (fun r4 μ3 H locs hW hf => ?_)
      refine lv_aload_n (pc := 36) hx hb dX10_envy_36 rfl (lv_at hl 0 rfl) ?_
      refine lv_iload_n (pc := 37) hx hb dX10_envy_37 rfl (lv_at hl 1 rfl) ?_
      refine s_X10_193 (pc := 38) B hW hl.1 (by decide) (zle8 rfl) dX10_envy_38 (fun _ _ h => c_X10_ownWorth h) hf (fun r6 μ5 H locs hW hf => ?_)
      refine yic_le (pc := 41) (tgt := 50) B dX10_envy_41 (by decide) hf (fun hf => ?_) (fun hf => ?_)
      · refine lv_iconst (pc := 50) (v := (0 : Int32)) hx hb dX10_envy_50 rfl ?_
        refine lv_ior (pc := 51) hx hb dX10_envy_51 ?_
        refine lv_istore_n (pc := 52) (lv' := [(2, .int (x2 ||| (0 : Int32))), (0, .ref (zad G 0)), (1, .int x1), (3, .int x3)]) hx hb dX10_envy_52 rfl hl (by decide) rfl (fun ls hl => ?_)
        refine lv_iinc (pc := 53) (v := (x3 + (1 : Int32))) (lv' := [(3, .int (x3 + (1 : Int32))), (2, .int (x2 ||| (0 : Int32))), (0, .ref (zad G 0)), (1, .int x1)]) hx hb dX10_envy_53 hl (k := 3) rfl rfl (by decide) rfl (fun ls hl => ?_)
        refine lv_goto (pc := 56) (tgt := 17) hx hb dX10_envy_56 (by decide) ?_
        exact ih (lv_sub hl [2, 3, 1, 0] rfl) hW hf
      · refine lv_iconst (pc := 44) (v := (1 : Int32)) hx hb dX10_envy_44 rfl ?_
        refine lv_iload_n (pc := 45) hx hb dX10_envy_45 rfl (lv_at hl 3 rfl) ?_
        refine lv_ishl (pc := 46) hx hb dX10_envy_46 ?_
        refine lv_goto (pc := 47) (tgt := 51) hx hb dX10_envy_47 (by decide) ?_
        refine lv_ior (pc := 51) hx hb dX10_envy_51 ?_
        refine lv_istore_n (pc := 52) (lv' := [(2, .int (x2 ||| ((1 : Int32) <<< (x3 &&& 31)))), (0, .ref (zad G 0)), (1, .int x1), (3, .int x3)]) hx hb dX10_envy_52 rfl hl (by decide) rfl (fun ls hl => ?_)
        refine lv_iinc (pc := 53) (v := (x3 + (1 : Int32))) (lv' := [(3, .int (x3 + (1 : Int32))), (2, .int (x2 ||| ((1 : Int32) <<< (x3 &&& 31)))), (0, .ref (zad G 0)), (1, .int x1)]) hx hb dX10_envy_53 hl (k := 3) rfl rfl (by decide) rfl (fun ls hl => ?_)
        refine lv_goto (pc := 56) (tgt := 17) hx hb dX10_envy_56 (by decide) ?_
        exact ih (lv_sub hl [2, 3, 1, 0] rfl) hW hf
noncomputable def f_X10_envy (x1 : Int32) (μ : Mem) : Option (Int32 × Mem) := zbind (f_X10_isBoy x1 μ) (fun r2 μ1 => (if r2 = 0 then zbind (f_X10_bad μ1) (fun r4 μ3 => some (r4, μ3)) else f_X10_envy_17 zFU x1 (0 : Int32) (0 : Int32) μ1))
set_option maxRecDepth 100000 in
theorem c_X10_envy {G : ZG} {l : Launch} {x1 : Int32} {μ : Mem} {r : Int32} {μ' : Mem} (h : f_X10_envy x1 μ = some (r, μ')) : zC ZM G l yX10_envy cX10_envy 4 (some .int) 6 [.ref (zad G 0), .int x1] μ (some (.int r)) μ' := by
  refine zC.mk (by decide +kernel) (Nat.le_of_ble_eq_true rfl) ?_
  intro p e s m below meth c ls B hl hW
  have B : zB ZM G cX10_envy 4 "DarkSharesModel" (some .int) p s m [.ref (zad G 0), .int x1].toArray meth c := B
  have hl : lv_has ls 4 [(0, .ref (zad G 0)), (1, .int x1)] := hl
  have hx := B.1
  have hb := B.2.1
  have hf := h
  unfold f_X10_envy at hf
  refine lv_aload_n (pc := 0) hx hb dX10_envy_0 rfl (lv_at hl 0 rfl) ?_
  refine lv_iload_n (pc := 1) hx hb dX10_envy_1 rfl (lv_at hl 1 rfl) ?_
  refine s_X10_171 (pc := 2) B hW hl.1 (by decide) (zle8 rfl) dX10_envy_2 (fun _ _ h => c_X10_isBoy h) hf (fun r2 μ1 H locs hW hf => ?_)
  refine yif_ne (pc := 5) (tgt := 13) B dX10_envy_5 (by decide) hf (fun hf => ?_) (fun hf => ?_)
  · refine lv_iconst (pc := 13) (v := (0 : Int32)) hx hb dX10_envy_13 rfl ?_
    refine lv_istore_n (pc := 14) (lv' := [(2, .int (0 : Int32)), (0, .ref (zad G 0)), (1, .int x1)]) hx hb dX10_envy_14 rfl hl (by decide) rfl (fun ls hl => ?_)
    refine lv_iconst (pc := 15) (v := (0 : Int32)) hx hb dX10_envy_15 rfl ?_
    refine lv_istore_n (pc := 16) (lv' := [(3, .int (0 : Int32)), (2, .int (0 : Int32)), (0, .ref (zad G 0)), (1, .int x1)]) hx hb dX10_envy_16 rfl hl (by decide) rfl (fun ls hl => ?_)
    exact t_X10_envy_17 B zFU (lv_sub hl [2, 3, 1, 0] rfl) hW hf
  · refine lv_aload_n (pc := 8) hx hb dX10_envy_8 rfl (lv_at hl 0 rfl) ?_
    refine s_X10_85 (pc := 9) B hW hl.1 (by decide) (zle8 rfl) dX10_envy_9 (fun _ _ h => c_X10_bad h) hf (fun r4 μ3 H locs hW hf => ?_)
    exact zreti (pc := 12) B hW hf dX10_envy_12
noncomputable def f_X10_isFair (x1 : Int32) (x2 : Int32) (μ : Mem) : Option (Int32 × Mem) := zbind (f_X10_worthOf x1 x2 μ) (fun r2 μ1 => zbind (f_X10_worthOf x1 (4095 : Int32) μ1) (fun r4 μ3 => (if (r2 * (μ1.1 0 1)) < r4 then some ((0 : Int32), μ3) else some ((1 : Int32), μ3))))
set_option maxRecDepth 100000 in
theorem c_X10_isFair {G : ZG} {l : Launch} {x1 : Int32} {x2 : Int32} {μ : Mem} {r : Int32} {μ' : Mem} (h : f_X10_isFair x1 x2 μ = some (r, μ')) : zC ZM G l yX10_isFair cX10_isFair 3 (some .boolean) 5 [.ref (zad G 0), .int x1, .int x2] μ (some (.int r)) μ' := by
  refine zC.mk (by decide +kernel) (Nat.le_of_ble_eq_true rfl) ?_
  intro p e s m below meth c ls B hl hW
  have B : zB ZM G cX10_isFair 3 "DarkSharesModel" (some .boolean) p s m [.ref (zad G 0), .int x1, .int x2].toArray meth c := B
  have hl : lv_has ls 3 [(0, .ref (zad G 0)), (1, .int x1), (2, .int x2)] := hl
  have hx := B.1
  have hb := B.2.1
  have hf := h
  unfold f_X10_isFair at hf
  refine lv_aload_n (pc := 0) hx hb dX10_isFair_0 rfl (lv_at hl 0 rfl) ?_
  refine lv_iload_n (pc := 1) hx hb dX10_isFair_1 rfl (lv_at hl 1 rfl) ?_
  refine lv_iload_n (pc := 2) hx hb dX10_isFair_2 rfl (lv_at hl 2 rfl) ?_
  refine s_X10_164 (pc := 3) B hW hl.1 (by decide) (zle8 rfl) dX10_isFair_3 (fun _ _ h => c_X10_worthOf h) hf (fun r2 μ1 H locs hW hf => ?_)
  refine lv_aload_n (pc := 6) hx hb dX10_isFair_6 rfl (lv_at hl 0 rfl) ?_
  refine g_X10_71 (pc := 7) B hW dX10_isFair_7 ?_
  refine lv_imul (pc := 10) hx hb dX10_isFair_10 ?_
  refine lv_aload_n (pc := 11) hx hb dX10_isFair_11 rfl (lv_at hl 0 rfl) ?_
  refine lv_iload_n (pc := 12) hx hb dX10_isFair_12 rfl (lv_at hl 1 rfl) ?_
  refine lv_sipush (pc := 13) (v := (4095 : Int32)) hx hb dX10_isFair_13 rfl ?_
  refine s_X10_164 (pc := 16) B hW hl.1 (by decide) (zle8 rfl) dX10_isFair_16 (fun _ _ h => c_X10_worthOf h) hf (fun r4 μ3 H locs hW hf => ?_)
  refine yic_lt (pc := 19) (tgt := 26) B dX10_isFair_19 (by decide) hf (fun hf => ?_) (fun hf => ?_)
  · refine lv_iconst (pc := 26) (v := (0 : Int32)) hx hb dX10_isFair_26 rfl ?_
    exact zretz (pc := 27) B hW rfl hf dX10_isFair_27
  · refine lv_iconst (pc := 22) (v := (1 : Int32)) hx hb dX10_isFair_22 rfl ?_
    refine lv_goto (pc := 23) (tgt := 27) hx hb dX10_isFair_23 (by decide) ?_
    exact zretz (pc := 27) B hW rfl hf dX10_isFair_27
noncomputable def f_X10_fair (x1 : Int32) (μ : Mem) : Option (Int32 × Mem) := zbind (f_X10_isBoy x1 μ) (fun r2 μ1 => (if r2 = 0 then zbind (f_X10_bad μ1) (fun r8 μ7 => some (r8, μ7)) else zbind (f_X10_setOf x1 μ1) (fun r4 μ3 => zbind (f_X10_isFair x1 r4 μ3) (fun r6 μ5 => (if r6 = 0 then some ((0 : Int32), μ5) else some ((1 : Int32), μ5))))))
set_option maxRecDepth 100000 in
theorem c_X10_fair {G : ZG} {l : Launch} {x1 : Int32} {μ : Mem} {r : Int32} {μ' : Mem} (h : f_X10_fair x1 μ = some (r, μ')) : zC ZM G l yX10_fair cX10_fair 2 (some .int) 6 [.ref (zad G 0), .int x1] μ (some (.int r)) μ' := by
  refine zC.mk (by decide +kernel) (Nat.le_of_ble_eq_true rfl) ?_
  intro p e s m below meth c ls B hl hW
  have B : zB ZM G cX10_fair 2 "DarkSharesModel" (some .int) p s m [.ref (zad G 0), .int x1].toArray meth c := B
  have hl : lv_has ls 2 [(0, .ref (zad G 0)), (1, .int x1)] := hl
  have hx := B.1
  have hb := B.2.1
  have hf := h
  unfold f_X10_fair at hf
  refine lv_aload_n (pc := 0) hx hb dX10_fair_0 rfl (lv_at hl 0 rfl) ?_
  refine lv_iload_n (pc := 1) hx hb dX10_fair_1 rfl (lv_at hl 1 rfl) ?_
  refine s_X10_171 (pc := 2) B hW hl.1 (by decide) (zle8 rfl) dX10_fair_2 (fun _ _ h => c_X10_isBoy h) hf (fun r2 μ1 H locs hW hf => ?_)
  refine yif_ne (pc := 5) (tgt := 15) B dX10_fair_5 (by decide) hf (fun hf => ?_) (fun hf => ?_)
  · refine lv_aload_n (pc := 15) hx hb dX10_fair_15 rfl (lv_at hl 0 rfl) ?_
    refine lv_iload_n (pc := 16) hx hb dX10_fair_16 rfl (lv_at hl 1 rfl) ?_
    refine lv_aload_n (pc := 17) hx hb dX10_fair_17 rfl (lv_at hl 0 rfl) ?_
    refine lv_iload_n (pc := 18) hx hb dX10_fair_18 rfl (lv_at hl 1 rfl) ?_
    refine s_X10_161 (pc := 19) B hW hl.1 (by decide) (zle8 rfl) dX10_fair_19 (fun _ _ h => c_X10_setOf h) hf (fun r4 μ3 H locs hW hf => ?_)
    refine s_X10_196 (pc := 22) B hW hl.1 (by decide) (zle8 rfl) dX10_fair_22 (fun _ _ h => c_X10_isFair h) hf (fun r6 μ5 H locs hW hf => ?_)
    refine yif_eq (pc := 25) (tgt := 32) B dX10_fair_25 (by decide) hf (fun hf => ?_) (fun hf => ?_)
    · refine lv_iconst (pc := 32) (v := (0 : Int32)) hx hb dX10_fair_32 rfl ?_
      exact zreti (pc := 33) B hW hf dX10_fair_33
    · refine lv_iconst (pc := 28) (v := (1 : Int32)) hx hb dX10_fair_28 rfl ?_
      refine lv_goto (pc := 29) (tgt := 33) hx hb dX10_fair_29 (by decide) ?_
      exact zreti (pc := 33) B hW hf dX10_fair_33
  · refine lv_aload_n (pc := 8) hx hb dX10_fair_8 rfl (lv_at hl 0 rfl) ?_
    refine s_X10_85 (pc := 9) B hW hl.1 (by decide) (zle8 rfl) dX10_fair_9 (fun _ _ h => c_X10_bad h) hf (fun r8 μ7 H locs hW hf => ?_)
    refine lv_goto (pc := 12) (tgt := 33) hx hb dX10_fair_12 (by decide) ?_
    exact zreti (pc := 33) B hW hf dX10_fair_33
noncomputable def f_X10_pieceEnd_5 : Nat → Int32 → Int32 → Int32 → Mem → Option (Int32 × Mem)
  | 0, _, _, _, _ => none
  | n + 1, x1, x3, x4, μ => (if (12 : Int32) < x4 then some ((13 : Int32), μ) else zbind (f_X10_isFair x1 x3 μ) (fun r2 μ1 => (if r2 = 0 then (if (12 : Int32) ≤ x4 then f_X10_pieceEnd_5 n x1 (x3 ||| (0 : Int32)) (x4 + (1 : Int32)) μ1 else f_X10_pieceEnd_5 n x1 (x3 ||| ((1 : Int32) <<< (x4 &&& 31))) (x4 + (1 : Int32)) μ1) else some (x4, μ1))))
set_option maxRecDepth 100000 in
theorem t_X10_pieceEnd_5 {G : ZG} {p : Program} {l : Launch} {e : Env} {s : State} {m : MethodId} {args : Array Value} {below : List Frame} {meth : Method} {c : Code} (B : zB ZM G cX10_pieceEnd 5 "DarkSharesModel" (some .int) p s m args meth c) : ∀ (n : Nat) {x1 : Int32} {x3 : Int32} {x4 : Int32} {μ : Mem} {H : Heap} {locs : List Loc} {ls : Array Slot} {r : Int32} {μ' : Mem}, lv_has ls 5 [(0, .ref (zad G 0)), (1, .int x1), (3, .int x3), (4, .int x4)] → zW ZM G s H locs μ → f_X10_pieceEnd_5 n x1 x3 x4 μ = some (r, μ') → W p l e (zR 6) s m args below meth c H locs 0 0 (MQ below (zQ ZM G (some (.int r)) μ') args s 0 0 (zAd ZM G)) (F0 m 5 ls []) := by
  have hx := B.1
  have hb := B.2.1
  intro n
  induction n with
  | zero => intro _ _ _ _ _ _ _ _ _ hl hW hf; cases hf
  | succ n ih =>
    intro x1 x3 x4 μ H locs ls r μ' hl hW hf
    rw [f_X10_pieceEnd_5] at hf
    refine lv_iload (pc := 5) hx hb dX10_pieceEnd_5 (lv_at hl 3 rfl) ?_
    refine lv_bipush (pc := 7) (v := (12 : Int32)) hx hb dX10_pieceEnd_7 rfl ?_
    refine yic_gt (pc := 9) (tgt := 48) B dX10_pieceEnd_9 (by decide) hf (fun hf => ?_) (fun hf => ?_)
    · refine lv_bipush (pc := 48) (v := (13 : Int32)) hx hb dX10_pieceEnd_48 rfl ?_
      exact zreti (pc := 50) B hW hf dX10_pieceEnd_50
    · refine lv_aload_n (pc := 12) hx hb dX10_pieceEnd_12 rfl (lv_at hl 0 rfl) ?_
      refine lv_iload_n (pc := 13) hx hb dX10_pieceEnd_13 rfl (lv_at hl 1 rfl) ?_
      refine lv_iload_n (pc := 14) hx hb dX10_pieceEnd_14 rfl (lv_at hl 2 rfl) ?_
      refine s_X10_196 (pc := 15) B hW hl.1 (by decide) (zle8 rfl) dX10_pieceEnd_15 (fun _ _ h => c_X10_isFair h) hf (fun r2 μ1 H locs hW hf => ?_)
      refine yif_eq (pc := 18) (tgt := 24) B dX10_pieceEnd_18 (by decide) hf (fun hf => ?_) (fun hf => ?_)
      · refine lv_iload_n (pc := 24) hx hb dX10_pieceEnd_24 rfl (lv_at hl 2 rfl) ?_
        refine lv_iload (pc := 25) hx hb dX10_pieceEnd_25 (lv_at hl 3 rfl) ?_
        refine lv_bipush (pc := 27) (v := (12 : Int32)) hx hb dX10_pieceEnd_27 rfl ?_
        refine yic_ge (pc := 29) (tgt := 39) B dX10_pieceEnd_29 (by decide) hf (fun hf => ?_) (fun hf => ?_)
        · refine lv_iconst (pc := 39) (v := (0 : Int32)) hx hb dX10_pieceEnd_39 rfl ?_
          refine lv_ior (pc := 40) hx hb dX10_pieceEnd_40 ?_
          refine lv_istore_n (pc := 41) (lv' := [(3, .int (x3 ||| (0 : Int32))), (0, .ref (zad G 0)), (1, .int x1), (4, .int x4)]) hx hb dX10_pieceEnd_41 rfl hl (by decide) rfl (fun ls hl => ?_)
          refine lv_iinc (pc := 42) (v := (x4 + (1 : Int32))) (lv' := [(4, .int (x4 + (1 : Int32))), (3, .int (x3 ||| (0 : Int32))), (0, .ref (zad G 0)), (1, .int x1)]) hx hb dX10_pieceEnd_42 hl (k := 3) rfl rfl (by decide) rfl (fun ls hl => ?_)
          refine lv_goto (pc := 45) (tgt := 5) hx hb dX10_pieceEnd_45 (by decide) ?_
          exact ih (lv_sub hl [2, 3, 1, 0] rfl) hW hf
        · refine lv_iconst (pc := 32) (v := (1 : Int32)) hx hb dX10_pieceEnd_32 rfl ?_
          refine lv_iload (pc := 33) hx hb dX10_pieceEnd_33 (lv_at hl 3 rfl) ?_
          refine lv_ishl (pc := 35) hx hb dX10_pieceEnd_35 ?_
          refine lv_goto (pc := 36) (tgt := 40) hx hb dX10_pieceEnd_36 (by decide) ?_
          refine lv_ior (pc := 40) hx hb dX10_pieceEnd_40 ?_
          refine lv_istore_n (pc := 41) (lv' := [(3, .int (x3 ||| ((1 : Int32) <<< (x4 &&& 31)))), (0, .ref (zad G 0)), (1, .int x1), (4, .int x4)]) hx hb dX10_pieceEnd_41 rfl hl (by decide) rfl (fun ls hl => ?_)
          refine lv_iinc (pc := 42) (v := (x4 + (1 : Int32))) (lv' := [(4, .int (x4 + (1 : Int32))), (3, .int (x3 ||| ((1 : Int32) <<< (x4 &&& 31)))), (0, .ref (zad G 0)), (1, .int x1)]) hx hb dX10_pieceEnd_42 hl (k := 3) rfl rfl (by decide) rfl (fun ls hl => ?_)
          refine lv_goto (pc := 45) (tgt := 5) hx hb dX10_pieceEnd_45 (by decide) ?_
          exact ih (lv_sub hl [2, 3, 1, 0] rfl) hW hf
      · refine lv_iload (pc := 21) hx hb dX10_pieceEnd_21 (lv_at hl 3 rfl) ?_
        exact zreti (pc := 23) B hW hf dX10_pieceEnd_23
noncomputable def f_X10_pieceEnd (x1 : Int32) (x2 : Int32) (μ : Mem) : Option (Int32 × Mem) := f_X10_pieceEnd_5 zFU x1 (0 : Int32) x2 μ
set_option maxRecDepth 100000 in
theorem c_X10_pieceEnd {G : ZG} {l : Launch} {x1 : Int32} {x2 : Int32} {μ : Mem} {r : Int32} {μ' : Mem} (h : f_X10_pieceEnd x1 x2 μ = some (r, μ')) : zC ZM G l yX10_pieceEnd cX10_pieceEnd 5 (some .int) 6 [.ref (zad G 0), .int x1, .int x2] μ (some (.int r)) μ' := by
  refine zC.mk (by decide +kernel) (Nat.le_of_ble_eq_true rfl) ?_
  intro p e s m below meth c ls B hl hW
  have B : zB ZM G cX10_pieceEnd 5 "DarkSharesModel" (some .int) p s m [.ref (zad G 0), .int x1, .int x2].toArray meth c := B
  have hl : lv_has ls 5 [(0, .ref (zad G 0)), (1, .int x1), (2, .int x2)] := hl
  have hx := B.1
  have hb := B.2.1
  have hf := h
  unfold f_X10_pieceEnd at hf
  refine lv_iconst (pc := 0) (v := (0 : Int32)) hx hb dX10_pieceEnd_0 rfl ?_
  refine lv_istore_n (pc := 1) (lv' := [(3, .int (0 : Int32)), (0, .ref (zad G 0)), (1, .int x1), (2, .int x2)]) hx hb dX10_pieceEnd_1 rfl hl (by decide) rfl (fun ls hl => ?_)
  refine lv_iload_n (pc := 2) hx hb dX10_pieceEnd_2 rfl (lv_at hl 3 rfl) ?_
  refine lv_istore (pc := 3) (lv' := [(4, .int x2), (3, .int (0 : Int32)), (0, .ref (zad G 0)), (1, .int x1), (2, .int x2)]) hx hb dX10_pieceEnd_3 hl (by decide) rfl (fun ls hl => ?_)
  exact t_X10_pieceEnd_5 B zFU (lv_sub hl [2, 3, 1, 0] rfl) hW hf
noncomputable def f_X10_takenBy_4 : Nat → Int32 → Int32 → Mem → Option (Int32 × Mem)
  | 0, _, _, _ => none
  | n + 1, x1, x2, μ => (if (μ.1 0 1) ≤ x2 then some (x1, μ) else (if (12 : Int32) < x1 then some (x1, μ) else zck (zin x2 5) (zbind (f_X10_pieceEnd (μ.1 14 (x2).toNatClampNeg) x1 μ) (fun r2 μ1 => f_X10_takenBy_4 n r2 (x2 + (1 : Int32)) μ1))))
set_option maxRecDepth 100000 in
theorem t_X10_takenBy_4 {G : ZG} {p : Program} {l : Launch} {e : Env} {s : State} {m : MethodId} {args : Array Value} {below : List Frame} {meth : Method} {c : Code} (B : zB ZM G cX10_takenBy 3 "DarkSharesModel" (some .int) p s m args meth c) : ∀ (n : Nat) {x1 : Int32} {x2 : Int32} {μ : Mem} {H : Heap} {locs : List Loc} {ls : Array Slot} {r : Int32} {μ' : Mem}, lv_has ls 3 [(0, .ref (zad G 0)), (1, .int x1), (2, .int x2)] → zW ZM G s H locs μ → f_X10_takenBy_4 n x1 x2 μ = some (r, μ') → W p l e (zR 7) s m args below meth c H locs 0 0 (MQ below (zQ ZM G (some (.int r)) μ') args s 0 0 (zAd ZM G)) (F0 m 4 ls []) := by
  have hx := B.1
  have hb := B.2.1
  intro n
  induction n with
  | zero => intro _ _ _ _ _ _ _ _ hl hW hf; cases hf
  | succ n ih =>
    intro x1 x2 μ H locs ls r μ' hl hW hf
    rw [f_X10_takenBy_4] at hf
    refine lv_iload_n (pc := 4) hx hb dX10_takenBy_4 rfl (lv_at hl 2 rfl) ?_
    refine lv_aload_n (pc := 5) hx hb dX10_takenBy_5 rfl (lv_at hl 0 rfl) ?_
    refine g_X10_71 (pc := 6) B hW dX10_takenBy_6 ?_
    refine yic_ge (pc := 9) (tgt := 36) B dX10_takenBy_9 (by decide) hf (fun hf => ?_) (fun hf => ?_)
    · refine lv_iload_n (pc := 36) hx hb dX10_takenBy_36 rfl (lv_at hl 1 rfl) ?_
      exact zreti (pc := 37) B hW hf dX10_takenBy_37
    · refine lv_iload_n (pc := 12) hx hb dX10_takenBy_12 rfl (lv_at hl 1 rfl) ?_
      refine lv_bipush (pc := 13) (v := (12 : Int32)) hx hb dX10_takenBy_13 rfl ?_
      refine yic_gt (pc := 15) (tgt := 36) B dX10_takenBy_15 (by decide) hf (fun hf => ?_) (fun hf => ?_)
      · refine lv_iload_n (pc := 36) hx hb dX10_takenBy_36 rfl (lv_at hl 1 rfl) ?_
        exact zreti (pc := 37) B hW hf dX10_takenBy_37
      · refine lv_aload_n (pc := 18) hx hb dX10_takenBy_18 rfl (lv_at hl 0 rfl) ?_
        refine lv_aload_n (pc := 19) hx hb dX10_takenBy_19 rfl (lv_at hl 0 rfl) ?_
        refine g_X10_49 (pc := 20) B hW dX10_takenBy_20 ?_
        refine lv_iload_n (pc := 23) hx hb dX10_takenBy_23 rfl (lv_at hl 2 rfl) ?_
        refine yald (pc := 24) B hW mr14 dX10_takenBy_24 hf (fun hf => ?_)
        refine lv_iload_n (pc := 25) hx hb dX10_takenBy_25 rfl (lv_at hl 1 rfl) ?_
        refine s_X10_199 (pc := 26) B hW hl.1 (by decide) (zle8 rfl) dX10_takenBy_26 (fun _ _ h => c_X10_pieceEnd h) hf (fun r2 μ1 H locs hW hf => ?_)
        refine lv_istore_n (pc := 29) (lv' := [(1, .int r2), (0, .ref (zad G 0)), (2, .int x2)]) hx hb dX10_takenBy_29 rfl hl (by decide) rfl (fun ls hl => ?_)
        refine lv_iinc (pc := 30) (v := (x2 + (1 : Int32))) (lv' := [(2, .int (x2 + (1 : Int32))), (1, .int r2), (0, .ref (zad G 0))]) hx hb dX10_takenBy_30 hl (k := 2) rfl rfl (by decide) rfl (fun ls hl => ?_)
        refine lv_goto (pc := 33) (tgt := 4) hx hb dX10_takenBy_33 (by decide) ?_
        exact ih (lv_sub hl [2, 1, 0] rfl) hW hf
noncomputable def f_X10_takenBy (μ : Mem) : Option (Int32 × Mem) := f_X10_takenBy_4 zFU (0 : Int32) (0 : Int32) μ
set_option maxRecDepth 100000 in
theorem c_X10_takenBy {G : ZG} {l : Launch} {μ : Mem} {r : Int32} {μ' : Mem} (h : f_X10_takenBy μ = some (r, μ')) : zC ZM G l yX10_takenBy cX10_takenBy 3 (some .int) 7 [.ref (zad G 0)] μ (some (.int r)) μ' := by
  refine zC.mk (by decide +kernel) (Nat.le_of_ble_eq_true rfl) ?_
  intro p e s m below meth c ls B hl hW
  have B : zB ZM G cX10_takenBy 3 "DarkSharesModel" (some .int) p s m [.ref (zad G 0)].toArray meth c := B
  have hl : lv_has ls 3 [(0, .ref (zad G 0))] := hl
  have hx := B.1
  have hb := B.2.1
  have hf := h
  unfold f_X10_takenBy at hf
  refine lv_iconst (pc := 0) (v := (0 : Int32)) hx hb dX10_takenBy_0 rfl ?_
  refine lv_istore_n (pc := 1) (lv' := [(1, .int (0 : Int32)), (0, .ref (zad G 0))]) hx hb dX10_takenBy_1 rfl hl (by decide) rfl (fun ls hl => ?_)
  refine lv_iconst (pc := 2) (v := (0 : Int32)) hx hb dX10_takenBy_2 rfl ?_
  refine lv_istore_n (pc := 3) (lv' := [(2, .int (0 : Int32)), (1, .int (0 : Int32)), (0, .ref (zad G 0))]) hx hb dX10_takenBy_3 rfl hl (by decide) rfl (fun ls hl => ?_)
  exact t_X10_takenBy_4 B zFU (lv_sub hl [2, 1, 0] rfl) hW hf
noncomputable def f_X10_nextLine_107 : Nat → Int32 → Int32 → Mem → Option (Int32 × Mem)
  | 0, _, _, _ => none
  | n + 1, x4, x5, μ => (if x5 ≤ x4 then some ((1 : Int32), μ) else zck (zin x4 5) (zck (zin x5 5) (zck (zin x4 5) (zlet (zI μ 14 (x4).toNatClampNeg (μ.1 14 (x5).toNatClampNeg)) (fun μ1 => zck (zin x5 5) (zlet (zI μ1 14 (x5).toNatClampNeg (μ.1 14 (x4).toNatClampNeg)) (fun μ2 => f_X10_nextLine_107 n (x4 + (1 : Int32)) (x5 + (-1 : Int32)) μ2)))))))
set_option maxRecDepth 100000 in
theorem t_X10_nextLine_107 {G : ZG} {p : Program} {l : Launch} {e : Env} {s : State} {m : MethodId} {args : Array Value} {below : List Frame} {meth : Method} {c : Code} (B : zB ZM G cX10_nextLine 6 "DarkSharesModel" (some .boolean) p s m args meth c) : ∀ (n : Nat) {x4 : Int32} {x5 : Int32} {μ : Mem} {H : Heap} {locs : List Loc} {ls : Array Slot} {r : Int32} {μ' : Mem}, lv_has ls 6 [(0, .ref (zad G 0)), (4, .int x4), (5, .int x5)] → zW ZM G s H locs μ → f_X10_nextLine_107 n x4 x5 μ = some (r, μ') → W p l e (zR 1) s m args below meth c H locs 0 0 (MQ below (zQ ZM G (some (.int r)) μ') args s 0 0 (zAd ZM G)) (F0 m 107 ls []) := by
  have hx := B.1
  have hb := B.2.1
  intro n
  induction n with
  | zero => intro _ _ _ _ _ _ _ _ hl hW hf; cases hf
  | succ n ih =>
    intro x4 x5 μ H locs ls r μ' hl hW hf
    rw [f_X10_nextLine_107] at hf
    refine lv_iload (pc := 107) hx hb dX10_nextLine_107 (lv_at hl 1 rfl) ?_
    refine lv_iload (pc := 109) hx hb dX10_nextLine_109 (lv_at hl 2 rfl) ?_
    refine yic_ge (pc := 111) (tgt := 153) B dX10_nextLine_111 (by decide) hf (fun hf => ?_) (fun hf => ?_)
    · refine lv_iconst (pc := 153) (v := (1 : Int32)) hx hb dX10_nextLine_153 rfl ?_
      exact zretz (pc := 154) B hW rfl hf dX10_nextLine_154
    · refine lv_aload_n (pc := 114) hx hb dX10_nextLine_114 rfl (lv_at hl 0 rfl) ?_
      refine g_X10_49 (pc := 115) B hW dX10_nextLine_115 ?_
      refine lv_iload (pc := 118) hx hb dX10_nextLine_118 (lv_at hl 1 rfl) ?_
      refine yald (pc := 120) B hW mr14 dX10_nextLine_120 hf (fun hf => ?_)
      refine lv_istore_n (pc := 121) (lv' := [(3, .int (μ.1 14 (x4).toNatClampNeg)), (0, .ref (zad G 0)), (4, .int x4), (5, .int x5)]) hx hb dX10_nextLine_121 rfl hl (by decide) rfl (fun ls hl => ?_)
      refine lv_aload_n (pc := 122) hx hb dX10_nextLine_122 rfl (lv_at hl 1 rfl) ?_
      refine g_X10_49 (pc := 123) B hW dX10_nextLine_123 ?_
      refine lv_iload (pc := 126) hx hb dX10_nextLine_126 (lv_at hl 2 rfl) ?_
      refine lv_aload_n (pc := 128) hx hb dX10_nextLine_128 rfl (lv_at hl 1 rfl) ?_
      refine g_X10_49 (pc := 129) B hW dX10_nextLine_129 ?_
      refine lv_iload (pc := 132) hx hb dX10_nextLine_132 (lv_at hl 3 rfl) ?_
      refine yald (pc := 134) B hW mr14 dX10_nextLine_134 hf (fun hf => ?_)
      refine yast (pc := 135) B hW mr14 dX10_nextLine_135 hf (fun μ1 H locs hW hf => ?_)
      refine lv_aload_n (pc := 136) hx hb dX10_nextLine_136 rfl (lv_at hl 1 rfl) ?_
      refine g_X10_49 (pc := 137) B hW dX10_nextLine_137 ?_
      refine lv_iload (pc := 140) hx hb dX10_nextLine_140 (lv_at hl 3 rfl) ?_
      refine lv_iload_n (pc := 142) hx hb dX10_nextLine_142 rfl (lv_at hl 0 rfl) ?_
      refine yast (pc := 143) B hW mr14 dX10_nextLine_143 hf (fun μ2 H locs hW hf => ?_)
      refine lv_iinc (pc := 144) (v := (x4 + (1 : Int32))) (lv' := [(4, .int (x4 + (1 : Int32))), (3, .int (μ.1 14 (x4).toNatClampNeg)), (0, .ref (zad G 0)), (5, .int x5)]) hx hb dX10_nextLine_144 hl (k := 2) rfl rfl (by decide) rfl (fun ls hl => ?_)
      refine lv_iinc (pc := 147) (v := (x5 + (-1 : Int32))) (lv' := [(5, .int (x5 + (-1 : Int32))), (4, .int (x4 + (1 : Int32))), (3, .int (μ.1 14 (x4).toNatClampNeg)), (0, .ref (zad G 0))]) hx hb dX10_nextLine_147 hl (k := 3) rfl rfl (by decide) rfl (fun ls hl => ?_)
      refine lv_goto (pc := 150) (tgt := 107) hx hb dX10_nextLine_150 (by decide) ?_
      exact ih (lv_sub hl [3, 1, 0] rfl) hW hf
noncomputable def f_X10_nextLine_47 : Nat → Int32 → Int32 → Mem → Option (Int32 × Mem)
  | 0, _, _, _ => none
  | n + 1, x1, x2, μ => zck (zin x2 5) (zck (zin x1 5) ((if (μ.1 14 (x1).toNatClampNeg) ≤ (μ.1 14 (x2).toNatClampNeg) then zck (zin x1 5) (zck (zin x2 5) (zck (zin x1 5) (zlet (zI μ 14 (x1).toNatClampNeg (μ.1 14 (x2).toNatClampNeg)) (fun μ1 => zck (zin x2 5) (zlet (zI μ1 14 (x2).toNatClampNeg (μ.1 14 (x1).toNatClampNeg)) (fun μ2 => f_X10_nextLine_107 zFU (x1 + (1 : Int32)) ((μ2.1 0 1) - (1 : Int32)) μ2)))))) else f_X10_nextLine_47 n x1 (x2 + (-1 : Int32)) μ)))
set_option maxRecDepth 100000 in
theorem t_X10_nextLine_47 {G : ZG} {p : Program} {l : Launch} {e : Env} {s : State} {m : MethodId} {args : Array Value} {below : List Frame} {meth : Method} {c : Code} (B : zB ZM G cX10_nextLine 6 "DarkSharesModel" (some .boolean) p s m args meth c) : ∀ (n : Nat) {x1 : Int32} {x2 : Int32} {μ : Mem} {H : Heap} {locs : List Loc} {ls : Array Slot} {r : Int32} {μ' : Mem}, lv_has ls 6 [(0, .ref (zad G 0)), (1, .int x1), (2, .int x2)] → zW ZM G s H locs μ → f_X10_nextLine_47 n x1 x2 μ = some (r, μ') → W p l e (zR 1) s m args below meth c H locs 0 0 (MQ below (zQ ZM G (some (.int r)) μ') args s 0 0 (zAd ZM G)) (F0 m 47 ls []) := by
  have hx := B.1
  have hb := B.2.1
  intro n
  induction n with
  | zero => intro _ _ _ _ _ _ _ _ hl hW hf; cases hf
  | succ n ih =>
    intro x1 x2 μ H locs ls r μ' hl hW hf
    rw [f_X10_nextLine_47] at hf
    refine lv_aload_n (pc := 47) hx hb dX10_nextLine_47 rfl (lv_at hl 0 rfl) ?_
    refine g_X10_49 (pc := 48) B hW dX10_nextLine_48 ?_
    refine lv_iload_n (pc := 51) hx hb dX10_nextLine_51 rfl (lv_at hl 2 rfl) ?_
    refine yald (pc := 52) B hW mr14 dX10_nextLine_52 hf (fun hf => ?_)
    refine lv_aload_n (pc := 53) hx hb dX10_nextLine_53 rfl (lv_at hl 0 rfl) ?_
    refine g_X10_49 (pc := 54) B hW dX10_nextLine_54 ?_
    refine lv_iload_n (pc := 57) hx hb dX10_nextLine_57 rfl (lv_at hl 1 rfl) ?_
    refine yald (pc := 58) B hW mr14 dX10_nextLine_58 hf (fun hf => ?_)
    refine yic_ge (pc := 59) (tgt := 68) B dX10_nextLine_59 (by decide) hf (fun hf => ?_) (fun hf => ?_)
    · refine lv_aload_n (pc := 68) hx hb dX10_nextLine_68 rfl (lv_at hl 0 rfl) ?_
      refine g_X10_49 (pc := 69) B hW dX10_nextLine_69 ?_
      refine lv_iload_n (pc := 72) hx hb dX10_nextLine_72 rfl (lv_at hl 1 rfl) ?_
      refine yald (pc := 73) B hW mr14 dX10_nextLine_73 hf (fun hf => ?_)
      refine lv_istore_n (pc := 74) (lv' := [(3, .int (μ.1 14 (x1).toNatClampNeg)), (0, .ref (zad G 0)), (1, .int x1), (2, .int x2)]) hx hb dX10_nextLine_74 rfl hl (by decide) rfl (fun ls hl => ?_)
      refine lv_aload_n (pc := 75) hx hb dX10_nextLine_75 rfl (lv_at hl 1 rfl) ?_
      refine g_X10_49 (pc := 76) B hW dX10_nextLine_76 ?_
      refine lv_iload_n (pc := 79) hx hb dX10_nextLine_79 rfl (lv_at hl 2 rfl) ?_
      refine lv_aload_n (pc := 80) hx hb dX10_nextLine_80 rfl (lv_at hl 1 rfl) ?_
      refine g_X10_49 (pc := 81) B hW dX10_nextLine_81 ?_
      refine lv_iload_n (pc := 84) hx hb dX10_nextLine_84 rfl (lv_at hl 3 rfl) ?_
      refine yald (pc := 85) B hW mr14 dX10_nextLine_85 hf (fun hf => ?_)
      refine yast (pc := 86) B hW mr14 dX10_nextLine_86 hf (fun μ1 H locs hW hf => ?_)
      refine lv_aload_n (pc := 87) hx hb dX10_nextLine_87 rfl (lv_at hl 1 rfl) ?_
      refine g_X10_49 (pc := 88) B hW dX10_nextLine_88 ?_
      refine lv_iload_n (pc := 91) hx hb dX10_nextLine_91 rfl (lv_at hl 3 rfl) ?_
      refine lv_iload_n (pc := 92) hx hb dX10_nextLine_92 rfl (lv_at hl 0 rfl) ?_
      refine yast (pc := 93) B hW mr14 dX10_nextLine_93 hf (fun μ2 H locs hW hf => ?_)
      refine lv_iload_n (pc := 94) hx hb dX10_nextLine_94 rfl (lv_at hl 2 rfl) ?_
      refine lv_iconst (pc := 95) (v := (1 : Int32)) hx hb dX10_nextLine_95 rfl ?_
      refine lv_iadd (pc := 96) hx hb dX10_nextLine_96 ?_
      refine lv_istore (pc := 97) (lv' := [(4, .int (x1 + (1 : Int32))), (3, .int (μ.1 14 (x1).toNatClampNeg)), (0, .ref (zad G 0)), (1, .int x1), (2, .int x2)]) hx hb dX10_nextLine_97 hl (by decide) rfl (fun ls hl => ?_)
      refine lv_aload_n (pc := 99) hx hb dX10_nextLine_99 rfl (lv_at hl 2 rfl) ?_
      refine g_X10_71 (pc := 100) B hW dX10_nextLine_100 ?_
      refine lv_iconst (pc := 103) (v := (1 : Int32)) hx hb dX10_nextLine_103 rfl ?_
      refine lv_isub (pc := 104) hx hb dX10_nextLine_104 ?_
      refine lv_istore (pc := 105) (lv' := [(5, .int ((μ2.1 0 1) - (1 : Int32))), (4, .int (x1 + (1 : Int32))), (3, .int (μ.1 14 (x1).toNatClampNeg)), (0, .ref (zad G 0)), (1, .int x1), (2, .int x2)]) hx hb dX10_nextLine_105 hl (by decide) rfl (fun ls hl => ?_)
      exact t_X10_nextLine_107 B zFU (lv_sub hl [3, 1, 0] rfl) hW hf
    · refine lv_iinc (pc := 62) (v := (x2 + (-1 : Int32))) (lv' := [(2, .int (x2 + (-1 : Int32))), (0, .ref (zad G 0)), (1, .int x1)]) hx hb dX10_nextLine_62 hl (k := 2) rfl rfl (by decide) rfl (fun ls hl => ?_)
      refine lv_goto (pc := 65) (tgt := 47) hx hb dX10_nextLine_65 (by decide) ?_
      exact ih (lv_sub hl [1, 2, 0] rfl) hW hf
noncomputable def f_X10_nextLine_34 (x1 : Int32) (μ : Mem) : Option (Int32 × Mem) := (if 0 ≤ x1 then f_X10_nextLine_47 zFU x1 ((μ.1 0 1) - (1 : Int32)) μ else some ((0 : Int32), μ))
set_option maxRecDepth 100000 in
theorem t_X10_nextLine_34 {G : ZG} {p : Program} {l : Launch} {e : Env} {s : State} {m : MethodId} {args : Array Value} {below : List Frame} {meth : Method} {c : Code} (B : zB ZM G cX10_nextLine 6 "DarkSharesModel" (some .boolean) p s m args meth c) {x1 : Int32} {μ : Mem} {H : Heap} {locs : List Loc} {ls : Array Slot} {r : Int32} {μ' : Mem} (hl : lv_has ls 6 [(0, .ref (zad G 0)), (1, .int x1)]) (hW : zW ZM G s H locs μ) (hf : f_X10_nextLine_34 x1 μ = some (r, μ')) : W p l e (zR 1) s m args below meth c H locs 0 0 (MQ below (zQ ZM G (some (.int r)) μ') args s 0 0 (zAd ZM G)) (F0 m 34 ls []) := by
  have hx := B.1
  have hb := B.2.1
  unfold f_X10_nextLine_34 at hf
  refine lv_iload_n (pc := 34) hx hb dX10_nextLine_34 rfl (lv_at hl 1 rfl) ?_
  refine yif_ge (pc := 35) (tgt := 40) B dX10_nextLine_35 (by decide) hf (fun hf => ?_) (fun hf => ?_)
  · refine lv_aload_n (pc := 40) hx hb dX10_nextLine_40 rfl (lv_at hl 0 rfl) ?_
    refine g_X10_71 (pc := 41) B hW dX10_nextLine_41 ?_
    refine lv_iconst (pc := 44) (v := (1 : Int32)) hx hb dX10_nextLine_44 rfl ?_
    refine lv_isub (pc := 45) hx hb dX10_nextLine_45 ?_
    refine lv_istore_n (pc := 46) (lv' := [(2, .int ((μ.1 0 1) - (1 : Int32))), (0, .ref (zad G 0)), (1, .int x1)]) hx hb dX10_nextLine_46 rfl hl (by decide) rfl (fun ls hl => ?_)
    exact t_X10_nextLine_47 B zFU (lv_sub hl [1, 2, 0] rfl) hW hf
  · refine lv_iconst (pc := 38) (v := (0 : Int32)) hx hb dX10_nextLine_38 rfl ?_
    exact zretz (pc := 39) B hW rfl hf dX10_nextLine_39
noncomputable def f_X10_nextLine_7 : Nat → Int32 → Mem → Option (Int32 × Mem)
  | 0, _, _ => none
  | n + 1, x1, μ => (if x1 < 0 then f_X10_nextLine_34 x1 μ else zck (zin x1 5) (zck (zin (x1 + (1 : Int32)) 5) ((if (μ.1 14 (x1).toNatClampNeg) ≤ (μ.1 14 ((x1 + (1 : Int32))).toNatClampNeg) then f_X10_nextLine_34 x1 μ else f_X10_nextLine_7 n (x1 + (-1 : Int32)) μ))))
set_option maxRecDepth 100000 in
theorem t_X10_nextLine_7 {G : ZG} {p : Program} {l : Launch} {e : Env} {s : State} {m : MethodId} {args : Array Value} {below : List Frame} {meth : Method} {c : Code} (B : zB ZM G cX10_nextLine 6 "DarkSharesModel" (some .boolean) p s m args meth c) : ∀ (n : Nat) {x1 : Int32} {μ : Mem} {H : Heap} {locs : List Loc} {ls : Array Slot} {r : Int32} {μ' : Mem}, lv_has ls 6 [(0, .ref (zad G 0)), (1, .int x1)] → zW ZM G s H locs μ → f_X10_nextLine_7 n x1 μ = some (r, μ') → W p l e (zR 1) s m args below meth c H locs 0 0 (MQ below (zQ ZM G (some (.int r)) μ') args s 0 0 (zAd ZM G)) (F0 m 7 ls []) := by
  have hx := B.1
  have hb := B.2.1
  intro n
  induction n with
  | zero => intro _ _ _ _ _ _ _ hl hW hf; cases hf
  | succ n ih =>
    intro x1 μ H locs ls r μ' hl hW hf
    rw [f_X10_nextLine_7] at hf
    refine lv_iload_n (pc := 7) hx hb dX10_nextLine_7 rfl (lv_at hl 1 rfl) ?_
    refine yif_lt (pc := 8) (tgt := 34) B dX10_nextLine_8 (by decide) hf (fun hf => ?_) (fun hf => ?_)
    · exact t_X10_nextLine_34 B (lv_sub hl [0, 1] rfl) hW hf
    · refine lv_aload_n (pc := 11) hx hb dX10_nextLine_11 rfl (lv_at hl 0 rfl) ?_
      refine g_X10_49 (pc := 12) B hW dX10_nextLine_12 ?_
      refine lv_iload_n (pc := 15) hx hb dX10_nextLine_15 rfl (lv_at hl 1 rfl) ?_
      refine yald (pc := 16) B hW mr14 dX10_nextLine_16 hf (fun hf => ?_)
      refine lv_aload_n (pc := 17) hx hb dX10_nextLine_17 rfl (lv_at hl 0 rfl) ?_
      refine g_X10_49 (pc := 18) B hW dX10_nextLine_18 ?_
      refine lv_iload_n (pc := 21) hx hb dX10_nextLine_21 rfl (lv_at hl 1 rfl) ?_
      refine lv_iconst (pc := 22) (v := (1 : Int32)) hx hb dX10_nextLine_22 rfl ?_
      refine lv_iadd (pc := 23) hx hb dX10_nextLine_23 ?_
      refine yald (pc := 24) B hW mr14 dX10_nextLine_24 hf (fun hf => ?_)
      refine yic_le (pc := 25) (tgt := 34) B dX10_nextLine_25 (by decide) hf (fun hf => ?_) (fun hf => ?_)
      · exact t_X10_nextLine_34 B (lv_sub hl [0, 1] rfl) hW hf
      · refine lv_iinc (pc := 28) (v := (x1 + (-1 : Int32))) (lv' := [(1, .int (x1 + (-1 : Int32))), (0, .ref (zad G 0))]) hx hb dX10_nextLine_28 hl (k := 1) rfl rfl (by decide) rfl (fun ls hl => ?_)
        refine lv_goto (pc := 31) (tgt := 7) hx hb dX10_nextLine_31 (by decide) ?_
        exact ih (lv_sub hl [1, 0] rfl) hW hf
noncomputable def f_X10_nextLine (μ : Mem) : Option (Int32 × Mem) := f_X10_nextLine_7 zFU ((μ.1 0 1) - (2 : Int32)) μ
set_option maxRecDepth 100000 in
theorem c_X10_nextLine {G : ZG} {l : Launch} {μ : Mem} {r : Int32} {μ' : Mem} (h : f_X10_nextLine μ = some (r, μ')) : zC ZM G l yX10_nextLine cX10_nextLine 6 (some .boolean) 1 [.ref (zad G 0)] μ (some (.int r)) μ' := by
  refine zC.mk (by decide +kernel) (Nat.le_of_ble_eq_true rfl) ?_
  intro p e s m below meth c ls B hl hW
  have B : zB ZM G cX10_nextLine 6 "DarkSharesModel" (some .boolean) p s m [.ref (zad G 0)].toArray meth c := B
  have hl : lv_has ls 6 [(0, .ref (zad G 0))] := hl
  have hx := B.1
  have hb := B.2.1
  have hf := h
  unfold f_X10_nextLine at hf
  refine lv_aload_n (pc := 0) hx hb dX10_nextLine_0 rfl (lv_at hl 0 rfl) ?_
  refine g_X10_71 (pc := 1) B hW dX10_nextLine_1 ?_
  refine lv_iconst (pc := 4) (v := (2 : Int32)) hx hb dX10_nextLine_4 rfl ?_
  refine lv_isub (pc := 5) hx hb dX10_nextLine_5 ?_
  refine lv_istore_n (pc := 6) (lv' := [(1, .int ((μ.1 0 1) - (2 : Int32))), (0, .ref (zad G 0))]) hx hb dX10_nextLine_6 rfl hl (by decide) rfl (fun ls hl => ?_)
  exact t_X10_nextLine_7 B zFU (lv_sub hl [1, 0] rfl) hW hf
noncomputable def f_X10_pieces_86 (K38 : Int32 → Int32 → Int32 → Mem → Option (Int32 × Mem)) (x1 : Int32) (x2 : Int32) (x4 : Int32) (μ : Mem) : Option (Int32 × Mem) := (if x2 ≤ x4 then zbind (f_X10_nextLine μ) (fun r2 μ1 => K38 x1 x2 r2 μ1) else zbind (f_X10_nextLine μ) (fun r4 μ3 => K38 x1 x4 r4 μ3))
set_option maxRecDepth 100000 in
theorem t_X10_pieces_86 {G : ZG} {p : Program} {l : Launch} {e : Env} {s : State} {m : MethodId} {args : Array Value} {below : List Frame} {meth : Method} {c : Code} (B : zB ZM G cX10_pieces 6 "DarkSharesModel" (some .int) p s m args meth c) {K38 : Int32 → Int32 → Int32 → Mem → Option (Int32 × Mem)} (hK38 : ∀ {x1 : Int32} {x2 : Int32} {x3 : Int32} {μ : Mem} {H : Heap} {locs : List Loc} {ls : Array Slot} {r : Int32} {μ' : Mem}, lv_has ls 6 [(0, .ref (zad G 0)), (1, .int x1), (2, .int x2), (3, .int x3)] → zW ZM G s H locs μ → K38 x1 x2 x3 μ = some (r, μ') → W p l e (zR 8) s m args below meth c H locs 0 0 (MQ below (zQ ZM G (some (.int r)) μ') args s 0 0 (zAd ZM G)) (F0 m 38 ls [])) {x1 : Int32} {x2 : Int32} {x4 : Int32} {μ : Mem} {H : Heap} {locs : List Loc} {ls : Array Slot} {r : Int32} {μ' : Mem} (hl : lv_has ls 6 [(0, .ref (zad G 0)), (1, .int x1), (2, .int x2), (4, .int x4)]) (hW : zW ZM G s H locs μ) (hf : f_X10_pieces_86 K38 x1 x2 x4 μ = some (r, μ')) : W p l e (zR 8) s m args below meth c H locs 0 0 (MQ below (zQ ZM G (some (.int r)) μ') args s 0 0 (zAd ZM G)) (F0 m 86 ls []) := by
  have hx := B.1
  have hb := B.2.1
  unfold f_X10_pieces_86 at hf
  refine lv_iload (pc := 86) hx hb dX10_pieces_86 (lv_at hl 3 rfl) ?_
  refine lv_iload_n (pc := 88) hx hb dX10_pieces_88 rfl (lv_at hl 2 rfl) ?_
  refine yic_ge (pc := 89) (tgt := 97) B dX10_pieces_89 (by decide) hf (fun hf => ?_) (fun hf => ?_)
  · refine lv_iload_n (pc := 97) hx hb dX10_pieces_97 rfl (lv_at hl 2 rfl) ?_
    refine lv_istore_n (pc := 98) (lv' := [(2, .int x2), (0, .ref (zad G 0)), (1, .int x1), (4, .int x4)]) hx hb dX10_pieces_98 rfl hl (by decide) rfl (fun ls hl => ?_)
    refine lv_aload_n (pc := 99) hx hb dX10_pieces_99 rfl (lv_at hl 1 rfl) ?_
    refine s_X10_205 (pc := 100) B hW hl.1 (by decide) (zle8 rfl) dX10_pieces_100 (fun _ _ h => c_X10_nextLine h) hf (fun r2 μ1 H locs hW hf => ?_)
    refine lv_istore_n (pc := 103) (lv' := [(3, .int r2), (2, .int x2), (0, .ref (zad G 0)), (1, .int x1), (4, .int x4)]) hx hb dX10_pieces_103 rfl hl (by decide) rfl (fun ls hl => ?_)
    refine lv_goto (pc := 104) (tgt := 38) hx hb dX10_pieces_104 (by decide) ?_
    exact hK38 (lv_sub hl [2, 3, 1, 0] rfl) hW hf
  · refine lv_iload (pc := 92) hx hb dX10_pieces_92 (lv_at hl 3 rfl) ?_
    refine lv_goto (pc := 94) (tgt := 98) hx hb dX10_pieces_94 (by decide) ?_
    refine lv_istore_n (pc := 98) (lv' := [(2, .int x4), (0, .ref (zad G 0)), (1, .int x1), (4, .int x4)]) hx hb dX10_pieces_98 rfl hl (by decide) rfl (fun ls hl => ?_)
    refine lv_aload_n (pc := 99) hx hb dX10_pieces_99 rfl (lv_at hl 1 rfl) ?_
    refine s_X10_205 (pc := 100) B hW hl.1 (by decide) (zle8 rfl) dX10_pieces_100 (fun _ _ h => c_X10_nextLine h) hf (fun r4 μ3 H locs hW hf => ?_)
    refine lv_istore_n (pc := 103) (lv' := [(3, .int r4), (2, .int x4), (0, .ref (zad G 0)), (1, .int x1), (4, .int x4)]) hx hb dX10_pieces_103 rfl hl (by decide) rfl (fun ls hl => ?_)
    refine lv_goto (pc := 104) (tgt := 38) hx hb dX10_pieces_104 (by decide) ?_
    exact hK38 (lv_sub hl [2, 3, 1, 0] rfl) hW hf
noncomputable def f_X10_pieces_51 (K38 : Int32 → Int32 → Int32 → Mem → Option (Int32 × Mem)) : Nat → Int32 → Int32 → Int32 → Int32 → Mem → Option (Int32 × Mem)
  | 0, _, _, _, _, _ => none
  | n + 1, x1, x2, x4, x5, μ => (if (μ.1 0 1) ≤ x5 then f_X10_pieces_86 K38 x1 x2 x4 μ else (if x2 ≤ x4 then f_X10_pieces_86 K38 x1 x2 x4 μ else zck (zin x5 5) (zck (zin x5 5) (zlet (zI μ 15 (x5).toNatClampNeg (μ.1 14 (x5).toNatClampNeg)) (fun μ1 => f_X10_pieces_51 K38 n x1 x2 x4 (x5 + (1 : Int32)) μ1)))))
set_option maxRecDepth 100000 in
theorem t_X10_pieces_51 {G : ZG} {p : Program} {l : Launch} {e : Env} {s : State} {m : MethodId} {args : Array Value} {below : List Frame} {meth : Method} {c : Code} (B : zB ZM G cX10_pieces 6 "DarkSharesModel" (some .int) p s m args meth c) {K38 : Int32 → Int32 → Int32 → Mem → Option (Int32 × Mem)} (hK38 : ∀ {x1 : Int32} {x2 : Int32} {x3 : Int32} {μ : Mem} {H : Heap} {locs : List Loc} {ls : Array Slot} {r : Int32} {μ' : Mem}, lv_has ls 6 [(0, .ref (zad G 0)), (1, .int x1), (2, .int x2), (3, .int x3)] → zW ZM G s H locs μ → K38 x1 x2 x3 μ = some (r, μ') → W p l e (zR 8) s m args below meth c H locs 0 0 (MQ below (zQ ZM G (some (.int r)) μ') args s 0 0 (zAd ZM G)) (F0 m 38 ls [])) : ∀ (n : Nat) {x1 : Int32} {x2 : Int32} {x4 : Int32} {x5 : Int32} {μ : Mem} {H : Heap} {locs : List Loc} {ls : Array Slot} {r : Int32} {μ' : Mem}, lv_has ls 6 [(0, .ref (zad G 0)), (1, .int x1), (2, .int x2), (4, .int x4), (5, .int x5)] → zW ZM G s H locs μ → f_X10_pieces_51 K38 n x1 x2 x4 x5 μ = some (r, μ') → W p l e (zR 8) s m args below meth c H locs 0 0 (MQ below (zQ ZM G (some (.int r)) μ') args s 0 0 (zAd ZM G)) (F0 m 51 ls []) := by
  have hx := B.1
  have hb := B.2.1
  intro n
  induction n with
  | zero => intro _ _ _ _ _ _ _ _ _ _ hl hW hf; cases hf
  | succ n ih =>
    intro x1 x2 x4 x5 μ H locs ls r μ' hl hW hf
    rw [f_X10_pieces_51] at hf
    refine lv_iload (pc := 51) hx hb dX10_pieces_51 (lv_at hl 4 rfl) ?_
    refine lv_aload_n (pc := 53) hx hb dX10_pieces_53 rfl (lv_at hl 0 rfl) ?_
    refine g_X10_71 (pc := 54) B hW dX10_pieces_54 ?_
    refine yic_ge (pc := 57) (tgt := 86) B dX10_pieces_57 (by decide) hf (fun hf => ?_) (fun hf => ?_)
    · exact t_X10_pieces_86 B @hK38 (lv_sub hl [0, 1, 2, 3] rfl) hW hf
    · refine lv_iload (pc := 60) hx hb dX10_pieces_60 (lv_at hl 3 rfl) ?_
      refine lv_iload_n (pc := 62) hx hb dX10_pieces_62 rfl (lv_at hl 2 rfl) ?_
      refine yic_ge (pc := 63) (tgt := 86) B dX10_pieces_63 (by decide) hf (fun hf => ?_) (fun hf => ?_)
      · exact t_X10_pieces_86 B @hK38 (lv_sub hl [0, 1, 2, 3] rfl) hW hf
      · refine lv_aload_n (pc := 66) hx hb dX10_pieces_66 rfl (lv_at hl 0 rfl) ?_
        refine g_X10_52 (pc := 67) B hW dX10_pieces_67 ?_
        refine lv_iload (pc := 70) hx hb dX10_pieces_70 (lv_at hl 4 rfl) ?_
        refine lv_aload_n (pc := 72) hx hb dX10_pieces_72 rfl (lv_at hl 0 rfl) ?_
        refine g_X10_49 (pc := 73) B hW dX10_pieces_73 ?_
        refine lv_iload (pc := 76) hx hb dX10_pieces_76 (lv_at hl 4 rfl) ?_
        refine yald (pc := 78) B hW mr14 dX10_pieces_78 hf (fun hf => ?_)
        refine yast (pc := 79) B hW mr15 dX10_pieces_79 hf (fun μ1 H locs hW hf => ?_)
        refine lv_iinc (pc := 80) (v := (x5 + (1 : Int32))) (lv' := [(5, .int (x5 + (1 : Int32))), (0, .ref (zad G 0)), (1, .int x1), (2, .int x2), (4, .int x4)]) hx hb dX10_pieces_80 hl (k := 4) rfl rfl (by decide) rfl (fun ls hl => ?_)
        refine lv_goto (pc := 83) (tgt := 51) hx hb dX10_pieces_83 (by decide) ?_
        exact ih (lv_sub hl [1, 2, 3, 4, 0] rfl) hW hf
noncomputable def f_X10_pieces_38 : Nat → Int32 → Int32 → Int32 → Mem → Option (Int32 × Mem)
  | 0, _, _, _, _ => none
  | n + 1, x1, x2, x3, μ => (if x3 = 0 then (if x2 ≤ (12 : Int32) then (if x1 = (-1 : Int32) then some (x2, μ) else (if (μ.1 0 1) ≤ x1 then some ((-5 : Int32), μ) else zck (zin x1 5) (some ((μ.1 15 (x1).toNatClampNeg), μ)))) else some ((-1 : Int32), μ)) else zbind (f_X10_takenBy μ) (fun r2 μ1 => f_X10_pieces_51 (fun a0 a1 a2 ν => f_X10_pieces_38 n a0 a1 a2 ν) zFU x1 x2 r2 (0 : Int32) μ1))
set_option maxRecDepth 100000 in
theorem t_X10_pieces_38 {G : ZG} {p : Program} {l : Launch} {e : Env} {s : State} {m : MethodId} {args : Array Value} {below : List Frame} {meth : Method} {c : Code} (B : zB ZM G cX10_pieces 6 "DarkSharesModel" (some .int) p s m args meth c) : ∀ (n : Nat) {x1 : Int32} {x2 : Int32} {x3 : Int32} {μ : Mem} {H : Heap} {locs : List Loc} {ls : Array Slot} {r : Int32} {μ' : Mem}, lv_has ls 6 [(0, .ref (zad G 0)), (1, .int x1), (2, .int x2), (3, .int x3)] → zW ZM G s H locs μ → f_X10_pieces_38 n x1 x2 x3 μ = some (r, μ') → W p l e (zR 8) s m args below meth c H locs 0 0 (MQ below (zQ ZM G (some (.int r)) μ') args s 0 0 (zAd ZM G)) (F0 m 38 ls []) := by
  have hx := B.1
  have hb := B.2.1
  intro n
  induction n with
  | zero => intro _ _ _ _ _ _ _ _ _ hl hW hf; cases hf
  | succ n ih =>
    intro x1 x2 x3 μ H locs ls r μ' hl hW hf
    rw [f_X10_pieces_38] at hf
    refine lv_iload_n (pc := 38) hx hb dX10_pieces_38 rfl (lv_at hl 3 rfl) ?_
    refine yif_eq (pc := 39) (tgt := 107) B dX10_pieces_39 (by decide) hf (fun hf => ?_) (fun hf => ?_)
    · refine lv_iload_n (pc := 107) hx hb dX10_pieces_107 rfl (lv_at hl 2 rfl) ?_
      refine lv_bipush (pc := 108) (v := (12 : Int32)) hx hb dX10_pieces_108 rfl ?_
      refine yic_le (pc := 110) (tgt := 115) B dX10_pieces_110 (by decide) hf (fun hf => ?_) (fun hf => ?_)
      · refine lv_iload_n (pc := 115) hx hb dX10_pieces_115 rfl (lv_at hl 1 rfl) ?_
        refine lv_iconst (pc := 116) (v := (-1 : Int32)) hx hb dX10_pieces_116 rfl ?_
        refine yic_ne (pc := 117) (tgt := 124) B dX10_pieces_117 (by decide) hf (fun hf => ?_) (fun hf => ?_)
        · refine lv_iload_n (pc := 124) hx hb dX10_pieces_124 rfl (lv_at hl 1 rfl) ?_
          refine lv_aload_n (pc := 125) hx hb dX10_pieces_125 rfl (lv_at hl 0 rfl) ?_
          refine g_X10_71 (pc := 126) B hW dX10_pieces_126 ?_
          refine yic_ge (pc := 129) (tgt := 141) B dX10_pieces_129 (by decide) hf (fun hf => ?_) (fun hf => ?_)
          · refine lv_bipush (pc := 141) (v := (-5 : Int32)) hx hb dX10_pieces_141 rfl ?_
            exact zreti (pc := 143) B hW hf dX10_pieces_143
          · refine lv_aload_n (pc := 132) hx hb dX10_pieces_132 rfl (lv_at hl 0 rfl) ?_
            refine g_X10_52 (pc := 133) B hW dX10_pieces_133 ?_
            refine lv_iload_n (pc := 136) hx hb dX10_pieces_136 rfl (lv_at hl 1 rfl) ?_
            refine yald (pc := 137) B hW mr15 dX10_pieces_137 hf (fun hf => ?_)
            refine lv_goto (pc := 138) (tgt := 143) hx hb dX10_pieces_138 (by decide) ?_
            exact zreti (pc := 143) B hW hf dX10_pieces_143
        · refine lv_iload_n (pc := 120) hx hb dX10_pieces_120 rfl (lv_at hl 2 rfl) ?_
          refine lv_goto (pc := 121) (tgt := 143) hx hb dX10_pieces_121 (by decide) ?_
          exact zreti (pc := 143) B hW hf dX10_pieces_143
      · refine lv_iconst (pc := 113) (v := (-1 : Int32)) hx hb dX10_pieces_113 rfl ?_
        exact zreti (pc := 114) B hW hf dX10_pieces_114
    · refine lv_aload_n (pc := 42) hx hb dX10_pieces_42 rfl (lv_at hl 0 rfl) ?_
      refine s_X10_202 (pc := 43) B hW hl.1 (by decide) (zle8 rfl) dX10_pieces_43 (fun _ _ h => c_X10_takenBy h) hf (fun r2 μ1 H locs hW hf => ?_)
      refine lv_istore (pc := 46) (lv' := [(4, .int r2), (0, .ref (zad G 0)), (1, .int x1), (2, .int x2), (3, .int x3)]) hx hb dX10_pieces_46 hl (by decide) rfl (fun ls hl => ?_)
      refine lv_iconst (pc := 48) (v := (0 : Int32)) hx hb dX10_pieces_48 rfl ?_
      refine lv_istore (pc := 49) (lv' := [(5, .int (0 : Int32)), (4, .int r2), (0, .ref (zad G 0)), (1, .int x1), (2, .int x2), (3, .int x3)]) hx hb dX10_pieces_49 hl (by decide) rfl (fun ls hl => ?_)
      exact t_X10_pieces_51 B @ih zFU (lv_sub hl [2, 3, 4, 1, 0] rfl) hW hf
noncomputable def f_X10_pieces_12 : Nat → Int32 → Int32 → Mem → Option (Int32 × Mem)
  | 0, _, _, _ => none
  | n + 1, x1, x2, μ => (if (μ.1 0 1) ≤ x2 then f_X10_pieces_38 zFU x1 (13 : Int32) (1 : Int32) μ else zck (zin x2 5) (zlet (zI μ 14 (x2).toNatClampNeg x2) (fun μ1 => f_X10_pieces_12 n x1 (x2 + (1 : Int32)) μ1)))
set_option maxRecDepth 100000 in
theorem t_X10_pieces_12 {G : ZG} {p : Program} {l : Launch} {e : Env} {s : State} {m : MethodId} {args : Array Value} {below : List Frame} {meth : Method} {c : Code} (B : zB ZM G cX10_pieces 6 "DarkSharesModel" (some .int) p s m args meth c) : ∀ (n : Nat) {x1 : Int32} {x2 : Int32} {μ : Mem} {H : Heap} {locs : List Loc} {ls : Array Slot} {r : Int32} {μ' : Mem}, lv_has ls 6 [(0, .ref (zad G 0)), (1, .int x1), (2, .int x2)] → zW ZM G s H locs μ → f_X10_pieces_12 n x1 x2 μ = some (r, μ') → W p l e (zR 8) s m args below meth c H locs 0 0 (MQ below (zQ ZM G (some (.int r)) μ') args s 0 0 (zAd ZM G)) (F0 m 12 ls []) := by
  have hx := B.1
  have hb := B.2.1
  intro n
  induction n with
  | zero => intro _ _ _ _ _ _ _ _ hl hW hf; cases hf
  | succ n ih =>
    intro x1 x2 μ H locs ls r μ' hl hW hf
    rw [f_X10_pieces_12] at hf
    refine lv_iload_n (pc := 12) hx hb dX10_pieces_12 rfl (lv_at hl 2 rfl) ?_
    refine lv_aload_n (pc := 13) hx hb dX10_pieces_13 rfl (lv_at hl 0 rfl) ?_
    refine g_X10_71 (pc := 14) B hW dX10_pieces_14 ?_
    refine yic_ge (pc := 17) (tgt := 33) B dX10_pieces_17 (by decide) hf (fun hf => ?_) (fun hf => ?_)
    · refine lv_bipush (pc := 33) (v := (13 : Int32)) hx hb dX10_pieces_33 rfl ?_
      refine lv_istore_n (pc := 35) (lv' := [(2, .int (13 : Int32)), (0, .ref (zad G 0)), (1, .int x1)]) hx hb dX10_pieces_35 rfl hl (by decide) rfl (fun ls hl => ?_)
      refine lv_iconst (pc := 36) (v := (1 : Int32)) hx hb dX10_pieces_36 rfl ?_
      refine lv_istore_n (pc := 37) (lv' := [(3, .int (1 : Int32)), (2, .int (13 : Int32)), (0, .ref (zad G 0)), (1, .int x1)]) hx hb dX10_pieces_37 rfl hl (by decide) rfl (fun ls hl => ?_)
      exact t_X10_pieces_38 B zFU (lv_sub hl [2, 3, 1, 0] rfl) hW hf
    · refine lv_aload_n (pc := 20) hx hb dX10_pieces_20 rfl (lv_at hl 0 rfl) ?_
      refine g_X10_49 (pc := 21) B hW dX10_pieces_21 ?_
      refine lv_iload_n (pc := 24) hx hb dX10_pieces_24 rfl (lv_at hl 2 rfl) ?_
      refine lv_iload_n (pc := 25) hx hb dX10_pieces_25 rfl (lv_at hl 2 rfl) ?_
      refine yast (pc := 26) B hW mr14 dX10_pieces_26 hf (fun μ1 H locs hW hf => ?_)
      refine lv_iinc (pc := 27) (v := (x2 + (1 : Int32))) (lv' := [(2, .int (x2 + (1 : Int32))), (0, .ref (zad G 0)), (1, .int x1)]) hx hb dX10_pieces_27 hl (k := 2) rfl rfl (by decide) rfl (fun ls hl => ?_)
      refine lv_goto (pc := 30) (tgt := 12) hx hb dX10_pieces_30 (by decide) ?_
      exact ih (lv_sub hl [1, 2, 0] rfl) hW hf
noncomputable def f_X10_pieces (x1 : Int32) (μ : Mem) : Option (Int32 × Mem) := (if (-1 : Int32) ≤ x1 then f_X10_pieces_12 zFU x1 (0 : Int32) μ else zbind (f_X10_ten μ) (fun r2 μ1 => some (r2, μ1)))
set_option maxRecDepth 100000 in
theorem c_X10_pieces {G : ZG} {l : Launch} {x1 : Int32} {μ : Mem} {r : Int32} {μ' : Mem} (h : f_X10_pieces x1 μ = some (r, μ')) : zC ZM G l yX10_pieces cX10_pieces 6 (some .int) 8 [.ref (zad G 0), .int x1] μ (some (.int r)) μ' := by
  refine zC.mk (by decide +kernel) (Nat.le_of_ble_eq_true rfl) ?_
  intro p e s m below meth c ls B hl hW
  have B : zB ZM G cX10_pieces 6 "DarkSharesModel" (some .int) p s m [.ref (zad G 0), .int x1].toArray meth c := B
  have hl : lv_has ls 6 [(0, .ref (zad G 0)), (1, .int x1)] := hl
  have hx := B.1
  have hb := B.2.1
  have hf := h
  unfold f_X10_pieces at hf
  refine lv_iload_n (pc := 0) hx hb dX10_pieces_0 rfl (lv_at hl 1 rfl) ?_
  refine lv_iconst (pc := 1) (v := (-1 : Int32)) hx hb dX10_pieces_1 rfl ?_
  refine yic_ge (pc := 2) (tgt := 10) B dX10_pieces_2 (by decide) hf (fun hf => ?_) (fun hf => ?_)
  · refine lv_iconst (pc := 10) (v := (0 : Int32)) hx hb dX10_pieces_10 rfl ?_
    refine lv_istore_n (pc := 11) (lv' := [(2, .int (0 : Int32)), (0, .ref (zad G 0)), (1, .int x1)]) hx hb dX10_pieces_11 rfl hl (by decide) rfl (fun ls hl => ?_)
    exact t_X10_pieces_12 B zFU (lv_sub hl [1, 2, 0] rfl) hW hf
  · refine lv_aload_n (pc := 5) hx hb dX10_pieces_5 rfl (lv_at hl 0 rfl) ?_
    refine s_X10_174 (pc := 6) B hW hl.1 (by decide) (zle8 rfl) dX10_pieces_6 (fun _ _ h => c_X10_ten h) hf (fun r2 μ1 H locs hW hf => ?_)
    exact zreti (pc := 9) B hW hf dX10_pieces_9
noncomputable def f_X10_isSwap (x1 : Int32) (x2 : Int32) (μ : Mem) : Option (Int32 × Mem) := zck (zin x1 12) (zck (zin x2 12) ((if (μ.1 5 (x1).toNatClampNeg) = (-1 : Int32) then some ((0 : Int32), μ) else (if (μ.1 5 (x2).toNatClampNeg) = (-1 : Int32) then some ((0 : Int32), μ) else (if (μ.1 5 (x1).toNatClampNeg) = (μ.1 5 (x2).toNatClampNeg) then some ((0 : Int32), μ) else zbind (f_X10_setOf (μ.1 5 (x1).toNatClampNeg) μ) (fun r2 μ1 => zbind (f_X10_setOf (μ.1 5 (x2).toNatClampNeg) μ1) (fun r4 μ3 => zbind (f_X10_worthOf (μ.1 5 (x1).toNatClampNeg) (r2 ^^^ (((1 : Int32) <<< (x1 &&& 31)) ||| ((1 : Int32) <<< (x2 &&& 31)))) μ3) (fun r6 μ5 => zbind (f_X10_worthOf (μ.1 5 (x1).toNatClampNeg) r2 μ5) (fun r8 μ7 => (if r6 ≤ r8 then some ((0 : Int32), μ7) else zbind (f_X10_worthOf (μ.1 5 (x2).toNatClampNeg) (r4 ^^^ (((1 : Int32) <<< (x1 &&& 31)) ||| ((1 : Int32) <<< (x2 &&& 31)))) μ7) (fun r10 μ9 => zbind (f_X10_worthOf (μ.1 5 (x2).toNatClampNeg) r4 μ9) (fun r12 μ11 => (if r10 ≤ r12 then some ((0 : Int32), μ11) else some ((1 : Int32), μ11))))))))))))))
set_option maxRecDepth 100000 in
theorem c_X10_isSwap {G : ZG} {l : Launch} {x1 : Int32} {x2 : Int32} {μ : Mem} {r : Int32} {μ' : Mem} (h : f_X10_isSwap x1 x2 μ = some (r, μ')) : zC ZM G l yX10_isSwap cX10_isSwap 8 (some .boolean) 5 [.ref (zad G 0), .int x1, .int x2] μ (some (.int r)) μ' := by
  refine zC.mk (by decide +kernel) (Nat.le_of_ble_eq_true rfl) ?_
  intro p e s m below meth c ls B hl hW
  have B : zB ZM G cX10_isSwap 8 "DarkSharesModel" (some .boolean) p s m [.ref (zad G 0), .int x1, .int x2].toArray meth c := B
  have hl : lv_has ls 8 [(0, .ref (zad G 0)), (1, .int x1), (2, .int x2)] := hl
  have hx := B.1
  have hb := B.2.1
  have hf := h
  unfold f_X10_isSwap at hf
  refine lv_aload_n (pc := 0) hx hb dX10_isSwap_0 rfl (lv_at hl 0 rfl) ?_
  refine g_X10_22 (pc := 1) B hW dX10_isSwap_1 ?_
  refine lv_iload_n (pc := 4) hx hb dX10_isSwap_4 rfl (lv_at hl 1 rfl) ?_
  refine yald (pc := 5) B hW mr5 dX10_isSwap_5 hf (fun hf => ?_)
  refine lv_istore_n (pc := 6) (lv' := [(3, .int (μ.1 5 (x1).toNatClampNeg)), (0, .ref (zad G 0)), (1, .int x1), (2, .int x2)]) hx hb dX10_isSwap_6 rfl hl (by decide) rfl (fun ls hl => ?_)
  refine lv_aload_n (pc := 7) hx hb dX10_isSwap_7 rfl (lv_at hl 1 rfl) ?_
  refine g_X10_22 (pc := 8) B hW dX10_isSwap_8 ?_
  refine lv_iload_n (pc := 11) hx hb dX10_isSwap_11 rfl (lv_at hl 3 rfl) ?_
  refine yald (pc := 12) B hW mr5 dX10_isSwap_12 hf (fun hf => ?_)
  refine lv_istore (pc := 13) (lv' := [(4, .int (μ.1 5 (x2).toNatClampNeg)), (3, .int (μ.1 5 (x1).toNatClampNeg)), (0, .ref (zad G 0)), (1, .int x1), (2, .int x2)]) hx hb dX10_isSwap_13 hl (by decide) rfl (fun ls hl => ?_)
  refine lv_iload_n (pc := 15) hx hb dX10_isSwap_15 rfl (lv_at hl 1 rfl) ?_
  refine lv_iconst (pc := 16) (v := (-1 : Int32)) hx hb dX10_isSwap_16 rfl ?_
  refine yic_eq (pc := 17) (tgt := 32) B dX10_isSwap_17 (by decide) hf (fun hf => ?_) (fun hf => ?_)
  · refine lv_iconst (pc := 32) (v := (0 : Int32)) hx hb dX10_isSwap_32 rfl ?_
    exact zretz (pc := 33) B hW rfl hf dX10_isSwap_33
  · refine lv_iload (pc := 20) hx hb dX10_isSwap_20 (lv_at hl 0 rfl) ?_
    refine lv_iconst (pc := 22) (v := (-1 : Int32)) hx hb dX10_isSwap_22 rfl ?_
    refine yic_eq (pc := 23) (tgt := 32) B dX10_isSwap_23 (by decide) hf (fun hf => ?_) (fun hf => ?_)
    · refine lv_iconst (pc := 32) (v := (0 : Int32)) hx hb dX10_isSwap_32 rfl ?_
      exact zretz (pc := 33) B hW rfl hf dX10_isSwap_33
    · refine lv_iload_n (pc := 26) hx hb dX10_isSwap_26 rfl (lv_at hl 1 rfl) ?_
      refine lv_iload (pc := 27) hx hb dX10_isSwap_27 (lv_at hl 0 rfl) ?_
      refine yic_ne (pc := 29) (tgt := 34) B dX10_isSwap_29 (by decide) hf (fun hf => ?_) (fun hf => ?_)
      · refine lv_aload_n (pc := 34) hx hb dX10_isSwap_34 rfl (lv_at hl 2 rfl) ?_
        refine lv_iload_n (pc := 35) hx hb dX10_isSwap_35 rfl (lv_at hl 1 rfl) ?_
        refine s_X10_161 (pc := 36) B hW hl.1 (by decide) (zle8 rfl) dX10_isSwap_36 (fun _ _ h => c_X10_setOf h) hf (fun r2 μ1 H locs hW hf => ?_)
        refine lv_istore (pc := 39) (lv' := [(5, .int r2), (4, .int (μ.1 5 (x2).toNatClampNeg)), (3, .int (μ.1 5 (x1).toNatClampNeg)), (0, .ref (zad G 0)), (1, .int x1), (2, .int x2)]) hx hb dX10_isSwap_39 hl (by decide) rfl (fun ls hl => ?_)
        refine lv_aload_n (pc := 41) hx hb dX10_isSwap_41 rfl (lv_at hl 3 rfl) ?_
        refine lv_iload (pc := 42) hx hb dX10_isSwap_42 (lv_at hl 1 rfl) ?_
        refine s_X10_161 (pc := 44) B hW hl.1 (by decide) (zle8 rfl) dX10_isSwap_44 (fun _ _ h => c_X10_setOf h) hf (fun r4 μ3 H locs hW hf => ?_)
        refine lv_istore (pc := 47) (lv' := [(6, .int r4), (5, .int r2), (4, .int (μ.1 5 (x2).toNatClampNeg)), (3, .int (μ.1 5 (x1).toNatClampNeg)), (0, .ref (zad G 0)), (1, .int x1), (2, .int x2)]) hx hb dX10_isSwap_47 hl (by decide) rfl (fun ls hl => ?_)
        refine lv_iconst (pc := 49) (v := (1 : Int32)) hx hb dX10_isSwap_49 rfl ?_
        refine lv_iload_n (pc := 50) hx hb dX10_isSwap_50 rfl (lv_at hl 5 rfl) ?_
        refine lv_ishl (pc := 51) hx hb dX10_isSwap_51 ?_
        refine lv_iconst (pc := 52) (v := (1 : Int32)) hx hb dX10_isSwap_52 rfl ?_
        refine lv_iload_n (pc := 53) hx hb dX10_isSwap_53 rfl (lv_at hl 6 rfl) ?_
        refine lv_ishl (pc := 54) hx hb dX10_isSwap_54 ?_
        refine lv_ior (pc := 55) hx hb dX10_isSwap_55 ?_
        refine lv_istore (pc := 56) (lv' := [(7, .int (((1 : Int32) <<< (x1 &&& 31)) ||| ((1 : Int32) <<< (x2 &&& 31)))), (6, .int r4), (5, .int r2), (4, .int (μ.1 5 (x2).toNatClampNeg)), (3, .int (μ.1 5 (x1).toNatClampNeg)), (0, .ref (zad G 0)), (1, .int x1), (2, .int x2)]) hx hb dX10_isSwap_56 hl (by decide) rfl (fun ls hl => ?_)
        refine lv_aload_n (pc := 58) hx hb dX10_isSwap_58 rfl (lv_at hl 5 rfl) ?_
        refine lv_iload_n (pc := 59) hx hb dX10_isSwap_59 rfl (lv_at hl 4 rfl) ?_
        refine lv_iload (pc := 60) hx hb dX10_isSwap_60 (lv_at hl 2 rfl) ?_
        refine lv_iload (pc := 62) hx hb dX10_isSwap_62 (lv_at hl 0 rfl) ?_
        refine lv_ixor (pc := 64) hx hb dX10_isSwap_64 ?_
        refine s_X10_164 (pc := 65) B hW hl.1 (by decide) (zle8 rfl) dX10_isSwap_65 (fun _ _ h => c_X10_worthOf h) hf (fun r6 μ5 H locs hW hf => ?_)
        refine lv_aload_n (pc := 68) hx hb dX10_isSwap_68 rfl (lv_at hl 5 rfl) ?_
        refine lv_iload_n (pc := 69) hx hb dX10_isSwap_69 rfl (lv_at hl 4 rfl) ?_
        refine lv_iload (pc := 70) hx hb dX10_isSwap_70 (lv_at hl 2 rfl) ?_
        refine s_X10_164 (pc := 72) B hW hl.1 (by decide) (zle8 rfl) dX10_isSwap_72 (fun _ _ h => c_X10_worthOf h) hf (fun r8 μ7 H locs hW hf => ?_)
        refine yic_le (pc := 75) (tgt := 104) B dX10_isSwap_75 (by decide) hf (fun hf => ?_) (fun hf => ?_)
        · refine lv_iconst (pc := 104) (v := (0 : Int32)) hx hb dX10_isSwap_104 rfl ?_
          exact zretz (pc := 105) B hW rfl hf dX10_isSwap_105
        · refine lv_aload_n (pc := 78) hx hb dX10_isSwap_78 rfl (lv_at hl 5 rfl) ?_
          refine lv_iload (pc := 79) hx hb dX10_isSwap_79 (lv_at hl 3 rfl) ?_
          refine lv_iload (pc := 81) hx hb dX10_isSwap_81 (lv_at hl 1 rfl) ?_
          refine lv_iload (pc := 83) hx hb dX10_isSwap_83 (lv_at hl 0 rfl) ?_
          refine lv_ixor (pc := 85) hx hb dX10_isSwap_85 ?_
          refine s_X10_164 (pc := 86) B hW hl.1 (by decide) (zle8 rfl) dX10_isSwap_86 (fun _ _ h => c_X10_worthOf h) hf (fun r10 μ9 H locs hW hf => ?_)
          refine lv_aload_n (pc := 89) hx hb dX10_isSwap_89 rfl (lv_at hl 5 rfl) ?_
          refine lv_iload (pc := 90) hx hb dX10_isSwap_90 (lv_at hl 3 rfl) ?_
          refine lv_iload (pc := 92) hx hb dX10_isSwap_92 (lv_at hl 1 rfl) ?_
          refine s_X10_164 (pc := 94) B hW hl.1 (by decide) (zle8 rfl) dX10_isSwap_94 (fun _ _ h => c_X10_worthOf h) hf (fun r12 μ11 H locs hW hf => ?_)
          refine yic_le (pc := 97) (tgt := 104) B dX10_isSwap_97 (by decide) hf (fun hf => ?_) (fun hf => ?_)
          · refine lv_iconst (pc := 104) (v := (0 : Int32)) hx hb dX10_isSwap_104 rfl ?_
            exact zretz (pc := 105) B hW rfl hf dX10_isSwap_105
          · refine lv_iconst (pc := 100) (v := (1 : Int32)) hx hb dX10_isSwap_100 rfl ?_
            refine lv_goto (pc := 101) (tgt := 105) hx hb dX10_isSwap_101 (by decide) ?_
            exact zretz (pc := 105) B hW rfl hf dX10_isSwap_105
      · refine lv_iconst (pc := 32) (v := (0 : Int32)) hx hb dX10_isSwap_32 rfl ?_
        exact zretz (pc := 33) B hW rfl hf dX10_isSwap_33
noncomputable def f_X10_swaps_31 (K18 : Int32 → Int32 → Int32 → Int32 → Mem → Option (Int32 × Mem)) : Nat → Int32 → Int32 → Int32 → Int32 → Int32 → Mem → Option (Int32 × Mem)
  | 0, _, _, _, _, _, _ => none
  | n + 1, x1, x2, x3, x4, x5, μ => (if (12 : Int32) ≤ x5 then K18 x1 x2 x3 (x4 + (1 : Int32)) μ else zbind (f_X10_isSwap x4 x5 μ) (fun r2 μ1 => (if r2 = 0 then f_X10_swaps_31 K18 n x1 x2 x3 x4 (x5 + (1 : Int32)) μ1 else (if x2 = x1 then f_X10_swaps_31 K18 n x1 (x2 + (1 : Int32)) (((100 : Int32) * x4) + x5) x4 (x5 + (1 : Int32)) μ1 else f_X10_swaps_31 K18 n x1 (x2 + (1 : Int32)) x3 x4 (x5 + (1 : Int32)) μ1))))
set_option maxRecDepth 100000 in
theorem t_X10_swaps_31 {G : ZG} {p : Program} {l : Launch} {e : Env} {s : State} {m : MethodId} {args : Array Value} {below : List Frame} {meth : Method} {c : Code} (B : zB ZM G cX10_swaps 6 "DarkSharesModel" (some .int) p s m args meth c) {K18 : Int32 → Int32 → Int32 → Int32 → Mem → Option (Int32 × Mem)} (hK18 : ∀ {x1 : Int32} {x2 : Int32} {x3 : Int32} {x4 : Int32} {μ : Mem} {H : Heap} {locs : List Loc} {ls : Array Slot} {r : Int32} {μ' : Mem}, lv_has ls 6 [(0, .ref (zad G 0)), (1, .int x1), (2, .int x2), (3, .int x3), (4, .int x4)] → zW ZM G s H locs μ → K18 x1 x2 x3 x4 μ = some (r, μ') → W p l e (zR 6) s m args below meth c H locs 0 0 (MQ below (zQ ZM G (some (.int r)) μ') args s 0 0 (zAd ZM G)) (F0 m 18 ls [])) : ∀ (n : Nat) {x1 : Int32} {x2 : Int32} {x3 : Int32} {x4 : Int32} {x5 : Int32} {μ : Mem} {H : Heap} {locs : List Loc} {ls : Array Slot} {r : Int32} {μ' : Mem}, lv_has ls 6 [(0, .ref (zad G 0)), (1, .int x1), (2, .int x2), (3, .int x3), (4, .int x4), (5, .int x5)] → zW ZM G s H locs μ → f_X10_swaps_31 K18 n x1 x2 x3 x4 x5 μ = some (r, μ') → W p l e (zR 6) s m args below meth c H locs 0 0 (MQ below (zQ ZM G (some (.int r)) μ') args s 0 0 (zAd ZM G)) (F0 m 31 ls []) := by
  have hx := B.1
  have hb := B.2.1
  intro n
  induction n with
  | zero => intro _ _ _ _ _ _ _ _ _ _ _ hl hW hf; cases hf
  | succ n ih =>
    intro x1 x2 x3 x4 x5 μ H locs ls r μ' hl hW hf
    rw [f_X10_swaps_31] at hf
    refine lv_iload (pc := 31) hx hb dX10_swaps_31 (lv_at hl 5 rfl) ?_
    refine lv_bipush (pc := 33) (v := (12 : Int32)) hx hb dX10_swaps_33 rfl ?_
    refine yic_ge (pc := 35) (tgt := 76) B dX10_swaps_35 (by decide) hf (fun hf => ?_) (fun hf => ?_)
    · refine lv_iinc (pc := 76) (v := (x4 + (1 : Int32))) (lv' := [(4, .int (x4 + (1 : Int32))), (0, .ref (zad G 0)), (1, .int x1), (2, .int x2), (3, .int x3), (5, .int x5)]) hx hb dX10_swaps_76 hl (k := 4) rfl rfl (by decide) rfl (fun ls hl => ?_)
      refine lv_goto (pc := 79) (tgt := 18) hx hb dX10_swaps_79 (by decide) ?_
      exact hK18 (lv_sub hl [1, 2, 3, 4, 0] rfl) hW hf
    · refine lv_aload_n (pc := 38) hx hb dX10_swaps_38 rfl (lv_at hl 0 rfl) ?_
      refine lv_iload (pc := 39) hx hb dX10_swaps_39 (lv_at hl 4 rfl) ?_
      refine lv_iload (pc := 41) hx hb dX10_swaps_41 (lv_at hl 5 rfl) ?_
      refine s_X10_208 (pc := 43) B hW hl.1 (by decide) (zle8 rfl) dX10_swaps_43 (fun _ _ h => c_X10_isSwap h) hf (fun r2 μ1 H locs hW hf => ?_)
      refine yif_eq (pc := 46) (tgt := 70) B dX10_swaps_46 (by decide) hf (fun hf => ?_) (fun hf => ?_)
      · refine lv_iinc (pc := 70) (v := (x5 + (1 : Int32))) (lv' := [(5, .int (x5 + (1 : Int32))), (0, .ref (zad G 0)), (1, .int x1), (2, .int x2), (3, .int x3), (4, .int x4)]) hx hb dX10_swaps_70 hl (k := 5) rfl rfl (by decide) rfl (fun ls hl => ?_)
        refine lv_goto (pc := 73) (tgt := 31) hx hb dX10_swaps_73 (by decide) ?_
        exact ih (lv_sub hl [1, 2, 3, 4, 5, 0] rfl) hW hf
      · refine lv_iload_n (pc := 49) hx hb dX10_swaps_49 rfl (lv_at hl 2 rfl) ?_
        refine lv_iload_n (pc := 50) hx hb dX10_swaps_50 rfl (lv_at hl 1 rfl) ?_
        refine yic_ne (pc := 51) (tgt := 65) B dX10_swaps_51 (by decide) hf (fun hf => ?_) (fun hf => ?_)
        · refine lv_iload_n (pc := 65) hx hb dX10_swaps_65 rfl (lv_at hl 3 rfl) ?_
          refine lv_istore_n (pc := 66) (lv' := [(3, .int x3), (0, .ref (zad G 0)), (1, .int x1), (2, .int x2), (4, .int x4), (5, .int x5)]) hx hb dX10_swaps_66 rfl hl (by decide) rfl (fun ls hl => ?_)
          refine lv_iinc (pc := 67) (v := (x2 + (1 : Int32))) (lv' := [(2, .int (x2 + (1 : Int32))), (3, .int x3), (0, .ref (zad G 0)), (1, .int x1), (4, .int x4), (5, .int x5)]) hx hb dX10_swaps_67 hl (k := 3) rfl rfl (by decide) rfl (fun ls hl => ?_)
          refine lv_iinc (pc := 70) (v := (x5 + (1 : Int32))) (lv' := [(5, .int (x5 + (1 : Int32))), (2, .int (x2 + (1 : Int32))), (3, .int x3), (0, .ref (zad G 0)), (1, .int x1), (4, .int x4)]) hx hb dX10_swaps_70 hl (k := 5) rfl rfl (by decide) rfl (fun ls hl => ?_)
          refine lv_goto (pc := 73) (tgt := 31) hx hb dX10_swaps_73 (by decide) ?_
          exact ih (lv_sub hl [3, 4, 1, 2, 5, 0] rfl) hW hf
        · refine lv_bipush (pc := 54) (v := (100 : Int32)) hx hb dX10_swaps_54 rfl ?_
          refine lv_iload (pc := 56) hx hb dX10_swaps_56 (lv_at hl 4 rfl) ?_
          refine lv_imul (pc := 58) hx hb dX10_swaps_58 ?_
          refine lv_iload (pc := 59) hx hb dX10_swaps_59 (lv_at hl 5 rfl) ?_
          refine lv_iadd (pc := 61) hx hb dX10_swaps_61 ?_
          refine lv_goto (pc := 62) (tgt := 66) hx hb dX10_swaps_62 (by decide) ?_
          refine lv_istore_n (pc := 66) (lv' := [(3, .int (((100 : Int32) * x4) + x5)), (0, .ref (zad G 0)), (1, .int x1), (2, .int x2), (4, .int x4), (5, .int x5)]) hx hb dX10_swaps_66 rfl hl (by decide) rfl (fun ls hl => ?_)
          refine lv_iinc (pc := 67) (v := (x2 + (1 : Int32))) (lv' := [(2, .int (x2 + (1 : Int32))), (3, .int (((100 : Int32) * x4) + x5)), (0, .ref (zad G 0)), (1, .int x1), (4, .int x4), (5, .int x5)]) hx hb dX10_swaps_67 hl (k := 3) rfl rfl (by decide) rfl (fun ls hl => ?_)
          refine lv_iinc (pc := 70) (v := (x5 + (1 : Int32))) (lv' := [(5, .int (x5 + (1 : Int32))), (2, .int (x2 + (1 : Int32))), (3, .int (((100 : Int32) * x4) + x5)), (0, .ref (zad G 0)), (1, .int x1), (4, .int x4)]) hx hb dX10_swaps_70 hl (k := 5) rfl rfl (by decide) rfl (fun ls hl => ?_)
          refine lv_goto (pc := 73) (tgt := 31) hx hb dX10_swaps_73 (by decide) ?_
          exact ih (lv_sub hl [3, 4, 1, 2, 5, 0] rfl) hW hf
noncomputable def f_X10_swaps_18 : Nat → Int32 → Int32 → Int32 → Int32 → Mem → Option (Int32 × Mem)
  | 0, _, _, _, _, _ => none
  | n + 1, x1, x2, x3, x4, μ => (if (12 : Int32) ≤ x4 then (if x1 = (-1 : Int32) then some (x2, μ) else some (x3, μ)) else f_X10_swaps_31 (fun a0 a1 a2 a3 ν => f_X10_swaps_18 n a0 a1 a2 a3 ν) zFU x1 x2 x3 x4 (x4 + (1 : Int32)) μ)
set_option maxRecDepth 100000 in
theorem t_X10_swaps_18 {G : ZG} {p : Program} {l : Launch} {e : Env} {s : State} {m : MethodId} {args : Array Value} {below : List Frame} {meth : Method} {c : Code} (B : zB ZM G cX10_swaps 6 "DarkSharesModel" (some .int) p s m args meth c) : ∀ (n : Nat) {x1 : Int32} {x2 : Int32} {x3 : Int32} {x4 : Int32} {μ : Mem} {H : Heap} {locs : List Loc} {ls : Array Slot} {r : Int32} {μ' : Mem}, lv_has ls 6 [(0, .ref (zad G 0)), (1, .int x1), (2, .int x2), (3, .int x3), (4, .int x4)] → zW ZM G s H locs μ → f_X10_swaps_18 n x1 x2 x3 x4 μ = some (r, μ') → W p l e (zR 6) s m args below meth c H locs 0 0 (MQ below (zQ ZM G (some (.int r)) μ') args s 0 0 (zAd ZM G)) (F0 m 18 ls []) := by
  have hx := B.1
  have hb := B.2.1
  intro n
  induction n with
  | zero => intro _ _ _ _ _ _ _ _ _ _ hl hW hf; cases hf
  | succ n ih =>
    intro x1 x2 x3 x4 μ H locs ls r μ' hl hW hf
    rw [f_X10_swaps_18] at hf
    refine lv_iload (pc := 18) hx hb dX10_swaps_18 (lv_at hl 4 rfl) ?_
    refine lv_bipush (pc := 20) (v := (12 : Int32)) hx hb dX10_swaps_20 rfl ?_
    refine yic_ge (pc := 22) (tgt := 82) B dX10_swaps_22 (by decide) hf (fun hf => ?_) (fun hf => ?_)
    · refine lv_iload_n (pc := 82) hx hb dX10_swaps_82 rfl (lv_at hl 1 rfl) ?_
      refine lv_iconst (pc := 83) (v := (-1 : Int32)) hx hb dX10_swaps_83 rfl ?_
      refine yic_ne (pc := 84) (tgt := 91) B dX10_swaps_84 (by decide) hf (fun hf => ?_) (fun hf => ?_)
      · refine lv_iload_n (pc := 91) hx hb dX10_swaps_91 rfl (lv_at hl 3 rfl) ?_
        exact zreti (pc := 92) B hW hf dX10_swaps_92
      · refine lv_iload_n (pc := 87) hx hb dX10_swaps_87 rfl (lv_at hl 2 rfl) ?_
        refine lv_goto (pc := 88) (tgt := 92) hx hb dX10_swaps_88 (by decide) ?_
        exact zreti (pc := 92) B hW hf dX10_swaps_92
    · refine lv_iload (pc := 25) hx hb dX10_swaps_25 (lv_at hl 4 rfl) ?_
      refine lv_iconst (pc := 27) (v := (1 : Int32)) hx hb dX10_swaps_27 rfl ?_
      refine lv_iadd (pc := 28) hx hb dX10_swaps_28 ?_
      refine lv_istore (pc := 29) (lv' := [(5, .int (x4 + (1 : Int32))), (0, .ref (zad G 0)), (1, .int x1), (2, .int x2), (3, .int x3), (4, .int x4)]) hx hb dX10_swaps_29 hl (by decide) rfl (fun ls hl => ?_)
      exact t_X10_swaps_31 B @ih zFU (lv_sub hl [1, 2, 3, 4, 5, 0] rfl) hW hf
noncomputable def f_X10_swaps (x1 : Int32) (μ : Mem) : Option (Int32 × Mem) := (if (-1 : Int32) ≤ x1 then f_X10_swaps_18 zFU x1 (0 : Int32) (-5 : Int32) (0 : Int32) μ else zbind (f_X10_ten μ) (fun r2 μ1 => some (r2, μ1)))
set_option maxRecDepth 100000 in
theorem c_X10_swaps {G : ZG} {l : Launch} {x1 : Int32} {μ : Mem} {r : Int32} {μ' : Mem} (h : f_X10_swaps x1 μ = some (r, μ')) : zC ZM G l yX10_swaps cX10_swaps 6 (some .int) 6 [.ref (zad G 0), .int x1] μ (some (.int r)) μ' := by
  refine zC.mk (by decide +kernel) (Nat.le_of_ble_eq_true rfl) ?_
  intro p e s m below meth c ls B hl hW
  have B : zB ZM G cX10_swaps 6 "DarkSharesModel" (some .int) p s m [.ref (zad G 0), .int x1].toArray meth c := B
  have hl : lv_has ls 6 [(0, .ref (zad G 0)), (1, .int x1)] := hl
  have hx := B.1
  have hb := B.2.1
  have hf := h
  unfold f_X10_swaps at hf
  refine lv_iload_n (pc := 0) hx hb dX10_swaps_0 rfl (lv_at hl 1 rfl) ?_
  refine lv_iconst (pc := 1) (v := (-1 : Int32)) hx hb dX10_swaps_1 rfl ?_
  refine yic_ge (pc := 2) (tgt := 10) B dX10_swaps_2 (by decide) hf (fun hf => ?_) (fun hf => ?_)
  · refine lv_iconst (pc := 10) (v := (0 : Int32)) hx hb dX10_swaps_10 rfl ?_
    refine lv_istore_n (pc := 11) (lv' := [(2, .int (0 : Int32)), (0, .ref (zad G 0)), (1, .int x1)]) hx hb dX10_swaps_11 rfl hl (by decide) rfl (fun ls hl => ?_)
    refine lv_bipush (pc := 12) (v := (-5 : Int32)) hx hb dX10_swaps_12 rfl ?_
    refine lv_istore_n (pc := 14) (lv' := [(3, .int (-5 : Int32)), (2, .int (0 : Int32)), (0, .ref (zad G 0)), (1, .int x1)]) hx hb dX10_swaps_14 rfl hl (by decide) rfl (fun ls hl => ?_)
    refine lv_iconst (pc := 15) (v := (0 : Int32)) hx hb dX10_swaps_15 rfl ?_
    refine lv_istore (pc := 16) (lv' := [(4, .int (0 : Int32)), (3, .int (-5 : Int32)), (2, .int (0 : Int32)), (0, .ref (zad G 0)), (1, .int x1)]) hx hb dX10_swaps_16 hl (by decide) rfl (fun ls hl => ?_)
    exact t_X10_swaps_18 B zFU (lv_sub hl [3, 4, 2, 1, 0] rfl) hW hf
  · refine lv_aload_n (pc := 5) hx hb dX10_swaps_5 rfl (lv_at hl 0 rfl) ?_
    refine s_X10_174 (pc := 6) B hW hl.1 (by decide) (zle8 rfl) dX10_swaps_6 (fun _ _ h => c_X10_ten h) hf (fun r2 μ1 H locs hW hf => ?_)
    exact zreti (pc := 9) B hW hf dX10_swaps_9
noncomputable def f_X10_puts_2 : Nat → Int32 → Mem → Option (Unit × Mem)
  | 0, _, _ => none
  | n + 1, x1, μ => (if (12 : Int32) ≤ x1 then some ((), μ) else zck (zin x1 12) (zck (zin x1 12) (zlet (zI μ 16 (x1).toNatClampNeg (μ.1 5 (x1).toNatClampNeg)) (fun μ1 => f_X10_puts_2 n (x1 + (1 : Int32)) μ1))))
set_option maxRecDepth 100000 in
theorem t_X10_puts_2 {G : ZG} {p : Program} {l : Launch} {e : Env} {s : State} {m : MethodId} {args : Array Value} {below : List Frame} {meth : Method} {c : Code} (B : zB ZM G cX10_puts 2 "DarkSharesModel" none p s m args meth c) : ∀ (n : Nat) {x1 : Int32} {μ : Mem} {H : Heap} {locs : List Loc} {ls : Array Slot} {r : Unit} {μ' : Mem}, lv_has ls 2 [(0, .ref (zad G 0)), (1, .int x1)] → zW ZM G s H locs μ → f_X10_puts_2 n x1 μ = some (r, μ') → W p l e (zR 1) s m args below meth c H locs 0 0 (MQ below (zQ ZM G none μ') args s 0 0 (zAd ZM G)) (F0 m 2 ls []) := by
  have hx := B.1
  have hb := B.2.1
  intro n
  induction n with
  | zero => intro _ _ _ _ _ _ _ hl hW hf; cases hf
  | succ n ih =>
    intro x1 μ H locs ls r μ' hl hW hf
    rw [f_X10_puts_2] at hf
    refine lv_iload_n (pc := 2) hx hb dX10_puts_2 rfl (lv_at hl 1 rfl) ?_
    refine lv_bipush (pc := 3) (v := (12 : Int32)) hx hb dX10_puts_3 rfl ?_
    refine yic_ge (pc := 5) (tgt := 26) B dX10_puts_5 (by decide) hf (fun hf => ?_) (fun hf => ?_)
    · exact zretv (pc := 26) B hW hf dX10_puts_26
    · refine lv_aload_n (pc := 8) hx hb dX10_puts_8 rfl (lv_at hl 0 rfl) ?_
      refine g_X10_55 (pc := 9) B hW dX10_puts_9 ?_
      refine lv_iload_n (pc := 12) hx hb dX10_puts_12 rfl (lv_at hl 1 rfl) ?_
      refine lv_aload_n (pc := 13) hx hb dX10_puts_13 rfl (lv_at hl 0 rfl) ?_
      refine g_X10_22 (pc := 14) B hW dX10_puts_14 ?_
      refine lv_iload_n (pc := 17) hx hb dX10_puts_17 rfl (lv_at hl 1 rfl) ?_
      refine yald (pc := 18) B hW mr5 dX10_puts_18 hf (fun hf => ?_)
      refine yast (pc := 19) B hW mr16 dX10_puts_19 hf (fun μ1 H locs hW hf => ?_)
      refine lv_iinc (pc := 20) (v := (x1 + (1 : Int32))) (lv' := [(1, .int (x1 + (1 : Int32))), (0, .ref (zad G 0))]) hx hb dX10_puts_20 hl (k := 1) rfl rfl (by decide) rfl (fun ls hl => ?_)
      refine lv_goto (pc := 23) (tgt := 2) hx hb dX10_puts_23 (by decide) ?_
      exact ih (lv_sub hl [1, 0] rfl) hW hf
noncomputable def f_X10_puts (μ : Mem) : Option (Unit × Mem) := f_X10_puts_2 zFU (0 : Int32) μ
set_option maxRecDepth 100000 in
theorem c_X10_puts {G : ZG} {l : Launch} {μ : Mem} {r : Unit} {μ' : Mem} (h : f_X10_puts μ = some (r, μ')) : zC ZM G l yX10_puts cX10_puts 2 none 1 [.ref (zad G 0)] μ none μ' := by
  refine zC.mk (by decide +kernel) (Nat.le_of_ble_eq_true rfl) ?_
  intro p e s m below meth c ls B hl hW
  have B : zB ZM G cX10_puts 2 "DarkSharesModel" none p s m [.ref (zad G 0)].toArray meth c := B
  have hl : lv_has ls 2 [(0, .ref (zad G 0))] := hl
  have hx := B.1
  have hb := B.2.1
  have hf := h
  unfold f_X10_puts at hf
  refine lv_iconst (pc := 0) (v := (0 : Int32)) hx hb dX10_puts_0 rfl ?_
  refine lv_istore_n (pc := 1) (lv' := [(1, .int (0 : Int32)), (0, .ref (zad G 0))]) hx hb dX10_puts_1 rfl hl (by decide) rfl (fun ls hl => ?_)
  exact t_X10_puts_2 B zFU (lv_sub hl [1, 0] rfl) hW hf
noncomputable def f_X10_back_2 : Nat → Int32 → Mem → Option (Unit × Mem)
  | 0, _, _ => none
  | n + 1, x1, μ => (if (12 : Int32) ≤ x1 then some ((), μ) else zck (zin x1 12) (zck (zin x1 12) (zlet (zI μ 5 (x1).toNatClampNeg (μ.1 16 (x1).toNatClampNeg)) (fun μ1 => f_X10_back_2 n (x1 + (1 : Int32)) μ1))))
set_option maxRecDepth 100000 in
theorem t_X10_back_2 {G : ZG} {p : Program} {l : Launch} {e : Env} {s : State} {m : MethodId} {args : Array Value} {below : List Frame} {meth : Method} {c : Code} (B : zB ZM G cX10_back 2 "DarkSharesModel" none p s m args meth c) : ∀ (n : Nat) {x1 : Int32} {μ : Mem} {H : Heap} {locs : List Loc} {ls : Array Slot} {r : Unit} {μ' : Mem}, lv_has ls 2 [(0, .ref (zad G 0)), (1, .int x1)] → zW ZM G s H locs μ → f_X10_back_2 n x1 μ = some (r, μ') → W p l e (zR 1) s m args below meth c H locs 0 0 (MQ below (zQ ZM G none μ') args s 0 0 (zAd ZM G)) (F0 m 2 ls []) := by
  have hx := B.1
  have hb := B.2.1
  intro n
  induction n with
  | zero => intro _ _ _ _ _ _ _ hl hW hf; cases hf
  | succ n ih =>
    intro x1 μ H locs ls r μ' hl hW hf
    rw [f_X10_back_2] at hf
    refine lv_iload_n (pc := 2) hx hb dX10_back_2 rfl (lv_at hl 1 rfl) ?_
    refine lv_bipush (pc := 3) (v := (12 : Int32)) hx hb dX10_back_3 rfl ?_
    refine yic_ge (pc := 5) (tgt := 26) B dX10_back_5 (by decide) hf (fun hf => ?_) (fun hf => ?_)
    · exact zretv (pc := 26) B hW hf dX10_back_26
    · refine lv_aload_n (pc := 8) hx hb dX10_back_8 rfl (lv_at hl 0 rfl) ?_
      refine g_X10_22 (pc := 9) B hW dX10_back_9 ?_
      refine lv_iload_n (pc := 12) hx hb dX10_back_12 rfl (lv_at hl 1 rfl) ?_
      refine lv_aload_n (pc := 13) hx hb dX10_back_13 rfl (lv_at hl 0 rfl) ?_
      refine g_X10_55 (pc := 14) B hW dX10_back_14 ?_
      refine lv_iload_n (pc := 17) hx hb dX10_back_17 rfl (lv_at hl 1 rfl) ?_
      refine yald (pc := 18) B hW mr16 dX10_back_18 hf (fun hf => ?_)
      refine yast (pc := 19) B hW mr5 dX10_back_19 hf (fun μ1 H locs hW hf => ?_)
      refine lv_iinc (pc := 20) (v := (x1 + (1 : Int32))) (lv' := [(1, .int (x1 + (1 : Int32))), (0, .ref (zad G 0))]) hx hb dX10_back_20 hl (k := 1) rfl rfl (by decide) rfl (fun ls hl => ?_)
      refine lv_goto (pc := 23) (tgt := 2) hx hb dX10_back_23 (by decide) ?_
      exact ih (lv_sub hl [1, 0] rfl) hW hf
noncomputable def f_X10_back (μ : Mem) : Option (Unit × Mem) := f_X10_back_2 zFU (0 : Int32) μ
set_option maxRecDepth 100000 in
theorem c_X10_back {G : ZG} {l : Launch} {μ : Mem} {r : Unit} {μ' : Mem} (h : f_X10_back μ = some (r, μ')) : zC ZM G l yX10_back cX10_back 2 none 1 [.ref (zad G 0)] μ none μ' := by
  refine zC.mk (by decide +kernel) (Nat.le_of_ble_eq_true rfl) ?_
  intro p e s m below meth c ls B hl hW
  have B : zB ZM G cX10_back 2 "DarkSharesModel" none p s m [.ref (zad G 0)].toArray meth c := B
  have hl : lv_has ls 2 [(0, .ref (zad G 0))] := hl
  have hx := B.1
  have hb := B.2.1
  have hf := h
  unfold f_X10_back at hf
  refine lv_iconst (pc := 0) (v := (0 : Int32)) hx hb dX10_back_0 rfl ?_
  refine lv_istore_n (pc := 1) (lv' := [(1, .int (0 : Int32)), (0, .ref (zad G 0))]) hx hb dX10_back_1 rfl hl (by decide) rfl (fun ls hl => ?_)
  exact t_X10_back_2 B zFU (lv_sub hl [1, 0] rfl) hW hf
noncomputable def f_X10_firstSwap_12 (K2 : Int32 → Mem → Option (Int32 × Mem)) : Nat → Int32 → Int32 → Mem → Option (Int32 × Mem)
  | 0, _, _, _ => none
  | n + 1, x1, x2, μ => (if (12 : Int32) ≤ x2 then K2 (x1 + (1 : Int32)) μ else zbind (f_X10_isSwap x1 x2 μ) (fun r2 μ1 => (if r2 = 0 then f_X10_firstSwap_12 K2 n x1 (x2 + (1 : Int32)) μ1 else some ((((100 : Int32) * x1) + x2), μ1))))
set_option maxRecDepth 100000 in
theorem t_X10_firstSwap_12 {G : ZG} {p : Program} {l : Launch} {e : Env} {s : State} {m : MethodId} {args : Array Value} {below : List Frame} {meth : Method} {c : Code} (B : zB ZM G cX10_firstSwap 3 "DarkSharesModel" (some .int) p s m args meth c) {K2 : Int32 → Mem → Option (Int32 × Mem)} (hK2 : ∀ {x1 : Int32} {μ : Mem} {H : Heap} {locs : List Loc} {ls : Array Slot} {r : Int32} {μ' : Mem}, lv_has ls 3 [(0, .ref (zad G 0)), (1, .int x1)] → zW ZM G s H locs μ → K2 x1 μ = some (r, μ') → W p l e (zR 6) s m args below meth c H locs 0 0 (MQ below (zQ ZM G (some (.int r)) μ') args s 0 0 (zAd ZM G)) (F0 m 2 ls [])) : ∀ (n : Nat) {x1 : Int32} {x2 : Int32} {μ : Mem} {H : Heap} {locs : List Loc} {ls : Array Slot} {r : Int32} {μ' : Mem}, lv_has ls 3 [(0, .ref (zad G 0)), (1, .int x1), (2, .int x2)] → zW ZM G s H locs μ → f_X10_firstSwap_12 K2 n x1 x2 μ = some (r, μ') → W p l e (zR 6) s m args below meth c H locs 0 0 (MQ below (zQ ZM G (some (.int r)) μ') args s 0 0 (zAd ZM G)) (F0 m 12 ls []) := by
  have hx := B.1
  have hb := B.2.1
  intro n
  induction n with
  | zero => intro _ _ _ _ _ _ _ _ hl hW hf; cases hf
  | succ n ih =>
    intro x1 x2 μ H locs ls r μ' hl hW hf
    rw [f_X10_firstSwap_12] at hf
    refine lv_iload_n (pc := 12) hx hb dX10_firstSwap_12 rfl (lv_at hl 2 rfl) ?_
    refine lv_bipush (pc := 13) (v := (12 : Int32)) hx hb dX10_firstSwap_13 rfl ?_
    refine yic_ge (pc := 15) (tgt := 40) B dX10_firstSwap_15 (by decide) hf (fun hf => ?_) (fun hf => ?_)
    · refine lv_iinc (pc := 40) (v := (x1 + (1 : Int32))) (lv' := [(1, .int (x1 + (1 : Int32))), (0, .ref (zad G 0)), (2, .int x2)]) hx hb dX10_firstSwap_40 hl (k := 1) rfl rfl (by decide) rfl (fun ls hl => ?_)
      refine lv_goto (pc := 43) (tgt := 2) hx hb dX10_firstSwap_43 (by decide) ?_
      exact hK2 (lv_sub hl [1, 0] rfl) hW hf
    · refine lv_aload_n (pc := 18) hx hb dX10_firstSwap_18 rfl (lv_at hl 0 rfl) ?_
      refine lv_iload_n (pc := 19) hx hb dX10_firstSwap_19 rfl (lv_at hl 1 rfl) ?_
      refine lv_iload_n (pc := 20) hx hb dX10_firstSwap_20 rfl (lv_at hl 2 rfl) ?_
      refine s_X10_208 (pc := 21) B hW hl.1 (by decide) (zle8 rfl) dX10_firstSwap_21 (fun _ _ h => c_X10_isSwap h) hf (fun r2 μ1 H locs hW hf => ?_)
      refine yif_eq (pc := 24) (tgt := 34) B dX10_firstSwap_24 (by decide) hf (fun hf => ?_) (fun hf => ?_)
      · refine lv_iinc (pc := 34) (v := (x2 + (1 : Int32))) (lv' := [(2, .int (x2 + (1 : Int32))), (0, .ref (zad G 0)), (1, .int x1)]) hx hb dX10_firstSwap_34 hl (k := 2) rfl rfl (by decide) rfl (fun ls hl => ?_)
        refine lv_goto (pc := 37) (tgt := 12) hx hb dX10_firstSwap_37 (by decide) ?_
        exact ih (lv_sub hl [1, 2, 0] rfl) hW hf
      · refine lv_bipush (pc := 27) (v := (100 : Int32)) hx hb dX10_firstSwap_27 rfl ?_
        refine lv_iload_n (pc := 29) hx hb dX10_firstSwap_29 rfl (lv_at hl 1 rfl) ?_
        refine lv_imul (pc := 30) hx hb dX10_firstSwap_30 ?_
        refine lv_iload_n (pc := 31) hx hb dX10_firstSwap_31 rfl (lv_at hl 2 rfl) ?_
        refine lv_iadd (pc := 32) hx hb dX10_firstSwap_32 ?_
        exact zreti (pc := 33) B hW hf dX10_firstSwap_33
noncomputable def f_X10_firstSwap_2 : Nat → Int32 → Mem → Option (Int32 × Mem)
  | 0, _, _ => none
  | n + 1, x1, μ => (if (12 : Int32) ≤ x1 then some ((-1 : Int32), μ) else f_X10_firstSwap_12 (fun a0 ν => f_X10_firstSwap_2 n a0 ν) zFU x1 (x1 + (1 : Int32)) μ)
set_option maxRecDepth 100000 in
theorem t_X10_firstSwap_2 {G : ZG} {p : Program} {l : Launch} {e : Env} {s : State} {m : MethodId} {args : Array Value} {below : List Frame} {meth : Method} {c : Code} (B : zB ZM G cX10_firstSwap 3 "DarkSharesModel" (some .int) p s m args meth c) : ∀ (n : Nat) {x1 : Int32} {μ : Mem} {H : Heap} {locs : List Loc} {ls : Array Slot} {r : Int32} {μ' : Mem}, lv_has ls 3 [(0, .ref (zad G 0)), (1, .int x1)] → zW ZM G s H locs μ → f_X10_firstSwap_2 n x1 μ = some (r, μ') → W p l e (zR 6) s m args below meth c H locs 0 0 (MQ below (zQ ZM G (some (.int r)) μ') args s 0 0 (zAd ZM G)) (F0 m 2 ls []) := by
  have hx := B.1
  have hb := B.2.1
  intro n
  induction n with
  | zero => intro _ _ _ _ _ _ _ hl hW hf; cases hf
  | succ n ih =>
    intro x1 μ H locs ls r μ' hl hW hf
    rw [f_X10_firstSwap_2] at hf
    refine lv_iload_n (pc := 2) hx hb dX10_firstSwap_2 rfl (lv_at hl 1 rfl) ?_
    refine lv_bipush (pc := 3) (v := (12 : Int32)) hx hb dX10_firstSwap_3 rfl ?_
    refine yic_ge (pc := 5) (tgt := 46) B dX10_firstSwap_5 (by decide) hf (fun hf => ?_) (fun hf => ?_)
    · refine lv_iconst (pc := 46) (v := (-1 : Int32)) hx hb dX10_firstSwap_46 rfl ?_
      exact zreti (pc := 47) B hW hf dX10_firstSwap_47
    · refine lv_iload_n (pc := 8) hx hb dX10_firstSwap_8 rfl (lv_at hl 1 rfl) ?_
      refine lv_iconst (pc := 9) (v := (1 : Int32)) hx hb dX10_firstSwap_9 rfl ?_
      refine lv_iadd (pc := 10) hx hb dX10_firstSwap_10 ?_
      refine lv_istore_n (pc := 11) (lv' := [(2, .int (x1 + (1 : Int32))), (0, .ref (zad G 0)), (1, .int x1)]) hx hb dX10_firstSwap_11 rfl hl (by decide) rfl (fun ls hl => ?_)
      exact t_X10_firstSwap_12 B @ih zFU (lv_sub hl [1, 2, 0] rfl) hW hf
noncomputable def f_X10_firstSwap (μ : Mem) : Option (Int32 × Mem) := f_X10_firstSwap_2 zFU (0 : Int32) μ
set_option maxRecDepth 100000 in
theorem c_X10_firstSwap {G : ZG} {l : Launch} {μ : Mem} {r : Int32} {μ' : Mem} (h : f_X10_firstSwap μ = some (r, μ')) : zC ZM G l yX10_firstSwap cX10_firstSwap 3 (some .int) 6 [.ref (zad G 0)] μ (some (.int r)) μ' := by
  refine zC.mk (by decide +kernel) (Nat.le_of_ble_eq_true rfl) ?_
  intro p e s m below meth c ls B hl hW
  have B : zB ZM G cX10_firstSwap 3 "DarkSharesModel" (some .int) p s m [.ref (zad G 0)].toArray meth c := B
  have hl : lv_has ls 3 [(0, .ref (zad G 0))] := hl
  have hx := B.1
  have hb := B.2.1
  have hf := h
  unfold f_X10_firstSwap at hf
  refine lv_iconst (pc := 0) (v := (0 : Int32)) hx hb dX10_firstSwap_0 rfl ?_
  refine lv_istore_n (pc := 1) (lv' := [(1, .int (0 : Int32)), (0, .ref (zad G 0))]) hx hb dX10_firstSwap_1 rfl hl (by decide) rfl (fun ls hl => ?_)
  exact t_X10_firstSwap_2 B zFU (lv_sub hl [1, 0] rfl) hW hf
noncomputable def f_X10_steps_11 : Nat → Int32 → Int32 → Mem → Option (Int32 × Mem)
  | 0, _, _, _ => none
  | n + 1, x1, x2, μ => (if (99 : Int32) ≤ x1 then zbind (f_X10_back μ) (fun _ μ1 => some (x1, μ1)) else (if x2 = (-1 : Int32) then zbind (f_X10_back μ) (fun _ μ2 => some (x1, μ2)) else zck (decide (¬ (100 : Int32) = 0)) (zck (decide (¬ (100 : Int32) = 0)) (zbind (f_X10_changes (x2 / (100 : Int32)) (x2 - x2 / (100 : Int32) * (100 : Int32)) μ) (fun _ μ3 => zbind (f_X10_firstSwap μ3) (fun r5 μ4 => f_X10_steps_11 n (x1 + (1 : Int32)) r5 μ4))))))
set_option maxRecDepth 100000 in
theorem t_X10_steps_11 {G : ZG} {p : Program} {l : Launch} {e : Env} {s : State} {m : MethodId} {args : Array Value} {below : List Frame} {meth : Method} {c : Code} (B : zB ZM G cX10_steps 3 "DarkSharesModel" (some .int) p s m args meth c) : ∀ (n : Nat) {x1 : Int32} {x2 : Int32} {μ : Mem} {H : Heap} {locs : List Loc} {ls : Array Slot} {r : Int32} {μ' : Mem}, lv_has ls 3 [(0, .ref (zad G 0)), (1, .int x1), (2, .int x2)] → zW ZM G s H locs μ → f_X10_steps_11 n x1 x2 μ = some (r, μ') → W p l e (zR 7) s m args below meth c H locs 0 0 (MQ below (zQ ZM G (some (.int r)) μ') args s 0 0 (zAd ZM G)) (F0 m 11 ls []) := by
  have hx := B.1
  have hb := B.2.1
  intro n
  induction n with
  | zero => intro _ _ _ _ _ _ _ _ hl hW hf; cases hf
  | succ n ih =>
    intro x1 x2 μ H locs ls r μ' hl hW hf
    rw [f_X10_steps_11] at hf
    refine lv_iload_n (pc := 11) hx hb dX10_steps_11 rfl (lv_at hl 1 rfl) ?_
    refine lv_bipush (pc := 12) (v := (99 : Int32)) hx hb dX10_steps_12 rfl ?_
    refine yic_ge (pc := 14) (tgt := 45) B dX10_steps_14 (by decide) hf (fun hf => ?_) (fun hf => ?_)
    · refine lv_aload_n (pc := 45) hx hb dX10_steps_45 rfl (lv_at hl 0 rfl) ?_
      refine s_X10_217 (pc := 46) B hW hl.1 (by decide) (zle8 rfl) dX10_steps_46 (fun _ _ h => c_X10_back h) hf (fun _ μ1 H locs hW hf => ?_)
      refine lv_iload_n (pc := 49) hx hb dX10_steps_49 rfl (lv_at hl 1 rfl) ?_
      exact zreti (pc := 50) B hW hf dX10_steps_50
    · refine lv_iload_n (pc := 17) hx hb dX10_steps_17 rfl (lv_at hl 2 rfl) ?_
      refine lv_iconst (pc := 18) (v := (-1 : Int32)) hx hb dX10_steps_18 rfl ?_
      refine yic_eq (pc := 19) (tgt := 45) B dX10_steps_19 (by decide) hf (fun hf => ?_) (fun hf => ?_)
      · refine lv_aload_n (pc := 45) hx hb dX10_steps_45 rfl (lv_at hl 0 rfl) ?_
        refine s_X10_217 (pc := 46) B hW hl.1 (by decide) (zle8 rfl) dX10_steps_46 (fun _ _ h => c_X10_back h) hf (fun _ μ2 H locs hW hf => ?_)
        refine lv_iload_n (pc := 49) hx hb dX10_steps_49 rfl (lv_at hl 1 rfl) ?_
        exact zreti (pc := 50) B hW hf dX10_steps_50
      · refine lv_aload_n (pc := 22) hx hb dX10_steps_22 rfl (lv_at hl 0 rfl) ?_
        refine lv_iload_n (pc := 23) hx hb dX10_steps_23 rfl (lv_at hl 2 rfl) ?_
        refine lv_bipush (pc := 24) (v := (100 : Int32)) hx hb dX10_steps_24 rfl ?_
        refine ydiv (pc := 26) B dX10_steps_26 hf (fun hf => ?_)
        refine lv_iload_n (pc := 27) hx hb dX10_steps_27 rfl (lv_at hl 2 rfl) ?_
        refine lv_bipush (pc := 28) (v := (100 : Int32)) hx hb dX10_steps_28 rfl ?_
        refine yrem (pc := 30) B dX10_steps_30 hf (fun hf => ?_)
        refine s_X10_183 (pc := 31) B hW hl.1 (by decide) (zle8 rfl) dX10_steps_31 (fun _ _ h => c_X10_changes h) hf (fun _ μ3 H locs hW hf => ?_)
        refine lv_iinc (pc := 34) (v := (x1 + (1 : Int32))) (lv' := [(1, .int (x1 + (1 : Int32))), (0, .ref (zad G 0)), (2, .int x2)]) hx hb dX10_steps_34 hl (k := 1) rfl rfl (by decide) rfl (fun ls hl => ?_)
        refine lv_aload_n (pc := 37) hx hb dX10_steps_37 rfl (lv_at hl 1 rfl) ?_
        refine s_X10_214 (pc := 38) B hW hl.1 (by decide) (zle8 rfl) dX10_steps_38 (fun _ _ h => c_X10_firstSwap h) hf (fun r5 μ4 H locs hW hf => ?_)
        refine lv_istore_n (pc := 41) (lv' := [(2, .int r5), (1, .int (x1 + (1 : Int32))), (0, .ref (zad G 0))]) hx hb dX10_steps_41 rfl hl (by decide) rfl (fun ls hl => ?_)
        refine lv_goto (pc := 42) (tgt := 11) hx hb dX10_steps_42 (by decide) ?_
        exact ih (lv_sub hl [2, 1, 0] rfl) hW hf
noncomputable def f_X10_steps (μ : Mem) : Option (Int32 × Mem) := zbind (f_X10_puts μ) (fun _ μ1 => zbind (f_X10_firstSwap μ1) (fun r3 μ2 => f_X10_steps_11 zFU (0 : Int32) r3 μ2))
set_option maxRecDepth 100000 in
theorem c_X10_steps {G : ZG} {l : Launch} {μ : Mem} {r : Int32} {μ' : Mem} (h : f_X10_steps μ = some (r, μ')) : zC ZM G l yX10_steps cX10_steps 3 (some .int) 7 [.ref (zad G 0)] μ (some (.int r)) μ' := by
  refine zC.mk (by decide +kernel) (Nat.le_of_ble_eq_true rfl) ?_
  intro p e s m below meth c ls B hl hW
  have B : zB ZM G cX10_steps 3 "DarkSharesModel" (some .int) p s m [.ref (zad G 0)].toArray meth c := B
  have hl : lv_has ls 3 [(0, .ref (zad G 0))] := hl
  have hx := B.1
  have hb := B.2.1
  have hf := h
  unfold f_X10_steps at hf
  refine lv_aload_n (pc := 0) hx hb dX10_steps_0 rfl (lv_at hl 0 rfl) ?_
  refine s_X10_211 (pc := 1) B hW hl.1 (by decide) (zle8 rfl) dX10_steps_1 (fun _ _ h => c_X10_puts h) hf (fun _ μ1 H locs hW hf => ?_)
  refine lv_iconst (pc := 4) (v := (0 : Int32)) hx hb dX10_steps_4 rfl ?_
  refine lv_istore_n (pc := 5) (lv' := [(1, .int (0 : Int32)), (0, .ref (zad G 0))]) hx hb dX10_steps_5 rfl hl (by decide) rfl (fun ls hl => ?_)
  refine lv_aload_n (pc := 6) hx hb dX10_steps_6 rfl (lv_at hl 1 rfl) ?_
  refine s_X10_214 (pc := 7) B hW hl.1 (by decide) (zle8 rfl) dX10_steps_7 (fun _ _ h => c_X10_firstSwap h) hf (fun r3 μ2 H locs hW hf => ?_)
  refine lv_istore_n (pc := 10) (lv' := [(2, .int r3), (1, .int (0 : Int32)), (0, .ref (zad G 0))]) hx hb dX10_steps_10 rfl hl (by decide) rfl (fun ls hl => ?_)
  exact t_X10_steps_11 B zFU (lv_sub hl [2, 1, 0] rfl) hW hf
noncomputable def f_X10_sale_138 (K69 : Int32 → Int32 → Int32 → Int32 → Int32 → Int32 → Int32 → Mem → Option (Int32 × Mem)) (x1 : Int32) (x2 : Int32) (x3 : Int32) (x4 : Int32) (x6 : Int32) (x7 : Int32) (x8 : Int32) (s0 : Int32) (μ : Mem) : Option (Int32 × Mem) := (if x8 ≤ x6 then K69 x1 x2 x3 x4 s0 x6 (x7 + (1 : Int32)) μ else K69 x1 x2 x3 x4 s0 x8 (x7 + (1 : Int32)) μ)
set_option maxRecDepth 100000 in
theorem t_X10_sale_138 {G : ZG} {p : Program} {l : Launch} {e : Env} {s : State} {m : MethodId} {args : Array Value} {below : List Frame} {meth : Method} {c : Code} (B : zB ZM G cX10_sale 9 "DarkSharesModel" (some .int) p s m args meth c) {K69 : Int32 → Int32 → Int32 → Int32 → Int32 → Int32 → Int32 → Mem → Option (Int32 × Mem)} (hK69 : ∀ {x1 : Int32} {x2 : Int32} {x3 : Int32} {x4 : Int32} {x5 : Int32} {x6 : Int32} {x7 : Int32} {μ : Mem} {H : Heap} {locs : List Loc} {ls : Array Slot} {r : Int32} {μ' : Mem}, lv_has ls 9 [(0, .ref (zad G 0)), (1, .int x1), (2, .int x2), (3, .int x3), (4, .int x4), (5, .int x5), (6, .int x6), (7, .int x7)] → zW ZM G s H locs μ → K69 x1 x2 x3 x4 x5 x6 x7 μ = some (r, μ') → W p l e (zR 6) s m args below meth c H locs 0 0 (MQ below (zQ ZM G (some (.int r)) μ') args s 0 0 (zAd ZM G)) (F0 m 69 ls [])) {x1 : Int32} {x2 : Int32} {x3 : Int32} {x4 : Int32} {x6 : Int32} {x7 : Int32} {x8 : Int32} {s0 : Int32} {μ : Mem} {H : Heap} {locs : List Loc} {ls : Array Slot} {r : Int32} {μ' : Mem} (hl : lv_has ls 9 [(0, .ref (zad G 0)), (1, .int x1), (2, .int x2), (3, .int x3), (4, .int x4), (6, .int x6), (7, .int x7), (8, .int x8)]) (hW : zW ZM G s H locs μ) (hf : f_X10_sale_138 K69 x1 x2 x3 x4 x6 x7 x8 s0 μ = some (r, μ')) : W p l e (zR 6) s m args below meth c H locs 0 0 (MQ below (zQ ZM G (some (.int r)) μ') args s 0 0 (zAd ZM G)) (F0 m 138 ls [.int s0]) := by
  have hx := B.1
  have hb := B.2.1
  unfold f_X10_sale_138 at hf
  refine lv_istore (pc := 138) (lv' := [(5, .int s0), (0, .ref (zad G 0)), (1, .int x1), (2, .int x2), (3, .int x3), (4, .int x4), (6, .int x6), (7, .int x7), (8, .int x8)]) hx hb dX10_sale_138 hl (by decide) rfl (fun ls hl => ?_)
  refine lv_iload (pc := 140) hx hb dX10_sale_140 (lv_at hl 8 rfl) ?_
  refine lv_iload (pc := 142) hx hb dX10_sale_142 (lv_at hl 6 rfl) ?_
  refine yic_le (pc := 144) (tgt := 152) B dX10_sale_144 (by decide) hf (fun hf => ?_) (fun hf => ?_)
  · refine lv_iload (pc := 152) hx hb dX10_sale_152 (lv_at hl 6 rfl) ?_
    refine lv_istore (pc := 154) (lv' := [(6, .int x6), (5, .int s0), (0, .ref (zad G 0)), (1, .int x1), (2, .int x2), (3, .int x3), (4, .int x4), (7, .int x7), (8, .int x8)]) hx hb dX10_sale_154 hl (by decide) rfl (fun ls hl => ?_)
    refine lv_iinc (pc := 156) (v := (x7 + (1 : Int32))) (lv' := [(7, .int (x7 + (1 : Int32))), (6, .int x6), (5, .int s0), (0, .ref (zad G 0)), (1, .int x1), (2, .int x2), (3, .int x3), (4, .int x4), (8, .int x8)]) hx hb dX10_sale_156 hl (k := 7) rfl rfl (by decide) rfl (fun ls hl => ?_)
    refine lv_goto (pc := 159) (tgt := 69) hx hb dX10_sale_159 (by decide) ?_
    exact hK69 (lv_sub hl [3, 4, 5, 6, 7, 2, 1, 0] rfl) hW hf
  · refine lv_iload (pc := 147) hx hb dX10_sale_147 (lv_at hl 8 rfl) ?_
    refine lv_goto (pc := 149) (tgt := 154) hx hb dX10_sale_149 (by decide) ?_
    refine lv_istore (pc := 154) (lv' := [(6, .int x8), (5, .int s0), (0, .ref (zad G 0)), (1, .int x1), (2, .int x2), (3, .int x3), (4, .int x4), (7, .int x7), (8, .int x8)]) hx hb dX10_sale_154 hl (by decide) rfl (fun ls hl => ?_)
    refine lv_iinc (pc := 156) (v := (x7 + (1 : Int32))) (lv' := [(7, .int (x7 + (1 : Int32))), (6, .int x8), (5, .int s0), (0, .ref (zad G 0)), (1, .int x1), (2, .int x2), (3, .int x3), (4, .int x4), (8, .int x8)]) hx hb dX10_sale_156 hl (k := 7) rfl rfl (by decide) rfl (fun ls hl => ?_)
    refine lv_goto (pc := 159) (tgt := 69) hx hb dX10_sale_159 (by decide) ?_
    exact hK69 (lv_sub hl [3, 4, 5, 6, 7, 2, 1, 0] rfl) hW hf
noncomputable def f_X10_sale_69 : Nat → Int32 → Int32 → Int32 → Int32 → Int32 → Int32 → Int32 → Mem → Option (Int32 × Mem)
  | 0, _, _, _, _, _, _, _, _ => none
  | n + 1, x1, x2, x3, x4, x5, x6, x7, μ => (if (μ.1 0 1) ≤ x7 then (if x5 = (-1 : Int32) then some (x5, μ) else (if x2 = 0 then some (x5, μ) else some (x6, μ))) else (if x7 = x3 then f_X10_sale_69 n x1 x2 x3 x4 x5 x6 (x7 + (1 : Int32)) μ else zck (zin x7 5) ((if (μ.1 4 (x7).toNatClampNeg) < x4 then f_X10_sale_69 n x1 x2 x3 x4 x5 x6 (x7 + (1 : Int32)) μ else zbind (f_X10_setOf x7 μ) (fun r2 μ1 => zbind (f_X10_worthOf x7 (r2 ||| ((1 : Int32) <<< (x1 &&& 31))) μ1) (fun r4 μ3 => zbind (f_X10_ownWorth x7 μ3) (fun r6 μ5 => (if ((r4 - r6) - x4) ≤ x6 then f_X10_sale_138 (fun a0 a1 a2 a3 a4 a5 a6 ν => f_X10_sale_69 n a0 a1 a2 a3 a4 a5 a6 ν) x1 x2 x3 x4 x6 x7 ((r4 - r6) - x4) x5 μ5 else f_X10_sale_138 (fun a0 a1 a2 a3 a4 a5 a6 ν => f_X10_sale_69 n a0 a1 a2 a3 a4 a5 a6 ν) x1 x2 x3 x4 x6 x7 ((r4 - r6) - x4) x7 μ5))))))))
set_option maxRecDepth 100000 in
theorem t_X10_sale_69 {G : ZG} {p : Program} {l : Launch} {e : Env} {s : State} {m : MethodId} {args : Array Value} {below : List Frame} {meth : Method} {c : Code} (B : zB ZM G cX10_sale 9 "DarkSharesModel" (some .int) p s m args meth c) : ∀ (n : Nat) {x1 : Int32} {x2 : Int32} {x3 : Int32} {x4 : Int32} {x5 : Int32} {x6 : Int32} {x7 : Int32} {μ : Mem} {H : Heap} {locs : List Loc} {ls : Array Slot} {r : Int32} {μ' : Mem}, lv_has ls 9 [(0, .ref (zad G 0)), (1, .int x1), (2, .int x2), (3, .int x3), (4, .int x4), (5, .int x5), (6, .int x6), (7, .int x7)] → zW ZM G s H locs μ → f_X10_sale_69 n x1 x2 x3 x4 x5 x6 x7 μ = some (r, μ') → W p l e (zR 6) s m args below meth c H locs 0 0 (MQ below (zQ ZM G (some (.int r)) μ') args s 0 0 (zAd ZM G)) (F0 m 69 ls []) := by
  have hx := B.1
  have hb := B.2.1
  intro n
  induction n with
  | zero => intro _ _ _ _ _ _ _ _ _ _ _ _ _ hl hW hf; cases hf
  | succ n ih =>
    intro x1 x2 x3 x4 x5 x6 x7 μ H locs ls r μ' hl hW hf
    rw [f_X10_sale_69] at hf
    refine lv_iload (pc := 69) hx hb dX10_sale_69 (lv_at hl 7 rfl) ?_
    refine lv_aload_n (pc := 71) hx hb dX10_sale_71 rfl (lv_at hl 0 rfl) ?_
    refine g_X10_71 (pc := 72) B hW dX10_sale_72 ?_
    refine yic_ge (pc := 75) (tgt := 162) B dX10_sale_75 (by decide) hf (fun hf => ?_) (fun hf => ?_)
    · refine lv_iload (pc := 162) hx hb dX10_sale_162 (lv_at hl 5 rfl) ?_
      refine lv_iconst (pc := 164) (v := (-1 : Int32)) hx hb dX10_sale_164 rfl ?_
      refine yic_eq (pc := 165) (tgt := 172) B dX10_sale_165 (by decide) hf (fun hf => ?_) (fun hf => ?_)
      · refine lv_iload (pc := 172) hx hb dX10_sale_172 (lv_at hl 5 rfl) ?_
        refine lv_goto (pc := 174) (tgt := 179) hx hb dX10_sale_174 (by decide) ?_
        exact zreti (pc := 179) B hW hf dX10_sale_179
      · refine lv_iload_n (pc := 168) hx hb dX10_sale_168 rfl (lv_at hl 2 rfl) ?_
        refine yif_ne (pc := 169) (tgt := 177) B dX10_sale_169 (by decide) hf (fun hf => ?_) (fun hf => ?_)
        · refine lv_iload (pc := 177) hx hb dX10_sale_177 (lv_at hl 6 rfl) ?_
          exact zreti (pc := 179) B hW hf dX10_sale_179
        · refine lv_iload (pc := 172) hx hb dX10_sale_172 (lv_at hl 5 rfl) ?_
          refine lv_goto (pc := 174) (tgt := 179) hx hb dX10_sale_174 (by decide) ?_
          exact zreti (pc := 179) B hW hf dX10_sale_179
    · refine lv_iload (pc := 78) hx hb dX10_sale_78 (lv_at hl 7 rfl) ?_
      refine lv_iload_n (pc := 80) hx hb dX10_sale_80 rfl (lv_at hl 3 rfl) ?_
      refine yic_eq (pc := 81) (tgt := 156) B dX10_sale_81 (by decide) hf (fun hf => ?_) (fun hf => ?_)
      · refine lv_iinc (pc := 156) (v := (x7 + (1 : Int32))) (lv' := [(7, .int (x7 + (1 : Int32))), (0, .ref (zad G 0)), (1, .int x1), (2, .int x2), (3, .int x3), (4, .int x4), (5, .int x5), (6, .int x6)]) hx hb dX10_sale_156 hl (k := 7) rfl rfl (by decide) rfl (fun ls hl => ?_)
        refine lv_goto (pc := 159) (tgt := 69) hx hb dX10_sale_159 (by decide) ?_
        exact ih (lv_sub hl [1, 2, 3, 4, 5, 6, 7, 0] rfl) hW hf
      · refine lv_aload_n (pc := 84) hx hb dX10_sale_84 rfl (lv_at hl 0 rfl) ?_
        refine g_X10_19 (pc := 85) B hW dX10_sale_85 ?_
        refine lv_iload (pc := 88) hx hb dX10_sale_88 (lv_at hl 7 rfl) ?_
        refine yald (pc := 90) B hW mr4 dX10_sale_90 hf (fun hf => ?_)
        refine lv_iload (pc := 91) hx hb dX10_sale_91 (lv_at hl 4 rfl) ?_
        refine yic_lt (pc := 93) (tgt := 156) B dX10_sale_93 (by decide) hf (fun hf => ?_) (fun hf => ?_)
        · refine lv_iinc (pc := 156) (v := (x7 + (1 : Int32))) (lv' := [(7, .int (x7 + (1 : Int32))), (0, .ref (zad G 0)), (1, .int x1), (2, .int x2), (3, .int x3), (4, .int x4), (5, .int x5), (6, .int x6)]) hx hb dX10_sale_156 hl (k := 7) rfl rfl (by decide) rfl (fun ls hl => ?_)
          refine lv_goto (pc := 159) (tgt := 69) hx hb dX10_sale_159 (by decide) ?_
          exact ih (lv_sub hl [1, 2, 3, 4, 5, 6, 7, 0] rfl) hW hf
        · refine lv_aload_n (pc := 96) hx hb dX10_sale_96 rfl (lv_at hl 0 rfl) ?_
          refine lv_iload (pc := 97) hx hb dX10_sale_97 (lv_at hl 7 rfl) ?_
          refine lv_aload_n (pc := 99) hx hb dX10_sale_99 rfl (lv_at hl 0 rfl) ?_
          refine lv_iload (pc := 100) hx hb dX10_sale_100 (lv_at hl 7 rfl) ?_
          refine s_X10_161 (pc := 102) B hW hl.1 (by decide) (zle8 rfl) dX10_sale_102 (fun _ _ h => c_X10_setOf h) hf (fun r2 μ1 H locs hW hf => ?_)
          refine lv_iconst (pc := 105) (v := (1 : Int32)) hx hb dX10_sale_105 rfl ?_
          refine lv_iload_n (pc := 106) hx hb dX10_sale_106 rfl (lv_at hl 1 rfl) ?_
          refine lv_ishl (pc := 107) hx hb dX10_sale_107 ?_
          refine lv_ior (pc := 108) hx hb dX10_sale_108 ?_
          refine s_X10_164 (pc := 109) B hW hl.1 (by decide) (zle8 rfl) dX10_sale_109 (fun _ _ h => c_X10_worthOf h) hf (fun r4 μ3 H locs hW hf => ?_)
          refine lv_aload_n (pc := 112) hx hb dX10_sale_112 rfl (lv_at hl 0 rfl) ?_
          refine lv_iload (pc := 113) hx hb dX10_sale_113 (lv_at hl 7 rfl) ?_
          refine s_X10_193 (pc := 115) B hW hl.1 (by decide) (zle8 rfl) dX10_sale_115 (fun _ _ h => c_X10_ownWorth h) hf (fun r6 μ5 H locs hW hf => ?_)
          refine lv_isub (pc := 118) hx hb dX10_sale_118 ?_
          refine lv_iload (pc := 119) hx hb dX10_sale_119 (lv_at hl 4 rfl) ?_
          refine lv_isub (pc := 121) hx hb dX10_sale_121 ?_
          refine lv_istore (pc := 122) (lv' := [(8, .int ((r4 - r6) - x4)), (0, .ref (zad G 0)), (1, .int x1), (2, .int x2), (3, .int x3), (4, .int x4), (5, .int x5), (6, .int x6), (7, .int x7)]) hx hb dX10_sale_122 hl (by decide) rfl (fun ls hl => ?_)
          refine lv_iload (pc := 124) hx hb dX10_sale_124 (lv_at hl 0 rfl) ?_
          refine lv_iload (pc := 126) hx hb dX10_sale_126 (lv_at hl 7 rfl) ?_
          refine yic_le (pc := 128) (tgt := 136) B dX10_sale_128 (by decide) hf (fun hf => ?_) (fun hf => ?_)
          · refine lv_iload (pc := 136) hx hb dX10_sale_136 (lv_at hl 6 rfl) ?_
            exact t_X10_sale_138 B @ih (lv_sub hl [1, 2, 3, 4, 5, 7, 8, 0] rfl) hW hf
          · refine lv_iload (pc := 131) hx hb dX10_sale_131 (lv_at hl 8 rfl) ?_
            refine lv_goto (pc := 133) (tgt := 138) hx hb dX10_sale_133 (by decide) ?_
            exact t_X10_sale_138 B @ih (lv_sub hl [1, 2, 3, 4, 5, 7, 8, 0] rfl) hW hf
noncomputable def f_X10_sale (x1 : Int32) (x2 : Int32) (μ : Mem) : Option (Int32 × Mem) := zbind (f_X10_isCell x1 μ) (fun r2 μ1 => (if r2 = 0 then zbind (f_X10_bad μ1) (fun r4 μ3 => some (r4, μ3)) else zbind (f_X10_in x2 (0 : Int32) (1 : Int32) μ1) (fun r6 μ5 => (if r6 = 0 then zbind (f_X10_bad μ5) (fun r14 μ13 => some (r14, μ13)) else zck (zin x1 12) ((if (μ5.1 5 (x1).toNatClampNeg) = (-1 : Int32) then f_X10_sale_69 zFU x1 x2 (μ5.1 5 (x1).toNatClampNeg) (0 : Int32) (-1 : Int32) (0 : Int32) (0 : Int32) μ5 else zbind (f_X10_ownWorth (μ5.1 5 (x1).toNatClampNeg) μ5) (fun r8 μ7 => zbind (f_X10_setOf (μ5.1 5 (x1).toNatClampNeg) μ7) (fun r10 μ9 => zbind (f_X10_worthOf (μ5.1 5 (x1).toNatClampNeg) (r10 &&& (((1 : Int32) <<< (x1 &&& 31)) ^^^ (-1 : Int32))) μ9) (fun r12 μ11 => f_X10_sale_69 zFU x1 x2 (μ5.1 5 (x1).toNatClampNeg) (r8 - r12) (-1 : Int32) (0 : Int32) (0 : Int32) μ11)))))))))
set_option maxRecDepth 100000 in
theorem c_X10_sale {G : ZG} {l : Launch} {x1 : Int32} {x2 : Int32} {μ : Mem} {r : Int32} {μ' : Mem} (h : f_X10_sale x1 x2 μ = some (r, μ')) : zC ZM G l yX10_sale cX10_sale 9 (some .int) 6 [.ref (zad G 0), .int x1, .int x2] μ (some (.int r)) μ' := by
  refine zC.mk (by decide +kernel) (Nat.le_of_ble_eq_true rfl) ?_
  intro p e s m below meth c ls B hl hW
  have B : zB ZM G cX10_sale 9 "DarkSharesModel" (some .int) p s m [.ref (zad G 0), .int x1, .int x2].toArray meth c := B
  have hl : lv_has ls 9 [(0, .ref (zad G 0)), (1, .int x1), (2, .int x2)] := hl
  have hx := B.1
  have hb := B.2.1
  have hf := h
  unfold f_X10_sale at hf
  refine lv_iload_n (pc := 0) hx hb dX10_sale_0 rfl (lv_at hl 1 rfl) ?_
  refine s_X10_168 (pc := 1) B hW hl.1 (by decide) (zle8 rfl) dX10_sale_1 (fun _ _ h => c_X10_isCell h) hf (fun r2 μ1 H locs hW hf => ?_)
  refine yif_eq (pc := 4) (tgt := 16) B dX10_sale_4 (by decide) hf (fun hf => ?_) (fun hf => ?_)
  · refine lv_aload_n (pc := 16) hx hb dX10_sale_16 rfl (lv_at hl 0 rfl) ?_
    refine s_X10_85 (pc := 17) B hW hl.1 (by decide) (zle8 rfl) dX10_sale_17 (fun _ _ h => c_X10_bad h) hf (fun r4 μ3 H locs hW hf => ?_)
    exact zreti (pc := 20) B hW hf dX10_sale_20
  · refine lv_iload_n (pc := 7) hx hb dX10_sale_7 rfl (lv_at hl 2 rfl) ?_
    refine lv_iconst (pc := 8) (v := (0 : Int32)) hx hb dX10_sale_8 rfl ?_
    refine lv_iconst (pc := 9) (v := (1 : Int32)) hx hb dX10_sale_9 rfl ?_
    refine s_X10_81 (pc := 10) B hW hl.1 (by decide) (zle8 rfl) dX10_sale_10 (fun _ _ h => c_X10_in h) hf (fun r6 μ5 H locs hW hf => ?_)
    refine yif_ne (pc := 13) (tgt := 21) B dX10_sale_13 (by decide) hf (fun hf => ?_) (fun hf => ?_)
    · refine lv_aload_n (pc := 21) hx hb dX10_sale_21 rfl (lv_at hl 0 rfl) ?_
      refine g_X10_22 (pc := 22) B hW dX10_sale_22 ?_
      refine lv_iload_n (pc := 25) hx hb dX10_sale_25 rfl (lv_at hl 1 rfl) ?_
      refine yald (pc := 26) B hW mr5 dX10_sale_26 hf (fun hf => ?_)
      refine lv_istore_n (pc := 27) (lv' := [(3, .int (μ5.1 5 (x1).toNatClampNeg)), (0, .ref (zad G 0)), (1, .int x1), (2, .int x2)]) hx hb dX10_sale_27 rfl hl (by decide) rfl (fun ls hl => ?_)
      refine lv_iconst (pc := 28) (v := (0 : Int32)) hx hb dX10_sale_28 rfl ?_
      refine lv_istore (pc := 29) (lv' := [(4, .int (0 : Int32)), (3, .int (μ5.1 5 (x1).toNatClampNeg)), (0, .ref (zad G 0)), (1, .int x1), (2, .int x2)]) hx hb dX10_sale_29 hl (by decide) rfl (fun ls hl => ?_)
      refine lv_iload_n (pc := 31) hx hb dX10_sale_31 rfl (lv_at hl 1 rfl) ?_
      refine lv_iconst (pc := 32) (v := (-1 : Int32)) hx hb dX10_sale_32 rfl ?_
      refine yic_eq (pc := 33) (tgt := 60) B dX10_sale_33 (by decide) hf (fun hf => ?_) (fun hf => ?_)
      · refine lv_iconst (pc := 60) (v := (-1 : Int32)) hx hb dX10_sale_60 rfl ?_
        refine lv_istore (pc := 61) (lv' := [(5, .int (-1 : Int32)), (4, .int (0 : Int32)), (3, .int (μ5.1 5 (x1).toNatClampNeg)), (0, .ref (zad G 0)), (1, .int x1), (2, .int x2)]) hx hb dX10_sale_61 hl (by decide) rfl (fun ls hl => ?_)
        refine lv_iconst (pc := 63) (v := (0 : Int32)) hx hb dX10_sale_63 rfl ?_
        refine lv_istore (pc := 64) (lv' := [(6, .int (0 : Int32)), (5, .int (-1 : Int32)), (4, .int (0 : Int32)), (3, .int (μ5.1 5 (x1).toNatClampNeg)), (0, .ref (zad G 0)), (1, .int x1), (2, .int x2)]) hx hb dX10_sale_64 hl (by decide) rfl (fun ls hl => ?_)
        refine lv_iconst (pc := 66) (v := (0 : Int32)) hx hb dX10_sale_66 rfl ?_
        refine lv_istore (pc := 67) (lv' := [(7, .int (0 : Int32)), (6, .int (0 : Int32)), (5, .int (-1 : Int32)), (4, .int (0 : Int32)), (3, .int (μ5.1 5 (x1).toNatClampNeg)), (0, .ref (zad G 0)), (1, .int x1), (2, .int x2)]) hx hb dX10_sale_67 hl (by decide) rfl (fun ls hl => ?_)
        exact t_X10_sale_69 B zFU (lv_sub hl [5, 6, 7, 4, 3, 2, 1, 0] rfl) hW hf
      · refine lv_aload_n (pc := 36) hx hb dX10_sale_36 rfl (lv_at hl 2 rfl) ?_
        refine lv_iload_n (pc := 37) hx hb dX10_sale_37 rfl (lv_at hl 1 rfl) ?_
        refine s_X10_193 (pc := 38) B hW hl.1 (by decide) (zle8 rfl) dX10_sale_38 (fun _ _ h => c_X10_ownWorth h) hf (fun r8 μ7 H locs hW hf => ?_)
        refine lv_aload_n (pc := 41) hx hb dX10_sale_41 rfl (lv_at hl 2 rfl) ?_
        refine lv_iload_n (pc := 42) hx hb dX10_sale_42 rfl (lv_at hl 1 rfl) ?_
        refine lv_aload_n (pc := 43) hx hb dX10_sale_43 rfl (lv_at hl 2 rfl) ?_
        refine lv_iload_n (pc := 44) hx hb dX10_sale_44 rfl (lv_at hl 1 rfl) ?_
        refine s_X10_161 (pc := 45) B hW hl.1 (by decide) (zle8 rfl) dX10_sale_45 (fun _ _ h => c_X10_setOf h) hf (fun r10 μ9 H locs hW hf => ?_)
        refine lv_iconst (pc := 48) (v := (1 : Int32)) hx hb dX10_sale_48 rfl ?_
        refine lv_iload_n (pc := 49) hx hb dX10_sale_49 rfl (lv_at hl 3 rfl) ?_
        refine lv_ishl (pc := 50) hx hb dX10_sale_50 ?_
        refine lv_iconst (pc := 51) (v := (-1 : Int32)) hx hb dX10_sale_51 rfl ?_
        refine lv_ixor (pc := 52) hx hb dX10_sale_52 ?_
        refine lv_iand (pc := 53) hx hb dX10_sale_53 ?_
        refine s_X10_164 (pc := 54) B hW hl.1 (by decide) (zle8 rfl) dX10_sale_54 (fun _ _ h => c_X10_worthOf h) hf (fun r12 μ11 H locs hW hf => ?_)
        refine lv_isub (pc := 57) hx hb dX10_sale_57 ?_
        refine lv_istore (pc := 58) (lv' := [(4, .int (r8 - r12)), (3, .int (μ5.1 5 (x1).toNatClampNeg)), (0, .ref (zad G 0)), (1, .int x1), (2, .int x2)]) hx hb dX10_sale_58 hl (by decide) rfl (fun ls hl => ?_)
        refine lv_iconst (pc := 60) (v := (-1 : Int32)) hx hb dX10_sale_60 rfl ?_
        refine lv_istore (pc := 61) (lv' := [(5, .int (-1 : Int32)), (4, .int (r8 - r12)), (3, .int (μ5.1 5 (x1).toNatClampNeg)), (0, .ref (zad G 0)), (1, .int x1), (2, .int x2)]) hx hb dX10_sale_61 hl (by decide) rfl (fun ls hl => ?_)
        refine lv_iconst (pc := 63) (v := (0 : Int32)) hx hb dX10_sale_63 rfl ?_
        refine lv_istore (pc := 64) (lv' := [(6, .int (0 : Int32)), (5, .int (-1 : Int32)), (4, .int (r8 - r12)), (3, .int (μ5.1 5 (x1).toNatClampNeg)), (0, .ref (zad G 0)), (1, .int x1), (2, .int x2)]) hx hb dX10_sale_64 hl (by decide) rfl (fun ls hl => ?_)
        refine lv_iconst (pc := 66) (v := (0 : Int32)) hx hb dX10_sale_66 rfl ?_
        refine lv_istore (pc := 67) (lv' := [(7, .int (0 : Int32)), (6, .int (0 : Int32)), (5, .int (-1 : Int32)), (4, .int (r8 - r12)), (3, .int (μ5.1 5 (x1).toNatClampNeg)), (0, .ref (zad G 0)), (1, .int x1), (2, .int x2)]) hx hb dX10_sale_67 hl (by decide) rfl (fun ls hl => ?_)
        exact t_X10_sale_69 B zFU (lv_sub hl [5, 6, 7, 4, 3, 2, 1, 0] rfl) hW hf
    · refine lv_aload_n (pc := 16) hx hb dX10_sale_16 rfl (lv_at hl 0 rfl) ?_
      refine s_X10_85 (pc := 17) B hW hl.1 (by decide) (zle8 rfl) dX10_sale_17 (fun _ _ h => c_X10_bad h) hf (fun r14 μ13 H locs hW hf => ?_)
      exact zreti (pc := 20) B hW hf dX10_sale_20
noncomputable def f_X10_longest_62 (K24 : Int32 → Int32 → Int32 → Int32 → Int32 → Mem → Option (Int32 × Mem)) (x1 : Int32) (x2 : Int32) (x3 : Int32) (x5 : Int32) (s0 : Int32) (μ : Mem) : Option (Int32 × Mem) := zck (zin x5 12) ((if (μ.1 5 (x5).toNatClampNeg) = (-1 : Int32) then K24 x1 x2 x3 s0 (x5 + (1 : Int32)) μ else (if ((x5 + (1 : Int32)) - s0) ≤ x3 then K24 x1 x2 x3 s0 (x5 + (1 : Int32)) μ else K24 x1 s0 ((x5 + (1 : Int32)) - s0) s0 (x5 + (1 : Int32)) μ)))
set_option maxRecDepth 100000 in
theorem t_X10_longest_62 {G : ZG} {p : Program} {l : Launch} {e : Env} {s : State} {m : MethodId} {args : Array Value} {below : List Frame} {meth : Method} {c : Code} (B : zB ZM G cX10_longest 6 "DarkSharesModel" (some .int) p s m args meth c) {K24 : Int32 → Int32 → Int32 → Int32 → Int32 → Mem → Option (Int32 × Mem)} (hK24 : ∀ {x1 : Int32} {x2 : Int32} {x3 : Int32} {x4 : Int32} {x5 : Int32} {μ : Mem} {H : Heap} {locs : List Loc} {ls : Array Slot} {r : Int32} {μ' : Mem}, lv_has ls 6 [(0, .ref (zad G 0)), (1, .int x1), (2, .int x2), (3, .int x3), (4, .int x4), (5, .int x5)] → zW ZM G s H locs μ → K24 x1 x2 x3 x4 x5 μ = some (r, μ') → W p l e (zR 2) s m args below meth c H locs 0 0 (MQ below (zQ ZM G (some (.int r)) μ') args s 0 0 (zAd ZM G)) (F0 m 24 ls [])) {x1 : Int32} {x2 : Int32} {x3 : Int32} {x5 : Int32} {s0 : Int32} {μ : Mem} {H : Heap} {locs : List Loc} {ls : Array Slot} {r : Int32} {μ' : Mem} (hl : lv_has ls 6 [(0, .ref (zad G 0)), (1, .int x1), (2, .int x2), (3, .int x3), (5, .int x5)]) (hW : zW ZM G s H locs μ) (hf : f_X10_longest_62 K24 x1 x2 x3 x5 s0 μ = some (r, μ')) : W p l e (zR 2) s m args below meth c H locs 0 0 (MQ below (zQ ZM G (some (.int r)) μ') args s 0 0 (zAd ZM G)) (F0 m 62 ls [.int s0]) := by
  have hx := B.1
  have hb := B.2.1
  unfold f_X10_longest_62 at hf
  refine lv_istore (pc := 62) (lv' := [(4, .int s0), (0, .ref (zad G 0)), (1, .int x1), (2, .int x2), (3, .int x3), (5, .int x5)]) hx hb dX10_longest_62 hl (by decide) rfl (fun ls hl => ?_)
  refine lv_aload_n (pc := 64) hx hb dX10_longest_64 rfl (lv_at hl 1 rfl) ?_
  refine g_X10_22 (pc := 65) B hW dX10_longest_65 ?_
  refine lv_iload (pc := 68) hx hb dX10_longest_68 (lv_at hl 5 rfl) ?_
  refine yald (pc := 70) B hW mr5 dX10_longest_70 hf (fun hf => ?_)
  refine lv_iconst (pc := 71) (v := (-1 : Int32)) hx hb dX10_longest_71 rfl ?_
  refine yic_eq (pc := 72) (tgt := 97) B dX10_longest_72 (by decide) hf (fun hf => ?_) (fun hf => ?_)
  · refine lv_iinc (pc := 97) (v := (x5 + (1 : Int32))) (lv' := [(5, .int (x5 + (1 : Int32))), (4, .int s0), (0, .ref (zad G 0)), (1, .int x1), (2, .int x2), (3, .int x3)]) hx hb dX10_longest_97 hl (k := 5) rfl rfl (by decide) rfl (fun ls hl => ?_)
    refine lv_goto (pc := 100) (tgt := 24) hx hb dX10_longest_100 (by decide) ?_
    exact hK24 (lv_sub hl [2, 3, 4, 5, 1, 0] rfl) hW hf
  · refine lv_iload (pc := 75) hx hb dX10_longest_75 (lv_at hl 5 rfl) ?_
    refine lv_iconst (pc := 77) (v := (1 : Int32)) hx hb dX10_longest_77 rfl ?_
    refine lv_iadd (pc := 78) hx hb dX10_longest_78 ?_
    refine lv_iload (pc := 79) hx hb dX10_longest_79 (lv_at hl 0 rfl) ?_
    refine lv_isub (pc := 81) hx hb dX10_longest_81 ?_
    refine lv_iload_n (pc := 82) hx hb dX10_longest_82 rfl (lv_at hl 4 rfl) ?_
    refine yic_le (pc := 83) (tgt := 97) B dX10_longest_83 (by decide) hf (fun hf => ?_) (fun hf => ?_)
    · refine lv_iinc (pc := 97) (v := (x5 + (1 : Int32))) (lv' := [(5, .int (x5 + (1 : Int32))), (4, .int s0), (0, .ref (zad G 0)), (1, .int x1), (2, .int x2), (3, .int x3)]) hx hb dX10_longest_97 hl (k := 5) rfl rfl (by decide) rfl (fun ls hl => ?_)
      refine lv_goto (pc := 100) (tgt := 24) hx hb dX10_longest_100 (by decide) ?_
      exact hK24 (lv_sub hl [2, 3, 4, 5, 1, 0] rfl) hW hf
    · refine lv_iload (pc := 86) hx hb dX10_longest_86 (lv_at hl 0 rfl) ?_
      refine lv_istore_n (pc := 88) (lv' := [(2, .int s0), (4, .int s0), (0, .ref (zad G 0)), (1, .int x1), (3, .int x3), (5, .int x5)]) hx hb dX10_longest_88 rfl hl (by decide) rfl (fun ls hl => ?_)
      refine lv_iload (pc := 89) hx hb dX10_longest_89 (lv_at hl 5 rfl) ?_
      refine lv_iconst (pc := 91) (v := (1 : Int32)) hx hb dX10_longest_91 rfl ?_
      refine lv_iadd (pc := 92) hx hb dX10_longest_92 ?_
      refine lv_iload (pc := 93) hx hb dX10_longest_93 (lv_at hl 1 rfl) ?_
      refine lv_isub (pc := 95) hx hb dX10_longest_95 ?_
      refine lv_istore_n (pc := 96) (lv' := [(3, .int ((x5 + (1 : Int32)) - s0)), (2, .int s0), (4, .int s0), (0, .ref (zad G 0)), (1, .int x1), (5, .int x5)]) hx hb dX10_longest_96 rfl hl (by decide) rfl (fun ls hl => ?_)
      refine lv_iinc (pc := 97) (v := (x5 + (1 : Int32))) (lv' := [(5, .int (x5 + (1 : Int32))), (3, .int ((x5 + (1 : Int32)) - s0)), (2, .int s0), (4, .int s0), (0, .ref (zad G 0)), (1, .int x1)]) hx hb dX10_longest_97 hl (k := 5) rfl rfl (by decide) rfl (fun ls hl => ?_)
      refine lv_goto (pc := 100) (tgt := 24) hx hb dX10_longest_100 (by decide) ?_
      exact hK24 (lv_sub hl [4, 5, 2, 1, 3, 0] rfl) hW hf
noncomputable def f_X10_longest_24 : Nat → Int32 → Int32 → Int32 → Int32 → Int32 → Mem → Option (Int32 × Mem)
  | 0, _, _, _, _, _, _ => none
  | n + 1, x1, x2, x3, x4, x5, μ => (if (12 : Int32) ≤ x5 then (if x1 = 0 then some (x2, μ) else some (x3, μ)) else (if x5 ≤ 0 then f_X10_longest_62 (fun a0 a1 a2 a3 a4 ν => f_X10_longest_24 n a0 a1 a2 a3 a4 ν) x1 x2 x3 x5 x5 μ else zck (zin x5 12) (zck (zin (x5 - (1 : Int32)) 12) ((if (μ.1 5 (x5).toNatClampNeg) = (μ.1 5 ((x5 - (1 : Int32))).toNatClampNeg) then f_X10_longest_62 (fun a0 a1 a2 a3 a4 ν => f_X10_longest_24 n a0 a1 a2 a3 a4 ν) x1 x2 x3 x5 x4 μ else f_X10_longest_62 (fun a0 a1 a2 a3 a4 ν => f_X10_longest_24 n a0 a1 a2 a3 a4 ν) x1 x2 x3 x5 x5 μ)))))
set_option maxRecDepth 100000 in
theorem t_X10_longest_24 {G : ZG} {p : Program} {l : Launch} {e : Env} {s : State} {m : MethodId} {args : Array Value} {below : List Frame} {meth : Method} {c : Code} (B : zB ZM G cX10_longest 6 "DarkSharesModel" (some .int) p s m args meth c) : ∀ (n : Nat) {x1 : Int32} {x2 : Int32} {x3 : Int32} {x4 : Int32} {x5 : Int32} {μ : Mem} {H : Heap} {locs : List Loc} {ls : Array Slot} {r : Int32} {μ' : Mem}, lv_has ls 6 [(0, .ref (zad G 0)), (1, .int x1), (2, .int x2), (3, .int x3), (4, .int x4), (5, .int x5)] → zW ZM G s H locs μ → f_X10_longest_24 n x1 x2 x3 x4 x5 μ = some (r, μ') → W p l e (zR 2) s m args below meth c H locs 0 0 (MQ below (zQ ZM G (some (.int r)) μ') args s 0 0 (zAd ZM G)) (F0 m 24 ls []) := by
  have hx := B.1
  have hb := B.2.1
  intro n
  induction n with
  | zero => intro _ _ _ _ _ _ _ _ _ _ _ hl hW hf; cases hf
  | succ n ih =>
    intro x1 x2 x3 x4 x5 μ H locs ls r μ' hl hW hf
    rw [f_X10_longest_24] at hf
    refine lv_iload (pc := 24) hx hb dX10_longest_24 (lv_at hl 5 rfl) ?_
    refine lv_bipush (pc := 26) (v := (12 : Int32)) hx hb dX10_longest_26 rfl ?_
    refine yic_ge (pc := 28) (tgt := 103) B dX10_longest_28 (by decide) hf (fun hf => ?_) (fun hf => ?_)
    · refine lv_iload_n (pc := 103) hx hb dX10_longest_103 rfl (lv_at hl 1 rfl) ?_
      refine yif_ne (pc := 104) (tgt := 111) B dX10_longest_104 (by decide) hf (fun hf => ?_) (fun hf => ?_)
      · refine lv_iload_n (pc := 111) hx hb dX10_longest_111 rfl (lv_at hl 3 rfl) ?_
        exact zreti (pc := 112) B hW hf dX10_longest_112
      · refine lv_iload_n (pc := 107) hx hb dX10_longest_107 rfl (lv_at hl 2 rfl) ?_
        refine lv_goto (pc := 108) (tgt := 112) hx hb dX10_longest_108 (by decide) ?_
        exact zreti (pc := 112) B hW hf dX10_longest_112
    · refine lv_iload (pc := 31) hx hb dX10_longest_31 (lv_at hl 5 rfl) ?_
      refine yif_le (pc := 33) (tgt := 60) B dX10_longest_33 (by decide) hf (fun hf => ?_) (fun hf => ?_)
      · refine lv_iload (pc := 60) hx hb dX10_longest_60 (lv_at hl 5 rfl) ?_
        exact t_X10_longest_62 B @ih (lv_sub hl [0, 1, 2, 3, 5] rfl) hW hf
      · refine lv_aload_n (pc := 36) hx hb dX10_longest_36 rfl (lv_at hl 0 rfl) ?_
        refine g_X10_22 (pc := 37) B hW dX10_longest_37 ?_
        refine lv_iload (pc := 40) hx hb dX10_longest_40 (lv_at hl 5 rfl) ?_
        refine yald (pc := 42) B hW mr5 dX10_longest_42 hf (fun hf => ?_)
        refine lv_aload_n (pc := 43) hx hb dX10_longest_43 rfl (lv_at hl 0 rfl) ?_
        refine g_X10_22 (pc := 44) B hW dX10_longest_44 ?_
        refine lv_iload (pc := 47) hx hb dX10_longest_47 (lv_at hl 5 rfl) ?_
        refine lv_iconst (pc := 49) (v := (1 : Int32)) hx hb dX10_longest_49 rfl ?_
        refine lv_isub (pc := 50) hx hb dX10_longest_50 ?_
        refine yald (pc := 51) B hW mr5 dX10_longest_51 hf (fun hf => ?_)
        refine yic_ne (pc := 52) (tgt := 60) B dX10_longest_52 (by decide) hf (fun hf => ?_) (fun hf => ?_)
        · refine lv_iload (pc := 60) hx hb dX10_longest_60 (lv_at hl 5 rfl) ?_
          exact t_X10_longest_62 B @ih (lv_sub hl [0, 1, 2, 3, 5] rfl) hW hf
        · refine lv_iload (pc := 55) hx hb dX10_longest_55 (lv_at hl 4 rfl) ?_
          refine lv_goto (pc := 57) (tgt := 62) hx hb dX10_longest_57 (by decide) ?_
          exact t_X10_longest_62 B @ih (lv_sub hl [0, 1, 2, 3, 5] rfl) hW hf
noncomputable def f_X10_longest (x1 : Int32) (μ : Mem) : Option (Int32 × Mem) := zbind (f_X10_in x1 (0 : Int32) (1 : Int32) μ) (fun r2 μ1 => (if r2 = 0 then zbind (f_X10_bad μ1) (fun r4 μ3 => some (r4, μ3)) else f_X10_longest_24 zFU x1 (-1 : Int32) (0 : Int32) (0 : Int32) (0 : Int32) μ1))
set_option maxRecDepth 100000 in
theorem c_X10_longest {G : ZG} {l : Launch} {x1 : Int32} {μ : Mem} {r : Int32} {μ' : Mem} (h : f_X10_longest x1 μ = some (r, μ')) : zC ZM G l yX10_longest cX10_longest 6 (some .int) 2 [.ref (zad G 0), .int x1] μ (some (.int r)) μ' := by
  refine zC.mk (by decide +kernel) (Nat.le_of_ble_eq_true rfl) ?_
  intro p e s m below meth c ls B hl hW
  have B : zB ZM G cX10_longest 6 "DarkSharesModel" (some .int) p s m [.ref (zad G 0), .int x1].toArray meth c := B
  have hl : lv_has ls 6 [(0, .ref (zad G 0)), (1, .int x1)] := hl
  have hx := B.1
  have hb := B.2.1
  have hf := h
  unfold f_X10_longest at hf
  refine lv_iload_n (pc := 0) hx hb dX10_longest_0 rfl (lv_at hl 1 rfl) ?_
  refine lv_iconst (pc := 1) (v := (0 : Int32)) hx hb dX10_longest_1 rfl ?_
  refine lv_iconst (pc := 2) (v := (1 : Int32)) hx hb dX10_longest_2 rfl ?_
  refine s_X10_81 (pc := 3) B hW hl.1 (by decide) (zle8 rfl) dX10_longest_3 (fun _ _ h => c_X10_in h) hf (fun r2 μ1 H locs hW hf => ?_)
  refine yif_ne (pc := 6) (tgt := 14) B dX10_longest_6 (by decide) hf (fun hf => ?_) (fun hf => ?_)
  · refine lv_iconst (pc := 14) (v := (-1 : Int32)) hx hb dX10_longest_14 rfl ?_
    refine lv_istore_n (pc := 15) (lv' := [(2, .int (-1 : Int32)), (0, .ref (zad G 0)), (1, .int x1)]) hx hb dX10_longest_15 rfl hl (by decide) rfl (fun ls hl => ?_)
    refine lv_iconst (pc := 16) (v := (0 : Int32)) hx hb dX10_longest_16 rfl ?_
    refine lv_istore_n (pc := 17) (lv' := [(3, .int (0 : Int32)), (2, .int (-1 : Int32)), (0, .ref (zad G 0)), (1, .int x1)]) hx hb dX10_longest_17 rfl hl (by decide) rfl (fun ls hl => ?_)
    refine lv_iconst (pc := 18) (v := (0 : Int32)) hx hb dX10_longest_18 rfl ?_
    refine lv_istore (pc := 19) (lv' := [(4, .int (0 : Int32)), (3, .int (0 : Int32)), (2, .int (-1 : Int32)), (0, .ref (zad G 0)), (1, .int x1)]) hx hb dX10_longest_19 hl (by decide) rfl (fun ls hl => ?_)
    refine lv_iconst (pc := 21) (v := (0 : Int32)) hx hb dX10_longest_21 rfl ?_
    refine lv_istore (pc := 22) (lv' := [(5, .int (0 : Int32)), (4, .int (0 : Int32)), (3, .int (0 : Int32)), (2, .int (-1 : Int32)), (0, .ref (zad G 0)), (1, .int x1)]) hx hb dX10_longest_22 hl (by decide) rfl (fun ls hl => ?_)
    exact t_X10_longest_24 B zFU (lv_sub hl [4, 5, 3, 2, 1, 0] rfl) hW hf
  · refine lv_aload_n (pc := 9) hx hb dX10_longest_9 rfl (lv_at hl 0 rfl) ?_
    refine s_X10_85 (pc := 10) B hW hl.1 (by decide) (zle8 rfl) dX10_longest_10 (fun _ _ h => c_X10_bad h) hf (fun r4 μ3 H locs hW hf => ?_)
    exact zreti (pc := 13) B hW hf dX10_longest_13
noncomputable def f_X10_together_71 (K34 : Int32 → Int32 → Int32 → Int32 → Int32 → Mem → Option (Int32 × Mem)) (x1 : Int32) (x2 : Int32) (x3 : Int32) (x5 : Int32) (s0 : Int32) (μ : Mem) : Option (Int32 × Mem) := (if s0 ≤ x3 then K34 x1 x2 x3 s0 (x5 + (1 : Int32)) μ else K34 x1 x2 s0 s0 (x5 + (1 : Int32)) μ)
set_option maxRecDepth 100000 in
theorem t_X10_together_71 {G : ZG} {p : Program} {l : Launch} {e : Env} {s : State} {m : MethodId} {args : Array Value} {below : List Frame} {meth : Method} {c : Code} (B : zB ZM G cX10_together 6 "DarkSharesModel" (some .int) p s m args meth c) {K34 : Int32 → Int32 → Int32 → Int32 → Int32 → Mem → Option (Int32 × Mem)} (hK34 : ∀ {x1 : Int32} {x2 : Int32} {x3 : Int32} {x4 : Int32} {x5 : Int32} {μ : Mem} {H : Heap} {locs : List Loc} {ls : Array Slot} {r : Int32} {μ' : Mem}, lv_has ls 6 [(0, .ref (zad G 0)), (1, .int x1), (2, .int x2), (3, .int x3), (4, .int x4), (5, .int x5)] → zW ZM G s H locs μ → K34 x1 x2 x3 x4 x5 μ = some (r, μ') → W p l e (zR 3) s m args below meth c H locs 0 0 (MQ below (zQ ZM G (some (.int r)) μ') args s 0 0 (zAd ZM G)) (F0 m 34 ls [])) {x1 : Int32} {x2 : Int32} {x3 : Int32} {x5 : Int32} {s0 : Int32} {μ : Mem} {H : Heap} {locs : List Loc} {ls : Array Slot} {r : Int32} {μ' : Mem} (hl : lv_has ls 6 [(0, .ref (zad G 0)), (1, .int x1), (2, .int x2), (3, .int x3), (5, .int x5)]) (hW : zW ZM G s H locs μ) (hf : f_X10_together_71 K34 x1 x2 x3 x5 s0 μ = some (r, μ')) : W p l e (zR 3) s m args below meth c H locs 0 0 (MQ below (zQ ZM G (some (.int r)) μ') args s 0 0 (zAd ZM G)) (F0 m 71 ls [.int s0]) := by
  have hx := B.1
  have hb := B.2.1
  unfold f_X10_together_71 at hf
  refine lv_istore (pc := 71) (lv' := [(4, .int s0), (0, .ref (zad G 0)), (1, .int x1), (2, .int x2), (3, .int x3), (5, .int x5)]) hx hb dX10_together_71 hl (by decide) rfl (fun ls hl => ?_)
  refine lv_iload (pc := 73) hx hb dX10_together_73 (lv_at hl 0 rfl) ?_
  refine lv_iload_n (pc := 75) hx hb dX10_together_75 rfl (lv_at hl 4 rfl) ?_
  refine yic_le (pc := 76) (tgt := 84) B dX10_together_76 (by decide) hf (fun hf => ?_) (fun hf => ?_)
  · refine lv_iload_n (pc := 84) hx hb dX10_together_84 rfl (lv_at hl 4 rfl) ?_
    refine lv_istore_n (pc := 85) (lv' := [(3, .int x3), (4, .int s0), (0, .ref (zad G 0)), (1, .int x1), (2, .int x2), (5, .int x5)]) hx hb dX10_together_85 rfl hl (by decide) rfl (fun ls hl => ?_)
    refine lv_iinc (pc := 86) (v := (x5 + (1 : Int32))) (lv' := [(5, .int (x5 + (1 : Int32))), (3, .int x3), (4, .int s0), (0, .ref (zad G 0)), (1, .int x1), (2, .int x2)]) hx hb dX10_together_86 hl (k := 5) rfl rfl (by decide) rfl (fun ls hl => ?_)
    refine lv_goto (pc := 89) (tgt := 34) hx hb dX10_together_89 (by decide) ?_
    exact hK34 (lv_sub hl [3, 4, 5, 1, 2, 0] rfl) hW hf
  · refine lv_iload (pc := 79) hx hb dX10_together_79 (lv_at hl 0 rfl) ?_
    refine lv_goto (pc := 81) (tgt := 85) hx hb dX10_together_81 (by decide) ?_
    refine lv_istore_n (pc := 85) (lv' := [(3, .int s0), (4, .int s0), (0, .ref (zad G 0)), (1, .int x1), (2, .int x2), (5, .int x5)]) hx hb dX10_together_85 rfl hl (by decide) rfl (fun ls hl => ?_)
    refine lv_iinc (pc := 86) (v := (x5 + (1 : Int32))) (lv' := [(5, .int (x5 + (1 : Int32))), (3, .int s0), (4, .int s0), (0, .ref (zad G 0)), (1, .int x1), (2, .int x2)]) hx hb dX10_together_86 hl (k := 5) rfl rfl (by decide) rfl (fun ls hl => ?_)
    refine lv_goto (pc := 89) (tgt := 34) hx hb dX10_together_89 (by decide) ?_
    exact hK34 (lv_sub hl [3, 4, 5, 1, 2, 0] rfl) hW hf
noncomputable def f_X10_together_34 : Nat → Int32 → Int32 → Int32 → Int32 → Int32 → Mem → Option (Int32 × Mem)
  | 0, _, _, _, _, _, _ => none
  | n + 1, x1, x2, x3, x4, x5, μ => (if (12 : Int32) ≤ x5 then some (x3, μ) else zck (zin x5 12) ((if (μ.1 5 (x5).toNatClampNeg) = x1 then f_X10_together_71 (fun a0 a1 a2 a3 a4 ν => f_X10_together_34 n a0 a1 a2 a3 a4 ν) x1 x2 x3 x5 (x4 + (1 : Int32)) μ else zck (zin x5 12) ((if (μ.1 5 (x5).toNatClampNeg) = x2 then f_X10_together_71 (fun a0 a1 a2 a3 a4 ν => f_X10_together_34 n a0 a1 a2 a3 a4 ν) x1 x2 x3 x5 (x4 + (1 : Int32)) μ else f_X10_together_71 (fun a0 a1 a2 a3 a4 ν => f_X10_together_34 n a0 a1 a2 a3 a4 ν) x1 x2 x3 x5 (0 : Int32) μ)))))
set_option maxRecDepth 100000 in
theorem t_X10_together_34 {G : ZG} {p : Program} {l : Launch} {e : Env} {s : State} {m : MethodId} {args : Array Value} {below : List Frame} {meth : Method} {c : Code} (B : zB ZM G cX10_together 6 "DarkSharesModel" (some .int) p s m args meth c) : ∀ (n : Nat) {x1 : Int32} {x2 : Int32} {x3 : Int32} {x4 : Int32} {x5 : Int32} {μ : Mem} {H : Heap} {locs : List Loc} {ls : Array Slot} {r : Int32} {μ' : Mem}, lv_has ls 6 [(0, .ref (zad G 0)), (1, .int x1), (2, .int x2), (3, .int x3), (4, .int x4), (5, .int x5)] → zW ZM G s H locs μ → f_X10_together_34 n x1 x2 x3 x4 x5 μ = some (r, μ') → W p l e (zR 3) s m args below meth c H locs 0 0 (MQ below (zQ ZM G (some (.int r)) μ') args s 0 0 (zAd ZM G)) (F0 m 34 ls []) := by
  have hx := B.1
  have hb := B.2.1
  intro n
  induction n with
  | zero => intro _ _ _ _ _ _ _ _ _ _ _ hl hW hf; cases hf
  | succ n ih =>
    intro x1 x2 x3 x4 x5 μ H locs ls r μ' hl hW hf
    rw [f_X10_together_34] at hf
    refine lv_iload (pc := 34) hx hb dX10_together_34 (lv_at hl 5 rfl) ?_
    refine lv_bipush (pc := 36) (v := (12 : Int32)) hx hb dX10_together_36 rfl ?_
    refine yic_ge (pc := 38) (tgt := 92) B dX10_together_38 (by decide) hf (fun hf => ?_) (fun hf => ?_)
    · refine lv_iload_n (pc := 92) hx hb dX10_together_92 rfl (lv_at hl 3 rfl) ?_
      exact zreti (pc := 93) B hW hf dX10_together_93
    · refine lv_aload_n (pc := 41) hx hb dX10_together_41 rfl (lv_at hl 0 rfl) ?_
      refine g_X10_22 (pc := 42) B hW dX10_together_42 ?_
      refine lv_iload (pc := 45) hx hb dX10_together_45 (lv_at hl 5 rfl) ?_
      refine yald (pc := 47) B hW mr5 dX10_together_47 hf (fun hf => ?_)
      refine lv_iload_n (pc := 48) hx hb dX10_together_48 rfl (lv_at hl 1 rfl) ?_
      refine yic_eq (pc := 49) (tgt := 63) B dX10_together_49 (by decide) hf (fun hf => ?_) (fun hf => ?_)
      · refine lv_iload (pc := 63) hx hb dX10_together_63 (lv_at hl 4 rfl) ?_
        refine lv_iconst (pc := 65) (v := (1 : Int32)) hx hb dX10_together_65 rfl ?_
        refine lv_iadd (pc := 66) hx hb dX10_together_66 ?_
        refine lv_goto (pc := 67) (tgt := 71) hx hb dX10_together_67 (by decide) ?_
        exact t_X10_together_71 B @ih (lv_sub hl [0, 1, 2, 3, 5] rfl) hW hf
      · refine lv_aload_n (pc := 52) hx hb dX10_together_52 rfl (lv_at hl 0 rfl) ?_
        refine g_X10_22 (pc := 53) B hW dX10_together_53 ?_
        refine lv_iload (pc := 56) hx hb dX10_together_56 (lv_at hl 5 rfl) ?_
        refine yald (pc := 58) B hW mr5 dX10_together_58 hf (fun hf => ?_)
        refine lv_iload_n (pc := 59) hx hb dX10_together_59 rfl (lv_at hl 2 rfl) ?_
        refine yic_ne (pc := 60) (tgt := 70) B dX10_together_60 (by decide) hf (fun hf => ?_) (fun hf => ?_)
        · refine lv_iconst (pc := 70) (v := (0 : Int32)) hx hb dX10_together_70 rfl ?_
          exact t_X10_together_71 B @ih (lv_sub hl [0, 1, 2, 3, 5] rfl) hW hf
        · refine lv_iload (pc := 63) hx hb dX10_together_63 (lv_at hl 4 rfl) ?_
          refine lv_iconst (pc := 65) (v := (1 : Int32)) hx hb dX10_together_65 rfl ?_
          refine lv_iadd (pc := 66) hx hb dX10_together_66 ?_
          refine lv_goto (pc := 67) (tgt := 71) hx hb dX10_together_67 (by decide) ?_
          exact t_X10_together_71 B @ih (lv_sub hl [0, 1, 2, 3, 5] rfl) hW hf
noncomputable def f_X10_together (x1 : Int32) (x2 : Int32) (μ : Mem) : Option (Int32 × Mem) := zbind (f_X10_isBoy x1 μ) (fun r2 μ1 => (if r2 = 0 then zbind (f_X10_bad μ1) (fun r4 μ3 => some (r4, μ3)) else zbind (f_X10_isBoy x2 μ1) (fun r6 μ5 => (if r6 = 0 then zbind (f_X10_bad μ5) (fun r8 μ7 => some (r8, μ7)) else (if x1 = x2 then zbind (f_X10_bad μ5) (fun r10 μ9 => some (r10, μ9)) else f_X10_together_34 zFU x1 x2 (0 : Int32) (0 : Int32) (0 : Int32) μ5)))))
set_option maxRecDepth 100000 in
theorem c_X10_together {G : ZG} {l : Launch} {x1 : Int32} {x2 : Int32} {μ : Mem} {r : Int32} {μ' : Mem} (h : f_X10_together x1 x2 μ = some (r, μ')) : zC ZM G l yX10_together cX10_together 6 (some .int) 3 [.ref (zad G 0), .int x1, .int x2] μ (some (.int r)) μ' := by
  refine zC.mk (by decide +kernel) (Nat.le_of_ble_eq_true rfl) ?_
  intro p e s m below meth c ls B hl hW
  have B : zB ZM G cX10_together 6 "DarkSharesModel" (some .int) p s m [.ref (zad G 0), .int x1, .int x2].toArray meth c := B
  have hl : lv_has ls 6 [(0, .ref (zad G 0)), (1, .int x1), (2, .int x2)] := hl
  have hx := B.1
  have hb := B.2.1
  have hf := h
  unfold f_X10_together at hf
  refine lv_aload_n (pc := 0) hx hb dX10_together_0 rfl (lv_at hl 0 rfl) ?_
  refine lv_iload_n (pc := 1) hx hb dX10_together_1 rfl (lv_at hl 1 rfl) ?_
  refine s_X10_171 (pc := 2) B hW hl.1 (by decide) (zle8 rfl) dX10_together_2 (fun _ _ h => c_X10_isBoy h) hf (fun r2 μ1 H locs hW hf => ?_)
  refine yif_eq (pc := 5) (tgt := 21) B dX10_together_5 (by decide) hf (fun hf => ?_) (fun hf => ?_)
  · refine lv_aload_n (pc := 21) hx hb dX10_together_21 rfl (lv_at hl 0 rfl) ?_
    refine s_X10_85 (pc := 22) B hW hl.1 (by decide) (zle8 rfl) dX10_together_22 (fun _ _ h => c_X10_bad h) hf (fun r4 μ3 H locs hW hf => ?_)
    exact zreti (pc := 25) B hW hf dX10_together_25
  · refine lv_aload_n (pc := 8) hx hb dX10_together_8 rfl (lv_at hl 0 rfl) ?_
    refine lv_iload_n (pc := 9) hx hb dX10_together_9 rfl (lv_at hl 2 rfl) ?_
    refine s_X10_171 (pc := 10) B hW hl.1 (by decide) (zle8 rfl) dX10_together_10 (fun _ _ h => c_X10_isBoy h) hf (fun r6 μ5 H locs hW hf => ?_)
    refine yif_eq (pc := 13) (tgt := 21) B dX10_together_13 (by decide) hf (fun hf => ?_) (fun hf => ?_)
    · refine lv_aload_n (pc := 21) hx hb dX10_together_21 rfl (lv_at hl 0 rfl) ?_
      refine s_X10_85 (pc := 22) B hW hl.1 (by decide) (zle8 rfl) dX10_together_22 (fun _ _ h => c_X10_bad h) hf (fun r8 μ7 H locs hW hf => ?_)
      exact zreti (pc := 25) B hW hf dX10_together_25
    · refine lv_iload_n (pc := 16) hx hb dX10_together_16 rfl (lv_at hl 1 rfl) ?_
      refine lv_iload_n (pc := 17) hx hb dX10_together_17 rfl (lv_at hl 2 rfl) ?_
      refine yic_ne (pc := 18) (tgt := 26) B dX10_together_18 (by decide) hf (fun hf => ?_) (fun hf => ?_)
      · refine lv_iconst (pc := 26) (v := (0 : Int32)) hx hb dX10_together_26 rfl ?_
        refine lv_istore_n (pc := 27) (lv' := [(3, .int (0 : Int32)), (0, .ref (zad G 0)), (1, .int x1), (2, .int x2)]) hx hb dX10_together_27 rfl hl (by decide) rfl (fun ls hl => ?_)
        refine lv_iconst (pc := 28) (v := (0 : Int32)) hx hb dX10_together_28 rfl ?_
        refine lv_istore (pc := 29) (lv' := [(4, .int (0 : Int32)), (3, .int (0 : Int32)), (0, .ref (zad G 0)), (1, .int x1), (2, .int x2)]) hx hb dX10_together_29 hl (by decide) rfl (fun ls hl => ?_)
        refine lv_iconst (pc := 31) (v := (0 : Int32)) hx hb dX10_together_31 rfl ?_
        refine lv_istore (pc := 32) (lv' := [(5, .int (0 : Int32)), (4, .int (0 : Int32)), (3, .int (0 : Int32)), (0, .ref (zad G 0)), (1, .int x1), (2, .int x2)]) hx hb dX10_together_32 hl (by decide) rfl (fun ls hl => ?_)
        exact t_X10_together_34 B zFU (lv_sub hl [3, 4, 5, 2, 1, 0] rfl) hW hf
      · refine lv_aload_n (pc := 21) hx hb dX10_together_21 rfl (lv_at hl 0 rfl) ?_
        refine s_X10_85 (pc := 22) B hW hl.1 (by decide) (zle8 rfl) dX10_together_22 (fun _ _ h => c_X10_bad h) hf (fun r10 μ9 H locs hW hf => ?_)
        exact zreti (pc := 25) B hW hf dX10_together_25
noncomputable def f_X10_note (x1 : Int32) (x2 : Int32) (x3 : Int32) (x4 : Int32) (μ : Mem) : Option (Int32 × Mem) := zbind (f_X10_isBoy x1 μ) (fun r2 μ1 => (if r2 = 0 then zbind (f_X10_bad μ1) (fun r4 μ3 => some (r4, μ3)) else zbind (f_X10_isCell x2 μ1) (fun r6 μ5 => (if r6 = 0 then zbind (f_X10_bad μ5) (fun r8 μ7 => some (r8, μ7)) else zbind (f_X10_in x3 (0 : Int32) (20 : Int32) μ5) (fun r10 μ9 => (if r10 = 0 then zbind (f_X10_bad μ9) (fun r12 μ11 => some (r12, μ11)) else zbind (f_X10_in x4 (0 : Int32) (1 : Int32) μ9) (fun r14 μ13 => (if r14 = 0 then zbind (f_X10_bad μ13) (fun r23 μ22 => some (r23, μ22)) else (if (μ13.1 0 2) = (6 : Int32) then zbind (f_X10_full μ13) (fun r21 μ20 => some (r21, μ20)) else zck (zin (μ13.1 0 2) 6) (zlet (zI μ13 6 ((μ13.1 0 2)).toNatClampNeg x1) (fun μ15 => zck (zin (μ15.1 0 2) 6) (zlet (zI μ15 7 ((μ15.1 0 2)).toNatClampNeg x2) (fun μ16 => zck (zin (μ16.1 0 2) 6) (zlet (zI μ16 8 ((μ16.1 0 2)).toNatClampNeg x3) (fun μ17 => zck (zin (μ17.1 0 2) 6) (zlet (zI μ17 9 ((μ17.1 0 2)).toNatClampNeg x4) (fun μ18 => zlet (zI μ18 0 2 ((μ18.1 0 2) + (1 : Int32))) (fun μ19 => some ((μ19.1 0 2), μ19)))))))))))))))))))
set_option maxRecDepth 100000 in
theorem c_X10_note {G : ZG} {l : Launch} {x1 : Int32} {x2 : Int32} {x3 : Int32} {x4 : Int32} {μ : Mem} {r : Int32} {μ' : Mem} (h : f_X10_note x1 x2 x3 x4 μ = some (r, μ')) : zC ZM G l yX10_note cX10_note 5 (some .int) 3 [.ref (zad G 0), .int x1, .int x2, .int x3, .int x4] μ (some (.int r)) μ' := by
  refine zC.mk (by decide +kernel) (Nat.le_of_ble_eq_true rfl) ?_
  intro p e s m below meth c ls B hl hW
  have B : zB ZM G cX10_note 5 "DarkSharesModel" (some .int) p s m [.ref (zad G 0), .int x1, .int x2, .int x3, .int x4].toArray meth c := B
  have hl : lv_has ls 5 [(0, .ref (zad G 0)), (1, .int x1), (2, .int x2), (3, .int x3), (4, .int x4)] := hl
  have hx := B.1
  have hb := B.2.1
  have hf := h
  unfold f_X10_note at hf
  refine lv_aload_n (pc := 0) hx hb dX10_note_0 rfl (lv_at hl 0 rfl) ?_
  refine lv_iload_n (pc := 1) hx hb dX10_note_1 rfl (lv_at hl 1 rfl) ?_
  refine s_X10_171 (pc := 2) B hW hl.1 (by decide) (zle8 rfl) dX10_note_2 (fun _ _ h => c_X10_isBoy h) hf (fun r2 μ1 H locs hW hf => ?_)
  refine yif_eq (pc := 5) (tgt := 35) B dX10_note_5 (by decide) hf (fun hf => ?_) (fun hf => ?_)
  · refine lv_aload_n (pc := 35) hx hb dX10_note_35 rfl (lv_at hl 0 rfl) ?_
    refine s_X10_85 (pc := 36) B hW hl.1 (by decide) (zle8 rfl) dX10_note_36 (fun _ _ h => c_X10_bad h) hf (fun r4 μ3 H locs hW hf => ?_)
    exact zreti (pc := 39) B hW hf dX10_note_39
  · refine lv_iload_n (pc := 8) hx hb dX10_note_8 rfl (lv_at hl 2 rfl) ?_
    refine s_X10_168 (pc := 9) B hW hl.1 (by decide) (zle8 rfl) dX10_note_9 (fun _ _ h => c_X10_isCell h) hf (fun r6 μ5 H locs hW hf => ?_)
    refine yif_eq (pc := 12) (tgt := 35) B dX10_note_12 (by decide) hf (fun hf => ?_) (fun hf => ?_)
    · refine lv_aload_n (pc := 35) hx hb dX10_note_35 rfl (lv_at hl 0 rfl) ?_
      refine s_X10_85 (pc := 36) B hW hl.1 (by decide) (zle8 rfl) dX10_note_36 (fun _ _ h => c_X10_bad h) hf (fun r8 μ7 H locs hW hf => ?_)
      exact zreti (pc := 39) B hW hf dX10_note_39
    · refine lv_iload_n (pc := 15) hx hb dX10_note_15 rfl (lv_at hl 3 rfl) ?_
      refine lv_iconst (pc := 16) (v := (0 : Int32)) hx hb dX10_note_16 rfl ?_
      refine lv_bipush (pc := 17) (v := (20 : Int32)) hx hb dX10_note_17 rfl ?_
      refine s_X10_81 (pc := 19) B hW hl.1 (by decide) (zle8 rfl) dX10_note_19 (fun _ _ h => c_X10_in h) hf (fun r10 μ9 H locs hW hf => ?_)
      refine yif_eq (pc := 22) (tgt := 35) B dX10_note_22 (by decide) hf (fun hf => ?_) (fun hf => ?_)
      · refine lv_aload_n (pc := 35) hx hb dX10_note_35 rfl (lv_at hl 0 rfl) ?_
        refine s_X10_85 (pc := 36) B hW hl.1 (by decide) (zle8 rfl) dX10_note_36 (fun _ _ h => c_X10_bad h) hf (fun r12 μ11 H locs hW hf => ?_)
        exact zreti (pc := 39) B hW hf dX10_note_39
      · refine lv_iload (pc := 25) hx hb dX10_note_25 (lv_at hl 4 rfl) ?_
        refine lv_iconst (pc := 27) (v := (0 : Int32)) hx hb dX10_note_27 rfl ?_
        refine lv_iconst (pc := 28) (v := (1 : Int32)) hx hb dX10_note_28 rfl ?_
        refine s_X10_81 (pc := 29) B hW hl.1 (by decide) (zle8 rfl) dX10_note_29 (fun _ _ h => c_X10_in h) hf (fun r14 μ13 H locs hW hf => ?_)
        refine yif_ne (pc := 32) (tgt := 40) B dX10_note_32 (by decide) hf (fun hf => ?_) (fun hf => ?_)
        · refine lv_aload_n (pc := 40) hx hb dX10_note_40 rfl (lv_at hl 0 rfl) ?_
          refine g_X10_75 (pc := 41) B hW dX10_note_41 ?_
          refine lv_bipush (pc := 44) (v := (6 : Int32)) hx hb dX10_note_44 rfl ?_
          refine yic_ne (pc := 46) (tgt := 54) B dX10_note_46 (by decide) hf (fun hf => ?_) (fun hf => ?_)
          · refine lv_aload_n (pc := 54) hx hb dX10_note_54 rfl (lv_at hl 0 rfl) ?_
            refine g_X10_25 (pc := 55) B hW dX10_note_55 ?_
            refine lv_aload_n (pc := 58) hx hb dX10_note_58 rfl (lv_at hl 0 rfl) ?_
            refine g_X10_75 (pc := 59) B hW dX10_note_59 ?_
            refine lv_iload_n (pc := 62) hx hb dX10_note_62 rfl (lv_at hl 1 rfl) ?_
            refine yast (pc := 63) B hW mr6 dX10_note_63 hf (fun μ15 H locs hW hf => ?_)
            refine lv_aload_n (pc := 64) hx hb dX10_note_64 rfl (lv_at hl 0 rfl) ?_
            refine g_X10_28 (pc := 65) B hW dX10_note_65 ?_
            refine lv_aload_n (pc := 68) hx hb dX10_note_68 rfl (lv_at hl 0 rfl) ?_
            refine g_X10_75 (pc := 69) B hW dX10_note_69 ?_
            refine lv_iload_n (pc := 72) hx hb dX10_note_72 rfl (lv_at hl 2 rfl) ?_
            refine yast (pc := 73) B hW mr7 dX10_note_73 hf (fun μ16 H locs hW hf => ?_)
            refine lv_aload_n (pc := 74) hx hb dX10_note_74 rfl (lv_at hl 0 rfl) ?_
            refine g_X10_31 (pc := 75) B hW dX10_note_75 ?_
            refine lv_aload_n (pc := 78) hx hb dX10_note_78 rfl (lv_at hl 0 rfl) ?_
            refine g_X10_75 (pc := 79) B hW dX10_note_79 ?_
            refine lv_iload_n (pc := 82) hx hb dX10_note_82 rfl (lv_at hl 3 rfl) ?_
            refine yast (pc := 83) B hW mr8 dX10_note_83 hf (fun μ17 H locs hW hf => ?_)
            refine lv_aload_n (pc := 84) hx hb dX10_note_84 rfl (lv_at hl 0 rfl) ?_
            refine g_X10_34 (pc := 85) B hW dX10_note_85 ?_
            refine lv_aload_n (pc := 88) hx hb dX10_note_88 rfl (lv_at hl 0 rfl) ?_
            refine g_X10_75 (pc := 89) B hW dX10_note_89 ?_
            refine lv_iload (pc := 92) hx hb dX10_note_92 (lv_at hl 4 rfl) ?_
            refine yast (pc := 94) B hW mr9 dX10_note_94 hf (fun μ18 H locs hW hf => ?_)
            refine lv_aload_n (pc := 95) hx hb dX10_note_95 rfl (lv_at hl 0 rfl) ?_
            refine lv_dup (pc := 96) hx hb dX10_note_96 rfl ?_
            refine g_X10_75 (pc := 97) B hW dX10_note_97 ?_
            refine lv_iconst (pc := 100) (v := (1 : Int32)) hx hb dX10_note_100 rfl ?_
            refine lv_iadd (pc := 101) hx hb dX10_note_101 ?_
            refine p_X10_75 (pc := 102) B hW dX10_note_102 hf (fun μ19 H locs hW hf => ?_)
            refine lv_aload_n (pc := 105) hx hb dX10_note_105 rfl (lv_at hl 0 rfl) ?_
            refine g_X10_75 (pc := 106) B hW dX10_note_106 ?_
            exact zreti (pc := 109) B hW hf dX10_note_109
          · refine lv_aload_n (pc := 49) hx hb dX10_note_49 rfl (lv_at hl 0 rfl) ?_
            refine s_X10_89 (pc := 50) B hW hl.1 (by decide) (zle8 rfl) dX10_note_50 (fun _ _ h => c_X10_full h) hf (fun r21 μ20 H locs hW hf => ?_)
            exact zreti (pc := 53) B hW hf dX10_note_53
        · refine lv_aload_n (pc := 35) hx hb dX10_note_35 rfl (lv_at hl 0 rfl) ?_
          refine s_X10_85 (pc := 36) B hW hl.1 (by decide) (zle8 rfl) dX10_note_36 (fun _ _ h => c_X10_bad h) hf (fun r23 μ22 H locs hW hf => ?_)
          exact zreti (pc := 39) B hW hf dX10_note_39
noncomputable def f_X10_forget (μ : Mem) : Option (Int32 × Mem) := zlet (zI μ 0 2 (0 : Int32)) (fun μ1 => some ((μ.1 0 2), μ1))
set_option maxRecDepth 100000 in
theorem c_X10_forget {G : ZG} {l : Launch} {μ : Mem} {r : Int32} {μ' : Mem} (h : f_X10_forget μ = some (r, μ')) : zC ZM G l yX10_forget cX10_forget 2 (some .int) 1 [.ref (zad G 0)] μ (some (.int r)) μ' := by
  refine zC.mk (by decide +kernel) (Nat.le_of_ble_eq_true rfl) ?_
  intro p e s m below meth c ls B hl hW
  have B : zB ZM G cX10_forget 2 "DarkSharesModel" (some .int) p s m [.ref (zad G 0)].toArray meth c := B
  have hl : lv_has ls 2 [(0, .ref (zad G 0))] := hl
  have hx := B.1
  have hb := B.2.1
  have hf := h
  unfold f_X10_forget at hf
  refine lv_aload_n (pc := 0) hx hb dX10_forget_0 rfl (lv_at hl 0 rfl) ?_
  refine g_X10_75 (pc := 1) B hW dX10_forget_1 ?_
  refine lv_istore_n (pc := 4) (lv' := [(1, .int (μ.1 0 2)), (0, .ref (zad G 0))]) hx hb dX10_forget_4 rfl hl (by decide) rfl (fun ls hl => ?_)
  refine lv_aload_n (pc := 5) hx hb dX10_forget_5 rfl (lv_at hl 1 rfl) ?_
  refine lv_iconst (pc := 6) (v := (0 : Int32)) hx hb dX10_forget_6 rfl ?_
  refine p_X10_75 (pc := 7) B hW dX10_forget_7 hf (fun μ1 H locs hW hf => ?_)
  refine lv_iload_n (pc := 10) hx hb dX10_forget_10 rfl (lv_at hl 0 rfl) ?_
  exact zreti (pc := 11) B hW hf dX10_forget_11
noncomputable def f_X10_kindsOf_69 (K4 : Int32 → Int32 → Int32 → Mem → Option (Int32 × Mem)) (K16 : Int32 → Int32 → Int32 → Int32 → Int32 → Mem → Option (Int32 × Mem)) (x1 : Int32) (x2 : Int32) (x3 : Int32) (x5 : Int32) (s0 : Int32) (s1 : Int32) (s2 : Int32) (μ : Mem) : Option (Int32 × Mem) := zbind (f_X10_valueBy s0 s1 s2 μ) (fun r2 μ1 => zck (zin x5 6) ((if r2 = (μ1.1 8 (x5).toNatClampNeg) then K16 x1 x2 x3 (1 : Int32) (x5 + (1 : Int32)) μ1 else K16 x1 x2 x3 (0 : Int32) (x5 + (1 : Int32)) μ1)))
set_option maxRecDepth 100000 in
theorem t_X10_kindsOf_69 {G : ZG} {p : Program} {l : Launch} {e : Env} {s : State} {m : MethodId} {args : Array Value} {below : List Frame} {meth : Method} {c : Code} (B : zB ZM G cX10_kindsOf 7 "DarkSharesModel" (some .int) p s m args meth c) {K4 : Int32 → Int32 → Int32 → Mem → Option (Int32 × Mem)} (hK4 : ∀ {x1 : Int32} {x2 : Int32} {x3 : Int32} {μ : Mem} {H : Heap} {locs : List Loc} {ls : Array Slot} {r : Int32} {μ' : Mem}, lv_has ls 7 [(0, .ref (zad G 0)), (1, .int x1), (2, .int x2), (3, .int x3)] → zW ZM G s H locs μ → K4 x1 x2 x3 μ = some (r, μ') → W p l e (zR 3) s m args below meth c H locs 0 0 (MQ below (zQ ZM G (some (.int r)) μ') args s 0 0 (zAd ZM G)) (F0 m 4 ls [])) {K16 : Int32 → Int32 → Int32 → Int32 → Int32 → Mem → Option (Int32 × Mem)} (hK16 : ∀ {x1 : Int32} {x2 : Int32} {x3 : Int32} {x4 : Int32} {x5 : Int32} {μ : Mem} {H : Heap} {locs : List Loc} {ls : Array Slot} {r : Int32} {μ' : Mem}, lv_has ls 7 [(0, .ref (zad G 0)), (1, .int x1), (2, .int x2), (3, .int x3), (4, .int x4), (5, .int x5)] → zW ZM G s H locs μ → K16 x1 x2 x3 x4 x5 μ = some (r, μ') → W p l e (zR 3) s m args below meth c H locs 0 0 (MQ below (zQ ZM G (some (.int r)) μ') args s 0 0 (zAd ZM G)) (F0 m 16 ls [])) {x1 : Int32} {x2 : Int32} {x3 : Int32} {x5 : Int32} {s0 : Int32} {s1 : Int32} {s2 : Int32} {μ : Mem} {H : Heap} {locs : List Loc} {ls : Array Slot} {r : Int32} {μ' : Mem} (hl : lv_has ls 7 [(0, .ref (zad G 0)), (1, .int x1), (2, .int x2), (3, .int x3), (5, .int x5)]) (hW : zW ZM G s H locs μ) (hf : f_X10_kindsOf_69 K4 K16 x1 x2 x3 x5 s0 s1 s2 μ = some (r, μ')) : W p l e (zR 3) s m args below meth c H locs 0 0 (MQ below (zQ ZM G (some (.int r)) μ') args s 0 0 (zAd ZM G)) (F0 m 69 ls [.int s2, .int s1, .int s0]) := by
  have hx := B.1
  have hb := B.2.1
  unfold f_X10_kindsOf_69 at hf
  refine s_X10_154 (pc := 69) B hW hl.1 (by decide) (zle8 rfl) dX10_kindsOf_69 (fun _ _ h => c_X10_valueBy h) hf (fun r2 μ1 H locs hW hf => ?_)
  refine lv_aload_n (pc := 72) hx hb dX10_kindsOf_72 rfl (lv_at hl 0 rfl) ?_
  refine g_X10_31 (pc := 73) B hW dX10_kindsOf_73 ?_
  refine lv_iload (pc := 76) hx hb dX10_kindsOf_76 (lv_at hl 4 rfl) ?_
  refine yald (pc := 78) B hW mr8 dX10_kindsOf_78 hf (fun hf => ?_)
  refine yic_ne (pc := 79) (tgt := 86) B dX10_kindsOf_79 (by decide) hf (fun hf => ?_) (fun hf => ?_)
  · refine lv_iconst (pc := 86) (v := (0 : Int32)) hx hb dX10_kindsOf_86 rfl ?_
    refine lv_istore (pc := 87) (lv' := [(4, .int (0 : Int32)), (0, .ref (zad G 0)), (1, .int x1), (2, .int x2), (3, .int x3), (5, .int x5)]) hx hb dX10_kindsOf_87 hl (by decide) rfl (fun ls hl => ?_)
    refine lv_iinc (pc := 89) (v := (x5 + (1 : Int32))) (lv' := [(5, .int (x5 + (1 : Int32))), (4, .int (0 : Int32)), (0, .ref (zad G 0)), (1, .int x1), (2, .int x2), (3, .int x3)]) hx hb dX10_kindsOf_89 hl (k := 5) rfl rfl (by decide) rfl (fun ls hl => ?_)
    refine lv_goto (pc := 92) (tgt := 16) hx hb dX10_kindsOf_92 (by decide) ?_
    exact hK16 (lv_sub hl [2, 3, 4, 5, 1, 0] rfl) hW hf
  · refine lv_iconst (pc := 82) (v := (1 : Int32)) hx hb dX10_kindsOf_82 rfl ?_
    refine lv_goto (pc := 83) (tgt := 87) hx hb dX10_kindsOf_83 (by decide) ?_
    refine lv_istore (pc := 87) (lv' := [(4, .int (1 : Int32)), (0, .ref (zad G 0)), (1, .int x1), (2, .int x2), (3, .int x3), (5, .int x5)]) hx hb dX10_kindsOf_87 hl (by decide) rfl (fun ls hl => ?_)
    refine lv_iinc (pc := 89) (v := (x5 + (1 : Int32))) (lv' := [(5, .int (x5 + (1 : Int32))), (4, .int (1 : Int32)), (0, .ref (zad G 0)), (1, .int x1), (2, .int x2), (3, .int x3)]) hx hb dX10_kindsOf_89 hl (k := 5) rfl rfl (by decide) rfl (fun ls hl => ?_)
    refine lv_goto (pc := 92) (tgt := 16) hx hb dX10_kindsOf_92 (by decide) ?_
    exact hK16 (lv_sub hl [2, 3, 4, 5, 1, 0] rfl) hW hf
noncomputable def f_X10_kindsOf_16 (K4 : Int32 → Int32 → Int32 → Mem → Option (Int32 × Mem)) : Nat → Int32 → Int32 → Int32 → Int32 → Int32 → Mem → Option (Int32 × Mem)
  | 0, _, _, _, _, _, _ => none
  | n + 1, x1, x2, x3, x4, x5, μ => (if (μ.1 0 2) ≤ x5 then (if x4 = 0 then K4 x1 (x2 ||| (0 : Int32)) (x3 + (1 : Int32)) μ else K4 x1 (x2 ||| ((1 : Int32) <<< (x3 &&& 31))) (x3 + (1 : Int32)) μ) else zck (zin x5 6) ((if x4 = 0 then f_X10_kindsOf_16 K4 n x1 x2 x3 (0 : Int32) (x5 + (1 : Int32)) μ else zck (zin x5 6) ((if (μ.1 6 (x5).toNatClampNeg) = x1 then zck (zin x5 6) ((if (μ.1 9 (x5).toNatClampNeg) = (1 : Int32) then f_X10_kindsOf_69 K4 (fun a0 a1 a2 a3 a4 ν => f_X10_kindsOf_16 K4 n a0 a1 a2 a3 a4 ν) x1 x2 x3 x5 x3 (μ.1 7 (x5).toNatClampNeg) (1 : Int32) μ else f_X10_kindsOf_69 K4 (fun a0 a1 a2 a3 a4 ν => f_X10_kindsOf_16 K4 n a0 a1 a2 a3 a4 ν) x1 x2 x3 x5 x3 (μ.1 7 (x5).toNatClampNeg) (0 : Int32) μ)) else f_X10_kindsOf_16 K4 n x1 x2 x3 (1 : Int32) (x5 + (1 : Int32)) μ)))))
set_option maxRecDepth 100000 in
theorem t_X10_kindsOf_16 {G : ZG} {p : Program} {l : Launch} {e : Env} {s : State} {m : MethodId} {args : Array Value} {below : List Frame} {meth : Method} {c : Code} (B : zB ZM G cX10_kindsOf 7 "DarkSharesModel" (some .int) p s m args meth c) {K4 : Int32 → Int32 → Int32 → Mem → Option (Int32 × Mem)} (hK4 : ∀ {x1 : Int32} {x2 : Int32} {x3 : Int32} {μ : Mem} {H : Heap} {locs : List Loc} {ls : Array Slot} {r : Int32} {μ' : Mem}, lv_has ls 7 [(0, .ref (zad G 0)), (1, .int x1), (2, .int x2), (3, .int x3)] → zW ZM G s H locs μ → K4 x1 x2 x3 μ = some (r, μ') → W p l e (zR 3) s m args below meth c H locs 0 0 (MQ below (zQ ZM G (some (.int r)) μ') args s 0 0 (zAd ZM G)) (F0 m 4 ls [])) : ∀ (n : Nat) {x1 : Int32} {x2 : Int32} {x3 : Int32} {x4 : Int32} {x5 : Int32} {μ : Mem} {H : Heap} {locs : List Loc} {ls : Array Slot} {r : Int32} {μ' : Mem}, lv_has ls 7 [(0, .ref (zad G 0)), (1, .int x1), (2, .int x2), (3, .int x3), (4, .int x4), (5, .int x5)] → zW ZM G s H locs μ → f_X10_kindsOf_16 K4 n x1 x2 x3 x4 x5 μ = some (r, μ') → W p l e (zR 3) s m args below meth c H locs 0 0 (MQ below (zQ ZM G (some (.int r)) μ') args s 0 0 (zAd ZM G)) (F0 m 16 ls []) := by
  have hx := B.1
  have hb := B.2.1
  intro n
  induction n with
  | zero => intro _ _ _ _ _ _ _ _ _ _ _ hl hW hf; cases hf
  | succ n ih =>
    intro x1 x2 x3 x4 x5 μ H locs ls r μ' hl hW hf
    rw [f_X10_kindsOf_16] at hf
    refine lv_iload (pc := 16) hx hb dX10_kindsOf_16 (lv_at hl 5 rfl) ?_
    refine lv_aload_n (pc := 18) hx hb dX10_kindsOf_18 rfl (lv_at hl 0 rfl) ?_
    refine g_X10_75 (pc := 19) B hW dX10_kindsOf_19 ?_
    refine yic_ge (pc := 22) (tgt := 95) B dX10_kindsOf_22 (by decide) hf (fun hf => ?_) (fun hf => ?_)
    · refine lv_iload_n (pc := 95) hx hb dX10_kindsOf_95 rfl (lv_at hl 2 rfl) ?_
      refine lv_iload (pc := 96) hx hb dX10_kindsOf_96 (lv_at hl 4 rfl) ?_
      refine yif_eq (pc := 98) (tgt := 107) B dX10_kindsOf_98 (by decide) hf (fun hf => ?_) (fun hf => ?_)
      · refine lv_iconst (pc := 107) (v := (0 : Int32)) hx hb dX10_kindsOf_107 rfl ?_
        refine lv_ior (pc := 108) hx hb dX10_kindsOf_108 ?_
        refine lv_istore_n (pc := 109) (lv' := [(2, .int (x2 ||| (0 : Int32))), (0, .ref (zad G 0)), (1, .int x1), (3, .int x3), (4, .int x4), (5, .int x5)]) hx hb dX10_kindsOf_109 rfl hl (by decide) rfl (fun ls hl => ?_)
        refine lv_iinc (pc := 110) (v := (x3 + (1 : Int32))) (lv' := [(3, .int (x3 + (1 : Int32))), (2, .int (x2 ||| (0 : Int32))), (0, .ref (zad G 0)), (1, .int x1), (4, .int x4), (5, .int x5)]) hx hb dX10_kindsOf_110 hl (k := 3) rfl rfl (by decide) rfl (fun ls hl => ?_)
        refine lv_goto (pc := 113) (tgt := 4) hx hb dX10_kindsOf_113 (by decide) ?_
        exact hK4 (lv_sub hl [2, 3, 1, 0] rfl) hW hf
      · refine lv_iconst (pc := 101) (v := (1 : Int32)) hx hb dX10_kindsOf_101 rfl ?_
        refine lv_iload_n (pc := 102) hx hb dX10_kindsOf_102 rfl (lv_at hl 3 rfl) ?_
        refine lv_ishl (pc := 103) hx hb dX10_kindsOf_103 ?_
        refine lv_goto (pc := 104) (tgt := 108) hx hb dX10_kindsOf_104 (by decide) ?_
        refine lv_ior (pc := 108) hx hb dX10_kindsOf_108 ?_
        refine lv_istore_n (pc := 109) (lv' := [(2, .int (x2 ||| ((1 : Int32) <<< (x3 &&& 31)))), (0, .ref (zad G 0)), (1, .int x1), (3, .int x3), (4, .int x4), (5, .int x5)]) hx hb dX10_kindsOf_109 rfl hl (by decide) rfl (fun ls hl => ?_)
        refine lv_iinc (pc := 110) (v := (x3 + (1 : Int32))) (lv' := [(3, .int (x3 + (1 : Int32))), (2, .int (x2 ||| ((1 : Int32) <<< (x3 &&& 31)))), (0, .ref (zad G 0)), (1, .int x1), (4, .int x4), (5, .int x5)]) hx hb dX10_kindsOf_110 hl (k := 3) rfl rfl (by decide) rfl (fun ls hl => ?_)
        refine lv_goto (pc := 113) (tgt := 4) hx hb dX10_kindsOf_113 (by decide) ?_
        exact hK4 (lv_sub hl [2, 3, 1, 0] rfl) hW hf
    · refine lv_aload_n (pc := 25) hx hb dX10_kindsOf_25 rfl (lv_at hl 0 rfl) ?_
      refine g_X10_28 (pc := 26) B hW dX10_kindsOf_26 ?_
      refine lv_iload (pc := 29) hx hb dX10_kindsOf_29 (lv_at hl 5 rfl) ?_
      refine yald (pc := 31) B hW mr7 dX10_kindsOf_31 hf (fun hf => ?_)
      refine lv_istore (pc := 32) (lv' := [(6, .int (μ.1 7 (x5).toNatClampNeg)), (0, .ref (zad G 0)), (1, .int x1), (2, .int x2), (3, .int x3), (4, .int x4), (5, .int x5)]) hx hb dX10_kindsOf_32 hl (by decide) rfl (fun ls hl => ?_)
      refine lv_iload (pc := 34) hx hb dX10_kindsOf_34 (lv_at hl 5 rfl) ?_
      refine yif_eq (pc := 36) (tgt := 86) B dX10_kindsOf_36 (by decide) hf (fun hf => ?_) (fun hf => ?_)
      · refine lv_iconst (pc := 86) (v := (0 : Int32)) hx hb dX10_kindsOf_86 rfl ?_
        refine lv_istore (pc := 87) (lv' := [(4, .int (0 : Int32)), (6, .int (μ.1 7 (x5).toNatClampNeg)), (0, .ref (zad G 0)), (1, .int x1), (2, .int x2), (3, .int x3), (5, .int x5)]) hx hb dX10_kindsOf_87 hl (by decide) rfl (fun ls hl => ?_)
        refine lv_iinc (pc := 89) (v := (x5 + (1 : Int32))) (lv' := [(5, .int (x5 + (1 : Int32))), (4, .int (0 : Int32)), (6, .int (μ.1 7 (x5).toNatClampNeg)), (0, .ref (zad G 0)), (1, .int x1), (2, .int x2), (3, .int x3)]) hx hb dX10_kindsOf_89 hl (k := 6) rfl rfl (by decide) rfl (fun ls hl => ?_)
        refine lv_goto (pc := 92) (tgt := 16) hx hb dX10_kindsOf_92 (by decide) ?_
        exact ih (lv_sub hl [3, 4, 5, 6, 1, 0] rfl) hW hf
      · refine lv_aload_n (pc := 39) hx hb dX10_kindsOf_39 rfl (lv_at hl 1 rfl) ?_
        refine g_X10_25 (pc := 40) B hW dX10_kindsOf_40 ?_
        refine lv_iload (pc := 43) hx hb dX10_kindsOf_43 (lv_at hl 6 rfl) ?_
        refine yald (pc := 45) B hW mr6 dX10_kindsOf_45 hf (fun hf => ?_)
        refine lv_iload_n (pc := 46) hx hb dX10_kindsOf_46 rfl (lv_at hl 2 rfl) ?_
        refine yic_ne (pc := 47) (tgt := 82) B dX10_kindsOf_47 (by decide) hf (fun hf => ?_) (fun hf => ?_)
        · refine lv_iconst (pc := 82) (v := (1 : Int32)) hx hb dX10_kindsOf_82 rfl ?_
          refine lv_goto (pc := 83) (tgt := 87) hx hb dX10_kindsOf_83 (by decide) ?_
          refine lv_istore (pc := 87) (lv' := [(4, .int (1 : Int32)), (6, .int (μ.1 7 (x5).toNatClampNeg)), (0, .ref (zad G 0)), (1, .int x1), (2, .int x2), (3, .int x3), (5, .int x5)]) hx hb dX10_kindsOf_87 hl (by decide) rfl (fun ls hl => ?_)
          refine lv_iinc (pc := 89) (v := (x5 + (1 : Int32))) (lv' := [(5, .int (x5 + (1 : Int32))), (4, .int (1 : Int32)), (6, .int (μ.1 7 (x5).toNatClampNeg)), (0, .ref (zad G 0)), (1, .int x1), (2, .int x2), (3, .int x3)]) hx hb dX10_kindsOf_89 hl (k := 6) rfl rfl (by decide) rfl (fun ls hl => ?_)
          refine lv_goto (pc := 92) (tgt := 16) hx hb dX10_kindsOf_92 (by decide) ?_
          exact ih (lv_sub hl [3, 4, 5, 6, 1, 0] rfl) hW hf
        · refine lv_iload_n (pc := 50) hx hb dX10_kindsOf_50 rfl (lv_at hl 4 rfl) ?_
          refine lv_iload (pc := 51) hx hb dX10_kindsOf_51 (lv_at hl 0 rfl) ?_
          refine lv_aload_n (pc := 53) hx hb dX10_kindsOf_53 rfl (lv_at hl 1 rfl) ?_
          refine g_X10_34 (pc := 54) B hW dX10_kindsOf_54 ?_
          refine lv_iload (pc := 57) hx hb dX10_kindsOf_57 (lv_at hl 6 rfl) ?_
          refine yald (pc := 59) B hW mr9 dX10_kindsOf_59 hf (fun hf => ?_)
          refine lv_iconst (pc := 60) (v := (1 : Int32)) hx hb dX10_kindsOf_60 rfl ?_
          refine yic_ne (pc := 61) (tgt := 68) B dX10_kindsOf_61 (by decide) hf (fun hf => ?_) (fun hf => ?_)
          · refine lv_iconst (pc := 68) (v := (0 : Int32)) hx hb dX10_kindsOf_68 rfl ?_
            exact t_X10_kindsOf_69 B @hK4 @ih (lv_sub hl [1, 2, 3, 4, 6] rfl) hW hf
          · refine lv_iconst (pc := 64) (v := (1 : Int32)) hx hb dX10_kindsOf_64 rfl ?_
            refine lv_goto (pc := 65) (tgt := 69) hx hb dX10_kindsOf_65 (by decide) ?_
            exact t_X10_kindsOf_69 B @hK4 @ih (lv_sub hl [1, 2, 3, 4, 6] rfl) hW hf
noncomputable def f_X10_kindsOf_4 : Nat → Int32 → Int32 → Int32 → Mem → Option (Int32 × Mem)
  | 0, _, _, _, _ => none
  | n + 1, x1, x2, x3, μ => (if (6 : Int32) ≤ x3 then some (x2, μ) else f_X10_kindsOf_16 (fun a0 a1 a2 ν => f_X10_kindsOf_4 n a0 a1 a2 ν) zFU x1 x2 x3 (1 : Int32) (0 : Int32) μ)
set_option maxRecDepth 100000 in
theorem t_X10_kindsOf_4 {G : ZG} {p : Program} {l : Launch} {e : Env} {s : State} {m : MethodId} {args : Array Value} {below : List Frame} {meth : Method} {c : Code} (B : zB ZM G cX10_kindsOf 7 "DarkSharesModel" (some .int) p s m args meth c) : ∀ (n : Nat) {x1 : Int32} {x2 : Int32} {x3 : Int32} {μ : Mem} {H : Heap} {locs : List Loc} {ls : Array Slot} {r : Int32} {μ' : Mem}, lv_has ls 7 [(0, .ref (zad G 0)), (1, .int x1), (2, .int x2), (3, .int x3)] → zW ZM G s H locs μ → f_X10_kindsOf_4 n x1 x2 x3 μ = some (r, μ') → W p l e (zR 3) s m args below meth c H locs 0 0 (MQ below (zQ ZM G (some (.int r)) μ') args s 0 0 (zAd ZM G)) (F0 m 4 ls []) := by
  have hx := B.1
  have hb := B.2.1
  intro n
  induction n with
  | zero => intro _ _ _ _ _ _ _ _ _ hl hW hf; cases hf
  | succ n ih =>
    intro x1 x2 x3 μ H locs ls r μ' hl hW hf
    rw [f_X10_kindsOf_4] at hf
    refine lv_iload_n (pc := 4) hx hb dX10_kindsOf_4 rfl (lv_at hl 3 rfl) ?_
    refine lv_bipush (pc := 5) (v := (6 : Int32)) hx hb dX10_kindsOf_5 rfl ?_
    refine yic_ge (pc := 7) (tgt := 116) B dX10_kindsOf_7 (by decide) hf (fun hf => ?_) (fun hf => ?_)
    · refine lv_iload_n (pc := 116) hx hb dX10_kindsOf_116 rfl (lv_at hl 2 rfl) ?_
      exact zreti (pc := 117) B hW hf dX10_kindsOf_117
    · refine lv_iconst (pc := 10) (v := (1 : Int32)) hx hb dX10_kindsOf_10 rfl ?_
      refine lv_istore (pc := 11) (lv' := [(4, .int (1 : Int32)), (0, .ref (zad G 0)), (1, .int x1), (2, .int x2), (3, .int x3)]) hx hb dX10_kindsOf_11 hl (by decide) rfl (fun ls hl => ?_)
      refine lv_iconst (pc := 13) (v := (0 : Int32)) hx hb dX10_kindsOf_13 rfl ?_
      refine lv_istore (pc := 14) (lv' := [(5, .int (0 : Int32)), (4, .int (1 : Int32)), (0, .ref (zad G 0)), (1, .int x1), (2, .int x2), (3, .int x3)]) hx hb dX10_kindsOf_14 hl (by decide) rfl (fun ls hl => ?_)
      exact t_X10_kindsOf_16 B @ih zFU (lv_sub hl [2, 3, 4, 5, 1, 0] rfl) hW hf
noncomputable def f_X10_kindsOf (x1 : Int32) (μ : Mem) : Option (Int32 × Mem) := f_X10_kindsOf_4 zFU x1 (0 : Int32) (0 : Int32) μ
set_option maxRecDepth 100000 in
theorem c_X10_kindsOf {G : ZG} {l : Launch} {x1 : Int32} {μ : Mem} {r : Int32} {μ' : Mem} (h : f_X10_kindsOf x1 μ = some (r, μ')) : zC ZM G l yX10_kindsOf cX10_kindsOf 7 (some .int) 3 [.ref (zad G 0), .int x1] μ (some (.int r)) μ' := by
  refine zC.mk (by decide +kernel) (Nat.le_of_ble_eq_true rfl) ?_
  intro p e s m below meth c ls B hl hW
  have B : zB ZM G cX10_kindsOf 7 "DarkSharesModel" (some .int) p s m [.ref (zad G 0), .int x1].toArray meth c := B
  have hl : lv_has ls 7 [(0, .ref (zad G 0)), (1, .int x1)] := hl
  have hx := B.1
  have hb := B.2.1
  have hf := h
  unfold f_X10_kindsOf at hf
  refine lv_iconst (pc := 0) (v := (0 : Int32)) hx hb dX10_kindsOf_0 rfl ?_
  refine lv_istore_n (pc := 1) (lv' := [(2, .int (0 : Int32)), (0, .ref (zad G 0)), (1, .int x1)]) hx hb dX10_kindsOf_1 rfl hl (by decide) rfl (fun ls hl => ?_)
  refine lv_iconst (pc := 2) (v := (0 : Int32)) hx hb dX10_kindsOf_2 rfl ?_
  refine lv_istore_n (pc := 3) (lv' := [(3, .int (0 : Int32)), (2, .int (0 : Int32)), (0, .ref (zad G 0)), (1, .int x1)]) hx hb dX10_kindsOf_3 rfl hl (by decide) rfl (fun ls hl => ?_)
  exact t_X10_kindsOf_4 B zFU (lv_sub hl [2, 3, 1, 0] rfl) hW hf
noncomputable def f_X10_is (x1 : Int32) (μ : Mem) : Option (Int32 × Mem) := zbind (f_X10_isBoy x1 μ) (fun r2 μ1 => (if r2 = 0 then zbind (f_X10_bad μ1) (fun r4 μ3 => some (r4, μ3)) else zbind (f_X10_kindsOf x1 μ1) (fun r6 μ5 => some (r6, μ5))))
set_option maxRecDepth 100000 in
theorem c_X10_is {G : ZG} {l : Launch} {x1 : Int32} {μ : Mem} {r : Int32} {μ' : Mem} (h : f_X10_is x1 μ = some (r, μ')) : zC ZM G l yX10_is cX10_is 2 (some .int) 4 [.ref (zad G 0), .int x1] μ (some (.int r)) μ' := by
  refine zC.mk (by decide +kernel) (Nat.le_of_ble_eq_true rfl) ?_
  intro p e s m below meth c ls B hl hW
  have B : zB ZM G cX10_is 2 "DarkSharesModel" (some .int) p s m [.ref (zad G 0), .int x1].toArray meth c := B
  have hl : lv_has ls 2 [(0, .ref (zad G 0)), (1, .int x1)] := hl
  have hx := B.1
  have hb := B.2.1
  have hf := h
  unfold f_X10_is at hf
  refine lv_aload_n (pc := 0) hx hb dX10_is_0 rfl (lv_at hl 0 rfl) ?_
  refine lv_iload_n (pc := 1) hx hb dX10_is_1 rfl (lv_at hl 1 rfl) ?_
  refine s_X10_171 (pc := 2) B hW hl.1 (by decide) (zle8 rfl) dX10_is_2 (fun _ _ h => c_X10_isBoy h) hf (fun r2 μ1 H locs hW hf => ?_)
  refine yif_eq (pc := 5) (tgt := 16) B dX10_is_5 (by decide) hf (fun hf => ?_) (fun hf => ?_)
  · refine lv_aload_n (pc := 16) hx hb dX10_is_16 rfl (lv_at hl 0 rfl) ?_
    refine s_X10_85 (pc := 17) B hW hl.1 (by decide) (zle8 rfl) dX10_is_17 (fun _ _ h => c_X10_bad h) hf (fun r4 μ3 H locs hW hf => ?_)
    exact zreti (pc := 20) B hW hf dX10_is_20
  · refine lv_aload_n (pc := 8) hx hb dX10_is_8 rfl (lv_at hl 0 rfl) ?_
    refine lv_iload_n (pc := 9) hx hb dX10_is_9 rfl (lv_at hl 1 rfl) ?_
    refine s_X10_220 (pc := 10) B hW hl.1 (by decide) (zle8 rfl) dX10_is_10 (fun _ _ h => c_X10_kindsOf h) hf (fun r6 μ5 H locs hW hf => ?_)
    refine lv_goto (pc := 13) (tgt := 20) hx hb dX10_is_13 (by decide) ?_
    exact zreti (pc := 20) B hW hf dX10_is_20
noncomputable def f_X10_alike_16 (K4 : Int32 → Int32 → Int32 → Int32 → Mem → Option (Int32 × Mem)) : Nat → Int32 → Int32 → Int32 → Int32 → Int32 → Int32 → Mem → Option (Int32 × Mem)
  | 0, _, _, _, _, _, _, _ => none
  | n + 1, x0, x1, x2, x3, x4, x5, μ => (if (6 : Int32) ≤ x5 then (if x4 ≤ x2 then K4 x0 x1 x2 (x3 + (1 : Int32)) μ else K4 x0 x1 x4 (x3 + (1 : Int32)) μ) else zbind (f_X10_has x0 x3 μ) (fun r2 μ1 => (if r2 = 0 then f_X10_alike_16 K4 n x0 x1 x2 x3 (x4 + (0 : Int32)) (x5 + (1 : Int32)) μ1 else zbind (f_X10_has x0 x5 μ1) (fun r4 μ3 => (if r4 = 0 then f_X10_alike_16 K4 n x0 x1 x2 x3 (x4 + (0 : Int32)) (x5 + (1 : Int32)) μ3 else zbind (f_X10_valueBy x3 x1 (0 : Int32) μ3) (fun r6 μ5 => zbind (f_X10_valueBy x5 x1 (0 : Int32) μ5) (fun r8 μ7 => (if r6 = r8 then f_X10_alike_16 K4 n x0 x1 x2 x3 (x4 + (1 : Int32)) (x5 + (1 : Int32)) μ7 else f_X10_alike_16 K4 n x0 x1 x2 x3 (x4 + (0 : Int32)) (x5 + (1 : Int32)) μ7))))))))
set_option maxRecDepth 100000 in
theorem t_X10_alike_16 {G : ZG} {p : Program} {l : Launch} {e : Env} {s : State} {m : MethodId} {args : Array Value} {below : List Frame} {meth : Method} {c : Code} (B : zB ZM G cX10_alike 6 "DarkSharesModel" (some .int) p s m args meth c) {K4 : Int32 → Int32 → Int32 → Int32 → Mem → Option (Int32 × Mem)} (hK4 : ∀ {x0 : Int32} {x1 : Int32} {x2 : Int32} {x3 : Int32} {μ : Mem} {H : Heap} {locs : List Loc} {ls : Array Slot} {r : Int32} {μ' : Mem}, lv_has ls 6 [(0, .int x0), (1, .int x1), (2, .int x2), (3, .int x3)] → zW ZM G s H locs μ → K4 x0 x1 x2 x3 μ = some (r, μ') → W p l e (zR 3) s m args below meth c H locs 0 0 (MQ below (zQ ZM G (some (.int r)) μ') args s 0 0 (zAd ZM G)) (F0 m 4 ls [])) : ∀ (n : Nat) {x0 : Int32} {x1 : Int32} {x2 : Int32} {x3 : Int32} {x4 : Int32} {x5 : Int32} {μ : Mem} {H : Heap} {locs : List Loc} {ls : Array Slot} {r : Int32} {μ' : Mem}, lv_has ls 6 [(0, .int x0), (1, .int x1), (2, .int x2), (3, .int x3), (4, .int x4), (5, .int x5)] → zW ZM G s H locs μ → f_X10_alike_16 K4 n x0 x1 x2 x3 x4 x5 μ = some (r, μ') → W p l e (zR 3) s m args below meth c H locs 0 0 (MQ below (zQ ZM G (some (.int r)) μ') args s 0 0 (zAd ZM G)) (F0 m 16 ls []) := by
  have hx := B.1
  have hb := B.2.1
  intro n
  induction n with
  | zero => intro _ _ _ _ _ _ _ _ _ _ _ _ hl hW hf; cases hf
  | succ n ih =>
    intro x0 x1 x2 x3 x4 x5 μ H locs ls r μ' hl hW hf
    rw [f_X10_alike_16] at hf
    refine lv_iload (pc := 16) hx hb dX10_alike_16 (lv_at hl 5 rfl) ?_
    refine lv_bipush (pc := 18) (v := (6 : Int32)) hx hb dX10_alike_18 rfl ?_
    refine yic_ge (pc := 20) (tgt := 72) B dX10_alike_20 (by decide) hf (fun hf => ?_) (fun hf => ?_)
    · refine lv_iload (pc := 72) hx hb dX10_alike_72 (lv_at hl 4 rfl) ?_
      refine lv_iload_n (pc := 74) hx hb dX10_alike_74 rfl (lv_at hl 2 rfl) ?_
      refine yic_le (pc := 75) (tgt := 83) B dX10_alike_75 (by decide) hf (fun hf => ?_) (fun hf => ?_)
      · refine lv_iload_n (pc := 83) hx hb dX10_alike_83 rfl (lv_at hl 2 rfl) ?_
        refine lv_istore_n (pc := 84) (lv' := [(2, .int x2), (0, .int x0), (1, .int x1), (3, .int x3), (4, .int x4), (5, .int x5)]) hx hb dX10_alike_84 rfl hl (by decide) rfl (fun ls hl => ?_)
        refine lv_iinc (pc := 85) (v := (x3 + (1 : Int32))) (lv' := [(3, .int (x3 + (1 : Int32))), (2, .int x2), (0, .int x0), (1, .int x1), (4, .int x4), (5, .int x5)]) hx hb dX10_alike_85 hl (k := 3) rfl rfl (by decide) rfl (fun ls hl => ?_)
        refine lv_goto (pc := 88) (tgt := 4) hx hb dX10_alike_88 (by decide) ?_
        exact hK4 (lv_sub hl [2, 3, 1, 0] rfl) hW hf
      · refine lv_iload (pc := 78) hx hb dX10_alike_78 (lv_at hl 4 rfl) ?_
        refine lv_goto (pc := 80) (tgt := 84) hx hb dX10_alike_80 (by decide) ?_
        refine lv_istore_n (pc := 84) (lv' := [(2, .int x4), (0, .int x0), (1, .int x1), (3, .int x3), (4, .int x4), (5, .int x5)]) hx hb dX10_alike_84 rfl hl (by decide) rfl (fun ls hl => ?_)
        refine lv_iinc (pc := 85) (v := (x3 + (1 : Int32))) (lv' := [(3, .int (x3 + (1 : Int32))), (2, .int x4), (0, .int x0), (1, .int x1), (4, .int x4), (5, .int x5)]) hx hb dX10_alike_85 hl (k := 3) rfl rfl (by decide) rfl (fun ls hl => ?_)
        refine lv_goto (pc := 88) (tgt := 4) hx hb dX10_alike_88 (by decide) ?_
        exact hK4 (lv_sub hl [2, 3, 1, 0] rfl) hW hf
    · refine lv_iload (pc := 23) hx hb dX10_alike_23 (lv_at hl 4 rfl) ?_
      refine lv_iload_n (pc := 25) hx hb dX10_alike_25 rfl (lv_at hl 0 rfl) ?_
      refine lv_iload_n (pc := 26) hx hb dX10_alike_26 rfl (lv_at hl 3 rfl) ?_
      refine s_X10_151 (pc := 27) B hW hl.1 (by decide) (zle8 rfl) dX10_alike_27 (fun _ _ h => c_X10_has h) hf (fun r2 μ1 H locs hW hf => ?_)
      refine yif_eq (pc := 30) (tgt := 62) B dX10_alike_30 (by decide) hf (fun hf => ?_) (fun hf => ?_)
      · refine lv_iconst (pc := 62) (v := (0 : Int32)) hx hb dX10_alike_62 rfl ?_
        refine lv_iadd (pc := 63) hx hb dX10_alike_63 ?_
        refine lv_istore (pc := 64) (lv' := [(4, .int (x4 + (0 : Int32))), (0, .int x0), (1, .int x1), (2, .int x2), (3, .int x3), (5, .int x5)]) hx hb dX10_alike_64 hl (by decide) rfl (fun ls hl => ?_)
        refine lv_iinc (pc := 66) (v := (x5 + (1 : Int32))) (lv' := [(5, .int (x5 + (1 : Int32))), (4, .int (x4 + (0 : Int32))), (0, .int x0), (1, .int x1), (2, .int x2), (3, .int x3)]) hx hb dX10_alike_66 hl (k := 5) rfl rfl (by decide) rfl (fun ls hl => ?_)
        refine lv_goto (pc := 69) (tgt := 16) hx hb dX10_alike_69 (by decide) ?_
        exact ih (lv_sub hl [2, 3, 4, 5, 1, 0] rfl) hW hf
      · refine lv_iload_n (pc := 33) hx hb dX10_alike_33 rfl (lv_at hl 0 rfl) ?_
        refine lv_iload (pc := 34) hx hb dX10_alike_34 (lv_at hl 5 rfl) ?_
        refine s_X10_151 (pc := 36) B hW hl.1 (by decide) (zle8 rfl) dX10_alike_36 (fun _ _ h => c_X10_has h) hf (fun r4 μ3 H locs hW hf => ?_)
        refine yif_eq (pc := 39) (tgt := 62) B dX10_alike_39 (by decide) hf (fun hf => ?_) (fun hf => ?_)
        · refine lv_iconst (pc := 62) (v := (0 : Int32)) hx hb dX10_alike_62 rfl ?_
          refine lv_iadd (pc := 63) hx hb dX10_alike_63 ?_
          refine lv_istore (pc := 64) (lv' := [(4, .int (x4 + (0 : Int32))), (0, .int x0), (1, .int x1), (2, .int x2), (3, .int x3), (5, .int x5)]) hx hb dX10_alike_64 hl (by decide) rfl (fun ls hl => ?_)
          refine lv_iinc (pc := 66) (v := (x5 + (1 : Int32))) (lv' := [(5, .int (x5 + (1 : Int32))), (4, .int (x4 + (0 : Int32))), (0, .int x0), (1, .int x1), (2, .int x2), (3, .int x3)]) hx hb dX10_alike_66 hl (k := 5) rfl rfl (by decide) rfl (fun ls hl => ?_)
          refine lv_goto (pc := 69) (tgt := 16) hx hb dX10_alike_69 (by decide) ?_
          exact ih (lv_sub hl [2, 3, 4, 5, 1, 0] rfl) hW hf
        · refine lv_iload_n (pc := 42) hx hb dX10_alike_42 rfl (lv_at hl 3 rfl) ?_
          refine lv_iload_n (pc := 43) hx hb dX10_alike_43 rfl (lv_at hl 1 rfl) ?_
          refine lv_iconst (pc := 44) (v := (0 : Int32)) hx hb dX10_alike_44 rfl ?_
          refine s_X10_154 (pc := 45) B hW hl.1 (by decide) (zle8 rfl) dX10_alike_45 (fun _ _ h => c_X10_valueBy h) hf (fun r6 μ5 H locs hW hf => ?_)
          refine lv_iload (pc := 48) hx hb dX10_alike_48 (lv_at hl 5 rfl) ?_
          refine lv_iload_n (pc := 50) hx hb dX10_alike_50 rfl (lv_at hl 1 rfl) ?_
          refine lv_iconst (pc := 51) (v := (0 : Int32)) hx hb dX10_alike_51 rfl ?_
          refine s_X10_154 (pc := 52) B hW hl.1 (by decide) (zle8 rfl) dX10_alike_52 (fun _ _ h => c_X10_valueBy h) hf (fun r8 μ7 H locs hW hf => ?_)
          refine yic_ne (pc := 55) (tgt := 62) B dX10_alike_55 (by decide) hf (fun hf => ?_) (fun hf => ?_)
          · refine lv_iconst (pc := 62) (v := (0 : Int32)) hx hb dX10_alike_62 rfl ?_
            refine lv_iadd (pc := 63) hx hb dX10_alike_63 ?_
            refine lv_istore (pc := 64) (lv' := [(4, .int (x4 + (0 : Int32))), (0, .int x0), (1, .int x1), (2, .int x2), (3, .int x3), (5, .int x5)]) hx hb dX10_alike_64 hl (by decide) rfl (fun ls hl => ?_)
            refine lv_iinc (pc := 66) (v := (x5 + (1 : Int32))) (lv' := [(5, .int (x5 + (1 : Int32))), (4, .int (x4 + (0 : Int32))), (0, .int x0), (1, .int x1), (2, .int x2), (3, .int x3)]) hx hb dX10_alike_66 hl (k := 5) rfl rfl (by decide) rfl (fun ls hl => ?_)
            refine lv_goto (pc := 69) (tgt := 16) hx hb dX10_alike_69 (by decide) ?_
            exact ih (lv_sub hl [2, 3, 4, 5, 1, 0] rfl) hW hf
          · refine lv_iconst (pc := 58) (v := (1 : Int32)) hx hb dX10_alike_58 rfl ?_
            refine lv_goto (pc := 59) (tgt := 63) hx hb dX10_alike_59 (by decide) ?_
            refine lv_iadd (pc := 63) hx hb dX10_alike_63 ?_
            refine lv_istore (pc := 64) (lv' := [(4, .int (x4 + (1 : Int32))), (0, .int x0), (1, .int x1), (2, .int x2), (3, .int x3), (5, .int x5)]) hx hb dX10_alike_64 hl (by decide) rfl (fun ls hl => ?_)
            refine lv_iinc (pc := 66) (v := (x5 + (1 : Int32))) (lv' := [(5, .int (x5 + (1 : Int32))), (4, .int (x4 + (1 : Int32))), (0, .int x0), (1, .int x1), (2, .int x2), (3, .int x3)]) hx hb dX10_alike_66 hl (k := 5) rfl rfl (by decide) rfl (fun ls hl => ?_)
            refine lv_goto (pc := 69) (tgt := 16) hx hb dX10_alike_69 (by decide) ?_
            exact ih (lv_sub hl [2, 3, 4, 5, 1, 0] rfl) hW hf
noncomputable def f_X10_alike_4 : Nat → Int32 → Int32 → Int32 → Int32 → Mem → Option (Int32 × Mem)
  | 0, _, _, _, _, _ => none
  | n + 1, x0, x1, x2, x3, μ => (if (6 : Int32) ≤ x3 then some (x2, μ) else f_X10_alike_16 (fun a0 a1 a2 a3 ν => f_X10_alike_4 n a0 a1 a2 a3 ν) zFU x0 x1 x2 x3 (0 : Int32) (0 : Int32) μ)
set_option maxRecDepth 100000 in
theorem t_X10_alike_4 {G : ZG} {p : Program} {l : Launch} {e : Env} {s : State} {m : MethodId} {args : Array Value} {below : List Frame} {meth : Method} {c : Code} (B : zB ZM G cX10_alike 6 "DarkSharesModel" (some .int) p s m args meth c) : ∀ (n : Nat) {x0 : Int32} {x1 : Int32} {x2 : Int32} {x3 : Int32} {μ : Mem} {H : Heap} {locs : List Loc} {ls : Array Slot} {r : Int32} {μ' : Mem}, lv_has ls 6 [(0, .int x0), (1, .int x1), (2, .int x2), (3, .int x3)] → zW ZM G s H locs μ → f_X10_alike_4 n x0 x1 x2 x3 μ = some (r, μ') → W p l e (zR 3) s m args below meth c H locs 0 0 (MQ below (zQ ZM G (some (.int r)) μ') args s 0 0 (zAd ZM G)) (F0 m 4 ls []) := by
  have hx := B.1
  have hb := B.2.1
  intro n
  induction n with
  | zero => intro _ _ _ _ _ _ _ _ _ _ hl hW hf; cases hf
  | succ n ih =>
    intro x0 x1 x2 x3 μ H locs ls r μ' hl hW hf
    rw [f_X10_alike_4] at hf
    refine lv_iload_n (pc := 4) hx hb dX10_alike_4 rfl (lv_at hl 3 rfl) ?_
    refine lv_bipush (pc := 5) (v := (6 : Int32)) hx hb dX10_alike_5 rfl ?_
    refine yic_ge (pc := 7) (tgt := 91) B dX10_alike_7 (by decide) hf (fun hf => ?_) (fun hf => ?_)
    · refine lv_iload_n (pc := 91) hx hb dX10_alike_91 rfl (lv_at hl 2 rfl) ?_
      exact zreti (pc := 92) B hW hf dX10_alike_92
    · refine lv_iconst (pc := 10) (v := (0 : Int32)) hx hb dX10_alike_10 rfl ?_
      refine lv_istore (pc := 11) (lv' := [(4, .int (0 : Int32)), (0, .int x0), (1, .int x1), (2, .int x2), (3, .int x3)]) hx hb dX10_alike_11 hl (by decide) rfl (fun ls hl => ?_)
      refine lv_iconst (pc := 13) (v := (0 : Int32)) hx hb dX10_alike_13 rfl ?_
      refine lv_istore (pc := 14) (lv' := [(5, .int (0 : Int32)), (4, .int (0 : Int32)), (0, .int x0), (1, .int x1), (2, .int x2), (3, .int x3)]) hx hb dX10_alike_14 hl (by decide) rfl (fun ls hl => ?_)
      exact t_X10_alike_16 B @ih zFU (lv_sub hl [2, 3, 4, 5, 1, 0] rfl) hW hf
noncomputable def f_X10_alike (x0 : Int32) (x1 : Int32) (μ : Mem) : Option (Int32 × Mem) := f_X10_alike_4 zFU x0 x1 (0 : Int32) (0 : Int32) μ
set_option maxRecDepth 100000 in
theorem c_X10_alike {G : ZG} {l : Launch} {x0 : Int32} {x1 : Int32} {μ : Mem} {r : Int32} {μ' : Mem} (h : f_X10_alike x0 x1 μ = some (r, μ')) : zC ZM G l yX10_alike cX10_alike 6 (some .int) 3 [.int x0, .int x1] μ (some (.int r)) μ' := by
  refine zC.mk (by decide +kernel) (Nat.le_of_ble_eq_true rfl) ?_
  intro p e s m below meth c ls B hl hW
  have B : zB ZM G cX10_alike 6 "DarkSharesModel" (some .int) p s m [.int x0, .int x1].toArray meth c := B
  have hl : lv_has ls 6 [(0, .int x0), (1, .int x1)] := hl
  have hx := B.1
  have hb := B.2.1
  have hf := h
  unfold f_X10_alike at hf
  refine lv_iconst (pc := 0) (v := (0 : Int32)) hx hb dX10_alike_0 rfl ?_
  refine lv_istore_n (pc := 1) (lv' := [(2, .int (0 : Int32)), (0, .int x0), (1, .int x1)]) hx hb dX10_alike_1 rfl hl (by decide) rfl (fun ls hl => ?_)
  refine lv_iconst (pc := 2) (v := (0 : Int32)) hx hb dX10_alike_2 rfl ?_
  refine lv_istore_n (pc := 3) (lv' := [(3, .int (0 : Int32)), (2, .int (0 : Int32)), (0, .int x0), (1, .int x1)]) hx hb dX10_alike_3 rfl hl (by decide) rfl (fun ls hl => ?_)
  exact t_X10_alike_4 B zFU (lv_sub hl [2, 3, 1, 0] rfl) hW hf
noncomputable def f_X10_asks_32 : Nat → Int32 → Int32 → Int32 → Mem → Option (Int32 × Mem)
  | 0, _, _, _, _ => none
  | n + 1, x2, x3, x4, μ => (if (12 : Int32) ≤ x4 then some (x3, μ) else (if x2 = 0 then some (x3, μ) else zbind (f_X10_alike x2 x4 μ) (fun r2 μ1 => zbind (f_X10_alike x2 x3 μ1) (fun r4 μ3 => (if r4 ≤ r2 then f_X10_asks_32 n x2 x3 (x4 + (1 : Int32)) μ3 else f_X10_asks_32 n x2 x4 (x4 + (1 : Int32)) μ3)))))
set_option maxRecDepth 100000 in
theorem t_X10_asks_32 {G : ZG} {p : Program} {l : Launch} {e : Env} {s : State} {m : MethodId} {args : Array Value} {below : List Frame} {meth : Method} {c : Code} (B : zB ZM G cX10_asks 5 "DarkSharesModel" (some .int) p s m args meth c) : ∀ (n : Nat) {x2 : Int32} {x3 : Int32} {x4 : Int32} {μ : Mem} {H : Heap} {locs : List Loc} {ls : Array Slot} {r : Int32} {μ' : Mem}, lv_has ls 5 [(2, .int x2), (3, .int x3), (4, .int x4)] → zW ZM G s H locs μ → f_X10_asks_32 n x2 x3 x4 μ = some (r, μ') → W p l e (zR 4) s m args below meth c H locs 0 0 (MQ below (zQ ZM G (some (.int r)) μ') args s 0 0 (zAd ZM G)) (F0 m 32 ls []) := by
  have hx := B.1
  have hb := B.2.1
  intro n
  induction n with
  | zero => intro _ _ _ _ _ _ _ _ _ hl hW hf; cases hf
  | succ n ih =>
    intro x2 x3 x4 μ H locs ls r μ' hl hW hf
    rw [f_X10_asks_32] at hf
    refine lv_iload (pc := 32) hx hb dX10_asks_32 (lv_at hl 2 rfl) ?_
    refine lv_bipush (pc := 34) (v := (12 : Int32)) hx hb dX10_asks_34 rfl ?_
    refine yic_ge (pc := 36) (tgt := 70) B dX10_asks_36 (by decide) hf (fun hf => ?_) (fun hf => ?_)
    · refine lv_iload_n (pc := 70) hx hb dX10_asks_70 rfl (lv_at hl 1 rfl) ?_
      exact zreti (pc := 71) B hW hf dX10_asks_71
    · refine lv_iload_n (pc := 39) hx hb dX10_asks_39 rfl (lv_at hl 0 rfl) ?_
      refine yif_eq (pc := 40) (tgt := 70) B dX10_asks_40 (by decide) hf (fun hf => ?_) (fun hf => ?_)
      · refine lv_iload_n (pc := 70) hx hb dX10_asks_70 rfl (lv_at hl 1 rfl) ?_
        exact zreti (pc := 71) B hW hf dX10_asks_71
      · refine lv_iload_n (pc := 43) hx hb dX10_asks_43 rfl (lv_at hl 0 rfl) ?_
        refine lv_iload (pc := 44) hx hb dX10_asks_44 (lv_at hl 2 rfl) ?_
        refine s_X10_223 (pc := 46) B hW hl.1 (by decide) (zle8 rfl) dX10_asks_46 (fun _ _ h => c_X10_alike h) hf (fun r2 μ1 H locs hW hf => ?_)
        refine lv_iload_n (pc := 49) hx hb dX10_asks_49 rfl (lv_at hl 0 rfl) ?_
        refine lv_iload_n (pc := 50) hx hb dX10_asks_50 rfl (lv_at hl 1 rfl) ?_
        refine s_X10_223 (pc := 51) B hW hl.1 (by decide) (zle8 rfl) dX10_asks_51 (fun _ _ h => c_X10_alike h) hf (fun r4 μ3 H locs hW hf => ?_)
        refine yic_ge (pc := 54) (tgt := 62) B dX10_asks_54 (by decide) hf (fun hf => ?_) (fun hf => ?_)
        · refine lv_iload_n (pc := 62) hx hb dX10_asks_62 rfl (lv_at hl 1 rfl) ?_
          refine lv_istore_n (pc := 63) (lv' := [(3, .int x3), (2, .int x2), (4, .int x4)]) hx hb dX10_asks_63 rfl hl (by decide) rfl (fun ls hl => ?_)
          refine lv_iinc (pc := 64) (v := (x4 + (1 : Int32))) (lv' := [(4, .int (x4 + (1 : Int32))), (3, .int x3), (2, .int x2)]) hx hb dX10_asks_64 hl (k := 2) rfl rfl (by decide) rfl (fun ls hl => ?_)
          refine lv_goto (pc := 67) (tgt := 32) hx hb dX10_asks_67 (by decide) ?_
          exact ih (lv_sub hl [2, 1, 0] rfl) hW hf
        · refine lv_iload (pc := 57) hx hb dX10_asks_57 (lv_at hl 2 rfl) ?_
          refine lv_goto (pc := 59) (tgt := 63) hx hb dX10_asks_59 (by decide) ?_
          refine lv_istore_n (pc := 63) (lv' := [(3, .int x4), (2, .int x2), (4, .int x4)]) hx hb dX10_asks_63 rfl hl (by decide) rfl (fun ls hl => ?_)
          refine lv_iinc (pc := 64) (v := (x4 + (1 : Int32))) (lv' := [(4, .int (x4 + (1 : Int32))), (3, .int x4), (2, .int x2)]) hx hb dX10_asks_64 hl (k := 2) rfl rfl (by decide) rfl (fun ls hl => ?_)
          refine lv_goto (pc := 67) (tgt := 32) hx hb dX10_asks_67 (by decide) ?_
          exact ih (lv_sub hl [2, 1, 0] rfl) hW hf
noncomputable def f_X10_asks (x1 : Int32) (μ : Mem) : Option (Int32 × Mem) := zbind (f_X10_isBoy x1 μ) (fun r2 μ1 => (if r2 = 0 then zbind (f_X10_bad μ1) (fun r6 μ5 => some (r6, μ5)) else zbind (f_X10_kindsOf x1 μ1) (fun r4 μ3 => (if r4 = 0 then f_X10_asks_32 zFU r4 (-1 : Int32) (1 : Int32) μ3 else f_X10_asks_32 zFU r4 (0 : Int32) (1 : Int32) μ3))))
set_option maxRecDepth 100000 in
theorem c_X10_asks {G : ZG} {l : Launch} {x1 : Int32} {μ : Mem} {r : Int32} {μ' : Mem} (h : f_X10_asks x1 μ = some (r, μ')) : zC ZM G l yX10_asks cX10_asks 5 (some .int) 4 [.ref (zad G 0), .int x1] μ (some (.int r)) μ' := by
  refine zC.mk (by decide +kernel) (Nat.le_of_ble_eq_true rfl) ?_
  intro p e s m below meth c ls B hl hW
  have B : zB ZM G cX10_asks 5 "DarkSharesModel" (some .int) p s m [.ref (zad G 0), .int x1].toArray meth c := B
  have hl : lv_has ls 5 [(0, .ref (zad G 0)), (1, .int x1)] := hl
  have hx := B.1
  have hb := B.2.1
  have hf := h
  unfold f_X10_asks at hf
  refine lv_aload_n (pc := 0) hx hb dX10_asks_0 rfl (lv_at hl 0 rfl) ?_
  refine lv_iload_n (pc := 1) hx hb dX10_asks_1 rfl (lv_at hl 1 rfl) ?_
  refine s_X10_171 (pc := 2) B hW hl.1 (by decide) (zle8 rfl) dX10_asks_2 (fun _ _ h => c_X10_isBoy h) hf (fun r2 μ1 H locs hW hf => ?_)
  refine yif_ne (pc := 5) (tgt := 13) B dX10_asks_5 (by decide) hf (fun hf => ?_) (fun hf => ?_)
  · refine lv_aload_n (pc := 13) hx hb dX10_asks_13 rfl (lv_at hl 0 rfl) ?_
    refine lv_iload_n (pc := 14) hx hb dX10_asks_14 rfl (lv_at hl 1 rfl) ?_
    refine s_X10_220 (pc := 15) B hW hl.1 (by decide) (zle8 rfl) dX10_asks_15 (fun _ _ h => c_X10_kindsOf h) hf (fun r4 μ3 H locs hW hf => ?_)
    refine lv_istore_n (pc := 18) (lv' := [(2, .int r4), (0, .ref (zad G 0)), (1, .int x1)]) hx hb dX10_asks_18 rfl hl (by decide) rfl (fun ls hl => ?_)
    refine lv_iload_n (pc := 19) hx hb dX10_asks_19 rfl (lv_at hl 0 rfl) ?_
    refine yif_ne (pc := 20) (tgt := 27) B dX10_asks_20 (by decide) hf (fun hf => ?_) (fun hf => ?_)
    · refine lv_iconst (pc := 27) (v := (0 : Int32)) hx hb dX10_asks_27 rfl ?_
      refine lv_istore_n (pc := 28) (lv' := [(3, .int (0 : Int32)), (2, .int r4), (0, .ref (zad G 0)), (1, .int x1)]) hx hb dX10_asks_28 rfl hl (by decide) rfl (fun ls hl => ?_)
      refine lv_iconst (pc := 29) (v := (1 : Int32)) hx hb dX10_asks_29 rfl ?_
      refine lv_istore (pc := 30) (lv' := [(4, .int (1 : Int32)), (3, .int (0 : Int32)), (2, .int r4), (0, .ref (zad G 0)), (1, .int x1)]) hx hb dX10_asks_30 hl (by decide) rfl (fun ls hl => ?_)
      exact t_X10_asks_32 B zFU (lv_sub hl [2, 1, 0] rfl) hW hf
    · refine lv_iconst (pc := 23) (v := (-1 : Int32)) hx hb dX10_asks_23 rfl ?_
      refine lv_goto (pc := 24) (tgt := 28) hx hb dX10_asks_24 (by decide) ?_
      refine lv_istore_n (pc := 28) (lv' := [(3, .int (-1 : Int32)), (2, .int r4), (0, .ref (zad G 0)), (1, .int x1)]) hx hb dX10_asks_28 rfl hl (by decide) rfl (fun ls hl => ?_)
      refine lv_iconst (pc := 29) (v := (1 : Int32)) hx hb dX10_asks_29 rfl ?_
      refine lv_istore (pc := 30) (lv' := [(4, .int (1 : Int32)), (3, .int (-1 : Int32)), (2, .int r4), (0, .ref (zad G 0)), (1, .int x1)]) hx hb dX10_asks_30 hl (by decide) rfl (fun ls hl => ?_)
      exact t_X10_asks_32 B zFU (lv_sub hl [2, 1, 0] rfl) hW hf
  · refine lv_aload_n (pc := 8) hx hb dX10_asks_8 rfl (lv_at hl 0 rfl) ?_
    refine s_X10_85 (pc := 9) B hW hl.1 (by decide) (zle8 rfl) dX10_asks_9 (fun _ _ h => c_X10_bad h) hf (fun r6 μ5 H locs hW hf => ?_)
    exact zreti (pc := 12) B hW hf dX10_asks_12
noncomputable def f_X10_took_46 : Nat → Int32 → Int32 → Int32 → Int32 → Int32 → Mem → Option (Int32 × Mem)
  | 0, _, _, _, _, _, _ => none
  | n + 1, x1, x2, x3, x4, x5, μ => (if (μ.1 0 1) ≤ x5 then some (x4, μ) else (if x5 = x1 then f_X10_took_46 n x1 x2 x3 (x4 ||| (0 : Int32)) (x5 + (1 : Int32)) μ else zbind (f_X10_setOf x5 μ) (fun r2 μ1 => (if ((x2 &&& (x3 ^^^ (-1 : Int32))) &&& (r2 ^^^ (-1 : Int32))) = 0 then f_X10_took_46 n x1 x2 x3 (x4 ||| ((1 : Int32) <<< (x5 &&& 31))) (x5 + (1 : Int32)) μ1 else f_X10_took_46 n x1 x2 x3 (x4 ||| (0 : Int32)) (x5 + (1 : Int32)) μ1))))
set_option maxRecDepth 100000 in
theorem t_X10_took_46 {G : ZG} {p : Program} {l : Launch} {e : Env} {s : State} {m : MethodId} {args : Array Value} {below : List Frame} {meth : Method} {c : Code} (B : zB ZM G cX10_took 6 "DarkSharesModel" (some .int) p s m args meth c) : ∀ (n : Nat) {x1 : Int32} {x2 : Int32} {x3 : Int32} {x4 : Int32} {x5 : Int32} {μ : Mem} {H : Heap} {locs : List Loc} {ls : Array Slot} {r : Int32} {μ' : Mem}, lv_has ls 6 [(0, .ref (zad G 0)), (1, .int x1), (2, .int x2), (3, .int x3), (4, .int x4), (5, .int x5)] → zW ZM G s H locs μ → f_X10_took_46 n x1 x2 x3 x4 x5 μ = some (r, μ') → W p l e (zR 3) s m args below meth c H locs 0 0 (MQ below (zQ ZM G (some (.int r)) μ') args s 0 0 (zAd ZM G)) (F0 m 46 ls []) := by
  have hx := B.1
  have hb := B.2.1
  intro n
  induction n with
  | zero => intro _ _ _ _ _ _ _ _ _ _ _ hl hW hf; cases hf
  | succ n ih =>
    intro x1 x2 x3 x4 x5 μ H locs ls r μ' hl hW hf
    rw [f_X10_took_46] at hf
    refine lv_iload (pc := 46) hx hb dX10_took_46 (lv_at hl 5 rfl) ?_
    refine lv_aload_n (pc := 48) hx hb dX10_took_48 rfl (lv_at hl 0 rfl) ?_
    refine g_X10_71 (pc := 49) B hW dX10_took_49 ?_
    refine yic_ge (pc := 52) (tgt := 97) B dX10_took_52 (by decide) hf (fun hf => ?_) (fun hf => ?_)
    · refine lv_iload (pc := 97) hx hb dX10_took_97 (lv_at hl 4 rfl) ?_
      exact zreti (pc := 99) B hW hf dX10_took_99
    · refine lv_iload (pc := 55) hx hb dX10_took_55 (lv_at hl 4 rfl) ?_
      refine lv_iload (pc := 57) hx hb dX10_took_57 (lv_at hl 5 rfl) ?_
      refine lv_iload_n (pc := 59) hx hb dX10_took_59 rfl (lv_at hl 1 rfl) ?_
      refine yic_eq (pc := 60) (tgt := 87) B dX10_took_60 (by decide) hf (fun hf => ?_) (fun hf => ?_)
      · refine lv_iconst (pc := 87) (v := (0 : Int32)) hx hb dX10_took_87 rfl ?_
        refine lv_ior (pc := 88) hx hb dX10_took_88 ?_
        refine lv_istore (pc := 89) (lv' := [(4, .int (x4 ||| (0 : Int32))), (0, .ref (zad G 0)), (1, .int x1), (2, .int x2), (3, .int x3), (5, .int x5)]) hx hb dX10_took_89 hl (by decide) rfl (fun ls hl => ?_)
        refine lv_iinc (pc := 91) (v := (x5 + (1 : Int32))) (lv' := [(5, .int (x5 + (1 : Int32))), (4, .int (x4 ||| (0 : Int32))), (0, .ref (zad G 0)), (1, .int x1), (2, .int x2), (3, .int x3)]) hx hb dX10_took_91 hl (k := 5) rfl rfl (by decide) rfl (fun ls hl => ?_)
        refine lv_goto (pc := 94) (tgt := 46) hx hb dX10_took_94 (by decide) ?_
        exact ih (lv_sub hl [2, 3, 4, 5, 1, 0] rfl) hW hf
      · refine lv_iload_n (pc := 63) hx hb dX10_took_63 rfl (lv_at hl 2 rfl) ?_
        refine lv_iload_n (pc := 64) hx hb dX10_took_64 rfl (lv_at hl 3 rfl) ?_
        refine lv_iconst (pc := 65) (v := (-1 : Int32)) hx hb dX10_took_65 rfl ?_
        refine lv_ixor (pc := 66) hx hb dX10_took_66 ?_
        refine lv_iand (pc := 67) hx hb dX10_took_67 ?_
        refine lv_aload_n (pc := 68) hx hb dX10_took_68 rfl (lv_at hl 0 rfl) ?_
        refine lv_iload (pc := 69) hx hb dX10_took_69 (lv_at hl 5 rfl) ?_
        refine s_X10_161 (pc := 71) B hW hl.1 (by decide) (zle8 rfl) dX10_took_71 (fun _ _ h => c_X10_setOf h) hf (fun r2 μ1 H locs hW hf => ?_)
        refine lv_iconst (pc := 74) (v := (-1 : Int32)) hx hb dX10_took_74 rfl ?_
        refine lv_ixor (pc := 75) hx hb dX10_took_75 ?_
        refine lv_iand (pc := 76) hx hb dX10_took_76 ?_
        refine yif_ne (pc := 77) (tgt := 87) B dX10_took_77 (by decide) hf (fun hf => ?_) (fun hf => ?_)
        · refine lv_iconst (pc := 87) (v := (0 : Int32)) hx hb dX10_took_87 rfl ?_
          refine lv_ior (pc := 88) hx hb dX10_took_88 ?_
          refine lv_istore (pc := 89) (lv' := [(4, .int (x4 ||| (0 : Int32))), (0, .ref (zad G 0)), (1, .int x1), (2, .int x2), (3, .int x3), (5, .int x5)]) hx hb dX10_took_89 hl (by decide) rfl (fun ls hl => ?_)
          refine lv_iinc (pc := 91) (v := (x5 + (1 : Int32))) (lv' := [(5, .int (x5 + (1 : Int32))), (4, .int (x4 ||| (0 : Int32))), (0, .ref (zad G 0)), (1, .int x1), (2, .int x2), (3, .int x3)]) hx hb dX10_took_91 hl (k := 5) rfl rfl (by decide) rfl (fun ls hl => ?_)
          refine lv_goto (pc := 94) (tgt := 46) hx hb dX10_took_94 (by decide) ?_
          exact ih (lv_sub hl [2, 3, 4, 5, 1, 0] rfl) hW hf
        · refine lv_iconst (pc := 80) (v := (1 : Int32)) hx hb dX10_took_80 rfl ?_
          refine lv_iload (pc := 81) hx hb dX10_took_81 (lv_at hl 5 rfl) ?_
          refine lv_ishl (pc := 83) hx hb dX10_took_83 ?_
          refine lv_goto (pc := 84) (tgt := 88) hx hb dX10_took_84 (by decide) ?_
          refine lv_ior (pc := 88) hx hb dX10_took_88 ?_
          refine lv_istore (pc := 89) (lv' := [(4, .int (x4 ||| ((1 : Int32) <<< (x5 &&& 31)))), (0, .ref (zad G 0)), (1, .int x1), (2, .int x2), (3, .int x3), (5, .int x5)]) hx hb dX10_took_89 hl (by decide) rfl (fun ls hl => ?_)
          refine lv_iinc (pc := 91) (v := (x5 + (1 : Int32))) (lv' := [(5, .int (x5 + (1 : Int32))), (4, .int (x4 ||| ((1 : Int32) <<< (x5 &&& 31)))), (0, .ref (zad G 0)), (1, .int x1), (2, .int x2), (3, .int x3)]) hx hb dX10_took_91 hl (k := 5) rfl rfl (by decide) rfl (fun ls hl => ?_)
          refine lv_goto (pc := 94) (tgt := 46) hx hb dX10_took_94 (by decide) ?_
          exact ih (lv_sub hl [2, 3, 4, 5, 1, 0] rfl) hW hf
noncomputable def f_X10_took (x1 : Int32) (x2 : Int32) (μ : Mem) : Option (Int32 × Mem) := zbind (f_X10_isBoy x1 μ) (fun r2 μ1 => (if r2 = 0 then zbind (f_X10_bad μ1) (fun r4 μ3 => some (r4, μ3)) else zbind (f_X10_in x2 (0 : Int32) (4095 : Int32) μ1) (fun r6 μ5 => (if r6 = 0 then zbind (f_X10_bad μ5) (fun r10 μ9 => some (r10, μ9)) else zbind (f_X10_setOf x1 μ5) (fun r8 μ7 => (if (r8 &&& (x2 ^^^ (-1 : Int32))) = 0 then f_X10_took_46 zFU x1 x2 r8 (0 : Int32) (0 : Int32) μ7 else some ((0 : Int32), μ7)))))))
set_option maxRecDepth 100000 in
theorem c_X10_took {G : ZG} {l : Launch} {x1 : Int32} {x2 : Int32} {μ : Mem} {r : Int32} {μ' : Mem} (h : f_X10_took x1 x2 μ = some (r, μ')) : zC ZM G l yX10_took cX10_took 6 (some .int) 3 [.ref (zad G 0), .int x1, .int x2] μ (some (.int r)) μ' := by
  refine zC.mk (by decide +kernel) (Nat.le_of_ble_eq_true rfl) ?_
  intro p e s m below meth c ls B hl hW
  have B : zB ZM G cX10_took 6 "DarkSharesModel" (some .int) p s m [.ref (zad G 0), .int x1, .int x2].toArray meth c := B
  have hl : lv_has ls 6 [(0, .ref (zad G 0)), (1, .int x1), (2, .int x2)] := hl
  have hx := B.1
  have hb := B.2.1
  have hf := h
  unfold f_X10_took at hf
  refine lv_aload_n (pc := 0) hx hb dX10_took_0 rfl (lv_at hl 0 rfl) ?_
  refine lv_iload_n (pc := 1) hx hb dX10_took_1 rfl (lv_at hl 1 rfl) ?_
  refine s_X10_171 (pc := 2) B hW hl.1 (by decide) (zle8 rfl) dX10_took_2 (fun _ _ h => c_X10_isBoy h) hf (fun r2 μ1 H locs hW hf => ?_)
  refine yif_eq (pc := 5) (tgt := 19) B dX10_took_5 (by decide) hf (fun hf => ?_) (fun hf => ?_)
  · refine lv_aload_n (pc := 19) hx hb dX10_took_19 rfl (lv_at hl 0 rfl) ?_
    refine s_X10_85 (pc := 20) B hW hl.1 (by decide) (zle8 rfl) dX10_took_20 (fun _ _ h => c_X10_bad h) hf (fun r4 μ3 H locs hW hf => ?_)
    exact zreti (pc := 23) B hW hf dX10_took_23
  · refine lv_iload_n (pc := 8) hx hb dX10_took_8 rfl (lv_at hl 2 rfl) ?_
    refine lv_iconst (pc := 9) (v := (0 : Int32)) hx hb dX10_took_9 rfl ?_
    refine lv_sipush (pc := 10) (v := (4095 : Int32)) hx hb dX10_took_10 rfl ?_
    refine s_X10_81 (pc := 13) B hW hl.1 (by decide) (zle8 rfl) dX10_took_13 (fun _ _ h => c_X10_in h) hf (fun r6 μ5 H locs hW hf => ?_)
    refine yif_ne (pc := 16) (tgt := 24) B dX10_took_16 (by decide) hf (fun hf => ?_) (fun hf => ?_)
    · refine lv_aload_n (pc := 24) hx hb dX10_took_24 rfl (lv_at hl 0 rfl) ?_
      refine lv_iload_n (pc := 25) hx hb dX10_took_25 rfl (lv_at hl 1 rfl) ?_
      refine s_X10_161 (pc := 26) B hW hl.1 (by decide) (zle8 rfl) dX10_took_26 (fun _ _ h => c_X10_setOf h) hf (fun r8 μ7 H locs hW hf => ?_)
      refine lv_istore_n (pc := 29) (lv' := [(3, .int r8), (0, .ref (zad G 0)), (1, .int x1), (2, .int x2)]) hx hb dX10_took_29 rfl hl (by decide) rfl (fun ls hl => ?_)
      refine lv_iload_n (pc := 30) hx hb dX10_took_30 rfl (lv_at hl 0 rfl) ?_
      refine lv_iload_n (pc := 31) hx hb dX10_took_31 rfl (lv_at hl 3 rfl) ?_
      refine lv_iconst (pc := 32) (v := (-1 : Int32)) hx hb dX10_took_32 rfl ?_
      refine lv_ixor (pc := 33) hx hb dX10_took_33 ?_
      refine lv_iand (pc := 34) hx hb dX10_took_34 ?_
      refine yif_eq (pc := 35) (tgt := 40) B dX10_took_35 (by decide) hf (fun hf => ?_) (fun hf => ?_)
      · refine lv_iconst (pc := 40) (v := (0 : Int32)) hx hb dX10_took_40 rfl ?_
        refine lv_istore (pc := 41) (lv' := [(4, .int (0 : Int32)), (3, .int r8), (0, .ref (zad G 0)), (1, .int x1), (2, .int x2)]) hx hb dX10_took_41 hl (by decide) rfl (fun ls hl => ?_)
        refine lv_iconst (pc := 43) (v := (0 : Int32)) hx hb dX10_took_43 rfl ?_
        refine lv_istore (pc := 44) (lv' := [(5, .int (0 : Int32)), (4, .int (0 : Int32)), (3, .int r8), (0, .ref (zad G 0)), (1, .int x1), (2, .int x2)]) hx hb dX10_took_44 hl (by decide) rfl (fun ls hl => ?_)
        exact t_X10_took_46 B zFU (lv_sub hl [3, 4, 5, 2, 1, 0] rfl) hW hf
      · refine lv_iconst (pc := 38) (v := (0 : Int32)) hx hb dX10_took_38 rfl ?_
        exact zreti (pc := 39) B hW hf dX10_took_39
    · refine lv_aload_n (pc := 19) hx hb dX10_took_19 rfl (lv_at hl 0 rfl) ?_
      refine s_X10_85 (pc := 20) B hW hl.1 (by decide) (zle8 rfl) dX10_took_20 (fun _ _ h => c_X10_bad h) hf (fun r10 μ9 H locs hW hf => ?_)
      exact zreti (pc := 23) B hW hf dX10_took_23
noncomputable def f_X10_lay_6 : Nat → Int64 → Int64 → Int64 → Int64 → Mem → Option (Unit × Mem)
  | 0, _, _, _, _, _ => none
  | n + 1, x1, x3, x5, x7, μ => (if (lg_cmp x7 (0 : Int64)) = 0 then zck (decide (¬ x5 = 0)) (zlet (zL μ 0 23 (x1 / x5)) (fun μ1 => zck (decide (¬ x5 = 0)) (zlet (zL μ1 0 24 (x3 / x5)) (fun μ2 => some ((), μ2))))) else zck (decide (¬ x7 = 0)) (f_X10_lay_6 n x1 x3 x7 (x5 - x5 / x7 * x7) μ))
set_option maxRecDepth 100000 in
theorem t_X10_lay_6 {G : ZG} {p : Program} {l : Launch} {e : Env} {s : State} {m : MethodId} {args : Array Value} {below : List Frame} {meth : Method} {c : Code} (B : zB ZM G cX10_lay 11 "DarkSharesModel" none p s m args meth c) : ∀ (n : Nat) {x1 : Int64} {x3 : Int64} {x5 : Int64} {x7 : Int64} {μ : Mem} {H : Heap} {locs : List Loc} {ls : Array Slot} {r : Unit} {μ' : Mem}, lv_has ls 11 [(0, .ref (zad G 0)), (1, .long x1), (3, .long x3), (5, .long x5), (7, .long x7)] → zW ZM G s H locs μ → f_X10_lay_6 n x1 x3 x5 x7 μ = some (r, μ') → W p l e (zR 1) s m args below meth c H locs 0 0 (MQ below (zQ ZM G none μ') args s 0 0 (zAd ZM G)) (F0 m 6 ls []) := by
  have hx := B.1
  have hb := B.2.1
  intro n
  induction n with
  | zero => intro _ _ _ _ _ _ _ _ _ _ hl hW hf; cases hf
  | succ n ih =>
    intro x1 x3 x5 x7 μ H locs ls r μ' hl hW hf
    rw [f_X10_lay_6] at hf
    refine lv_lload (pc := 6) hx hb dX10_lay_6 (lv_at hl 4 rfl) ?_
    refine lv_lconst (pc := 8) (v := (0 : Int64)) hx hb dX10_lay_8 rfl ?_
    refine W.lcmp (pc := 9) hx hb dX10_lay_9 ?_
    refine yif_eq (pc := 10) (tgt := 31) B dX10_lay_10 (by decide) hf (fun hf => ?_) (fun hf => ?_)
    · refine lv_aload_n (pc := 31) hx hb dX10_lay_31 rfl (lv_at hl 0 rfl) ?_
      refine lv_lload_n (pc := 32) hx hb dX10_lay_32 rfl (lv_at hl 1 rfl) ?_
      refine lv_lload (pc := 33) hx hb dX10_lay_33 (lv_at hl 3 rfl) ?_
      refine ydivl (pc := 35) B dX10_lay_35 hf (fun hf => ?_)
      refine p_X10_226 (pc := 36) B hW dX10_lay_36 hf (fun μ1 H locs hW hf => ?_)
      refine lv_aload_n (pc := 39) hx hb dX10_lay_39 rfl (lv_at hl 0 rfl) ?_
      refine lv_lload_n (pc := 40) hx hb dX10_lay_40 rfl (lv_at hl 2 rfl) ?_
      refine lv_lload (pc := 41) hx hb dX10_lay_41 (lv_at hl 3 rfl) ?_
      refine ydivl (pc := 43) B dX10_lay_43 hf (fun hf => ?_)
      refine p_X10_58 (pc := 44) B hW dX10_lay_44 hf (fun μ2 H locs hW hf => ?_)
      exact zretv (pc := 47) B hW hf dX10_lay_47
    · refine lv_lload (pc := 13) hx hb dX10_lay_13 (lv_at hl 3 rfl) ?_
      refine lv_lload (pc := 15) hx hb dX10_lay_15 (lv_at hl 4 rfl) ?_
      refine yreml (pc := 17) B dX10_lay_17 hf (fun hf => ?_)
      refine lv_lstore (pc := 18) (lv' := [(9, .long (x5 - x5 / x7 * x7)), (0, .ref (zad G 0)), (1, .long x1), (3, .long x3), (5, .long x5), (7, .long x7)]) hx hb dX10_lay_18 hl (by decide) rfl (fun ls hl => ?_)
      refine lv_lload (pc := 20) hx hb dX10_lay_20 (lv_at hl 5 rfl) ?_
      refine lv_lstore (pc := 22) (lv' := [(5, .long x7), (9, .long (x5 - x5 / x7 * x7)), (0, .ref (zad G 0)), (1, .long x1), (3, .long x3), (7, .long x7)]) hx hb dX10_lay_22 hl (by decide) rfl (fun ls hl => ?_)
      refine lv_lload (pc := 24) hx hb dX10_lay_24 (lv_at hl 1 rfl) ?_
      refine lv_lstore (pc := 26) (lv' := [(7, .long (x5 - x5 / x7 * x7)), (5, .long x7), (9, .long (x5 - x5 / x7 * x7)), (0, .ref (zad G 0)), (1, .long x1), (3, .long x3)]) hx hb dX10_lay_26 hl (by decide) rfl (fun ls hl => ?_)
      refine lv_goto (pc := 28) (tgt := 6) hx hb dX10_lay_28 (by decide) ?_
      exact ih (lv_sub hl [3, 4, 5, 1, 0] rfl) hW hf
noncomputable def f_X10_lay (x1 : Int64) (x3 : Int64) (μ : Mem) : Option (Unit × Mem) := f_X10_lay_6 zFU x1 x3 x1 x3 μ
set_option maxRecDepth 100000 in
theorem c_X10_lay {G : ZG} {l : Launch} {x1 : Int64} {x3 : Int64} {μ : Mem} {r : Unit} {μ' : Mem} (h : f_X10_lay x1 x3 μ = some (r, μ')) : zC ZM G l yX10_lay cX10_lay 11 none 1 [.ref (zad G 0), .long x1, .long x3] μ none μ' := by
  refine zC.mk (by decide +kernel) (Nat.le_of_ble_eq_true rfl) ?_
  intro p e s m below meth c ls B hl hW
  have B : zB ZM G cX10_lay 11 "DarkSharesModel" none p s m [.ref (zad G 0), .long x1, .long x3].toArray meth c := B
  have hl : lv_has ls 11 [(0, .ref (zad G 0)), (1, .long x1), (3, .long x3)] := hl
  have hx := B.1
  have hb := B.2.1
  have hf := h
  unfold f_X10_lay at hf
  refine lv_lload_n (pc := 0) hx hb dX10_lay_0 rfl (lv_at hl 1 rfl) ?_
  refine lv_lstore (pc := 1) (lv' := [(5, .long x1), (0, .ref (zad G 0)), (1, .long x1), (3, .long x3)]) hx hb dX10_lay_1 hl (by decide) rfl (fun ls hl => ?_)
  refine lv_lload_n (pc := 3) hx hb dX10_lay_3 rfl (lv_at hl 3 rfl) ?_
  refine lv_lstore (pc := 4) (lv' := [(7, .long x3), (5, .long x1), (0, .ref (zad G 0)), (1, .long x1), (3, .long x3)]) hx hb dX10_lay_4 hl (by decide) rfl (fun ls hl => ?_)
  exact t_X10_lay_6 B zFU (lv_sub hl [2, 3, 4, 1, 0] rfl) hW hf
noncomputable def f_X10_owls_35 : Nat → Int32 → Int32 → Int32 → Int32 → Int32 → Mem → Option (Int32 × Mem)
  | 0, _, _, _, _, _, _ => none
  | n + 1, x1, x2, x3, x4, x5, μ => (if (12 : Int32) ≤ x5 then zbind (f_X10_lay ((x4).toInt64) (10 : Int64) μ) (fun _ μ1 => some ((1 : Int32), μ1)) else zbind (f_X10_has x3 x5 μ) (fun r3 μ2 => (if r3 = 0 then f_X10_owls_35 n x1 x2 x3 (x4 + (0 : Int32)) (x5 + (1 : Int32)) μ2 else zbind (f_X10_valueIn x1 x5 x3 μ2) (fun r5 μ4 => zbind (f_X10_in x5 (4 : Int32) (7 : Int32) μ4) (fun r7 μ6 => (if r7 = 0 then f_X10_owls_35 n x1 x2 x3 (x4 + (r5 * (10 : Int32))) (x5 + (1 : Int32)) μ6 else f_X10_owls_35 n x1 x2 x3 (x4 + (r5 * ((10 : Int32) - x2))) (x5 + (1 : Int32)) μ6))))))
set_option maxRecDepth 100000 in
theorem t_X10_owls_35 {G : ZG} {p : Program} {l : Launch} {e : Env} {s : State} {m : MethodId} {args : Array Value} {below : List Frame} {meth : Method} {c : Code} (B : zB ZM G cX10_owls 6 "DarkSharesModel" (some .int) p s m args meth c) : ∀ (n : Nat) {x1 : Int32} {x2 : Int32} {x3 : Int32} {x4 : Int32} {x5 : Int32} {μ : Mem} {H : Heap} {locs : List Loc} {ls : Array Slot} {r : Int32} {μ' : Mem}, lv_has ls 6 [(0, .ref (zad G 0)), (1, .int x1), (2, .int x2), (3, .int x3), (4, .int x4), (5, .int x5)] → zW ZM G s H locs μ → f_X10_owls_35 n x1 x2 x3 x4 x5 μ = some (r, μ') → W p l e (zR 4) s m args below meth c H locs 0 0 (MQ below (zQ ZM G (some (.int r)) μ') args s 0 0 (zAd ZM G)) (F0 m 35 ls []) := by
  have hx := B.1
  have hb := B.2.1
  intro n
  induction n with
  | zero => intro _ _ _ _ _ _ _ _ _ _ _ hl hW hf; cases hf
  | succ n ih =>
    intro x1 x2 x3 x4 x5 μ H locs ls r μ' hl hW hf
    rw [f_X10_owls_35] at hf
    refine lv_iload (pc := 35) hx hb dX10_owls_35 (lv_at hl 5 rfl) ?_
    refine lv_bipush (pc := 37) (v := (12 : Int32)) hx hb dX10_owls_37 rfl ?_
    refine yic_ge (pc := 39) (tgt := 95) B dX10_owls_39 (by decide) hf (fun hf => ?_) (fun hf => ?_)
    · refine lv_aload_n (pc := 95) hx hb dX10_owls_95 rfl (lv_at hl 0 rfl) ?_
      refine lv_iload (pc := 96) hx hb dX10_owls_96 (lv_at hl 4 rfl) ?_
      refine lv_i2l (pc := 98) (v := (x4).toInt64) hx hb dX10_owls_98 rfl ?_
      refine lv_ldc2 (pc := 99) hx hb B.2.2.2.1 (B.2.2.2.2.1 _ kw1105) dX10_owls_99 ?_
      refine s_X10_231 (pc := 102) B hW hl.1 (by decide) (zle8 rfl) dX10_owls_102 (fun _ _ h => c_X10_lay h) hf (fun _ μ1 H locs hW hf => ?_)
      refine lv_iconst (pc := 105) (v := (1 : Int32)) hx hb dX10_owls_105 rfl ?_
      exact zreti (pc := 106) B hW hf dX10_owls_106
    · refine lv_iload (pc := 42) hx hb dX10_owls_42 (lv_at hl 4 rfl) ?_
      refine lv_iload_n (pc := 44) hx hb dX10_owls_44 rfl (lv_at hl 3 rfl) ?_
      refine lv_iload (pc := 45) hx hb dX10_owls_45 (lv_at hl 5 rfl) ?_
      refine s_X10_151 (pc := 47) B hW hl.1 (by decide) (zle8 rfl) dX10_owls_47 (fun _ _ h => c_X10_has h) hf (fun r3 μ2 H locs hW hf => ?_)
      refine yif_eq (pc := 50) (tgt := 85) B dX10_owls_50 (by decide) hf (fun hf => ?_) (fun hf => ?_)
      · refine lv_iconst (pc := 85) (v := (0 : Int32)) hx hb dX10_owls_85 rfl ?_
        refine lv_iadd (pc := 86) hx hb dX10_owls_86 ?_
        refine lv_istore (pc := 87) (lv' := [(4, .int (x4 + (0 : Int32))), (0, .ref (zad G 0)), (1, .int x1), (2, .int x2), (3, .int x3), (5, .int x5)]) hx hb dX10_owls_87 hl (by decide) rfl (fun ls hl => ?_)
        refine lv_iinc (pc := 89) (v := (x5 + (1 : Int32))) (lv' := [(5, .int (x5 + (1 : Int32))), (4, .int (x4 + (0 : Int32))), (0, .ref (zad G 0)), (1, .int x1), (2, .int x2), (3, .int x3)]) hx hb dX10_owls_89 hl (k := 5) rfl rfl (by decide) rfl (fun ls hl => ?_)
        refine lv_goto (pc := 92) (tgt := 35) hx hb dX10_owls_92 (by decide) ?_
        exact ih (lv_sub hl [2, 3, 4, 5, 1, 0] rfl) hW hf
      · refine lv_aload_n (pc := 53) hx hb dX10_owls_53 rfl (lv_at hl 0 rfl) ?_
        refine lv_iload_n (pc := 54) hx hb dX10_owls_54 rfl (lv_at hl 1 rfl) ?_
        refine lv_iload (pc := 55) hx hb dX10_owls_55 (lv_at hl 5 rfl) ?_
        refine lv_iload_n (pc := 57) hx hb dX10_owls_57 rfl (lv_at hl 3 rfl) ?_
        refine s_X10_158 (pc := 58) B hW hl.1 (by decide) (zle8 rfl) dX10_owls_58 (fun _ _ h => c_X10_valueIn h) hf (fun r5 μ4 H locs hW hf => ?_)
        refine lv_iload (pc := 61) hx hb dX10_owls_61 (lv_at hl 5 rfl) ?_
        refine lv_iconst (pc := 63) (v := (4 : Int32)) hx hb dX10_owls_63 rfl ?_
        refine lv_bipush (pc := 64) (v := (7 : Int32)) hx hb dX10_owls_64 rfl ?_
        refine s_X10_81 (pc := 66) B hW hl.1 (by decide) (zle8 rfl) dX10_owls_66 (fun _ _ h => c_X10_in h) hf (fun r7 μ6 H locs hW hf => ?_)
        refine yif_eq (pc := 69) (tgt := 79) B dX10_owls_69 (by decide) hf (fun hf => ?_) (fun hf => ?_)
        · refine lv_bipush (pc := 79) (v := (10 : Int32)) hx hb dX10_owls_79 rfl ?_
          refine lv_imul (pc := 81) hx hb dX10_owls_81 ?_
          refine lv_goto (pc := 82) (tgt := 86) hx hb dX10_owls_82 (by decide) ?_
          refine lv_iadd (pc := 86) hx hb dX10_owls_86 ?_
          refine lv_istore (pc := 87) (lv' := [(4, .int (x4 + (r5 * (10 : Int32)))), (0, .ref (zad G 0)), (1, .int x1), (2, .int x2), (3, .int x3), (5, .int x5)]) hx hb dX10_owls_87 hl (by decide) rfl (fun ls hl => ?_)
          refine lv_iinc (pc := 89) (v := (x5 + (1 : Int32))) (lv' := [(5, .int (x5 + (1 : Int32))), (4, .int (x4 + (r5 * (10 : Int32)))), (0, .ref (zad G 0)), (1, .int x1), (2, .int x2), (3, .int x3)]) hx hb dX10_owls_89 hl (k := 5) rfl rfl (by decide) rfl (fun ls hl => ?_)
          refine lv_goto (pc := 92) (tgt := 35) hx hb dX10_owls_92 (by decide) ?_
          exact ih (lv_sub hl [2, 3, 4, 5, 1, 0] rfl) hW hf
        · refine lv_bipush (pc := 72) (v := (10 : Int32)) hx hb dX10_owls_72 rfl ?_
          refine lv_iload_n (pc := 74) hx hb dX10_owls_74 rfl (lv_at hl 2 rfl) ?_
          refine lv_isub (pc := 75) hx hb dX10_owls_75 ?_
          refine lv_goto (pc := 76) (tgt := 81) hx hb dX10_owls_76 (by decide) ?_
          refine lv_imul (pc := 81) hx hb dX10_owls_81 ?_
          refine lv_goto (pc := 82) (tgt := 86) hx hb dX10_owls_82 (by decide) ?_
          refine lv_iadd (pc := 86) hx hb dX10_owls_86 ?_
          refine lv_istore (pc := 87) (lv' := [(4, .int (x4 + (r5 * ((10 : Int32) - x2)))), (0, .ref (zad G 0)), (1, .int x1), (2, .int x2), (3, .int x3), (5, .int x5)]) hx hb dX10_owls_87 hl (by decide) rfl (fun ls hl => ?_)
          refine lv_iinc (pc := 89) (v := (x5 + (1 : Int32))) (lv' := [(5, .int (x5 + (1 : Int32))), (4, .int (x4 + (r5 * ((10 : Int32) - x2)))), (0, .ref (zad G 0)), (1, .int x1), (2, .int x2), (3, .int x3)]) hx hb dX10_owls_89 hl (k := 5) rfl rfl (by decide) rfl (fun ls hl => ?_)
          refine lv_goto (pc := 92) (tgt := 35) hx hb dX10_owls_92 (by decide) ?_
          exact ih (lv_sub hl [2, 3, 4, 5, 1, 0] rfl) hW hf
noncomputable def f_X10_owls (x1 : Int32) (x2 : Int32) (μ : Mem) : Option (Int32 × Mem) := zbind (f_X10_isBoy x1 μ) (fun r2 μ1 => (if r2 = 0 then zbind (f_X10_bad μ1) (fun r4 μ3 => some (r4, μ3)) else zbind (f_X10_in x2 (0 : Int32) (10 : Int32) μ1) (fun r6 μ5 => (if r6 = 0 then zbind (f_X10_bad μ5) (fun r10 μ9 => some (r10, μ9)) else zbind (f_X10_setOf x1 μ5) (fun r8 μ7 => f_X10_owls_35 zFU x1 x2 r8 (0 : Int32) (0 : Int32) μ7)))))
set_option maxRecDepth 100000 in
theorem c_X10_owls {G : ZG} {l : Launch} {x1 : Int32} {x2 : Int32} {μ : Mem} {r : Int32} {μ' : Mem} (h : f_X10_owls x1 x2 μ = some (r, μ')) : zC ZM G l yX10_owls cX10_owls 6 (some .int) 4 [.ref (zad G 0), .int x1, .int x2] μ (some (.int r)) μ' := by
  refine zC.mk (by decide +kernel) (Nat.le_of_ble_eq_true rfl) ?_
  intro p e s m below meth c ls B hl hW
  have B : zB ZM G cX10_owls 6 "DarkSharesModel" (some .int) p s m [.ref (zad G 0), .int x1, .int x2].toArray meth c := B
  have hl : lv_has ls 6 [(0, .ref (zad G 0)), (1, .int x1), (2, .int x2)] := hl
  have hx := B.1
  have hb := B.2.1
  have hf := h
  unfold f_X10_owls at hf
  refine lv_aload_n (pc := 0) hx hb dX10_owls_0 rfl (lv_at hl 0 rfl) ?_
  refine lv_iload_n (pc := 1) hx hb dX10_owls_1 rfl (lv_at hl 1 rfl) ?_
  refine s_X10_171 (pc := 2) B hW hl.1 (by decide) (zle8 rfl) dX10_owls_2 (fun _ _ h => c_X10_isBoy h) hf (fun r2 μ1 H locs hW hf => ?_)
  refine yif_eq (pc := 5) (tgt := 18) B dX10_owls_5 (by decide) hf (fun hf => ?_) (fun hf => ?_)
  · refine lv_aload_n (pc := 18) hx hb dX10_owls_18 rfl (lv_at hl 0 rfl) ?_
    refine s_X10_85 (pc := 19) B hW hl.1 (by decide) (zle8 rfl) dX10_owls_19 (fun _ _ h => c_X10_bad h) hf (fun r4 μ3 H locs hW hf => ?_)
    exact zreti (pc := 22) B hW hf dX10_owls_22
  · refine lv_iload_n (pc := 8) hx hb dX10_owls_8 rfl (lv_at hl 2 rfl) ?_
    refine lv_iconst (pc := 9) (v := (0 : Int32)) hx hb dX10_owls_9 rfl ?_
    refine lv_bipush (pc := 10) (v := (10 : Int32)) hx hb dX10_owls_10 rfl ?_
    refine s_X10_81 (pc := 12) B hW hl.1 (by decide) (zle8 rfl) dX10_owls_12 (fun _ _ h => c_X10_in h) hf (fun r6 μ5 H locs hW hf => ?_)
    refine yif_ne (pc := 15) (tgt := 23) B dX10_owls_15 (by decide) hf (fun hf => ?_) (fun hf => ?_)
    · refine lv_aload_n (pc := 23) hx hb dX10_owls_23 rfl (lv_at hl 0 rfl) ?_
      refine lv_iload_n (pc := 24) hx hb dX10_owls_24 rfl (lv_at hl 1 rfl) ?_
      refine s_X10_161 (pc := 25) B hW hl.1 (by decide) (zle8 rfl) dX10_owls_25 (fun _ _ h => c_X10_setOf h) hf (fun r8 μ7 H locs hW hf => ?_)
      refine lv_istore_n (pc := 28) (lv' := [(3, .int r8), (0, .ref (zad G 0)), (1, .int x1), (2, .int x2)]) hx hb dX10_owls_28 rfl hl (by decide) rfl (fun ls hl => ?_)
      refine lv_iconst (pc := 29) (v := (0 : Int32)) hx hb dX10_owls_29 rfl ?_
      refine lv_istore (pc := 30) (lv' := [(4, .int (0 : Int32)), (3, .int r8), (0, .ref (zad G 0)), (1, .int x1), (2, .int x2)]) hx hb dX10_owls_30 hl (by decide) rfl (fun ls hl => ?_)
      refine lv_iconst (pc := 32) (v := (0 : Int32)) hx hb dX10_owls_32 rfl ?_
      refine lv_istore (pc := 33) (lv' := [(5, .int (0 : Int32)), (4, .int (0 : Int32)), (3, .int r8), (0, .ref (zad G 0)), (1, .int x1), (2, .int x2)]) hx hb dX10_owls_33 hl (by decide) rfl (fun ls hl => ?_)
      exact t_X10_owls_35 B zFU (lv_sub hl [3, 4, 5, 2, 1, 0] rfl) hW hf
    · refine lv_aload_n (pc := 18) hx hb dX10_owls_18 rfl (lv_at hl 0 rfl) ?_
      refine s_X10_85 (pc := 19) B hW hl.1 (by decide) (zle8 rfl) dX10_owls_19 (fun _ _ h => c_X10_bad h) hf (fun r10 μ9 H locs hW hf => ?_)
      exact zreti (pc := 22) B hW hf dX10_owls_22
noncomputable def f_X10_terms_38 : Nat → Int32 → Int64 → Int32 → Int32 → Mem → Option (Int32 × Mem)
  | 0, _, _, _, _, _ => none
  | n + 1, x2, x3, x5, x6, μ => (if x2 ≤ x6 then zbind (f_X10_back μ) (fun _ μ1 => some (x5, μ1)) else zck (decide (¬ (2147483648 : Int64) = 0)) (zlet (((x3 * (1103515245 : Int64)) + (12345 : Int64)) - ((x3 * (1103515245 : Int64)) + (12345 : Int64)) / (2147483648 : Int64) * (2147483648 : Int64)) (fun y2 => zck (decide (¬ (65536 : Int64) = 0)) (zck (decide (¬ (12 : Int64) = 0)) (zlet ((((y2 / (65536 : Int64)) - (y2 / (65536 : Int64)) / (12 : Int64) * (12 : Int64))).toInt32) (fun y3 => zck (decide (¬ (2147483648 : Int64) = 0)) (zlet (((y2 * (1103515245 : Int64)) + (12345 : Int64)) - ((y2 * (1103515245 : Int64)) + (12345 : Int64)) / (2147483648 : Int64) * (2147483648 : Int64)) (fun y4 => zck (decide (¬ (65536 : Int64) = 0)) (zck (decide (¬ (12 : Int64) = 0)) (zlet ((((y4 / (65536 : Int64)) - (y4 / (65536 : Int64)) / (12 : Int64) * (12 : Int64))).toInt32) (fun y5 => zbind (f_X10_isSwap y3 y5 μ) (fun r7 μ6 => (if r7 = 0 then f_X10_terms_38 n x2 y4 x5 (x6 + (1 : Int32)) μ6 else zbind (f_X10_changes y3 y5 μ6) (fun _ μ8 => f_X10_terms_38 n x2 y4 (x5 + (1 : Int32)) (x6 + (1 : Int32)) μ8))))))))))))))
set_option maxRecDepth 100000 in
theorem t_X10_terms_38 {G : ZG} {p : Program} {l : Launch} {e : Env} {s : State} {m : MethodId} {args : Array Value} {below : List Frame} {meth : Method} {c : Code} (B : zB ZM G cX10_terms 9 "DarkSharesModel" (some .int) p s m args meth c) : ∀ (n : Nat) {x2 : Int32} {x3 : Int64} {x5 : Int32} {x6 : Int32} {μ : Mem} {H : Heap} {locs : List Loc} {ls : Array Slot} {r : Int32} {μ' : Mem}, lv_has ls 9 [(0, .ref (zad G 0)), (2, .int x2), (3, .long x3), (5, .int x5), (6, .int x6)] → zW ZM G s H locs μ → f_X10_terms_38 n x2 x3 x5 x6 μ = some (r, μ') → W p l e (zR 6) s m args below meth c H locs 0 0 (MQ below (zQ ZM G (some (.int r)) μ') args s 0 0 (zAd ZM G)) (F0 m 38 ls []) := by
  have hx := B.1
  have hb := B.2.1
  intro n
  induction n with
  | zero => intro _ _ _ _ _ _ _ _ _ _ hl hW hf; cases hf
  | succ n ih =>
    intro x2 x3 x5 x6 μ H locs ls r μ' hl hW hf
    rw [f_X10_terms_38] at hf
    refine lv_iload (pc := 38) hx hb dX10_terms_38 (lv_at hl 4 rfl) ?_
    refine lv_iload_n (pc := 40) hx hb dX10_terms_40 rfl (lv_at hl 1 rfl) ?_
    refine yic_ge (pc := 41) (tgt := 124) B dX10_terms_41 (by decide) hf (fun hf => ?_) (fun hf => ?_)
    · refine lv_aload_n (pc := 124) hx hb dX10_terms_124 rfl (lv_at hl 0 rfl) ?_
      refine s_X10_217 (pc := 125) B hW hl.1 (by decide) (zle8 rfl) dX10_terms_125 (fun _ _ h => c_X10_back h) hf (fun _ μ1 H locs hW hf => ?_)
      refine lv_iload (pc := 128) hx hb dX10_terms_128 (lv_at hl 3 rfl) ?_
      exact zreti (pc := 130) B hW hf dX10_terms_130
    · refine lv_lload_n (pc := 44) hx hb dX10_terms_44 rfl (lv_at hl 2 rfl) ?_
      refine lv_ldc2 (pc := 45) hx hb B.2.2.2.1 (B.2.2.2.2.1 _ kw1115) dX10_terms_45 ?_
      refine lv_lmul (pc := 48) hx hb dX10_terms_48 ?_
      refine lv_ldc2 (pc := 49) hx hb B.2.2.2.1 (B.2.2.2.2.1 _ kw1116) dX10_terms_49 ?_
      refine lv_ladd (pc := 52) hx hb dX10_terms_52 ?_
      refine lv_ldc2 (pc := 53) hx hb B.2.2.2.1 (B.2.2.2.2.1 _ kw1117) dX10_terms_53 ?_
      refine yreml (pc := 56) B dX10_terms_56 hf (fun hf => ?_)
      refine ytopl (pc := 57) hf (fun y2 hf => ?_)
      refine lv_lstore_n (pc := 57) (lv' := [(3, .long y2), (0, .ref (zad G 0)), (2, .int x2), (5, .int x5), (6, .int x6)]) hx hb dX10_terms_57 rfl hl (by decide) rfl (fun ls hl => ?_)
      refine lv_lload_n (pc := 58) hx hb dX10_terms_58 rfl (lv_at hl 0 rfl) ?_
      refine lv_ldc2 (pc := 59) hx hb B.2.2.2.1 (B.2.2.2.2.1 _ kw1118) dX10_terms_59 ?_
      refine ydivl (pc := 62) B dX10_terms_62 hf (fun hf => ?_)
      refine lv_ldc2 (pc := 63) hx hb B.2.2.2.1 (B.2.2.2.2.1 _ kw1119) dX10_terms_63 ?_
      refine yreml (pc := 66) B dX10_terms_66 hf (fun hf => ?_)
      refine lv_l2i (pc := 67) (v := (((y2 / (65536 : Int64)) - (y2 / (65536 : Int64)) / (12 : Int64) * (12 : Int64))).toInt32) hx hb dX10_terms_67 rfl ?_
      refine ytop (pc := 68) hf (fun y3 hf => ?_)
      refine lv_istore (pc := 68) (lv' := [(7, .int y3), (3, .long y2), (0, .ref (zad G 0)), (2, .int x2), (5, .int x5), (6, .int x6)]) hx hb dX10_terms_68 hl (by decide) rfl (fun ls hl => ?_)
      refine lv_lload_n (pc := 70) hx hb dX10_terms_70 rfl (lv_at hl 1 rfl) ?_
      refine lv_ldc2 (pc := 71) hx hb B.2.2.2.1 (B.2.2.2.2.1 _ kw1115) dX10_terms_71 ?_
      refine lv_lmul (pc := 74) hx hb dX10_terms_74 ?_
      refine lv_ldc2 (pc := 75) hx hb B.2.2.2.1 (B.2.2.2.2.1 _ kw1116) dX10_terms_75 ?_
      refine lv_ladd (pc := 78) hx hb dX10_terms_78 ?_
      refine lv_ldc2 (pc := 79) hx hb B.2.2.2.1 (B.2.2.2.2.1 _ kw1117) dX10_terms_79 ?_
      refine yreml (pc := 82) B dX10_terms_82 hf (fun hf => ?_)
      refine ytopl (pc := 83) hf (fun y4 hf => ?_)
      refine lv_lstore_n (pc := 83) (lv' := [(3, .long y4), (7, .int y3), (0, .ref (zad G 0)), (2, .int x2), (5, .int x5), (6, .int x6)]) hx hb dX10_terms_83 rfl hl (by decide) rfl (fun ls hl => ?_)
      refine lv_lload_n (pc := 84) hx hb dX10_terms_84 rfl (lv_at hl 0 rfl) ?_
      refine lv_ldc2 (pc := 85) hx hb B.2.2.2.1 (B.2.2.2.2.1 _ kw1118) dX10_terms_85 ?_
      refine ydivl (pc := 88) B dX10_terms_88 hf (fun hf => ?_)
      refine lv_ldc2 (pc := 89) hx hb B.2.2.2.1 (B.2.2.2.2.1 _ kw1119) dX10_terms_89 ?_
      refine yreml (pc := 92) B dX10_terms_92 hf (fun hf => ?_)
      refine lv_l2i (pc := 93) (v := (((y4 / (65536 : Int64)) - (y4 / (65536 : Int64)) / (12 : Int64) * (12 : Int64))).toInt32) hx hb dX10_terms_93 rfl ?_
      refine ytop (pc := 94) hf (fun y5 hf => ?_)
      refine lv_istore (pc := 94) (lv' := [(8, .int y5), (3, .long y4), (7, .int y3), (0, .ref (zad G 0)), (2, .int x2), (5, .int x5), (6, .int x6)]) hx hb dX10_terms_94 hl (by decide) rfl (fun ls hl => ?_)
      refine lv_aload_n (pc := 96) hx hb dX10_terms_96 rfl (lv_at hl 3 rfl) ?_
      refine lv_iload (pc := 97) hx hb dX10_terms_97 (lv_at hl 2 rfl) ?_
      refine lv_iload (pc := 99) hx hb dX10_terms_99 (lv_at hl 0 rfl) ?_
      refine s_X10_208 (pc := 101) B hW hl.1 (by decide) (zle8 rfl) dX10_terms_101 (fun _ _ h => c_X10_isSwap h) hf (fun r7 μ6 H locs hW hf => ?_)
      refine yif_eq (pc := 104) (tgt := 118) B dX10_terms_104 (by decide) hf (fun hf => ?_) (fun hf => ?_)
      · refine lv_iinc (pc := 118) (v := (x6 + (1 : Int32))) (lv' := [(6, .int (x6 + (1 : Int32))), (8, .int y5), (3, .long y4), (7, .int y3), (0, .ref (zad G 0)), (2, .int x2), (5, .int x5)]) hx hb dX10_terms_118 hl (k := 6) rfl rfl (by decide) rfl (fun ls hl => ?_)
        refine lv_goto (pc := 121) (tgt := 38) hx hb dX10_terms_121 (by decide) ?_
        exact ih (lv_sub hl [4, 5, 2, 6, 0] rfl) hW hf
      · refine lv_aload_n (pc := 107) hx hb dX10_terms_107 rfl (lv_at hl 3 rfl) ?_
        refine lv_iload (pc := 108) hx hb dX10_terms_108 (lv_at hl 2 rfl) ?_
        refine lv_iload (pc := 110) hx hb dX10_terms_110 (lv_at hl 0 rfl) ?_
        refine s_X10_183 (pc := 112) B hW hl.1 (by decide) (zle8 rfl) dX10_terms_112 (fun _ _ h => c_X10_changes h) hf (fun _ μ8 H locs hW hf => ?_)
        refine lv_iinc (pc := 115) (v := (x5 + (1 : Int32))) (lv' := [(5, .int (x5 + (1 : Int32))), (8, .int y5), (3, .long y4), (7, .int y3), (0, .ref (zad G 0)), (2, .int x2), (6, .int x6)]) hx hb dX10_terms_115 hl (k := 5) rfl rfl (by decide) rfl (fun ls hl => ?_)
        refine lv_iinc (pc := 118) (v := (x6 + (1 : Int32))) (lv' := [(6, .int (x6 + (1 : Int32))), (5, .int (x5 + (1 : Int32))), (8, .int y5), (3, .long y4), (7, .int y3), (0, .ref (zad G 0)), (2, .int x2)]) hx hb dX10_terms_118 hl (k := 6) rfl rfl (by decide) rfl (fun ls hl => ?_)
        refine lv_goto (pc := 121) (tgt := 38) hx hb dX10_terms_121 (by decide) ?_
        exact ih (lv_sub hl [5, 6, 3, 1, 0] rfl) hW hf
noncomputable def f_X10_terms (x1 : Int32) (x2 : Int32) (μ : Mem) : Option (Int32 × Mem) := zbind (f_X10_in x1 (0 : Int32) (999999 : Int32) μ) (fun r2 μ1 => (if r2 = 0 then zbind (f_X10_bad μ1) (fun r4 μ3 => some (r4, μ3)) else zbind (f_X10_in x2 (0 : Int32) (60 : Int32) μ1) (fun r6 μ5 => (if r6 = 0 then zbind (f_X10_bad μ5) (fun r9 μ8 => some (r9, μ8)) else zbind (f_X10_puts μ5) (fun _ μ7 => f_X10_terms_38 zFU x2 ((x1).toInt64) (0 : Int32) (0 : Int32) μ7)))))
set_option maxRecDepth 100000 in
theorem c_X10_terms {G : ZG} {l : Launch} {x1 : Int32} {x2 : Int32} {μ : Mem} {r : Int32} {μ' : Mem} (h : f_X10_terms x1 x2 μ = some (r, μ')) : zC ZM G l yX10_terms cX10_terms 9 (some .int) 6 [.ref (zad G 0), .int x1, .int x2] μ (some (.int r)) μ' := by
  refine zC.mk (by decide +kernel) (Nat.le_of_ble_eq_true rfl) ?_
  intro p e s m below meth c ls B hl hW
  have B : zB ZM G cX10_terms 9 "DarkSharesModel" (some .int) p s m [.ref (zad G 0), .int x1, .int x2].toArray meth c := B
  have hl : lv_has ls 9 [(0, .ref (zad G 0)), (1, .int x1), (2, .int x2)] := hl
  have hx := B.1
  have hb := B.2.1
  have hf := h
  unfold f_X10_terms at hf
  refine lv_iload_n (pc := 0) hx hb dX10_terms_0 rfl (lv_at hl 1 rfl) ?_
  refine lv_iconst (pc := 1) (v := (0 : Int32)) hx hb dX10_terms_1 rfl ?_
  refine lv_ldc (pc := 2) hx hb B.2.2.2.1 (B.2.2.2.2.1 _ kw1114) dX10_terms_2 ?_
  refine s_X10_81 (pc := 4) B hW hl.1 (by decide) (zle8 rfl) dX10_terms_4 (fun _ _ h => c_X10_in h) hf (fun r2 μ1 H locs hW hf => ?_)
  refine yif_eq (pc := 7) (tgt := 20) B dX10_terms_7 (by decide) hf (fun hf => ?_) (fun hf => ?_)
  · refine lv_aload_n (pc := 20) hx hb dX10_terms_20 rfl (lv_at hl 0 rfl) ?_
    refine s_X10_85 (pc := 21) B hW hl.1 (by decide) (zle8 rfl) dX10_terms_21 (fun _ _ h => c_X10_bad h) hf (fun r4 μ3 H locs hW hf => ?_)
    exact zreti (pc := 24) B hW hf dX10_terms_24
  · refine lv_iload_n (pc := 10) hx hb dX10_terms_10 rfl (lv_at hl 2 rfl) ?_
    refine lv_iconst (pc := 11) (v := (0 : Int32)) hx hb dX10_terms_11 rfl ?_
    refine lv_bipush (pc := 12) (v := (60 : Int32)) hx hb dX10_terms_12 rfl ?_
    refine s_X10_81 (pc := 14) B hW hl.1 (by decide) (zle8 rfl) dX10_terms_14 (fun _ _ h => c_X10_in h) hf (fun r6 μ5 H locs hW hf => ?_)
    refine yif_ne (pc := 17) (tgt := 25) B dX10_terms_17 (by decide) hf (fun hf => ?_) (fun hf => ?_)
    · refine lv_aload_n (pc := 25) hx hb dX10_terms_25 rfl (lv_at hl 0 rfl) ?_
      refine s_X10_211 (pc := 26) B hW hl.1 (by decide) (zle8 rfl) dX10_terms_26 (fun _ _ h => c_X10_puts h) hf (fun _ μ7 H locs hW hf => ?_)
      refine lv_iload_n (pc := 29) hx hb dX10_terms_29 rfl (lv_at hl 1 rfl) ?_
      refine lv_i2l (pc := 30) (v := (x1).toInt64) hx hb dX10_terms_30 rfl ?_
      refine lv_lstore_n (pc := 31) (lv' := [(3, .long ((x1).toInt64)), (0, .ref (zad G 0)), (1, .int x1), (2, .int x2)]) hx hb dX10_terms_31 rfl hl (by decide) rfl (fun ls hl => ?_)
      refine lv_iconst (pc := 32) (v := (0 : Int32)) hx hb dX10_terms_32 rfl ?_
      refine lv_istore (pc := 33) (lv' := [(5, .int (0 : Int32)), (3, .long ((x1).toInt64)), (0, .ref (zad G 0)), (1, .int x1), (2, .int x2)]) hx hb dX10_terms_33 hl (by decide) rfl (fun ls hl => ?_)
      refine lv_iconst (pc := 35) (v := (0 : Int32)) hx hb dX10_terms_35 rfl ?_
      refine lv_istore (pc := 36) (lv' := [(6, .int (0 : Int32)), (5, .int (0 : Int32)), (3, .long ((x1).toInt64)), (0, .ref (zad G 0)), (1, .int x1), (2, .int x2)]) hx hb dX10_terms_36 hl (by decide) rfl (fun ls hl => ?_)
      exact t_X10_terms_38 B zFU (lv_sub hl [3, 5, 2, 1, 0] rfl) hW hf
    · refine lv_aload_n (pc := 20) hx hb dX10_terms_20 rfl (lv_at hl 0 rfl) ?_
      refine s_X10_85 (pc := 21) B hW hl.1 (by decide) (zle8 rfl) dX10_terms_21 (fun _ _ h => c_X10_bad h) hf (fun r9 μ8 H locs hW hf => ?_)
      exact zreti (pc := 24) B hW hf dX10_terms_24
noncomputable def f_X10_part (x1 : Int32) (μ : Mem) : Option (Int64 × Mem) := (if x1 = 0 then some ((μ.2 0 23), μ) else (if x1 = (1 : Int32) then some ((μ.2 0 24), μ) else zbind (f_X10_bad μ) (fun r2 μ1 => some (((r2).toInt64), μ1))))
set_option maxRecDepth 100000 in
theorem c_X10_part {G : ZG} {l : Launch} {x1 : Int32} {μ : Mem} {r : Int64} {μ' : Mem} (h : f_X10_part x1 μ = some (r, μ')) : zC ZM G l yX10_part cX10_part 2 (some .long) 2 [.ref (zad G 0), .int x1] μ (some (.long r)) μ' := by
  refine zC.mk (by decide +kernel) (Nat.le_of_ble_eq_true rfl) ?_
  intro p e s m below meth c ls B hl hW
  have B : zB ZM G cX10_part 2 "DarkSharesModel" (some .long) p s m [.ref (zad G 0), .int x1].toArray meth c := B
  have hl : lv_has ls 2 [(0, .ref (zad G 0)), (1, .int x1)] := hl
  have hx := B.1
  have hb := B.2.1
  have hf := h
  unfold f_X10_part at hf
  refine lv_iload_n (pc := 0) hx hb dX10_part_0 rfl (lv_at hl 1 rfl) ?_
  refine yif_ne (pc := 1) (tgt := 11) B dX10_part_1 (by decide) hf (fun hf => ?_) (fun hf => ?_)
  · refine lv_iload_n (pc := 11) hx hb dX10_part_11 rfl (lv_at hl 1 rfl) ?_
    refine lv_iconst (pc := 12) (v := (1 : Int32)) hx hb dX10_part_12 rfl ?_
    refine yic_ne (pc := 13) (tgt := 23) B dX10_part_13 (by decide) hf (fun hf => ?_) (fun hf => ?_)
    · refine lv_aload_n (pc := 23) hx hb dX10_part_23 rfl (lv_at hl 0 rfl) ?_
      refine s_X10_85 (pc := 24) B hW hl.1 (by decide) (zle8 rfl) dX10_part_24 (fun _ _ h => c_X10_bad h) hf (fun r2 μ1 H locs hW hf => ?_)
      refine lv_i2l (pc := 27) (v := (r2).toInt64) hx hb dX10_part_27 rfl ?_
      exact zretl (pc := 28) B hW hf dX10_part_28
    · refine lv_aload_n (pc := 16) hx hb dX10_part_16 rfl (lv_at hl 0 rfl) ?_
      refine g_X10_58 (pc := 17) B hW dX10_part_17 ?_
      refine lv_goto (pc := 20) (tgt := 28) hx hb dX10_part_20 (by decide) ?_
      exact zretl (pc := 28) B hW hf dX10_part_28
  · refine lv_aload_n (pc := 4) hx hb dX10_part_4 rfl (lv_at hl 0 rfl) ?_
    refine g_X10_226 (pc := 5) B hW dX10_part_5 ?_
    refine lv_goto (pc := 8) (tgt := 28) hx hb dX10_part_8 (by decide) ?_
    exact zretl (pc := 28) B hW hf dX10_part_28
noncomputable def f_X10_image_239 : Nat → Int32 → Int32 → Mem → Option (Int32 × Mem)
  | 0, _, _, _ => none
  | n + 1, x2, x3, μ => (if (136 : Int32) ≤ x3 then some ((1 : Int32), μ) else zck (zin x3 136) (zck (zin ((x2 + (54 : Int32)) + x3) 384) (zlet (zI μ 17 (((x2 + (54 : Int32)) + x3)).toNatClampNeg (μ.1 13 (x3).toNatClampNeg)) (fun μ1 => f_X10_image_239 n x2 (x3 + (1 : Int32)) μ1))))
set_option maxRecDepth 100000 in
theorem t_X10_image_239 {G : ZG} {p : Program} {l : Launch} {e : Env} {s : State} {m : MethodId} {args : Array Value} {below : List Frame} {meth : Method} {c : Code} (B : zB ZM G cX10_image 4 "DarkSharesModel" (some .int) p s m args meth c) : ∀ (n : Nat) {x2 : Int32} {x3 : Int32} {μ : Mem} {H : Heap} {locs : List Loc} {ls : Array Slot} {r : Int32} {μ' : Mem}, lv_has ls 4 [(0, .ref (zad G 0)), (2, .int x2), (3, .int x3)] → zW ZM G s H locs μ → f_X10_image_239 n x2 x3 μ = some (r, μ') → W p l e (zR 2) s m args below meth c H locs 0 0 (MQ below (zQ ZM G (some (.int r)) μ') args s 0 0 (zAd ZM G)) (F0 m 239 ls []) := by
  have hx := B.1
  have hb := B.2.1
  intro n
  induction n with
  | zero => intro _ _ _ _ _ _ _ _ hl hW hf; cases hf
  | succ n ih =>
    intro x2 x3 μ H locs ls r μ' hl hW hf
    rw [f_X10_image_239] at hf
    refine lv_iload_n (pc := 239) hx hb dX10_image_239 rfl (lv_at hl 2 rfl) ?_
    refine lv_sipush (pc := 240) (v := (136 : Int32)) hx hb dX10_image_240 rfl ?_
    refine yic_ge (pc := 243) (tgt := 269) B dX10_image_243 (by decide) hf (fun hf => ?_) (fun hf => ?_)
    · refine lv_iconst (pc := 269) (v := (1 : Int32)) hx hb dX10_image_269 rfl ?_
      exact zreti (pc := 270) B hW hf dX10_image_270
    · refine lv_aload_n (pc := 246) hx hb dX10_image_246 rfl (lv_at hl 0 rfl) ?_
      refine g_X10_62 (pc := 247) B hW dX10_image_247 ?_
      refine lv_iload_n (pc := 250) hx hb dX10_image_250 rfl (lv_at hl 1 rfl) ?_
      refine lv_bipush (pc := 251) (v := (54 : Int32)) hx hb dX10_image_251 rfl ?_
      refine lv_iadd (pc := 253) hx hb dX10_image_253 ?_
      refine lv_iload_n (pc := 254) hx hb dX10_image_254 rfl (lv_at hl 2 rfl) ?_
      refine lv_iadd (pc := 255) hx hb dX10_image_255 ?_
      refine lv_aload_n (pc := 256) hx hb dX10_image_256 rfl (lv_at hl 0 rfl) ?_
      refine g_X10_46 (pc := 257) B hW dX10_image_257 ?_
      refine lv_iload_n (pc := 260) hx hb dX10_image_260 rfl (lv_at hl 2 rfl) ?_
      refine yald (pc := 261) B hW mr13 dX10_image_261 hf (fun hf => ?_)
      refine yast (pc := 262) B hW mr17 dX10_image_262 hf (fun μ1 H locs hW hf => ?_)
      refine lv_iinc (pc := 263) (v := (x3 + (1 : Int32))) (lv' := [(3, .int (x3 + (1 : Int32))), (0, .ref (zad G 0)), (2, .int x2)]) hx hb dX10_image_263 hl (k := 2) rfl rfl (by decide) rfl (fun ls hl => ?_)
      refine lv_goto (pc := 266) (tgt := 239) hx hb dX10_image_266 (by decide) ?_
      exact ih (lv_sub hl [1, 2, 0] rfl) hW hf
noncomputable def f_X10_image_157 : Nat → Int32 → Int32 → Mem → Option (Int32 × Mem)
  | 0, _, _, _ => none
  | n + 1, x2, x3, μ => (if (6 : Int32) ≤ x3 then f_X10_image_239 zFU x2 (0 : Int32) μ else zck (zin x3 6) (zck (zin ((x2 + (30 : Int32)) + x3) 384) (zlet (zI μ 17 (((x2 + (30 : Int32)) + x3)).toNatClampNeg (μ.1 6 (x3).toNatClampNeg)) (fun μ1 => zck (zin x3 6) (zck (zin ((x2 + (36 : Int32)) + x3) 384) (zlet (zI μ1 17 (((x2 + (36 : Int32)) + x3)).toNatClampNeg (μ1.1 7 (x3).toNatClampNeg)) (fun μ2 => zck (zin x3 6) (zck (zin ((x2 + (42 : Int32)) + x3) 384) (zlet (zI μ2 17 (((x2 + (42 : Int32)) + x3)).toNatClampNeg (μ2.1 8 (x3).toNatClampNeg)) (fun μ3 => zck (zin x3 6) (zck (zin ((x2 + (48 : Int32)) + x3) 384) (zlet (zI μ3 17 (((x2 + (48 : Int32)) + x3)).toNatClampNeg (μ3.1 9 (x3).toNatClampNeg)) (fun μ4 => f_X10_image_157 n x2 (x3 + (1 : Int32)) μ4)))))))))))))
set_option maxRecDepth 100000 in
theorem t_X10_image_157 {G : ZG} {p : Program} {l : Launch} {e : Env} {s : State} {m : MethodId} {args : Array Value} {below : List Frame} {meth : Method} {c : Code} (B : zB ZM G cX10_image 4 "DarkSharesModel" (some .int) p s m args meth c) : ∀ (n : Nat) {x2 : Int32} {x3 : Int32} {μ : Mem} {H : Heap} {locs : List Loc} {ls : Array Slot} {r : Int32} {μ' : Mem}, lv_has ls 4 [(0, .ref (zad G 0)), (2, .int x2), (3, .int x3)] → zW ZM G s H locs μ → f_X10_image_157 n x2 x3 μ = some (r, μ') → W p l e (zR 2) s m args below meth c H locs 0 0 (MQ below (zQ ZM G (some (.int r)) μ') args s 0 0 (zAd ZM G)) (F0 m 157 ls []) := by
  have hx := B.1
  have hb := B.2.1
  intro n
  induction n with
  | zero => intro _ _ _ _ _ _ _ _ hl hW hf; cases hf
  | succ n ih =>
    intro x2 x3 μ H locs ls r μ' hl hW hf
    rw [f_X10_image_157] at hf
    refine lv_iload_n (pc := 157) hx hb dX10_image_157 rfl (lv_at hl 2 rfl) ?_
    refine lv_bipush (pc := 158) (v := (6 : Int32)) hx hb dX10_image_158 rfl ?_
    refine yic_ge (pc := 160) (tgt := 237) B dX10_image_160 (by decide) hf (fun hf => ?_) (fun hf => ?_)
    · refine lv_iconst (pc := 237) (v := (0 : Int32)) hx hb dX10_image_237 rfl ?_
      refine lv_istore_n (pc := 238) (lv' := [(3, .int (0 : Int32)), (0, .ref (zad G 0)), (2, .int x2)]) hx hb dX10_image_238 rfl hl (by decide) rfl (fun ls hl => ?_)
      exact t_X10_image_239 B zFU (lv_sub hl [1, 2, 0] rfl) hW hf
    · refine lv_aload_n (pc := 163) hx hb dX10_image_163 rfl (lv_at hl 0 rfl) ?_
      refine g_X10_62 (pc := 164) B hW dX10_image_164 ?_
      refine lv_iload_n (pc := 167) hx hb dX10_image_167 rfl (lv_at hl 1 rfl) ?_
      refine lv_bipush (pc := 168) (v := (30 : Int32)) hx hb dX10_image_168 rfl ?_
      refine lv_iadd (pc := 170) hx hb dX10_image_170 ?_
      refine lv_iload_n (pc := 171) hx hb dX10_image_171 rfl (lv_at hl 2 rfl) ?_
      refine lv_iadd (pc := 172) hx hb dX10_image_172 ?_
      refine lv_aload_n (pc := 173) hx hb dX10_image_173 rfl (lv_at hl 0 rfl) ?_
      refine g_X10_25 (pc := 174) B hW dX10_image_174 ?_
      refine lv_iload_n (pc := 177) hx hb dX10_image_177 rfl (lv_at hl 2 rfl) ?_
      refine yald (pc := 178) B hW mr6 dX10_image_178 hf (fun hf => ?_)
      refine yast (pc := 179) B hW mr17 dX10_image_179 hf (fun μ1 H locs hW hf => ?_)
      refine lv_aload_n (pc := 180) hx hb dX10_image_180 rfl (lv_at hl 0 rfl) ?_
      refine g_X10_62 (pc := 181) B hW dX10_image_181 ?_
      refine lv_iload_n (pc := 184) hx hb dX10_image_184 rfl (lv_at hl 1 rfl) ?_
      refine lv_bipush (pc := 185) (v := (36 : Int32)) hx hb dX10_image_185 rfl ?_
      refine lv_iadd (pc := 187) hx hb dX10_image_187 ?_
      refine lv_iload_n (pc := 188) hx hb dX10_image_188 rfl (lv_at hl 2 rfl) ?_
      refine lv_iadd (pc := 189) hx hb dX10_image_189 ?_
      refine lv_aload_n (pc := 190) hx hb dX10_image_190 rfl (lv_at hl 0 rfl) ?_
      refine g_X10_28 (pc := 191) B hW dX10_image_191 ?_
      refine lv_iload_n (pc := 194) hx hb dX10_image_194 rfl (lv_at hl 2 rfl) ?_
      refine yald (pc := 195) B hW mr7 dX10_image_195 hf (fun hf => ?_)
      refine yast (pc := 196) B hW mr17 dX10_image_196 hf (fun μ2 H locs hW hf => ?_)
      refine lv_aload_n (pc := 197) hx hb dX10_image_197 rfl (lv_at hl 0 rfl) ?_
      refine g_X10_62 (pc := 198) B hW dX10_image_198 ?_
      refine lv_iload_n (pc := 201) hx hb dX10_image_201 rfl (lv_at hl 1 rfl) ?_
      refine lv_bipush (pc := 202) (v := (42 : Int32)) hx hb dX10_image_202 rfl ?_
      refine lv_iadd (pc := 204) hx hb dX10_image_204 ?_
      refine lv_iload_n (pc := 205) hx hb dX10_image_205 rfl (lv_at hl 2 rfl) ?_
      refine lv_iadd (pc := 206) hx hb dX10_image_206 ?_
      refine lv_aload_n (pc := 207) hx hb dX10_image_207 rfl (lv_at hl 0 rfl) ?_
      refine g_X10_31 (pc := 208) B hW dX10_image_208 ?_
      refine lv_iload_n (pc := 211) hx hb dX10_image_211 rfl (lv_at hl 2 rfl) ?_
      refine yald (pc := 212) B hW mr8 dX10_image_212 hf (fun hf => ?_)
      refine yast (pc := 213) B hW mr17 dX10_image_213 hf (fun μ3 H locs hW hf => ?_)
      refine lv_aload_n (pc := 214) hx hb dX10_image_214 rfl (lv_at hl 0 rfl) ?_
      refine g_X10_62 (pc := 215) B hW dX10_image_215 ?_
      refine lv_iload_n (pc := 218) hx hb dX10_image_218 rfl (lv_at hl 1 rfl) ?_
      refine lv_bipush (pc := 219) (v := (48 : Int32)) hx hb dX10_image_219 rfl ?_
      refine lv_iadd (pc := 221) hx hb dX10_image_221 ?_
      refine lv_iload_n (pc := 222) hx hb dX10_image_222 rfl (lv_at hl 2 rfl) ?_
      refine lv_iadd (pc := 223) hx hb dX10_image_223 ?_
      refine lv_aload_n (pc := 224) hx hb dX10_image_224 rfl (lv_at hl 0 rfl) ?_
      refine g_X10_34 (pc := 225) B hW dX10_image_225 ?_
      refine lv_iload_n (pc := 228) hx hb dX10_image_228 rfl (lv_at hl 2 rfl) ?_
      refine yald (pc := 229) B hW mr9 dX10_image_229 hf (fun hf => ?_)
      refine yast (pc := 230) B hW mr17 dX10_image_230 hf (fun μ4 H locs hW hf => ?_)
      refine lv_iinc (pc := 231) (v := (x3 + (1 : Int32))) (lv' := [(3, .int (x3 + (1 : Int32))), (0, .ref (zad G 0)), (2, .int x2)]) hx hb dX10_image_231 hl (k := 2) rfl rfl (by decide) rfl (fun ls hl => ?_)
      refine lv_goto (pc := 234) (tgt := 157) hx hb dX10_image_234 (by decide) ?_
      exact ih (lv_sub hl [1, 2, 0] rfl) hW hf
noncomputable def f_X10_image_126 : Nat → Int32 → Int32 → Mem → Option (Int32 × Mem)
  | 0, _, _, _ => none
  | n + 1, x2, x3, μ => (if (12 : Int32) ≤ x3 then f_X10_image_157 zFU x2 (0 : Int32) μ else zck (zin x3 12) (zck (zin ((x2 + (18 : Int32)) + x3) 384) (zlet (zI μ 17 (((x2 + (18 : Int32)) + x3)).toNatClampNeg (μ.1 5 (x3).toNatClampNeg)) (fun μ1 => f_X10_image_126 n x2 (x3 + (1 : Int32)) μ1))))
set_option maxRecDepth 100000 in
theorem t_X10_image_126 {G : ZG} {p : Program} {l : Launch} {e : Env} {s : State} {m : MethodId} {args : Array Value} {below : List Frame} {meth : Method} {c : Code} (B : zB ZM G cX10_image 4 "DarkSharesModel" (some .int) p s m args meth c) : ∀ (n : Nat) {x2 : Int32} {x3 : Int32} {μ : Mem} {H : Heap} {locs : List Loc} {ls : Array Slot} {r : Int32} {μ' : Mem}, lv_has ls 4 [(0, .ref (zad G 0)), (2, .int x2), (3, .int x3)] → zW ZM G s H locs μ → f_X10_image_126 n x2 x3 μ = some (r, μ') → W p l e (zR 2) s m args below meth c H locs 0 0 (MQ below (zQ ZM G (some (.int r)) μ') args s 0 0 (zAd ZM G)) (F0 m 126 ls []) := by
  have hx := B.1
  have hb := B.2.1
  intro n
  induction n with
  | zero => intro _ _ _ _ _ _ _ _ hl hW hf; cases hf
  | succ n ih =>
    intro x2 x3 μ H locs ls r μ' hl hW hf
    rw [f_X10_image_126] at hf
    refine lv_iload_n (pc := 126) hx hb dX10_image_126 rfl (lv_at hl 2 rfl) ?_
    refine lv_bipush (pc := 127) (v := (12 : Int32)) hx hb dX10_image_127 rfl ?_
    refine yic_ge (pc := 129) (tgt := 155) B dX10_image_129 (by decide) hf (fun hf => ?_) (fun hf => ?_)
    · refine lv_iconst (pc := 155) (v := (0 : Int32)) hx hb dX10_image_155 rfl ?_
      refine lv_istore_n (pc := 156) (lv' := [(3, .int (0 : Int32)), (0, .ref (zad G 0)), (2, .int x2)]) hx hb dX10_image_156 rfl hl (by decide) rfl (fun ls hl => ?_)
      exact t_X10_image_157 B zFU (lv_sub hl [1, 2, 0] rfl) hW hf
    · refine lv_aload_n (pc := 132) hx hb dX10_image_132 rfl (lv_at hl 0 rfl) ?_
      refine g_X10_62 (pc := 133) B hW dX10_image_133 ?_
      refine lv_iload_n (pc := 136) hx hb dX10_image_136 rfl (lv_at hl 1 rfl) ?_
      refine lv_bipush (pc := 137) (v := (18 : Int32)) hx hb dX10_image_137 rfl ?_
      refine lv_iadd (pc := 139) hx hb dX10_image_139 ?_
      refine lv_iload_n (pc := 140) hx hb dX10_image_140 rfl (lv_at hl 2 rfl) ?_
      refine lv_iadd (pc := 141) hx hb dX10_image_141 ?_
      refine lv_aload_n (pc := 142) hx hb dX10_image_142 rfl (lv_at hl 0 rfl) ?_
      refine g_X10_22 (pc := 143) B hW dX10_image_143 ?_
      refine lv_iload_n (pc := 146) hx hb dX10_image_146 rfl (lv_at hl 2 rfl) ?_
      refine yald (pc := 147) B hW mr5 dX10_image_147 hf (fun hf => ?_)
      refine yast (pc := 148) B hW mr17 dX10_image_148 hf (fun μ1 H locs hW hf => ?_)
      refine lv_iinc (pc := 149) (v := (x3 + (1 : Int32))) (lv' := [(3, .int (x3 + (1 : Int32))), (0, .ref (zad G 0)), (2, .int x2)]) hx hb dX10_image_149 hl (k := 2) rfl rfl (by decide) rfl (fun ls hl => ?_)
      refine lv_goto (pc := 152) (tgt := 126) hx hb dX10_image_152 (by decide) ?_
      exact ih (lv_sub hl [1, 2, 0] rfl) hW hf
noncomputable def f_X10_image_63 : Nat → Int32 → Int32 → Mem → Option (Int32 × Mem)
  | 0, _, _, _ => none
  | n + 1, x2, x3, μ => (if (5 : Int32) ≤ x3 then f_X10_image_126 zFU x2 (0 : Int32) μ else zck (zin x3 5) (zck (zin ((x2 + (3 : Int32)) + x3) 384) (zlet (zI μ 17 (((x2 + (3 : Int32)) + x3)).toNatClampNeg (μ.1 2 (x3).toNatClampNeg)) (fun μ1 => zck (zin x3 5) (zck (zin ((x2 + (8 : Int32)) + x3) 384) (zlet (zI μ1 17 (((x2 + (8 : Int32)) + x3)).toNatClampNeg (μ1.1 3 (x3).toNatClampNeg)) (fun μ2 => zck (zin x3 5) (zck (zin ((x2 + (13 : Int32)) + x3) 384) (zlet (zI μ2 17 (((x2 + (13 : Int32)) + x3)).toNatClampNeg (μ2.1 4 (x3).toNatClampNeg)) (fun μ3 => f_X10_image_63 n x2 (x3 + (1 : Int32)) μ3))))))))))
set_option maxRecDepth 100000 in
theorem t_X10_image_63 {G : ZG} {p : Program} {l : Launch} {e : Env} {s : State} {m : MethodId} {args : Array Value} {below : List Frame} {meth : Method} {c : Code} (B : zB ZM G cX10_image 4 "DarkSharesModel" (some .int) p s m args meth c) : ∀ (n : Nat) {x2 : Int32} {x3 : Int32} {μ : Mem} {H : Heap} {locs : List Loc} {ls : Array Slot} {r : Int32} {μ' : Mem}, lv_has ls 4 [(0, .ref (zad G 0)), (2, .int x2), (3, .int x3)] → zW ZM G s H locs μ → f_X10_image_63 n x2 x3 μ = some (r, μ') → W p l e (zR 2) s m args below meth c H locs 0 0 (MQ below (zQ ZM G (some (.int r)) μ') args s 0 0 (zAd ZM G)) (F0 m 63 ls []) := by
  have hx := B.1
  have hb := B.2.1
  intro n
  induction n with
  | zero => intro _ _ _ _ _ _ _ _ hl hW hf; cases hf
  | succ n ih =>
    intro x2 x3 μ H locs ls r μ' hl hW hf
    rw [f_X10_image_63] at hf
    refine lv_iload_n (pc := 63) hx hb dX10_image_63 rfl (lv_at hl 2 rfl) ?_
    refine lv_iconst (pc := 64) (v := (5 : Int32)) hx hb dX10_image_64 rfl ?_
    refine yic_ge (pc := 65) (tgt := 124) B dX10_image_65 (by decide) hf (fun hf => ?_) (fun hf => ?_)
    · refine lv_iconst (pc := 124) (v := (0 : Int32)) hx hb dX10_image_124 rfl ?_
      refine lv_istore_n (pc := 125) (lv' := [(3, .int (0 : Int32)), (0, .ref (zad G 0)), (2, .int x2)]) hx hb dX10_image_125 rfl hl (by decide) rfl (fun ls hl => ?_)
      exact t_X10_image_126 B zFU (lv_sub hl [1, 2, 0] rfl) hW hf
    · refine lv_aload_n (pc := 68) hx hb dX10_image_68 rfl (lv_at hl 0 rfl) ?_
      refine g_X10_62 (pc := 69) B hW dX10_image_69 ?_
      refine lv_iload_n (pc := 72) hx hb dX10_image_72 rfl (lv_at hl 1 rfl) ?_
      refine lv_iconst (pc := 73) (v := (3 : Int32)) hx hb dX10_image_73 rfl ?_
      refine lv_iadd (pc := 74) hx hb dX10_image_74 ?_
      refine lv_iload_n (pc := 75) hx hb dX10_image_75 rfl (lv_at hl 2 rfl) ?_
      refine lv_iadd (pc := 76) hx hb dX10_image_76 ?_
      refine lv_aload_n (pc := 77) hx hb dX10_image_77 rfl (lv_at hl 0 rfl) ?_
      refine g_X10_13 (pc := 78) B hW dX10_image_78 ?_
      refine lv_iload_n (pc := 81) hx hb dX10_image_81 rfl (lv_at hl 2 rfl) ?_
      refine yald (pc := 82) B hW mr2 dX10_image_82 hf (fun hf => ?_)
      refine yast (pc := 83) B hW mr17 dX10_image_83 hf (fun μ1 H locs hW hf => ?_)
      refine lv_aload_n (pc := 84) hx hb dX10_image_84 rfl (lv_at hl 0 rfl) ?_
      refine g_X10_62 (pc := 85) B hW dX10_image_85 ?_
      refine lv_iload_n (pc := 88) hx hb dX10_image_88 rfl (lv_at hl 1 rfl) ?_
      refine lv_bipush (pc := 89) (v := (8 : Int32)) hx hb dX10_image_89 rfl ?_
      refine lv_iadd (pc := 91) hx hb dX10_image_91 ?_
      refine lv_iload_n (pc := 92) hx hb dX10_image_92 rfl (lv_at hl 2 rfl) ?_
      refine lv_iadd (pc := 93) hx hb dX10_image_93 ?_
      refine lv_aload_n (pc := 94) hx hb dX10_image_94 rfl (lv_at hl 0 rfl) ?_
      refine g_X10_16 (pc := 95) B hW dX10_image_95 ?_
      refine lv_iload_n (pc := 98) hx hb dX10_image_98 rfl (lv_at hl 2 rfl) ?_
      refine yald (pc := 99) B hW mr3 dX10_image_99 hf (fun hf => ?_)
      refine yast (pc := 100) B hW mr17 dX10_image_100 hf (fun μ2 H locs hW hf => ?_)
      refine lv_aload_n (pc := 101) hx hb dX10_image_101 rfl (lv_at hl 0 rfl) ?_
      refine g_X10_62 (pc := 102) B hW dX10_image_102 ?_
      refine lv_iload_n (pc := 105) hx hb dX10_image_105 rfl (lv_at hl 1 rfl) ?_
      refine lv_bipush (pc := 106) (v := (13 : Int32)) hx hb dX10_image_106 rfl ?_
      refine lv_iadd (pc := 108) hx hb dX10_image_108 ?_
      refine lv_iload_n (pc := 109) hx hb dX10_image_109 rfl (lv_at hl 2 rfl) ?_
      refine lv_iadd (pc := 110) hx hb dX10_image_110 ?_
      refine lv_aload_n (pc := 111) hx hb dX10_image_111 rfl (lv_at hl 0 rfl) ?_
      refine g_X10_19 (pc := 112) B hW dX10_image_112 ?_
      refine lv_iload_n (pc := 115) hx hb dX10_image_115 rfl (lv_at hl 2 rfl) ?_
      refine yald (pc := 116) B hW mr4 dX10_image_116 hf (fun hf => ?_)
      refine yast (pc := 117) B hW mr17 dX10_image_117 hf (fun μ3 H locs hW hf => ?_)
      refine lv_iinc (pc := 118) (v := (x3 + (1 : Int32))) (lv' := [(3, .int (x3 + (1 : Int32))), (0, .ref (zad G 0)), (2, .int x2)]) hx hb dX10_image_118 hl (k := 2) rfl rfl (by decide) rfl (fun ls hl => ?_)
      refine lv_goto (pc := 121) (tgt := 63) hx hb dX10_image_121 (by decide) ?_
      exact ih (lv_sub hl [1, 2, 0] rfl) hW hf
noncomputable def f_X10_image (x1 : Int32) (μ : Mem) : Option (Int32 × Mem) := zbind (f_X10_in x1 (0 : Int32) (1 : Int32) μ) (fun r2 μ1 => (if r2 = 0 then zbind (f_X10_bad μ1) (fun r8 μ7 => some (r8, μ7)) else zck (zin x1 2) (zlet (zI μ1 18 (x1).toNatClampNeg (1 : Int32)) (fun μ3 => zck (zin ((192 : Int32) * x1) 384) (zlet (zI μ3 17 (((192 : Int32) * x1)).toNatClampNeg (μ3.1 0 1)) (fun μ4 => zck (zin (((192 : Int32) * x1) + (1 : Int32)) 384) (zlet (zI μ4 17 ((((192 : Int32) * x1) + (1 : Int32))).toNatClampNeg (μ4.1 0 2)) (fun μ5 => zck (zin (((192 : Int32) * x1) + (2 : Int32)) 384) (zlet (zI μ5 17 ((((192 : Int32) * x1) + (2 : Int32))).toNatClampNeg (μ5.1 0 19)) (fun μ6 => f_X10_image_63 zFU ((192 : Int32) * x1) (0 : Int32) μ6))))))))))
set_option maxRecDepth 100000 in
theorem c_X10_image {G : ZG} {l : Launch} {x1 : Int32} {μ : Mem} {r : Int32} {μ' : Mem} (h : f_X10_image x1 μ = some (r, μ')) : zC ZM G l yX10_image cX10_image 4 (some .int) 2 [.ref (zad G 0), .int x1] μ (some (.int r)) μ' := by
  refine zC.mk (by decide +kernel) (Nat.le_of_ble_eq_true rfl) ?_
  intro p e s m below meth c ls B hl hW
  have B : zB ZM G cX10_image 4 "DarkSharesModel" (some .int) p s m [.ref (zad G 0), .int x1].toArray meth c := B
  have hl : lv_has ls 4 [(0, .ref (zad G 0)), (1, .int x1)] := hl
  have hx := B.1
  have hb := B.2.1
  have hf := h
  unfold f_X10_image at hf
  refine lv_iload_n (pc := 0) hx hb dX10_image_0 rfl (lv_at hl 1 rfl) ?_
  refine lv_iconst (pc := 1) (v := (0 : Int32)) hx hb dX10_image_1 rfl ?_
  refine lv_iconst (pc := 2) (v := (1 : Int32)) hx hb dX10_image_2 rfl ?_
  refine s_X10_81 (pc := 3) B hW hl.1 (by decide) (zle8 rfl) dX10_image_3 (fun _ _ h => c_X10_in h) hf (fun r2 μ1 H locs hW hf => ?_)
  refine yif_ne (pc := 6) (tgt := 14) B dX10_image_6 (by decide) hf (fun hf => ?_) (fun hf => ?_)
  · refine lv_sipush (pc := 14) (v := (192 : Int32)) hx hb dX10_image_14 rfl ?_
    refine lv_iload_n (pc := 17) hx hb dX10_image_17 rfl (lv_at hl 1 rfl) ?_
    refine lv_imul (pc := 18) hx hb dX10_image_18 ?_
    refine lv_istore_n (pc := 19) (lv' := [(2, .int ((192 : Int32) * x1)), (0, .ref (zad G 0)), (1, .int x1)]) hx hb dX10_image_19 rfl hl (by decide) rfl (fun ls hl => ?_)
    refine lv_aload_n (pc := 20) hx hb dX10_image_20 rfl (lv_at hl 1 rfl) ?_
    refine g_X10_65 (pc := 21) B hW dX10_image_21 ?_
    refine lv_iload_n (pc := 24) hx hb dX10_image_24 rfl (lv_at hl 2 rfl) ?_
    refine lv_iconst (pc := 25) (v := (1 : Int32)) hx hb dX10_image_25 rfl ?_
    refine yast (pc := 26) B hW mr18 dX10_image_26 hf (fun μ3 H locs hW hf => ?_)
    refine lv_aload_n (pc := 27) hx hb dX10_image_27 rfl (lv_at hl 1 rfl) ?_
    refine g_X10_62 (pc := 28) B hW dX10_image_28 ?_
    refine lv_iload_n (pc := 31) hx hb dX10_image_31 rfl (lv_at hl 0 rfl) ?_
    refine lv_aload_n (pc := 32) hx hb dX10_image_32 rfl (lv_at hl 1 rfl) ?_
    refine g_X10_71 (pc := 33) B hW dX10_image_33 ?_
    refine yast (pc := 36) B hW mr17 dX10_image_36 hf (fun μ4 H locs hW hf => ?_)
    refine lv_aload_n (pc := 37) hx hb dX10_image_37 rfl (lv_at hl 1 rfl) ?_
    refine g_X10_62 (pc := 38) B hW dX10_image_38 ?_
    refine lv_iload_n (pc := 41) hx hb dX10_image_41 rfl (lv_at hl 0 rfl) ?_
    refine lv_iconst (pc := 42) (v := (1 : Int32)) hx hb dX10_image_42 rfl ?_
    refine lv_iadd (pc := 43) hx hb dX10_image_43 ?_
    refine lv_aload_n (pc := 44) hx hb dX10_image_44 rfl (lv_at hl 1 rfl) ?_
    refine g_X10_75 (pc := 45) B hW dX10_image_45 ?_
    refine yast (pc := 48) B hW mr17 dX10_image_48 hf (fun μ5 H locs hW hf => ?_)
    refine lv_aload_n (pc := 49) hx hb dX10_image_49 rfl (lv_at hl 1 rfl) ?_
    refine g_X10_62 (pc := 50) B hW dX10_image_50 ?_
    refine lv_iload_n (pc := 53) hx hb dX10_image_53 rfl (lv_at hl 0 rfl) ?_
    refine lv_iconst (pc := 54) (v := (2 : Int32)) hx hb dX10_image_54 rfl ?_
    refine lv_iadd (pc := 55) hx hb dX10_image_55 ?_
    refine lv_aload_n (pc := 56) hx hb dX10_image_56 rfl (lv_at hl 1 rfl) ?_
    refine g_X10_78 (pc := 57) B hW dX10_image_57 ?_
    refine yast (pc := 60) B hW mr17 dX10_image_60 hf (fun μ6 H locs hW hf => ?_)
    refine lv_iconst (pc := 61) (v := (0 : Int32)) hx hb dX10_image_61 rfl ?_
    refine lv_istore_n (pc := 62) (lv' := [(3, .int (0 : Int32)), (2, .int ((192 : Int32) * x1)), (0, .ref (zad G 0)), (1, .int x1)]) hx hb dX10_image_62 rfl hl (by decide) rfl (fun ls hl => ?_)
    exact t_X10_image_63 B zFU (lv_sub hl [2, 1, 0] rfl) hW hf
  · refine lv_aload_n (pc := 9) hx hb dX10_image_9 rfl (lv_at hl 0 rfl) ?_
    refine s_X10_85 (pc := 10) B hW hl.1 (by decide) (zle8 rfl) dX10_image_10 (fun _ _ h => c_X10_bad h) hf (fun r8 μ7 H locs hW hf => ?_)
    exact zreti (pc := 13) B hW hf dX10_image_13
noncomputable def f_X10_from_246 : Nat → Int32 → Int32 → Mem → Option (Int32 × Mem)
  | 0, _, _, _ => none
  | n + 1, x2, x3, μ => (if (136 : Int32) ≤ x3 then some ((1 : Int32), μ) else zck (zin ((x2 + (54 : Int32)) + x3) 384) (zck (zin x3 136) (zlet (zI μ 13 (x3).toNatClampNeg (μ.1 17 (((x2 + (54 : Int32)) + x3)).toNatClampNeg)) (fun μ1 => f_X10_from_246 n x2 (x3 + (1 : Int32)) μ1))))
set_option maxRecDepth 100000 in
theorem t_X10_from_246 {G : ZG} {p : Program} {l : Launch} {e : Env} {s : State} {m : MethodId} {args : Array Value} {below : List Frame} {meth : Method} {c : Code} (B : zB ZM G cX10_from 4 "DarkSharesModel" (some .int) p s m args meth c) : ∀ (n : Nat) {x2 : Int32} {x3 : Int32} {μ : Mem} {H : Heap} {locs : List Loc} {ls : Array Slot} {r : Int32} {μ' : Mem}, lv_has ls 4 [(0, .ref (zad G 0)), (2, .int x2), (3, .int x3)] → zW ZM G s H locs μ → f_X10_from_246 n x2 x3 μ = some (r, μ') → W p l e (zR 2) s m args below meth c H locs 0 0 (MQ below (zQ ZM G (some (.int r)) μ') args s 0 0 (zAd ZM G)) (F0 m 246 ls []) := by
  have hx := B.1
  have hb := B.2.1
  intro n
  induction n with
  | zero => intro _ _ _ _ _ _ _ _ hl hW hf; cases hf
  | succ n ih =>
    intro x2 x3 μ H locs ls r μ' hl hW hf
    rw [f_X10_from_246] at hf
    refine lv_iload_n (pc := 246) hx hb dX10_from_246 rfl (lv_at hl 2 rfl) ?_
    refine lv_sipush (pc := 247) (v := (136 : Int32)) hx hb dX10_from_247 rfl ?_
    refine yic_ge (pc := 250) (tgt := 276) B dX10_from_250 (by decide) hf (fun hf => ?_) (fun hf => ?_)
    · refine lv_iconst (pc := 276) (v := (1 : Int32)) hx hb dX10_from_276 rfl ?_
      exact zreti (pc := 277) B hW hf dX10_from_277
    · refine lv_aload_n (pc := 253) hx hb dX10_from_253 rfl (lv_at hl 0 rfl) ?_
      refine g_X10_46 (pc := 254) B hW dX10_from_254 ?_
      refine lv_iload_n (pc := 257) hx hb dX10_from_257 rfl (lv_at hl 2 rfl) ?_
      refine lv_aload_n (pc := 258) hx hb dX10_from_258 rfl (lv_at hl 0 rfl) ?_
      refine g_X10_62 (pc := 259) B hW dX10_from_259 ?_
      refine lv_iload_n (pc := 262) hx hb dX10_from_262 rfl (lv_at hl 1 rfl) ?_
      refine lv_bipush (pc := 263) (v := (54 : Int32)) hx hb dX10_from_263 rfl ?_
      refine lv_iadd (pc := 265) hx hb dX10_from_265 ?_
      refine lv_iload_n (pc := 266) hx hb dX10_from_266 rfl (lv_at hl 2 rfl) ?_
      refine lv_iadd (pc := 267) hx hb dX10_from_267 ?_
      refine yald (pc := 268) B hW mr17 dX10_from_268 hf (fun hf => ?_)
      refine yast (pc := 269) B hW mr13 dX10_from_269 hf (fun μ1 H locs hW hf => ?_)
      refine lv_iinc (pc := 270) (v := (x3 + (1 : Int32))) (lv' := [(3, .int (x3 + (1 : Int32))), (0, .ref (zad G 0)), (2, .int x2)]) hx hb dX10_from_270 hl (k := 2) rfl rfl (by decide) rfl (fun ls hl => ?_)
      refine lv_goto (pc := 273) (tgt := 246) hx hb dX10_from_273 (by decide) ?_
      exact ih (lv_sub hl [1, 2, 0] rfl) hW hf
noncomputable def f_X10_from_164 : Nat → Int32 → Int32 → Mem → Option (Int32 × Mem)
  | 0, _, _, _ => none
  | n + 1, x2, x3, μ => (if (6 : Int32) ≤ x3 then f_X10_from_246 zFU x2 (0 : Int32) μ else zck (zin ((x2 + (30 : Int32)) + x3) 384) (zck (zin x3 6) (zlet (zI μ 6 (x3).toNatClampNeg (μ.1 17 (((x2 + (30 : Int32)) + x3)).toNatClampNeg)) (fun μ1 => zck (zin ((x2 + (36 : Int32)) + x3) 384) (zck (zin x3 6) (zlet (zI μ1 7 (x3).toNatClampNeg (μ1.1 17 (((x2 + (36 : Int32)) + x3)).toNatClampNeg)) (fun μ2 => zck (zin ((x2 + (42 : Int32)) + x3) 384) (zck (zin x3 6) (zlet (zI μ2 8 (x3).toNatClampNeg (μ2.1 17 (((x2 + (42 : Int32)) + x3)).toNatClampNeg)) (fun μ3 => zck (zin ((x2 + (48 : Int32)) + x3) 384) (zck (zin x3 6) (zlet (zI μ3 9 (x3).toNatClampNeg (μ3.1 17 (((x2 + (48 : Int32)) + x3)).toNatClampNeg)) (fun μ4 => f_X10_from_164 n x2 (x3 + (1 : Int32)) μ4)))))))))))))
set_option maxRecDepth 100000 in
theorem t_X10_from_164 {G : ZG} {p : Program} {l : Launch} {e : Env} {s : State} {m : MethodId} {args : Array Value} {below : List Frame} {meth : Method} {c : Code} (B : zB ZM G cX10_from 4 "DarkSharesModel" (some .int) p s m args meth c) : ∀ (n : Nat) {x2 : Int32} {x3 : Int32} {μ : Mem} {H : Heap} {locs : List Loc} {ls : Array Slot} {r : Int32} {μ' : Mem}, lv_has ls 4 [(0, .ref (zad G 0)), (2, .int x2), (3, .int x3)] → zW ZM G s H locs μ → f_X10_from_164 n x2 x3 μ = some (r, μ') → W p l e (zR 2) s m args below meth c H locs 0 0 (MQ below (zQ ZM G (some (.int r)) μ') args s 0 0 (zAd ZM G)) (F0 m 164 ls []) := by
  have hx := B.1
  have hb := B.2.1
  intro n
  induction n with
  | zero => intro _ _ _ _ _ _ _ _ hl hW hf; cases hf
  | succ n ih =>
    intro x2 x3 μ H locs ls r μ' hl hW hf
    rw [f_X10_from_164] at hf
    refine lv_iload_n (pc := 164) hx hb dX10_from_164 rfl (lv_at hl 2 rfl) ?_
    refine lv_bipush (pc := 165) (v := (6 : Int32)) hx hb dX10_from_165 rfl ?_
    refine yic_ge (pc := 167) (tgt := 244) B dX10_from_167 (by decide) hf (fun hf => ?_) (fun hf => ?_)
    · refine lv_iconst (pc := 244) (v := (0 : Int32)) hx hb dX10_from_244 rfl ?_
      refine lv_istore_n (pc := 245) (lv' := [(3, .int (0 : Int32)), (0, .ref (zad G 0)), (2, .int x2)]) hx hb dX10_from_245 rfl hl (by decide) rfl (fun ls hl => ?_)
      exact t_X10_from_246 B zFU (lv_sub hl [1, 2, 0] rfl) hW hf
    · refine lv_aload_n (pc := 170) hx hb dX10_from_170 rfl (lv_at hl 0 rfl) ?_
      refine g_X10_25 (pc := 171) B hW dX10_from_171 ?_
      refine lv_iload_n (pc := 174) hx hb dX10_from_174 rfl (lv_at hl 2 rfl) ?_
      refine lv_aload_n (pc := 175) hx hb dX10_from_175 rfl (lv_at hl 0 rfl) ?_
      refine g_X10_62 (pc := 176) B hW dX10_from_176 ?_
      refine lv_iload_n (pc := 179) hx hb dX10_from_179 rfl (lv_at hl 1 rfl) ?_
      refine lv_bipush (pc := 180) (v := (30 : Int32)) hx hb dX10_from_180 rfl ?_
      refine lv_iadd (pc := 182) hx hb dX10_from_182 ?_
      refine lv_iload_n (pc := 183) hx hb dX10_from_183 rfl (lv_at hl 2 rfl) ?_
      refine lv_iadd (pc := 184) hx hb dX10_from_184 ?_
      refine yald (pc := 185) B hW mr17 dX10_from_185 hf (fun hf => ?_)
      refine yast (pc := 186) B hW mr6 dX10_from_186 hf (fun μ1 H locs hW hf => ?_)
      refine lv_aload_n (pc := 187) hx hb dX10_from_187 rfl (lv_at hl 0 rfl) ?_
      refine g_X10_28 (pc := 188) B hW dX10_from_188 ?_
      refine lv_iload_n (pc := 191) hx hb dX10_from_191 rfl (lv_at hl 2 rfl) ?_
      refine lv_aload_n (pc := 192) hx hb dX10_from_192 rfl (lv_at hl 0 rfl) ?_
      refine g_X10_62 (pc := 193) B hW dX10_from_193 ?_
      refine lv_iload_n (pc := 196) hx hb dX10_from_196 rfl (lv_at hl 1 rfl) ?_
      refine lv_bipush (pc := 197) (v := (36 : Int32)) hx hb dX10_from_197 rfl ?_
      refine lv_iadd (pc := 199) hx hb dX10_from_199 ?_
      refine lv_iload_n (pc := 200) hx hb dX10_from_200 rfl (lv_at hl 2 rfl) ?_
      refine lv_iadd (pc := 201) hx hb dX10_from_201 ?_
      refine yald (pc := 202) B hW mr17 dX10_from_202 hf (fun hf => ?_)
      refine yast (pc := 203) B hW mr7 dX10_from_203 hf (fun μ2 H locs hW hf => ?_)
      refine lv_aload_n (pc := 204) hx hb dX10_from_204 rfl (lv_at hl 0 rfl) ?_
      refine g_X10_31 (pc := 205) B hW dX10_from_205 ?_
      refine lv_iload_n (pc := 208) hx hb dX10_from_208 rfl (lv_at hl 2 rfl) ?_
      refine lv_aload_n (pc := 209) hx hb dX10_from_209 rfl (lv_at hl 0 rfl) ?_
      refine g_X10_62 (pc := 210) B hW dX10_from_210 ?_
      refine lv_iload_n (pc := 213) hx hb dX10_from_213 rfl (lv_at hl 1 rfl) ?_
      refine lv_bipush (pc := 214) (v := (42 : Int32)) hx hb dX10_from_214 rfl ?_
      refine lv_iadd (pc := 216) hx hb dX10_from_216 ?_
      refine lv_iload_n (pc := 217) hx hb dX10_from_217 rfl (lv_at hl 2 rfl) ?_
      refine lv_iadd (pc := 218) hx hb dX10_from_218 ?_
      refine yald (pc := 219) B hW mr17 dX10_from_219 hf (fun hf => ?_)
      refine yast (pc := 220) B hW mr8 dX10_from_220 hf (fun μ3 H locs hW hf => ?_)
      refine lv_aload_n (pc := 221) hx hb dX10_from_221 rfl (lv_at hl 0 rfl) ?_
      refine g_X10_34 (pc := 222) B hW dX10_from_222 ?_
      refine lv_iload_n (pc := 225) hx hb dX10_from_225 rfl (lv_at hl 2 rfl) ?_
      refine lv_aload_n (pc := 226) hx hb dX10_from_226 rfl (lv_at hl 0 rfl) ?_
      refine g_X10_62 (pc := 227) B hW dX10_from_227 ?_
      refine lv_iload_n (pc := 230) hx hb dX10_from_230 rfl (lv_at hl 1 rfl) ?_
      refine lv_bipush (pc := 231) (v := (48 : Int32)) hx hb dX10_from_231 rfl ?_
      refine lv_iadd (pc := 233) hx hb dX10_from_233 ?_
      refine lv_iload_n (pc := 234) hx hb dX10_from_234 rfl (lv_at hl 2 rfl) ?_
      refine lv_iadd (pc := 235) hx hb dX10_from_235 ?_
      refine yald (pc := 236) B hW mr17 dX10_from_236 hf (fun hf => ?_)
      refine yast (pc := 237) B hW mr9 dX10_from_237 hf (fun μ4 H locs hW hf => ?_)
      refine lv_iinc (pc := 238) (v := (x3 + (1 : Int32))) (lv' := [(3, .int (x3 + (1 : Int32))), (0, .ref (zad G 0)), (2, .int x2)]) hx hb dX10_from_238 hl (k := 2) rfl rfl (by decide) rfl (fun ls hl => ?_)
      refine lv_goto (pc := 241) (tgt := 164) hx hb dX10_from_241 (by decide) ?_
      exact ih (lv_sub hl [1, 2, 0] rfl) hW hf
noncomputable def f_X10_from_133 : Nat → Int32 → Int32 → Mem → Option (Int32 × Mem)
  | 0, _, _, _ => none
  | n + 1, x2, x3, μ => (if (12 : Int32) ≤ x3 then f_X10_from_164 zFU x2 (0 : Int32) μ else zck (zin ((x2 + (18 : Int32)) + x3) 384) (zck (zin x3 12) (zlet (zI μ 5 (x3).toNatClampNeg (μ.1 17 (((x2 + (18 : Int32)) + x3)).toNatClampNeg)) (fun μ1 => f_X10_from_133 n x2 (x3 + (1 : Int32)) μ1))))
set_option maxRecDepth 100000 in
theorem t_X10_from_133 {G : ZG} {p : Program} {l : Launch} {e : Env} {s : State} {m : MethodId} {args : Array Value} {below : List Frame} {meth : Method} {c : Code} (B : zB ZM G cX10_from 4 "DarkSharesModel" (some .int) p s m args meth c) : ∀ (n : Nat) {x2 : Int32} {x3 : Int32} {μ : Mem} {H : Heap} {locs : List Loc} {ls : Array Slot} {r : Int32} {μ' : Mem}, lv_has ls 4 [(0, .ref (zad G 0)), (2, .int x2), (3, .int x3)] → zW ZM G s H locs μ → f_X10_from_133 n x2 x3 μ = some (r, μ') → W p l e (zR 2) s m args below meth c H locs 0 0 (MQ below (zQ ZM G (some (.int r)) μ') args s 0 0 (zAd ZM G)) (F0 m 133 ls []) := by
  have hx := B.1
  have hb := B.2.1
  intro n
  induction n with
  | zero => intro _ _ _ _ _ _ _ _ hl hW hf; cases hf
  | succ n ih =>
    intro x2 x3 μ H locs ls r μ' hl hW hf
    rw [f_X10_from_133] at hf
    refine lv_iload_n (pc := 133) hx hb dX10_from_133 rfl (lv_at hl 2 rfl) ?_
    refine lv_bipush (pc := 134) (v := (12 : Int32)) hx hb dX10_from_134 rfl ?_
    refine yic_ge (pc := 136) (tgt := 162) B dX10_from_136 (by decide) hf (fun hf => ?_) (fun hf => ?_)
    · refine lv_iconst (pc := 162) (v := (0 : Int32)) hx hb dX10_from_162 rfl ?_
      refine lv_istore_n (pc := 163) (lv' := [(3, .int (0 : Int32)), (0, .ref (zad G 0)), (2, .int x2)]) hx hb dX10_from_163 rfl hl (by decide) rfl (fun ls hl => ?_)
      exact t_X10_from_164 B zFU (lv_sub hl [1, 2, 0] rfl) hW hf
    · refine lv_aload_n (pc := 139) hx hb dX10_from_139 rfl (lv_at hl 0 rfl) ?_
      refine g_X10_22 (pc := 140) B hW dX10_from_140 ?_
      refine lv_iload_n (pc := 143) hx hb dX10_from_143 rfl (lv_at hl 2 rfl) ?_
      refine lv_aload_n (pc := 144) hx hb dX10_from_144 rfl (lv_at hl 0 rfl) ?_
      refine g_X10_62 (pc := 145) B hW dX10_from_145 ?_
      refine lv_iload_n (pc := 148) hx hb dX10_from_148 rfl (lv_at hl 1 rfl) ?_
      refine lv_bipush (pc := 149) (v := (18 : Int32)) hx hb dX10_from_149 rfl ?_
      refine lv_iadd (pc := 151) hx hb dX10_from_151 ?_
      refine lv_iload_n (pc := 152) hx hb dX10_from_152 rfl (lv_at hl 2 rfl) ?_
      refine lv_iadd (pc := 153) hx hb dX10_from_153 ?_
      refine yald (pc := 154) B hW mr17 dX10_from_154 hf (fun hf => ?_)
      refine yast (pc := 155) B hW mr5 dX10_from_155 hf (fun μ1 H locs hW hf => ?_)
      refine lv_iinc (pc := 156) (v := (x3 + (1 : Int32))) (lv' := [(3, .int (x3 + (1 : Int32))), (0, .ref (zad G 0)), (2, .int x2)]) hx hb dX10_from_156 hl (k := 2) rfl rfl (by decide) rfl (fun ls hl => ?_)
      refine lv_goto (pc := 159) (tgt := 133) hx hb dX10_from_159 (by decide) ?_
      exact ih (lv_sub hl [1, 2, 0] rfl) hW hf
noncomputable def f_X10_from_70 : Nat → Int32 → Int32 → Mem → Option (Int32 × Mem)
  | 0, _, _, _ => none
  | n + 1, x2, x3, μ => (if (5 : Int32) ≤ x3 then f_X10_from_133 zFU x2 (0 : Int32) μ else zck (zin ((x2 + (3 : Int32)) + x3) 384) (zck (zin x3 5) (zlet (zI μ 2 (x3).toNatClampNeg (μ.1 17 (((x2 + (3 : Int32)) + x3)).toNatClampNeg)) (fun μ1 => zck (zin ((x2 + (8 : Int32)) + x3) 384) (zck (zin x3 5) (zlet (zI μ1 3 (x3).toNatClampNeg (μ1.1 17 (((x2 + (8 : Int32)) + x3)).toNatClampNeg)) (fun μ2 => zck (zin ((x2 + (13 : Int32)) + x3) 384) (zck (zin x3 5) (zlet (zI μ2 4 (x3).toNatClampNeg (μ2.1 17 (((x2 + (13 : Int32)) + x3)).toNatClampNeg)) (fun μ3 => f_X10_from_70 n x2 (x3 + (1 : Int32)) μ3))))))))))
set_option maxRecDepth 100000 in
theorem t_X10_from_70 {G : ZG} {p : Program} {l : Launch} {e : Env} {s : State} {m : MethodId} {args : Array Value} {below : List Frame} {meth : Method} {c : Code} (B : zB ZM G cX10_from 4 "DarkSharesModel" (some .int) p s m args meth c) : ∀ (n : Nat) {x2 : Int32} {x3 : Int32} {μ : Mem} {H : Heap} {locs : List Loc} {ls : Array Slot} {r : Int32} {μ' : Mem}, lv_has ls 4 [(0, .ref (zad G 0)), (2, .int x2), (3, .int x3)] → zW ZM G s H locs μ → f_X10_from_70 n x2 x3 μ = some (r, μ') → W p l e (zR 2) s m args below meth c H locs 0 0 (MQ below (zQ ZM G (some (.int r)) μ') args s 0 0 (zAd ZM G)) (F0 m 70 ls []) := by
  have hx := B.1
  have hb := B.2.1
  intro n
  induction n with
  | zero => intro _ _ _ _ _ _ _ _ hl hW hf; cases hf
  | succ n ih =>
    intro x2 x3 μ H locs ls r μ' hl hW hf
    rw [f_X10_from_70] at hf
    refine lv_iload_n (pc := 70) hx hb dX10_from_70 rfl (lv_at hl 2 rfl) ?_
    refine lv_iconst (pc := 71) (v := (5 : Int32)) hx hb dX10_from_71 rfl ?_
    refine yic_ge (pc := 72) (tgt := 131) B dX10_from_72 (by decide) hf (fun hf => ?_) (fun hf => ?_)
    · refine lv_iconst (pc := 131) (v := (0 : Int32)) hx hb dX10_from_131 rfl ?_
      refine lv_istore_n (pc := 132) (lv' := [(3, .int (0 : Int32)), (0, .ref (zad G 0)), (2, .int x2)]) hx hb dX10_from_132 rfl hl (by decide) rfl (fun ls hl => ?_)
      exact t_X10_from_133 B zFU (lv_sub hl [1, 2, 0] rfl) hW hf
    · refine lv_aload_n (pc := 75) hx hb dX10_from_75 rfl (lv_at hl 0 rfl) ?_
      refine g_X10_13 (pc := 76) B hW dX10_from_76 ?_
      refine lv_iload_n (pc := 79) hx hb dX10_from_79 rfl (lv_at hl 2 rfl) ?_
      refine lv_aload_n (pc := 80) hx hb dX10_from_80 rfl (lv_at hl 0 rfl) ?_
      refine g_X10_62 (pc := 81) B hW dX10_from_81 ?_
      refine lv_iload_n (pc := 84) hx hb dX10_from_84 rfl (lv_at hl 1 rfl) ?_
      refine lv_iconst (pc := 85) (v := (3 : Int32)) hx hb dX10_from_85 rfl ?_
      refine lv_iadd (pc := 86) hx hb dX10_from_86 ?_
      refine lv_iload_n (pc := 87) hx hb dX10_from_87 rfl (lv_at hl 2 rfl) ?_
      refine lv_iadd (pc := 88) hx hb dX10_from_88 ?_
      refine yald (pc := 89) B hW mr17 dX10_from_89 hf (fun hf => ?_)
      refine yast (pc := 90) B hW mr2 dX10_from_90 hf (fun μ1 H locs hW hf => ?_)
      refine lv_aload_n (pc := 91) hx hb dX10_from_91 rfl (lv_at hl 0 rfl) ?_
      refine g_X10_16 (pc := 92) B hW dX10_from_92 ?_
      refine lv_iload_n (pc := 95) hx hb dX10_from_95 rfl (lv_at hl 2 rfl) ?_
      refine lv_aload_n (pc := 96) hx hb dX10_from_96 rfl (lv_at hl 0 rfl) ?_
      refine g_X10_62 (pc := 97) B hW dX10_from_97 ?_
      refine lv_iload_n (pc := 100) hx hb dX10_from_100 rfl (lv_at hl 1 rfl) ?_
      refine lv_bipush (pc := 101) (v := (8 : Int32)) hx hb dX10_from_101 rfl ?_
      refine lv_iadd (pc := 103) hx hb dX10_from_103 ?_
      refine lv_iload_n (pc := 104) hx hb dX10_from_104 rfl (lv_at hl 2 rfl) ?_
      refine lv_iadd (pc := 105) hx hb dX10_from_105 ?_
      refine yald (pc := 106) B hW mr17 dX10_from_106 hf (fun hf => ?_)
      refine yast (pc := 107) B hW mr3 dX10_from_107 hf (fun μ2 H locs hW hf => ?_)
      refine lv_aload_n (pc := 108) hx hb dX10_from_108 rfl (lv_at hl 0 rfl) ?_
      refine g_X10_19 (pc := 109) B hW dX10_from_109 ?_
      refine lv_iload_n (pc := 112) hx hb dX10_from_112 rfl (lv_at hl 2 rfl) ?_
      refine lv_aload_n (pc := 113) hx hb dX10_from_113 rfl (lv_at hl 0 rfl) ?_
      refine g_X10_62 (pc := 114) B hW dX10_from_114 ?_
      refine lv_iload_n (pc := 117) hx hb dX10_from_117 rfl (lv_at hl 1 rfl) ?_
      refine lv_bipush (pc := 118) (v := (13 : Int32)) hx hb dX10_from_118 rfl ?_
      refine lv_iadd (pc := 120) hx hb dX10_from_120 ?_
      refine lv_iload_n (pc := 121) hx hb dX10_from_121 rfl (lv_at hl 2 rfl) ?_
      refine lv_iadd (pc := 122) hx hb dX10_from_122 ?_
      refine yald (pc := 123) B hW mr17 dX10_from_123 hf (fun hf => ?_)
      refine yast (pc := 124) B hW mr4 dX10_from_124 hf (fun μ3 H locs hW hf => ?_)
      refine lv_iinc (pc := 125) (v := (x3 + (1 : Int32))) (lv' := [(3, .int (x3 + (1 : Int32))), (0, .ref (zad G 0)), (2, .int x2)]) hx hb dX10_from_125 hl (k := 2) rfl rfl (by decide) rfl (fun ls hl => ?_)
      refine lv_goto (pc := 128) (tgt := 70) hx hb dX10_from_128 (by decide) ?_
      exact ih (lv_sub hl [1, 2, 0] rfl) hW hf
noncomputable def f_X10_from (x1 : Int32) (μ : Mem) : Option (Int32 × Mem) := zbind (f_X10_in x1 (0 : Int32) (1 : Int32) μ) (fun r2 μ1 => (if r2 = 0 then zbind (f_X10_bad μ1) (fun r9 μ8 => some (r9, μ8)) else zck (zin x1 2) ((if (μ1.1 18 (x1).toNatClampNeg) = 0 then zbind (f_X10_no μ1) (fun r7 μ6 => some (r7, μ6)) else zck (zin ((192 : Int32) * x1) 384) (zlet (zI μ1 0 1 (μ1.1 17 (((192 : Int32) * x1)).toNatClampNeg)) (fun μ3 => zck (zin (((192 : Int32) * x1) + (1 : Int32)) 384) (zlet (zI μ3 0 2 (μ3.1 17 ((((192 : Int32) * x1) + (1 : Int32))).toNatClampNeg)) (fun μ4 => zck (zin (((192 : Int32) * x1) + (2 : Int32)) 384) (zlet (zI μ4 0 19 (μ4.1 17 ((((192 : Int32) * x1) + (2 : Int32))).toNatClampNeg)) (fun μ5 => f_X10_from_70 zFU ((192 : Int32) * x1) (0 : Int32) μ5))))))))))
set_option maxRecDepth 100000 in
theorem c_X10_from {G : ZG} {l : Launch} {x1 : Int32} {μ : Mem} {r : Int32} {μ' : Mem} (h : f_X10_from x1 μ = some (r, μ')) : zC ZM G l yX10_from cX10_from 4 (some .int) 2 [.ref (zad G 0), .int x1] μ (some (.int r)) μ' := by
  refine zC.mk (by decide +kernel) (Nat.le_of_ble_eq_true rfl) ?_
  intro p e s m below meth c ls B hl hW
  have B : zB ZM G cX10_from 4 "DarkSharesModel" (some .int) p s m [.ref (zad G 0), .int x1].toArray meth c := B
  have hl : lv_has ls 4 [(0, .ref (zad G 0)), (1, .int x1)] := hl
  have hx := B.1
  have hb := B.2.1
  have hf := h
  unfold f_X10_from at hf
  refine lv_iload_n (pc := 0) hx hb dX10_from_0 rfl (lv_at hl 1 rfl) ?_
  refine lv_iconst (pc := 1) (v := (0 : Int32)) hx hb dX10_from_1 rfl ?_
  refine lv_iconst (pc := 2) (v := (1 : Int32)) hx hb dX10_from_2 rfl ?_
  refine s_X10_81 (pc := 3) B hW hl.1 (by decide) (zle8 rfl) dX10_from_3 (fun _ _ h => c_X10_in h) hf (fun r2 μ1 H locs hW hf => ?_)
  refine yif_ne (pc := 6) (tgt := 14) B dX10_from_6 (by decide) hf (fun hf => ?_) (fun hf => ?_)
  · refine lv_aload_n (pc := 14) hx hb dX10_from_14 rfl (lv_at hl 0 rfl) ?_
    refine g_X10_65 (pc := 15) B hW dX10_from_15 ?_
    refine lv_iload_n (pc := 18) hx hb dX10_from_18 rfl (lv_at hl 1 rfl) ?_
    refine yald (pc := 19) B hW mr18 dX10_from_19 hf (fun hf => ?_)
    refine yif_ne (pc := 20) (tgt := 28) B dX10_from_20 (by decide) hf (fun hf => ?_) (fun hf => ?_)
    · refine lv_sipush (pc := 28) (v := (192 : Int32)) hx hb dX10_from_28 rfl ?_
      refine lv_iload_n (pc := 31) hx hb dX10_from_31 rfl (lv_at hl 1 rfl) ?_
      refine lv_imul (pc := 32) hx hb dX10_from_32 ?_
      refine lv_istore_n (pc := 33) (lv' := [(2, .int ((192 : Int32) * x1)), (0, .ref (zad G 0)), (1, .int x1)]) hx hb dX10_from_33 rfl hl (by decide) rfl (fun ls hl => ?_)
      refine lv_aload_n (pc := 34) hx hb dX10_from_34 rfl (lv_at hl 1 rfl) ?_
      refine lv_aload_n (pc := 35) hx hb dX10_from_35 rfl (lv_at hl 1 rfl) ?_
      refine g_X10_62 (pc := 36) B hW dX10_from_36 ?_
      refine lv_iload_n (pc := 39) hx hb dX10_from_39 rfl (lv_at hl 0 rfl) ?_
      refine yald (pc := 40) B hW mr17 dX10_from_40 hf (fun hf => ?_)
      refine p_X10_71 (pc := 41) B hW dX10_from_41 hf (fun μ3 H locs hW hf => ?_)
      refine lv_aload_n (pc := 44) hx hb dX10_from_44 rfl (lv_at hl 1 rfl) ?_
      refine lv_aload_n (pc := 45) hx hb dX10_from_45 rfl (lv_at hl 1 rfl) ?_
      refine g_X10_62 (pc := 46) B hW dX10_from_46 ?_
      refine lv_iload_n (pc := 49) hx hb dX10_from_49 rfl (lv_at hl 0 rfl) ?_
      refine lv_iconst (pc := 50) (v := (1 : Int32)) hx hb dX10_from_50 rfl ?_
      refine lv_iadd (pc := 51) hx hb dX10_from_51 ?_
      refine yald (pc := 52) B hW mr17 dX10_from_52 hf (fun hf => ?_)
      refine p_X10_75 (pc := 53) B hW dX10_from_53 hf (fun μ4 H locs hW hf => ?_)
      refine lv_aload_n (pc := 56) hx hb dX10_from_56 rfl (lv_at hl 1 rfl) ?_
      refine lv_aload_n (pc := 57) hx hb dX10_from_57 rfl (lv_at hl 1 rfl) ?_
      refine g_X10_62 (pc := 58) B hW dX10_from_58 ?_
      refine lv_iload_n (pc := 61) hx hb dX10_from_61 rfl (lv_at hl 0 rfl) ?_
      refine lv_iconst (pc := 62) (v := (2 : Int32)) hx hb dX10_from_62 rfl ?_
      refine lv_iadd (pc := 63) hx hb dX10_from_63 ?_
      refine yald (pc := 64) B hW mr17 dX10_from_64 hf (fun hf => ?_)
      refine p_X10_78 (pc := 65) B hW dX10_from_65 hf (fun μ5 H locs hW hf => ?_)
      refine lv_iconst (pc := 68) (v := (0 : Int32)) hx hb dX10_from_68 rfl ?_
      refine lv_istore_n (pc := 69) (lv' := [(3, .int (0 : Int32)), (2, .int ((192 : Int32) * x1)), (0, .ref (zad G 0)), (1, .int x1)]) hx hb dX10_from_69 rfl hl (by decide) rfl (fun ls hl => ?_)
      exact t_X10_from_70 B zFU (lv_sub hl [2, 1, 0] rfl) hW hf
    · refine lv_aload_n (pc := 23) hx hb dX10_from_23 rfl (lv_at hl 0 rfl) ?_
      refine s_X10_180 (pc := 24) B hW hl.1 (by decide) (zle8 rfl) dX10_from_24 (fun _ _ h => c_X10_no h) hf (fun r7 μ6 H locs hW hf => ?_)
      exact zreti (pc := 27) B hW hf dX10_from_27
  · refine lv_aload_n (pc := 9) hx hb dX10_from_9 rfl (lv_at hl 0 rfl) ?_
    refine s_X10_85 (pc := 10) B hW hl.1 (by decide) (zle8 rfl) dX10_from_10 (fun _ _ h => c_X10_bad h) hf (fun r9 μ8 H locs hW hf => ?_)
    exact zreti (pc := 13) B hW hf dX10_from_13
noncomputable def f_X10_status (x1 : Int32) (μ : Mem) : Option (Int32 × Mem) := zbind (f_X10_in x1 (0 : Int32) (2 : Int32) μ) (fun r2 μ1 => (if r2 = 0 then zck (zin (0 : Int32) 3) (zck (zin (0 : Int32) 3) (zlet (zI μ1 1 ((0 : Int32)).toNatClampNeg ((μ1.1 1 ((0 : Int32)).toNatClampNeg) + (1 : Int32))) (fun μ3 => some ((-1 : Int32), μ3)))) else zck (zin x1 3) (some ((μ1.1 1 (x1).toNatClampNeg), μ1))))
set_option maxRecDepth 100000 in
theorem c_X10_status {G : ZG} {l : Launch} {x1 : Int32} {μ : Mem} {r : Int32} {μ' : Mem} (h : f_X10_status x1 μ = some (r, μ')) : zC ZM G l yX10_status cX10_status 2 (some .int) 2 [.ref (zad G 0), .int x1] μ (some (.int r)) μ' := by
  refine zC.mk (by decide +kernel) (Nat.le_of_ble_eq_true rfl) ?_
  intro p e s m below meth c ls B hl hW
  have B : zB ZM G cX10_status 2 "DarkSharesModel" (some .int) p s m [.ref (zad G 0), .int x1].toArray meth c := B
  have hl : lv_has ls 2 [(0, .ref (zad G 0)), (1, .int x1)] := hl
  have hx := B.1
  have hb := B.2.1
  have hf := h
  unfold f_X10_status at hf
  refine lv_iload_n (pc := 0) hx hb dX10_status_0 rfl (lv_at hl 1 rfl) ?_
  refine lv_iconst (pc := 1) (v := (0 : Int32)) hx hb dX10_status_1 rfl ?_
  refine lv_iconst (pc := 2) (v := (2 : Int32)) hx hb dX10_status_2 rfl ?_
  refine s_X10_81 (pc := 3) B hW hl.1 (by decide) (zle8 rfl) dX10_status_3 (fun _ _ h => c_X10_in h) hf (fun r2 μ1 H locs hW hf => ?_)
  refine yif_ne (pc := 6) (tgt := 21) B dX10_status_6 (by decide) hf (fun hf => ?_) (fun hf => ?_)
  · refine lv_aload_n (pc := 21) hx hb dX10_status_21 rfl (lv_at hl 0 rfl) ?_
    refine g_X10_1 (pc := 22) B hW dX10_status_22 ?_
    refine lv_iload_n (pc := 25) hx hb dX10_status_25 rfl (lv_at hl 1 rfl) ?_
    refine yald (pc := 26) B hW mr1 dX10_status_26 hf (fun hf => ?_)
    exact zreti (pc := 27) B hW hf dX10_status_27
  · refine lv_aload_n (pc := 9) hx hb dX10_status_9 rfl (lv_at hl 0 rfl) ?_
    refine g_X10_1 (pc := 10) B hW dX10_status_10 ?_
    refine lv_iconst (pc := 13) (v := (0 : Int32)) hx hb dX10_status_13 rfl ?_
    refine lv_dup2_11 (pc := 14) hx hb dX10_status_14 rfl rfl ?_
    refine yald (pc := 15) B hW mr1 dX10_status_15 hf (fun hf => ?_)
    refine lv_iconst (pc := 16) (v := (1 : Int32)) hx hb dX10_status_16 rfl ?_
    refine lv_iadd (pc := 17) hx hb dX10_status_17 ?_
    refine yast (pc := 18) B hW mr1 dX10_status_18 hf (fun μ3 H locs hW hf => ?_)
    refine lv_iconst (pc := 19) (v := (-1 : Int32)) hx hb dX10_status_19 rfl ?_
    exact zreti (pc := 20) B hW hf dX10_status_20
noncomputable def f_X10_allJam_4 : Nat → Int32 → Int32 → Mem → Option (Int32 × Mem)
  | 0, _, _, _ => none
  | n + 1, x1, x2, μ => (if (μ.1 0 1) ≤ x2 then some (x1, μ) else zck (zin x2 5) (f_X10_allJam_4 n (x1 + (μ.1 4 (x2).toNatClampNeg)) (x2 + (1 : Int32)) μ))
set_option maxRecDepth 100000 in
theorem t_X10_allJam_4 {G : ZG} {p : Program} {l : Launch} {e : Env} {s : State} {m : MethodId} {args : Array Value} {below : List Frame} {meth : Method} {c : Code} (B : zB ZM G cX10_allJam 3 "DarkSharesModel" (some .int) p s m args meth c) : ∀ (n : Nat) {x1 : Int32} {x2 : Int32} {μ : Mem} {H : Heap} {locs : List Loc} {ls : Array Slot} {r : Int32} {μ' : Mem}, lv_has ls 3 [(0, .ref (zad G 0)), (1, .int x1), (2, .int x2)] → zW ZM G s H locs μ → f_X10_allJam_4 n x1 x2 μ = some (r, μ') → W p l e (zR 1) s m args below meth c H locs 0 0 (MQ below (zQ ZM G (some (.int r)) μ') args s 0 0 (zAd ZM G)) (F0 m 4 ls []) := by
  have hx := B.1
  have hb := B.2.1
  intro n
  induction n with
  | zero => intro _ _ _ _ _ _ _ _ hl hW hf; cases hf
  | succ n ih =>
    intro x1 x2 μ H locs ls r μ' hl hW hf
    rw [f_X10_allJam_4] at hf
    refine lv_iload_n (pc := 4) hx hb dX10_allJam_4 rfl (lv_at hl 2 rfl) ?_
    refine lv_aload_n (pc := 5) hx hb dX10_allJam_5 rfl (lv_at hl 0 rfl) ?_
    refine g_X10_71 (pc := 6) B hW dX10_allJam_6 ?_
    refine yic_ge (pc := 9) (tgt := 27) B dX10_allJam_9 (by decide) hf (fun hf => ?_) (fun hf => ?_)
    · refine lv_iload_n (pc := 27) hx hb dX10_allJam_27 rfl (lv_at hl 1 rfl) ?_
      exact zreti (pc := 28) B hW hf dX10_allJam_28
    · refine lv_iload_n (pc := 12) hx hb dX10_allJam_12 rfl (lv_at hl 1 rfl) ?_
      refine lv_aload_n (pc := 13) hx hb dX10_allJam_13 rfl (lv_at hl 0 rfl) ?_
      refine g_X10_19 (pc := 14) B hW dX10_allJam_14 ?_
      refine lv_iload_n (pc := 17) hx hb dX10_allJam_17 rfl (lv_at hl 2 rfl) ?_
      refine yald (pc := 18) B hW mr4 dX10_allJam_18 hf (fun hf => ?_)
      refine lv_iadd (pc := 19) hx hb dX10_allJam_19 ?_
      refine lv_istore_n (pc := 20) (lv' := [(1, .int (x1 + (μ.1 4 (x2).toNatClampNeg))), (0, .ref (zad G 0)), (2, .int x2)]) hx hb dX10_allJam_20 rfl hl (by decide) rfl (fun ls hl => ?_)
      refine lv_iinc (pc := 21) (v := (x2 + (1 : Int32))) (lv' := [(2, .int (x2 + (1 : Int32))), (1, .int (x1 + (μ.1 4 (x2).toNatClampNeg))), (0, .ref (zad G 0))]) hx hb dX10_allJam_21 hl (k := 2) rfl rfl (by decide) rfl (fun ls hl => ?_)
      refine lv_goto (pc := 24) (tgt := 4) hx hb dX10_allJam_24 (by decide) ?_
      exact ih (lv_sub hl [2, 1, 0] rfl) hW hf
noncomputable def f_X10_allJam (μ : Mem) : Option (Int32 × Mem) := f_X10_allJam_4 zFU (0 : Int32) (0 : Int32) μ
set_option maxRecDepth 100000 in
theorem c_X10_allJam {G : ZG} {l : Launch} {μ : Mem} {r : Int32} {μ' : Mem} (h : f_X10_allJam μ = some (r, μ')) : zC ZM G l yX10_allJam cX10_allJam 3 (some .int) 1 [.ref (zad G 0)] μ (some (.int r)) μ' := by
  refine zC.mk (by decide +kernel) (Nat.le_of_ble_eq_true rfl) ?_
  intro p e s m below meth c ls B hl hW
  have B : zB ZM G cX10_allJam 3 "DarkSharesModel" (some .int) p s m [.ref (zad G 0)].toArray meth c := B
  have hl : lv_has ls 3 [(0, .ref (zad G 0))] := hl
  have hx := B.1
  have hb := B.2.1
  have hf := h
  unfold f_X10_allJam at hf
  refine lv_iconst (pc := 0) (v := (0 : Int32)) hx hb dX10_allJam_0 rfl ?_
  refine lv_istore_n (pc := 1) (lv' := [(1, .int (0 : Int32)), (0, .ref (zad G 0))]) hx hb dX10_allJam_1 rfl hl (by decide) rfl (fun ls hl => ?_)
  refine lv_iconst (pc := 2) (v := (0 : Int32)) hx hb dX10_allJam_2 rfl ?_
  refine lv_istore_n (pc := 3) (lv' := [(2, .int (0 : Int32)), (1, .int (0 : Int32)), (0, .ref (zad G 0))]) hx hb dX10_allJam_3 rfl hl (by decide) rfl (fun ls hl => ?_)
  exact t_X10_allJam_4 B zFU (lv_sub hl [2, 1, 0] rfl) hW hf
noncomputable def f_X10_countOf (x1 : Int32) (μ : Mem) : Option (Int32 × Mem) := (if x1 = (0 : Int32) then some ((μ.1 0 1), μ) else (if x1 = (1 : Int32) then zbind (f_X10_greyMany μ) (fun r2 μ1 => some (r2, μ1)) else (if x1 = (2 : Int32) then zbind (f_X10_allJam μ) (fun r4 μ3 => some (r4, μ3)) else (if x1 = (3 : Int32) then zbind (f_X10_enough μ) (fun r6 μ5 => zbind (f_X10_bits r6 μ5) (fun r8 μ7 => some (r8, μ7))) else (if x1 = (4 : Int32) then some ((μ.1 0 2), μ) else (if x1 = (5 : Int32) then some ((μ.1 0 19), μ) else some ((μ.1 0 12), μ)))))))
set_option maxRecDepth 100000 in
theorem c_X10_countOf {G : ZG} {l : Launch} {x1 : Int32} {μ : Mem} {r : Int32} {μ' : Mem} (h : f_X10_countOf x1 μ = some (r, μ')) : zC ZM G l yX10_countOf cX10_countOf 2 (some .int) 3 [.ref (zad G 0), .int x1] μ (some (.int r)) μ' := by
  refine zC.mk (by decide +kernel) (Nat.le_of_ble_eq_true rfl) ?_
  intro p e s m below meth c ls B hl hW
  have B : zB ZM G cX10_countOf 2 "DarkSharesModel" (some .int) p s m [.ref (zad G 0), .int x1].toArray meth c := B
  have hl : lv_has ls 2 [(0, .ref (zad G 0)), (1, .int x1)] := hl
  have hx := B.1
  have hb := B.2.1
  have hf := h
  unfold f_X10_countOf at hf
  refine lv_iload_n (pc := 0) hx hb dX10_countOf_0 rfl (lv_at hl 1 rfl) ?_
  rcases zsw hf with ⟨c0, hf⟩ | ⟨c0, hf⟩
  · refine ytabin (pc := 1) (tgt := 40) B dX10_countOf_1 c0 (by decide) (by decide) rfl (by decide) ?_
    refine lv_aload_n (pc := 40) hx hb dX10_countOf_40 rfl (lv_at hl 0 rfl) ?_
    refine g_X10_71 (pc := 41) B hW dX10_countOf_41 ?_
    exact zreti (pc := 44) B hW hf dX10_countOf_44
  rcases zsw hf with ⟨c1, hf⟩ | ⟨c1, hf⟩
  · refine ytabin (pc := 1) (tgt := 45) B dX10_countOf_1 c1 (by decide) (by decide) rfl (by decide) ?_
    refine lv_aload_n (pc := 45) hx hb dX10_countOf_45 rfl (lv_at hl 0 rfl) ?_
    refine s_X10_190 (pc := 46) B hW hl.1 (by decide) (zle8 rfl) dX10_countOf_46 (fun _ _ h => c_X10_greyMany h) hf (fun r2 μ1 H locs hW hf => ?_)
    exact zreti (pc := 49) B hW hf dX10_countOf_49
  rcases zsw hf with ⟨c2, hf⟩ | ⟨c2, hf⟩
  · refine ytabin (pc := 1) (tgt := 50) B dX10_countOf_1 c2 (by decide) (by decide) rfl (by decide) ?_
    refine lv_aload_n (pc := 50) hx hb dX10_countOf_50 rfl (lv_at hl 0 rfl) ?_
    refine s_X10_246 (pc := 51) B hW hl.1 (by decide) (zle8 rfl) dX10_countOf_51 (fun _ _ h => c_X10_allJam h) hf (fun r4 μ3 H locs hW hf => ?_)
    exact zreti (pc := 54) B hW hf dX10_countOf_54
  rcases zsw hf with ⟨c3, hf⟩ | ⟨c3, hf⟩
  · refine ytabin (pc := 1) (tgt := 55) B dX10_countOf_1 c3 (by decide) (by decide) rfl (by decide) ?_
    refine lv_aload_n (pc := 55) hx hb dX10_countOf_55 rfl (lv_at hl 0 rfl) ?_
    refine s_X10_249 (pc := 56) B hW hl.1 (by decide) (zle8 rfl) dX10_countOf_56 (fun _ _ h => c_X10_enough h) hf (fun r6 μ5 H locs hW hf => ?_)
    refine s_X10_187 (pc := 59) B hW hl.1 (by decide) (zle8 rfl) dX10_countOf_59 (fun _ _ h => c_X10_bits h) hf (fun r8 μ7 H locs hW hf => ?_)
    exact zreti (pc := 62) B hW hf dX10_countOf_62
  rcases zsw hf with ⟨c4, hf⟩ | ⟨c4, hf⟩
  · refine ytabin (pc := 1) (tgt := 63) B dX10_countOf_1 c4 (by decide) (by decide) rfl (by decide) ?_
    refine lv_aload_n (pc := 63) hx hb dX10_countOf_63 rfl (lv_at hl 0 rfl) ?_
    refine g_X10_75 (pc := 64) B hW dX10_countOf_64 ?_
    exact zreti (pc := 67) B hW hf dX10_countOf_67
  rcases zsw hf with ⟨c5, hf⟩ | ⟨c5, hf⟩
  · refine ytabin (pc := 1) (tgt := 68) B dX10_countOf_1 c5 (by decide) (by decide) rfl (by decide) ?_
    refine lv_aload_n (pc := 68) hx hb dX10_countOf_68 rfl (lv_at hl 0 rfl) ?_
    refine g_X10_78 (pc := 69) B hW dX10_countOf_69 ?_
    exact zreti (pc := 72) B hW hf dX10_countOf_72
  have e0 := zne c0 (show ((0 : Int32)).toInt = 0 from by decide)
  have e1 := zne c1 (show ((1 : Int32)).toInt = 1 from by decide)
  have e2 := zne c2 (show ((2 : Int32)).toInt = 2 from by decide)
  have e3 := zne c3 (show ((3 : Int32)).toInt = 3 from by decide)
  have e4 := zne c4 (show ((4 : Int32)).toInt = 4 from by decide)
  have e5 := zne c5 (show ((5 : Int32)).toInt = 5 from by decide)
  refine ytabout (pc := 1) (tgt := 73) B dX10_countOf_1 (by omega) (by decide) ?_
  refine lv_aload_n (pc := 73) hx hb dX10_countOf_73 rfl (lv_at hl 0 rfl) ?_
  refine g_X10_96 (pc := 74) B hW dX10_countOf_74 ?_
  exact zreti (pc := 77) B hW hf dX10_countOf_77
noncomputable def f_X10_count (x1 : Int32) (μ : Mem) : Option (Int32 × Mem) := zbind (f_X10_in x1 (0 : Int32) (6 : Int32) μ) (fun r2 μ1 => (if r2 = 0 then zbind (f_X10_bad μ1) (fun r4 μ3 => some (r4, μ3)) else zbind (f_X10_countOf x1 μ1) (fun r6 μ5 => some (r6, μ5))))
set_option maxRecDepth 100000 in
theorem c_X10_count {G : ZG} {l : Launch} {x1 : Int32} {μ : Mem} {r : Int32} {μ' : Mem} (h : f_X10_count x1 μ = some (r, μ')) : zC ZM G l yX10_count cX10_count 2 (some .int) 4 [.ref (zad G 0), .int x1] μ (some (.int r)) μ' := by
  refine zC.mk (by decide +kernel) (Nat.le_of_ble_eq_true rfl) ?_
  intro p e s m below meth c ls B hl hW
  have B : zB ZM G cX10_count 2 "DarkSharesModel" (some .int) p s m [.ref (zad G 0), .int x1].toArray meth c := B
  have hl : lv_has ls 2 [(0, .ref (zad G 0)), (1, .int x1)] := hl
  have hx := B.1
  have hb := B.2.1
  have hf := h
  unfold f_X10_count at hf
  refine lv_iload_n (pc := 0) hx hb dX10_count_0 rfl (lv_at hl 1 rfl) ?_
  refine lv_iconst (pc := 1) (v := (0 : Int32)) hx hb dX10_count_1 rfl ?_
  refine lv_bipush (pc := 2) (v := (6 : Int32)) hx hb dX10_count_2 rfl ?_
  refine s_X10_81 (pc := 4) B hW hl.1 (by decide) (zle8 rfl) dX10_count_4 (fun _ _ h => c_X10_in h) hf (fun r2 μ1 H locs hW hf => ?_)
  refine yif_eq (pc := 7) (tgt := 18) B dX10_count_7 (by decide) hf (fun hf => ?_) (fun hf => ?_)
  · refine lv_aload_n (pc := 18) hx hb dX10_count_18 rfl (lv_at hl 0 rfl) ?_
    refine s_X10_85 (pc := 19) B hW hl.1 (by decide) (zle8 rfl) dX10_count_19 (fun _ _ h => c_X10_bad h) hf (fun r4 μ3 H locs hW hf => ?_)
    exact zreti (pc := 22) B hW hf dX10_count_22
  · refine lv_aload_n (pc := 10) hx hb dX10_count_10 rfl (lv_at hl 0 rfl) ?_
    refine lv_iload_n (pc := 11) hx hb dX10_count_11 rfl (lv_at hl 1 rfl) ?_
    refine s_X10_252 (pc := 12) B hW hl.1 (by decide) (zle8 rfl) dX10_count_12 (fun _ _ h => c_X10_countOf h) hf (fun r6 μ5 H locs hW hf => ?_)
    refine lv_goto (pc := 15) (tgt := 22) hx hb dX10_count_15 (by decide) ?_
    exact zreti (pc := 22) B hW hf dX10_count_22
noncomputable def f_X10_mix (x1 : Int64) (μ : Mem) : Option (Unit × Mem) := zlet (zL μ 0 27 (((31 : Int64) * (μ.2 0 27)) + x1)) (fun μ1 => some ((), μ1))
set_option maxRecDepth 100000 in
theorem c_X10_mix {G : ZG} {l : Launch} {x1 : Int64} {μ : Mem} {r : Unit} {μ' : Mem} (h : f_X10_mix x1 μ = some (r, μ')) : zC ZM G l yX10_mix cX10_mix 3 none 1 [.ref (zad G 0), .long x1] μ none μ' := by
  refine zC.mk (by decide +kernel) (Nat.le_of_ble_eq_true rfl) ?_
  intro p e s m below meth c ls B hl hW
  have B : zB ZM G cX10_mix 3 "DarkSharesModel" none p s m [.ref (zad G 0), .long x1].toArray meth c := B
  have hl : lv_has ls 3 [(0, .ref (zad G 0)), (1, .long x1)] := hl
  have hx := B.1
  have hb := B.2.1
  have hf := h
  unfold f_X10_mix at hf
  refine lv_aload_n (pc := 0) hx hb dX10_mix_0 rfl (lv_at hl 0 rfl) ?_
  refine lv_ldc2 (pc := 1) hx hb B.2.2.2.1 (B.2.2.2.2.1 _ kw1158) dX10_mix_1 ?_
  refine lv_aload_n (pc := 4) hx hb dX10_mix_4 rfl (lv_at hl 0 rfl) ?_
  refine g_X10_257 (pc := 5) B hW dX10_mix_5 ?_
  refine lv_lmul (pc := 8) hx hb dX10_mix_8 ?_
  refine lv_lload_n (pc := 9) hx hb dX10_mix_9 rfl (lv_at hl 1 rfl) ?_
  refine lv_ladd (pc := 10) hx hb dX10_mix_10 ?_
  refine p_X10_257 (pc := 11) B hW dX10_mix_11 hf (fun μ1 H locs hW hf => ?_)
  exact zretv (pc := 14) B hW hf dX10_mix_14
noncomputable def f_X10_digest_107 : Nat → Int32 → Mem → Option (Int64 × Mem)
  | 0, _, _ => none
  | n + 1, x1, μ => (if (μ.1 0 2) ≤ x1 then zbind (f_X10_mix (μ.2 0 23) μ) (fun _ μ1 => zbind (f_X10_mix (μ1.2 0 24) μ1) (fun _ μ2 => some ((μ2.2 0 27), μ2))) else zck (zin x1 6) (zbind (f_X10_mix (((μ.1 6 (x1).toNatClampNeg)).toInt64) μ) (fun _ μ3 => zck (zin x1 6) (zbind (f_X10_mix (((μ3.1 7 (x1).toNatClampNeg)).toInt64) μ3) (fun _ μ4 => zck (zin x1 6) (zbind (f_X10_mix (((μ4.1 8 (x1).toNatClampNeg)).toInt64) μ4) (fun _ μ5 => zck (zin x1 6) (zbind (f_X10_mix (((μ5.1 9 (x1).toNatClampNeg)).toInt64) μ5) (fun _ μ6 => f_X10_digest_107 n (x1 + (1 : Int32)) μ6)))))))))
set_option maxRecDepth 100000 in
theorem t_X10_digest_107 {G : ZG} {p : Program} {l : Launch} {e : Env} {s : State} {m : MethodId} {args : Array Value} {below : List Frame} {meth : Method} {c : Code} (B : zB ZM G cX10_digest 2 "DarkSharesModel" (some .long) p s m args meth c) : ∀ (n : Nat) {x1 : Int32} {μ : Mem} {H : Heap} {locs : List Loc} {ls : Array Slot} {r : Int64} {μ' : Mem}, lv_has ls 2 [(0, .ref (zad G 0)), (1, .int x1)] → zW ZM G s H locs μ → f_X10_digest_107 n x1 μ = some (r, μ') → W p l e (zR 4) s m args below meth c H locs 0 0 (MQ below (zQ ZM G (some (.long r)) μ') args s 0 0 (zAd ZM G)) (F0 m 107 ls []) := by
  have hx := B.1
  have hb := B.2.1
  intro n
  induction n with
  | zero => intro _ _ _ _ _ _ _ hl hW hf; cases hf
  | succ n ih =>
    intro x1 μ H locs ls r μ' hl hW hf
    rw [f_X10_digest_107] at hf
    refine lv_iload_n (pc := 107) hx hb dX10_digest_107 rfl (lv_at hl 1 rfl) ?_
    refine lv_aload_n (pc := 108) hx hb dX10_digest_108 rfl (lv_at hl 0 rfl) ?_
    refine g_X10_75 (pc := 109) B hW dX10_digest_109 ?_
    refine yic_ge (pc := 112) (tgt := 165) B dX10_digest_112 (by decide) hf (fun hf => ?_) (fun hf => ?_)
    · refine lv_aload_n (pc := 165) hx hb dX10_digest_165 rfl (lv_at hl 0 rfl) ?_
      refine lv_aload_n (pc := 166) hx hb dX10_digest_166 rfl (lv_at hl 0 rfl) ?_
      refine g_X10_226 (pc := 167) B hW dX10_digest_167 ?_
      refine s_X10_262 (pc := 170) B hW hl.1 (by decide) (zle8 rfl) dX10_digest_170 (fun _ _ h => c_X10_mix h) hf (fun _ μ1 H locs hW hf => ?_)
      refine lv_aload_n (pc := 173) hx hb dX10_digest_173 rfl (lv_at hl 0 rfl) ?_
      refine lv_aload_n (pc := 174) hx hb dX10_digest_174 rfl (lv_at hl 0 rfl) ?_
      refine g_X10_58 (pc := 175) B hW dX10_digest_175 ?_
      refine s_X10_262 (pc := 178) B hW hl.1 (by decide) (zle8 rfl) dX10_digest_178 (fun _ _ h => c_X10_mix h) hf (fun _ μ2 H locs hW hf => ?_)
      refine lv_aload_n (pc := 181) hx hb dX10_digest_181 rfl (lv_at hl 0 rfl) ?_
      refine g_X10_257 (pc := 182) B hW dX10_digest_182 ?_
      exact zretl (pc := 185) B hW hf dX10_digest_185
    · refine lv_aload_n (pc := 115) hx hb dX10_digest_115 rfl (lv_at hl 0 rfl) ?_
      refine lv_aload_n (pc := 116) hx hb dX10_digest_116 rfl (lv_at hl 0 rfl) ?_
      refine g_X10_25 (pc := 117) B hW dX10_digest_117 ?_
      refine lv_iload_n (pc := 120) hx hb dX10_digest_120 rfl (lv_at hl 1 rfl) ?_
      refine yald (pc := 121) B hW mr6 dX10_digest_121 hf (fun hf => ?_)
      refine lv_i2l (pc := 122) (v := ((μ.1 6 (x1).toNatClampNeg)).toInt64) hx hb dX10_digest_122 rfl ?_
      refine s_X10_262 (pc := 123) B hW hl.1 (by decide) (zle8 rfl) dX10_digest_123 (fun _ _ h => c_X10_mix h) hf (fun _ μ3 H locs hW hf => ?_)
      refine lv_aload_n (pc := 126) hx hb dX10_digest_126 rfl (lv_at hl 0 rfl) ?_
      refine lv_aload_n (pc := 127) hx hb dX10_digest_127 rfl (lv_at hl 0 rfl) ?_
      refine g_X10_28 (pc := 128) B hW dX10_digest_128 ?_
      refine lv_iload_n (pc := 131) hx hb dX10_digest_131 rfl (lv_at hl 1 rfl) ?_
      refine yald (pc := 132) B hW mr7 dX10_digest_132 hf (fun hf => ?_)
      refine lv_i2l (pc := 133) (v := ((μ3.1 7 (x1).toNatClampNeg)).toInt64) hx hb dX10_digest_133 rfl ?_
      refine s_X10_262 (pc := 134) B hW hl.1 (by decide) (zle8 rfl) dX10_digest_134 (fun _ _ h => c_X10_mix h) hf (fun _ μ4 H locs hW hf => ?_)
      refine lv_aload_n (pc := 137) hx hb dX10_digest_137 rfl (lv_at hl 0 rfl) ?_
      refine lv_aload_n (pc := 138) hx hb dX10_digest_138 rfl (lv_at hl 0 rfl) ?_
      refine g_X10_31 (pc := 139) B hW dX10_digest_139 ?_
      refine lv_iload_n (pc := 142) hx hb dX10_digest_142 rfl (lv_at hl 1 rfl) ?_
      refine yald (pc := 143) B hW mr8 dX10_digest_143 hf (fun hf => ?_)
      refine lv_i2l (pc := 144) (v := ((μ4.1 8 (x1).toNatClampNeg)).toInt64) hx hb dX10_digest_144 rfl ?_
      refine s_X10_262 (pc := 145) B hW hl.1 (by decide) (zle8 rfl) dX10_digest_145 (fun _ _ h => c_X10_mix h) hf (fun _ μ5 H locs hW hf => ?_)
      refine lv_aload_n (pc := 148) hx hb dX10_digest_148 rfl (lv_at hl 0 rfl) ?_
      refine lv_aload_n (pc := 149) hx hb dX10_digest_149 rfl (lv_at hl 0 rfl) ?_
      refine g_X10_34 (pc := 150) B hW dX10_digest_150 ?_
      refine lv_iload_n (pc := 153) hx hb dX10_digest_153 rfl (lv_at hl 1 rfl) ?_
      refine yald (pc := 154) B hW mr9 dX10_digest_154 hf (fun hf => ?_)
      refine lv_i2l (pc := 155) (v := ((μ5.1 9 (x1).toNatClampNeg)).toInt64) hx hb dX10_digest_155 rfl ?_
      refine s_X10_262 (pc := 156) B hW hl.1 (by decide) (zle8 rfl) dX10_digest_156 (fun _ _ h => c_X10_mix h) hf (fun _ μ6 H locs hW hf => ?_)
      refine lv_iinc (pc := 159) (v := (x1 + (1 : Int32))) (lv' := [(1, .int (x1 + (1 : Int32))), (0, .ref (zad G 0))]) hx hb dX10_digest_159 hl (k := 1) rfl rfl (by decide) rfl (fun ls hl => ?_)
      refine lv_goto (pc := 162) (tgt := 107) hx hb dX10_digest_162 (by decide) ?_
      exact ih (lv_sub hl [1, 0] rfl) hW hf
noncomputable def f_X10_digest_82 : Nat → Int32 → Mem → Option (Int64 × Mem)
  | 0, _, _ => none
  | n + 1, x1, μ => (if (12 : Int32) ≤ x1 then f_X10_digest_107 zFU (0 : Int32) μ else zck (zin x1 12) (zbind (f_X10_mix (((μ.1 5 (x1).toNatClampNeg)).toInt64) μ) (fun _ μ1 => f_X10_digest_82 n (x1 + (1 : Int32)) μ1)))
set_option maxRecDepth 100000 in
theorem t_X10_digest_82 {G : ZG} {p : Program} {l : Launch} {e : Env} {s : State} {m : MethodId} {args : Array Value} {below : List Frame} {meth : Method} {c : Code} (B : zB ZM G cX10_digest 2 "DarkSharesModel" (some .long) p s m args meth c) : ∀ (n : Nat) {x1 : Int32} {μ : Mem} {H : Heap} {locs : List Loc} {ls : Array Slot} {r : Int64} {μ' : Mem}, lv_has ls 2 [(0, .ref (zad G 0)), (1, .int x1)] → zW ZM G s H locs μ → f_X10_digest_82 n x1 μ = some (r, μ') → W p l e (zR 4) s m args below meth c H locs 0 0 (MQ below (zQ ZM G (some (.long r)) μ') args s 0 0 (zAd ZM G)) (F0 m 82 ls []) := by
  have hx := B.1
  have hb := B.2.1
  intro n
  induction n with
  | zero => intro _ _ _ _ _ _ _ hl hW hf; cases hf
  | succ n ih =>
    intro x1 μ H locs ls r μ' hl hW hf
    rw [f_X10_digest_82] at hf
    refine lv_iload_n (pc := 82) hx hb dX10_digest_82 rfl (lv_at hl 1 rfl) ?_
    refine lv_bipush (pc := 83) (v := (12 : Int32)) hx hb dX10_digest_83 rfl ?_
    refine yic_ge (pc := 85) (tgt := 105) B dX10_digest_85 (by decide) hf (fun hf => ?_) (fun hf => ?_)
    · refine lv_iconst (pc := 105) (v := (0 : Int32)) hx hb dX10_digest_105 rfl ?_
      refine lv_istore_n (pc := 106) (lv' := [(1, .int (0 : Int32)), (0, .ref (zad G 0))]) hx hb dX10_digest_106 rfl hl (by decide) rfl (fun ls hl => ?_)
      exact t_X10_digest_107 B zFU (lv_sub hl [1, 0] rfl) hW hf
    · refine lv_aload_n (pc := 88) hx hb dX10_digest_88 rfl (lv_at hl 0 rfl) ?_
      refine lv_aload_n (pc := 89) hx hb dX10_digest_89 rfl (lv_at hl 0 rfl) ?_
      refine g_X10_22 (pc := 90) B hW dX10_digest_90 ?_
      refine lv_iload_n (pc := 93) hx hb dX10_digest_93 rfl (lv_at hl 1 rfl) ?_
      refine yald (pc := 94) B hW mr5 dX10_digest_94 hf (fun hf => ?_)
      refine lv_i2l (pc := 95) (v := ((μ.1 5 (x1).toNatClampNeg)).toInt64) hx hb dX10_digest_95 rfl ?_
      refine s_X10_262 (pc := 96) B hW hl.1 (by decide) (zle8 rfl) dX10_digest_96 (fun _ _ h => c_X10_mix h) hf (fun _ μ1 H locs hW hf => ?_)
      refine lv_iinc (pc := 99) (v := (x1 + (1 : Int32))) (lv' := [(1, .int (x1 + (1 : Int32))), (0, .ref (zad G 0))]) hx hb dX10_digest_99 hl (k := 1) rfl rfl (by decide) rfl (fun ls hl => ?_)
      refine lv_goto (pc := 102) (tgt := 82) hx hb dX10_digest_102 (by decide) ?_
      exact ih (lv_sub hl [1, 0] rfl) hW hf
noncomputable def f_X10_digest_33 : Nat → Int32 → Mem → Option (Int64 × Mem)
  | 0, _, _ => none
  | n + 1, x1, μ => (if (μ.1 0 1) ≤ x1 then f_X10_digest_82 zFU (0 : Int32) μ else zck (zin x1 5) (zbind (f_X10_mix (((μ.1 2 (x1).toNatClampNeg)).toInt64) μ) (fun _ μ1 => zck (zin x1 5) (zbind (f_X10_mix (((μ1.1 3 (x1).toNatClampNeg)).toInt64) μ1) (fun _ μ2 => zck (zin x1 5) (zbind (f_X10_mix (((μ2.1 4 (x1).toNatClampNeg)).toInt64) μ2) (fun _ μ3 => f_X10_digest_33 n (x1 + (1 : Int32)) μ3)))))))
set_option maxRecDepth 100000 in
theorem t_X10_digest_33 {G : ZG} {p : Program} {l : Launch} {e : Env} {s : State} {m : MethodId} {args : Array Value} {below : List Frame} {meth : Method} {c : Code} (B : zB ZM G cX10_digest 2 "DarkSharesModel" (some .long) p s m args meth c) : ∀ (n : Nat) {x1 : Int32} {μ : Mem} {H : Heap} {locs : List Loc} {ls : Array Slot} {r : Int64} {μ' : Mem}, lv_has ls 2 [(0, .ref (zad G 0)), (1, .int x1)] → zW ZM G s H locs μ → f_X10_digest_33 n x1 μ = some (r, μ') → W p l e (zR 4) s m args below meth c H locs 0 0 (MQ below (zQ ZM G (some (.long r)) μ') args s 0 0 (zAd ZM G)) (F0 m 33 ls []) := by
  have hx := B.1
  have hb := B.2.1
  intro n
  induction n with
  | zero => intro _ _ _ _ _ _ _ hl hW hf; cases hf
  | succ n ih =>
    intro x1 μ H locs ls r μ' hl hW hf
    rw [f_X10_digest_33] at hf
    refine lv_iload_n (pc := 33) hx hb dX10_digest_33 rfl (lv_at hl 1 rfl) ?_
    refine lv_aload_n (pc := 34) hx hb dX10_digest_34 rfl (lv_at hl 0 rfl) ?_
    refine g_X10_71 (pc := 35) B hW dX10_digest_35 ?_
    refine yic_ge (pc := 38) (tgt := 80) B dX10_digest_38 (by decide) hf (fun hf => ?_) (fun hf => ?_)
    · refine lv_iconst (pc := 80) (v := (0 : Int32)) hx hb dX10_digest_80 rfl ?_
      refine lv_istore_n (pc := 81) (lv' := [(1, .int (0 : Int32)), (0, .ref (zad G 0))]) hx hb dX10_digest_81 rfl hl (by decide) rfl (fun ls hl => ?_)
      exact t_X10_digest_82 B zFU (lv_sub hl [1, 0] rfl) hW hf
    · refine lv_aload_n (pc := 41) hx hb dX10_digest_41 rfl (lv_at hl 0 rfl) ?_
      refine lv_aload_n (pc := 42) hx hb dX10_digest_42 rfl (lv_at hl 0 rfl) ?_
      refine g_X10_13 (pc := 43) B hW dX10_digest_43 ?_
      refine lv_iload_n (pc := 46) hx hb dX10_digest_46 rfl (lv_at hl 1 rfl) ?_
      refine yald (pc := 47) B hW mr2 dX10_digest_47 hf (fun hf => ?_)
      refine lv_i2l (pc := 48) (v := ((μ.1 2 (x1).toNatClampNeg)).toInt64) hx hb dX10_digest_48 rfl ?_
      refine s_X10_262 (pc := 49) B hW hl.1 (by decide) (zle8 rfl) dX10_digest_49 (fun _ _ h => c_X10_mix h) hf (fun _ μ1 H locs hW hf => ?_)
      refine lv_aload_n (pc := 52) hx hb dX10_digest_52 rfl (lv_at hl 0 rfl) ?_
      refine lv_aload_n (pc := 53) hx hb dX10_digest_53 rfl (lv_at hl 0 rfl) ?_
      refine g_X10_16 (pc := 54) B hW dX10_digest_54 ?_
      refine lv_iload_n (pc := 57) hx hb dX10_digest_57 rfl (lv_at hl 1 rfl) ?_
      refine yald (pc := 58) B hW mr3 dX10_digest_58 hf (fun hf => ?_)
      refine lv_i2l (pc := 59) (v := ((μ1.1 3 (x1).toNatClampNeg)).toInt64) hx hb dX10_digest_59 rfl ?_
      refine s_X10_262 (pc := 60) B hW hl.1 (by decide) (zle8 rfl) dX10_digest_60 (fun _ _ h => c_X10_mix h) hf (fun _ μ2 H locs hW hf => ?_)
      refine lv_aload_n (pc := 63) hx hb dX10_digest_63 rfl (lv_at hl 0 rfl) ?_
      refine lv_aload_n (pc := 64) hx hb dX10_digest_64 rfl (lv_at hl 0 rfl) ?_
      refine g_X10_19 (pc := 65) B hW dX10_digest_65 ?_
      refine lv_iload_n (pc := 68) hx hb dX10_digest_68 rfl (lv_at hl 1 rfl) ?_
      refine yald (pc := 69) B hW mr4 dX10_digest_69 hf (fun hf => ?_)
      refine lv_i2l (pc := 70) (v := ((μ2.1 4 (x1).toNatClampNeg)).toInt64) hx hb dX10_digest_70 rfl ?_
      refine s_X10_262 (pc := 71) B hW hl.1 (by decide) (zle8 rfl) dX10_digest_71 (fun _ _ h => c_X10_mix h) hf (fun _ μ3 H locs hW hf => ?_)
      refine lv_iinc (pc := 74) (v := (x1 + (1 : Int32))) (lv' := [(1, .int (x1 + (1 : Int32))), (0, .ref (zad G 0))]) hx hb dX10_digest_74 hl (k := 1) rfl rfl (by decide) rfl (fun ls hl => ?_)
      refine lv_goto (pc := 77) (tgt := 33) hx hb dX10_digest_77 (by decide) ?_
      exact ih (lv_sub hl [1, 0] rfl) hW hf
noncomputable def f_X10_digest_9 : Nat → Int32 → Mem → Option (Int64 × Mem)
  | 0, _, _ => none
  | n + 1, x1, μ => (if (6 : Int32) < x1 then f_X10_digest_33 zFU (0 : Int32) μ else zbind (f_X10_countOf x1 μ) (fun r2 μ1 => zbind (f_X10_mix ((r2).toInt64) μ1) (fun _ μ3 => f_X10_digest_9 n (x1 + (1 : Int32)) μ3)))
set_option maxRecDepth 100000 in
theorem t_X10_digest_9 {G : ZG} {p : Program} {l : Launch} {e : Env} {s : State} {m : MethodId} {args : Array Value} {below : List Frame} {meth : Method} {c : Code} (B : zB ZM G cX10_digest 2 "DarkSharesModel" (some .long) p s m args meth c) : ∀ (n : Nat) {x1 : Int32} {μ : Mem} {H : Heap} {locs : List Loc} {ls : Array Slot} {r : Int64} {μ' : Mem}, lv_has ls 2 [(0, .ref (zad G 0)), (1, .int x1)] → zW ZM G s H locs μ → f_X10_digest_9 n x1 μ = some (r, μ') → W p l e (zR 4) s m args below meth c H locs 0 0 (MQ below (zQ ZM G (some (.long r)) μ') args s 0 0 (zAd ZM G)) (F0 m 9 ls []) := by
  have hx := B.1
  have hb := B.2.1
  intro n
  induction n with
  | zero => intro _ _ _ _ _ _ _ hl hW hf; cases hf
  | succ n ih =>
    intro x1 μ H locs ls r μ' hl hW hf
    rw [f_X10_digest_9] at hf
    refine lv_iload_n (pc := 9) hx hb dX10_digest_9 rfl (lv_at hl 1 rfl) ?_
    refine lv_bipush (pc := 10) (v := (6 : Int32)) hx hb dX10_digest_10 rfl ?_
    refine yic_gt (pc := 12) (tgt := 31) B dX10_digest_12 (by decide) hf (fun hf => ?_) (fun hf => ?_)
    · refine lv_iconst (pc := 31) (v := (0 : Int32)) hx hb dX10_digest_31 rfl ?_
      refine lv_istore_n (pc := 32) (lv' := [(1, .int (0 : Int32)), (0, .ref (zad G 0))]) hx hb dX10_digest_32 rfl hl (by decide) rfl (fun ls hl => ?_)
      exact t_X10_digest_33 B zFU (lv_sub hl [1, 0] rfl) hW hf
    · refine lv_aload_n (pc := 15) hx hb dX10_digest_15 rfl (lv_at hl 0 rfl) ?_
      refine lv_aload_n (pc := 16) hx hb dX10_digest_16 rfl (lv_at hl 0 rfl) ?_
      refine lv_iload_n (pc := 17) hx hb dX10_digest_17 rfl (lv_at hl 1 rfl) ?_
      refine s_X10_252 (pc := 18) B hW hl.1 (by decide) (zle8 rfl) dX10_digest_18 (fun _ _ h => c_X10_countOf h) hf (fun r2 μ1 H locs hW hf => ?_)
      refine lv_i2l (pc := 21) (v := (r2).toInt64) hx hb dX10_digest_21 rfl ?_
      refine s_X10_262 (pc := 22) B hW hl.1 (by decide) (zle8 rfl) dX10_digest_22 (fun _ _ h => c_X10_mix h) hf (fun _ μ3 H locs hW hf => ?_)
      refine lv_iinc (pc := 25) (v := (x1 + (1 : Int32))) (lv' := [(1, .int (x1 + (1 : Int32))), (0, .ref (zad G 0))]) hx hb dX10_digest_25 hl (k := 1) rfl rfl (by decide) rfl (fun ls hl => ?_)
      refine lv_goto (pc := 28) (tgt := 9) hx hb dX10_digest_28 (by decide) ?_
      exact ih (lv_sub hl [1, 0] rfl) hW hf
noncomputable def f_X10_digest (μ : Mem) : Option (Int64 × Mem) := zlet (zL μ 0 27 (1193 : Int64)) (fun μ1 => f_X10_digest_9 zFU (0 : Int32) μ1)
set_option maxRecDepth 100000 in
theorem c_X10_digest {G : ZG} {l : Launch} {μ : Mem} {r : Int64} {μ' : Mem} (h : f_X10_digest μ = some (r, μ')) : zC ZM G l yX10_digest cX10_digest 2 (some .long) 4 [.ref (zad G 0)] μ (some (.long r)) μ' := by
  refine zC.mk (by decide +kernel) (Nat.le_of_ble_eq_true rfl) ?_
  intro p e s m below meth c ls B hl hW
  have B : zB ZM G cX10_digest 2 "DarkSharesModel" (some .long) p s m [.ref (zad G 0)].toArray meth c := B
  have hl : lv_has ls 2 [(0, .ref (zad G 0))] := hl
  have hx := B.1
  have hb := B.2.1
  have hf := h
  unfold f_X10_digest at hf
  refine lv_aload_n (pc := 0) hx hb dX10_digest_0 rfl (lv_at hl 0 rfl) ?_
  refine lv_ldc2 (pc := 1) hx hb B.2.2.2.1 (B.2.2.2.2.1 _ kw1153) dX10_digest_1 ?_
  refine p_X10_257 (pc := 4) B hW dX10_digest_4 hf (fun μ1 H locs hW hf => ?_)
  refine lv_iconst (pc := 7) (v := (0 : Int32)) hx hb dX10_digest_7 rfl ?_
  refine lv_istore_n (pc := 8) (lv' := [(1, .int (0 : Int32)), (0, .ref (zad G 0))]) hx hb dX10_digest_8 rfl hl (by decide) rfl (fun ls hl => ?_)
  exact t_X10_digest_9 B zFU (lv_sub hl [1, 0] rfl) hW hf
