noncomputable def f_X2_endOfPiece_5 (o0 : Nat) : Nat → Int32 → Int32 → Int32 → Mem → Option (Int32 × Mem)
  | 0, _, _, _, _ => none
  | n + 1, x1, x3, x4, μ => (if (12 : Int32) < x4 then some ((-1 : Int32), μ) else zbind (f_X1_isFair o0 x1 x3 μ) (fun r2 μ1 => (if r2 = 0 then f_X2_endOfPiece_5 o0 n x1 (x3 ||| ((1 : Int32) <<< (x4 &&& 31))) (x4 + (1 : Int32)) μ1 else some (x4, μ1))))
set_option maxRecDepth 100000 in
theorem t_X2_endOfPiece_5 {G : ZG} {p : Program} {l : Launch} {e : Env} {s : State} {m : MethodId} {args : Array Value} {below : List Frame} {meth : Method} {c : Code} (B : zB ZC G cX2_endOfPiece 5 "DarkShares$Pieces" (some .int) p s m args meth c) {o0 : Nat} (ho0 : zN o0) : ∀ (n : Nat) {x1 : Int32} {x3 : Int32} {x4 : Int32} {μ : Mem} {H : Heap} {locs : List Loc} {ls : Array Slot} {r : Int32} {μ' : Mem}, lv_has ls 5 [(0, .ref (zad G o0)), (1, .int x1), (3, .int x3), (4, .int x4)] → zW ZC G s H locs μ → f_X2_endOfPiece_5 o0 n x1 x3 x4 μ = some (r, μ') → W p l e (zR 6) s m args below meth c H locs 0 0 (MQ below (zQ ZC G (some (.int r)) μ') args s 0 0 (zAd ZC G)) (F0 m 5 ls []) := by
  have hx := B.1
  have hb := B.2.1
  intro n
  induction n with
  | zero => intro _ _ _ _ _ _ _ _ _ hl hW hf; cases hf
  | succ n ih =>
    intro x1 x3 x4 μ H locs ls r μ' hl hW hf
    rw [f_X2_endOfPiece_5] at hf
    refine lv_iload (pc := 5) hx hb dX2_endOfPiece_5 (lv_at hl 3 rfl) ?_
    refine lv_bipush (pc := 7) (v := (12 : Int32)) hx hb dX2_endOfPiece_7 rfl ?_
    refine yic_gt (pc := 9) (tgt := 37) B dX2_endOfPiece_9 (by decide) hf (fun hf => ?_) (fun hf => ?_)
    · refine lv_iconst (pc := 37) (v := (-1 : Int32)) hx hb dX2_endOfPiece_37 rfl ?_
      exact zreti (pc := 38) B hW hf dX2_endOfPiece_38
    · refine lv_aload_n (pc := 12) hx hb dX2_endOfPiece_12 rfl (lv_at hl 0 rfl) ?_
      refine lv_iload_n (pc := 13) hx hb dX2_endOfPiece_13 rfl (lv_at hl 1 rfl) ?_
      refine lv_iload_n (pc := 14) hx hb dX2_endOfPiece_14 rfl (lv_at hl 2 rfl) ?_
      refine s_X2_49 (pc := 15) B hW hl.1 ho0 (by decide) (zle8 rfl) dX2_endOfPiece_15 (fun _ _ h => c_X1_isFair ho0 h) hf (fun r2 μ1 H locs hW hf => ?_)
      refine yif_eq (pc := 18) (tgt := 24) B dX2_endOfPiece_18 (by decide) hf (fun hf => ?_) (fun hf => ?_)
      · refine lv_iload_n (pc := 24) hx hb dX2_endOfPiece_24 rfl (lv_at hl 2 rfl) ?_
        refine lv_iconst (pc := 25) (v := (1 : Int32)) hx hb dX2_endOfPiece_25 rfl ?_
        refine lv_iload (pc := 26) hx hb dX2_endOfPiece_26 (lv_at hl 3 rfl) ?_
        refine lv_ishl (pc := 28) hx hb dX2_endOfPiece_28 ?_
        refine lv_ior (pc := 29) hx hb dX2_endOfPiece_29 ?_
        refine lv_istore_n (pc := 30) (lv' := [(3, .int (x3 ||| ((1 : Int32) <<< (x4 &&& 31)))), (0, .ref (zad G o0)), (1, .int x1), (4, .int x4)]) hx hb dX2_endOfPiece_30 rfl hl (by decide) rfl (fun ls hl => ?_)
        refine lv_iinc (pc := 31) (v := (x4 + (1 : Int32))) (lv' := [(4, .int (x4 + (1 : Int32))), (3, .int (x3 ||| ((1 : Int32) <<< (x4 &&& 31)))), (0, .ref (zad G o0)), (1, .int x1)]) hx hb dX2_endOfPiece_31 hl (k := 3) rfl rfl (by decide) rfl (fun ls hl => ?_)
        refine lv_goto (pc := 34) (tgt := 5) hx hb dX2_endOfPiece_34 (by decide) ?_
        exact ih (lv_sub hl [2, 3, 1, 0] rfl) hW hf
      · refine lv_iload (pc := 21) hx hb dX2_endOfPiece_21 (lv_at hl 3 rfl) ?_
        exact zreti (pc := 23) B hW hf dX2_endOfPiece_23
noncomputable def f_X2_endOfPiece (o0 : Nat) (x1 : Int32) (x2 : Int32) (μ : Mem) : Option (Int32 × Mem) := f_X2_endOfPiece_5 o0 zFU x1 (0 : Int32) x2 μ
set_option maxRecDepth 100000 in
theorem c_X2_endOfPiece {G : ZG} {l : Launch} {o0 : Nat} (ho0 : zN o0) {x1 : Int32} {x2 : Int32} {μ : Mem} {r : Int32} {μ' : Mem} (h : f_X2_endOfPiece o0 x1 x2 μ = some (r, μ')) : zC ZC G l yX2_endOfPiece cX2_endOfPiece 5 (some .int) 6 [.ref (zad G o0), .int x1, .int x2] μ (some (.int r)) μ' := by
  refine zC.mk (by decide +kernel) (Nat.le_of_ble_eq_true rfl) ?_
  intro p e s m below meth c ls B hl hW
  have B : zB ZC G cX2_endOfPiece 5 "DarkShares$Pieces" (some .int) p s m [.ref (zad G o0), .int x1, .int x2].toArray meth c := B
  have hl : lv_has ls 5 [(0, .ref (zad G o0)), (1, .int x1), (2, .int x2)] := hl
  have hx := B.1
  have hb := B.2.1
  have hf := h
  unfold f_X2_endOfPiece at hf
  refine lv_iconst (pc := 0) (v := (0 : Int32)) hx hb dX2_endOfPiece_0 rfl ?_
  refine lv_istore_n (pc := 1) (lv' := [(3, .int (0 : Int32)), (0, .ref (zad G o0)), (1, .int x1), (2, .int x2)]) hx hb dX2_endOfPiece_1 rfl hl (by decide) rfl (fun ls hl => ?_)
  refine lv_iload_n (pc := 2) hx hb dX2_endOfPiece_2 rfl (lv_at hl 3 rfl) ?_
  refine lv_istore (pc := 3) (lv' := [(4, .int x2), (3, .int (0 : Int32)), (0, .ref (zad G o0)), (1, .int x1), (2, .int x2)]) hx hb dX2_endOfPiece_3 hl (by decide) rfl (fun ls hl => ?_)
  exact t_X2_endOfPiece_5 B ho0 zFU (lv_sub hl [2, 3, 1, 0] rfl) hW hf
noncomputable def f_X2_keepIfFewer_17 (x1 : Int32) (μ : Mem) : Option (Unit × Mem) := zlet (zI μ 38 2 x1) (fun μ1 => zck (zcp (0 : Int32) (0 : Int32) (5 : Int32) 5 5) (zlet (zA μ1 40 (va_cpy (μ1.1 39) (μ1.1 40) ((0 : Int32)).toNatClampNeg ((0 : Int32)).toNatClampNeg ((5 : Int32)).toNatClampNeg)) (fun μ2 => some ((), μ2))))
set_option maxRecDepth 100000 in
theorem t_X2_keepIfFewer_17 {G : ZG} {p : Program} {l : Launch} {e : Env} {s : State} {m : MethodId} {args : Array Value} {below : List Frame} {meth : Method} {c : Code} (B : zB ZC G cX2_keepIfFewer 2 "DarkShares$Pieces" none p s m args meth c) {x1 : Int32} {μ : Mem} {H : Heap} {locs : List Loc} {ls : Array Slot} {r : Unit} {μ' : Mem} (hl : lv_has ls 2 [(0, .ref (zad G 38)), (1, .int x1)]) (hW : zW ZC G s H locs μ) (hf : f_X2_keepIfFewer_17 x1 μ = some (r, μ')) : W p l e (zR 1) s m args below meth c H locs 0 0 (MQ below (zQ ZC G none μ') args s 0 0 (zAd ZC G)) (F0 m 17 ls []) := by
  have hx := B.1
  have hb := B.2.1
  unfold f_X2_keepIfFewer_17 at hf
  refine lv_aload_n (pc := 17) hx hb dX2_keepIfFewer_17 rfl (lv_at hl 0 rfl) ?_
  refine lv_iload_n (pc := 18) hx hb dX2_keepIfFewer_18 rfl (lv_at hl 1 rfl) ?_
  refine p_X2_18 (pc := 19) B hW dX2_keepIfFewer_19 hf (fun μ1 H locs hW hf => ?_)
  refine lv_aload_n (pc := 22) hx hb dX2_keepIfFewer_22 rfl (lv_at hl 0 rfl) ?_
  refine g_X2_9 (pc := 23) B hW dX2_keepIfFewer_23 ?_
  refine lv_iconst (pc := 26) (v := (0 : Int32)) hx hb dX2_keepIfFewer_26 rfl ?_
  refine lv_aload_n (pc := 27) hx hb dX2_keepIfFewer_27 rfl (lv_at hl 0 rfl) ?_
  refine g_X2_15 (pc := 28) B hW dX2_keepIfFewer_28 ?_
  refine lv_iconst (pc := 31) (v := (0 : Int32)) hx hb dX2_keepIfFewer_31 rfl ?_
  refine lv_iconst (pc := 32) (v := (5 : Int32)) hx hb dX2_keepIfFewer_32 rfl ?_
  refine ycopy (pc := 33) B hW hl.1 ar39 ar40 kw562 kw310 kw309 kw72 (by decide) (by decide) dX2_keepIfFewer_33 hf (fun μ2 H locs hW hf => ?_)
  exact zretv (pc := 36) B hW hf dX2_keepIfFewer_36
noncomputable def f_X2_keepIfFewer (x1 : Int32) (μ : Mem) : Option (Unit × Mem) := (if (μ.1 38 2) = (-1 : Int32) then f_X2_keepIfFewer_17 x1 μ else (if x1 < (μ.1 38 2) then f_X2_keepIfFewer_17 x1 μ else some ((), μ)))
set_option maxRecDepth 100000 in
theorem c_X2_keepIfFewer {G : ZG} {l : Launch} {x1 : Int32} {μ : Mem} {r : Unit} {μ' : Mem} (h : f_X2_keepIfFewer x1 μ = some (r, μ')) : zC ZC G l yX2_keepIfFewer cX2_keepIfFewer 2 none 1 [.ref (zad G 38), .int x1] μ none μ' := by
  refine zC.mk (by decide +kernel) (Nat.le_of_ble_eq_true rfl) ?_
  intro p e s m below meth c ls B hl hW
  have B : zB ZC G cX2_keepIfFewer 2 "DarkShares$Pieces" none p s m [.ref (zad G 38), .int x1].toArray meth c := B
  have hl : lv_has ls 2 [(0, .ref (zad G 38)), (1, .int x1)] := hl
  have hx := B.1
  have hb := B.2.1
  have hf := h
  unfold f_X2_keepIfFewer at hf
  refine lv_aload_n (pc := 0) hx hb dX2_keepIfFewer_0 rfl (lv_at hl 0 rfl) ?_
  refine g_X2_18 (pc := 1) B hW dX2_keepIfFewer_1 ?_
  refine lv_iconst (pc := 4) (v := (-1 : Int32)) hx hb dX2_keepIfFewer_4 rfl ?_
  refine yic_eq (pc := 5) (tgt := 17) B dX2_keepIfFewer_5 (by decide) hf (fun hf => ?_) (fun hf => ?_)
  · exact t_X2_keepIfFewer_17 B (lv_sub hl [0, 1] rfl) hW hf
  · refine lv_iload_n (pc := 8) hx hb dX2_keepIfFewer_8 rfl (lv_at hl 1 rfl) ?_
    refine lv_aload_n (pc := 9) hx hb dX2_keepIfFewer_9 rfl (lv_at hl 0 rfl) ?_
    refine g_X2_18 (pc := 10) B hW dX2_keepIfFewer_10 ?_
    refine yic_lt (pc := 13) (tgt := 17) B dX2_keepIfFewer_13 (by decide) hf (fun hf => ?_) (fun hf => ?_)
    · exact t_X2_keepIfFewer_17 B (lv_sub hl [0, 1] rfl) hW hf
    · exact zretv (pc := 16) B hW hf dX2_keepIfFewer_16
noncomputable def f_X2_search_32 (KS : Nat → Int32 → Int32 → Int32 → Mem → Option (Unit × Mem)) (o1 : Nat) : Nat → Int32 → Int32 → Int32 → Int32 → Mem → Option (Unit × Mem)
  | 0, _, _, _, _, _ => none
  | n + 1, x2, x3, x4, x5, μ => (if (μ.1 o1 7) ≤ x5 then some ((), μ) else zbind (f_X9_has x3 x5 μ) (fun r2 μ1 => (if r2 = 0 then zbind (f_X2_endOfPiece o1 x5 x4 μ1) (fun r4 μ3 => (if r4 = (-1 : Int32) then f_X2_search_32 KS o1 n x2 x3 x4 (x5 + (1 : Int32)) μ3 else zck (zin x2 5) (zlet (zI μ3 39 (x2).toNatClampNeg x5) (fun μ5 => zbind (KS o1 (x2 + (1 : Int32)) (x3 ||| ((1 : Int32) <<< (x5 &&& 31))) r4 μ5) (fun _ μ6 => f_X2_search_32 KS o1 n x2 x3 x4 (x5 + (1 : Int32)) μ6))))) else f_X2_search_32 KS o1 n x2 x3 x4 (x5 + (1 : Int32)) μ1)))
set_option maxRecDepth 100000 in
theorem t_X2_search_32 {G : ZG} {p : Program} {l : Launch} {e : Env} {s : State} {m : MethodId} {args : Array Value} {below : List Frame} {meth : Method} {c : Code} (B : zB ZC G cX2_search 7 "DarkShares$Pieces" none p s m args meth c) {KS : Nat → Int32 → Int32 → Int32 → Mem → Option (Unit × Mem)} {dS : Nat} (hdS0 : 7 ≤ dS) (hS : ∀ {o1 : Nat} (ho1 : zN o1) {x2 : Int32} {x3 : Int32} {x4 : Int32} {μ : Mem} {r : Unit} {μ' : Mem}, KS o1 x2 x3 x4 μ = some (r, μ') → zC ZC G l yX2_search cX2_search 7 none dS [.ref (zad G 38), .ref (zad G o1), .int x2, .int x3, .int x4] μ none μ') {o1 : Nat} (ho1 : zN o1) : ∀ (n : Nat) {x2 : Int32} {x3 : Int32} {x4 : Int32} {x5 : Int32} {μ : Mem} {H : Heap} {locs : List Loc} {ls : Array Slot} {r : Unit} {μ' : Mem}, lv_has ls 7 [(0, .ref (zad G 38)), (1, .ref (zad G o1)), (2, .int x2), (3, .int x3), (4, .int x4), (5, .int x5)] → zW ZC G s H locs μ → f_X2_search_32 KS o1 n x2 x3 x4 x5 μ = some (r, μ') → W p l e (zR (dS + 1)) s m args below meth c H locs 0 0 (MQ below (zQ ZC G none μ') args s 0 0 (zAd ZC G)) (F0 m 32 ls []) := by
  have hx := B.1
  have hb := B.2.1
  intro n
  induction n with
  | zero => intro _ _ _ _ _ _ _ _ _ _ hl hW hf; cases hf
  | succ n ih =>
    intro x2 x3 x4 x5 μ H locs ls r μ' hl hW hf
    rw [f_X2_search_32] at hf
    refine lv_iload (pc := 32) hx hb dX2_search_32 (lv_at hl 5 rfl) ?_
    refine lv_aload_n (pc := 34) hx hb dX2_search_34 rfl (lv_at hl 1 rfl) ?_
    refine g_X2_22 (pc := 35) B hW ho1 dX2_search_35 ?_
    refine yic_ge (pc := 38) (tgt := 102) B dX2_search_38 (by decide) hf (fun hf => ?_) (fun hf => ?_)
    · exact zretv (pc := 102) B hW hf dX2_search_102
    · refine lv_iload_n (pc := 41) hx hb dX2_search_41 rfl (lv_at hl 3 rfl) ?_
      refine lv_iload (pc := 42) hx hb dX2_search_42 (lv_at hl 5 rfl) ?_
      refine s_X2_31 (pc := 44) B hW hl.1 (Nat.lt_succ_of_lt (Nat.lt_of_lt_of_le (by decide) hdS0)) (zle8 rfl) dX2_search_44 (fun _ _ h => c_X9_has h) hf (fun r2 μ1 H locs hW hf => ?_)
      refine yif_eq (pc := 47) (tgt := 53) B dX2_search_47 (by decide) hf (fun hf => ?_) (fun hf => ?_)
      · refine lv_aload_n (pc := 53) hx hb dX2_search_53 rfl (lv_at hl 1 rfl) ?_
        refine lv_iload (pc := 54) hx hb dX2_search_54 (lv_at hl 5 rfl) ?_
        refine lv_iload (pc := 56) hx hb dX2_search_56 (lv_at hl 4 rfl) ?_
        refine s_X2_35 (pc := 58) B hW hl.1 (Nat.lt_succ_of_lt (Nat.lt_of_lt_of_le (by decide) hdS0)) (zle8 rfl) dX2_search_58 (fun _ _ h => c_X2_endOfPiece ho1 h) hf (fun r4 μ3 H locs hW hf => ?_)
        refine lv_istore (pc := 61) (lv' := [(6, .int r4), (0, .ref (zad G 38)), (1, .ref (zad G o1)), (2, .int x2), (3, .int x3), (4, .int x4), (5, .int x5)]) hx hb dX2_search_61 hl (by decide) rfl (fun ls hl => ?_)
        refine lv_iload (pc := 63) hx hb dX2_search_63 (lv_at hl 0 rfl) ?_
        refine lv_iconst (pc := 65) (v := (-1 : Int32)) hx hb dX2_search_65 rfl ?_
        refine yic_ne (pc := 66) (tgt := 72) B dX2_search_66 (by decide) hf (fun hf => ?_) (fun hf => ?_)
        · refine lv_aload_n (pc := 72) hx hb dX2_search_72 rfl (lv_at hl 1 rfl) ?_
          refine g_X2_9 (pc := 73) B hW dX2_search_73 ?_
          refine lv_iload_n (pc := 76) hx hb dX2_search_76 rfl (lv_at hl 3 rfl) ?_
          refine lv_iload (pc := 77) hx hb dX2_search_77 (lv_at hl 6 rfl) ?_
          refine yast (pc := 79) B hW ar39 dX2_search_79 hf (fun μ5 H locs hW hf => ?_)
          refine lv_aload_n (pc := 80) hx hb dX2_search_80 rfl (lv_at hl 1 rfl) ?_
          refine lv_aload_n (pc := 81) hx hb dX2_search_81 rfl (lv_at hl 2 rfl) ?_
          refine lv_iload_n (pc := 82) hx hb dX2_search_82 rfl (lv_at hl 3 rfl) ?_
          refine lv_iconst (pc := 83) (v := (1 : Int32)) hx hb dX2_search_83 rfl ?_
          refine lv_iadd (pc := 84) hx hb dX2_search_84 ?_
          refine lv_iload_n (pc := 85) hx hb dX2_search_85 rfl (lv_at hl 4 rfl) ?_
          refine lv_iconst (pc := 86) (v := (1 : Int32)) hx hb dX2_search_86 rfl ?_
          refine lv_iload (pc := 87) hx hb dX2_search_87 (lv_at hl 6 rfl) ?_
          refine lv_ishl (pc := 89) hx hb dX2_search_89 ?_
          refine lv_ior (pc := 90) hx hb dX2_search_90 ?_
          refine lv_iload (pc := 91) hx hb dX2_search_91 (lv_at hl 0 rfl) ?_
          refine s_X2_39 (pc := 93) B hW hl.1 (Nat.lt_succ_self _) (zle8 rfl) dX2_search_93 (fun _ _ h => hS ho1 h) hf (fun _ μ6 H locs hW hf => ?_)
          refine lv_iinc (pc := 96) (v := (x5 + (1 : Int32))) (lv' := [(5, .int (x5 + (1 : Int32))), (6, .int r4), (0, .ref (zad G 38)), (1, .ref (zad G o1)), (2, .int x2), (3, .int x3), (4, .int x4)]) hx hb dX2_search_96 hl (k := 6) rfl rfl (by decide) rfl (fun ls hl => ?_)
          refine lv_goto (pc := 99) (tgt := 32) hx hb dX2_search_99 (by decide) ?_
          exact ih (lv_sub hl [2, 3, 4, 5, 6, 0] rfl) hW hf
        · refine lv_goto (pc := 69) (tgt := 96) hx hb dX2_search_69 (by decide) ?_
          refine lv_iinc (pc := 96) (v := (x5 + (1 : Int32))) (lv' := [(5, .int (x5 + (1 : Int32))), (6, .int r4), (0, .ref (zad G 38)), (1, .ref (zad G o1)), (2, .int x2), (3, .int x3), (4, .int x4)]) hx hb dX2_search_96 hl (k := 6) rfl rfl (by decide) rfl (fun ls hl => ?_)
          refine lv_goto (pc := 99) (tgt := 32) hx hb dX2_search_99 (by decide) ?_
          exact ih (lv_sub hl [2, 3, 4, 5, 6, 0] rfl) hW hf
      · refine lv_goto (pc := 50) (tgt := 96) hx hb dX2_search_50 (by decide) ?_
        refine lv_iinc (pc := 96) (v := (x5 + (1 : Int32))) (lv' := [(5, .int (x5 + (1 : Int32))), (0, .ref (zad G 38)), (1, .ref (zad G o1)), (2, .int x2), (3, .int x3), (4, .int x4)]) hx hb dX2_search_96 hl (k := 5) rfl rfl (by decide) rfl (fun ls hl => ?_)
        refine lv_goto (pc := 99) (tgt := 32) hx hb dX2_search_99 (by decide) ?_
        exact ih (lv_sub hl [1, 2, 3, 4, 5, 0] rfl) hW hf
noncomputable def f_X2_search_9 (KS : Nat → Int32 → Int32 → Int32 → Mem → Option (Unit × Mem)) (o1 : Nat) (x2 : Int32) (x3 : Int32) (x4 : Int32) (μ : Mem) : Option (Unit × Mem) := (if (μ.1 o1 7) ≤ x2 then zbind (f_X2_keepIfFewer x4 μ) (fun _ μ1 => some ((), μ1)) else (if x2 < (5 : Int32) then f_X2_search_32 KS o1 zFU x2 x3 x4 (0 : Int32) μ else zbind (f_X2_keepIfFewer x4 μ) (fun _ μ2 => some ((), μ2))))
set_option maxRecDepth 100000 in
theorem t_X2_search_9 {G : ZG} {p : Program} {l : Launch} {e : Env} {s : State} {m : MethodId} {args : Array Value} {below : List Frame} {meth : Method} {c : Code} (B : zB ZC G cX2_search 7 "DarkShares$Pieces" none p s m args meth c) {KS : Nat → Int32 → Int32 → Int32 → Mem → Option (Unit × Mem)} {dS : Nat} (hdS0 : 7 ≤ dS) (hS : ∀ {o1 : Nat} (ho1 : zN o1) {x2 : Int32} {x3 : Int32} {x4 : Int32} {μ : Mem} {r : Unit} {μ' : Mem}, KS o1 x2 x3 x4 μ = some (r, μ') → zC ZC G l yX2_search cX2_search 7 none dS [.ref (zad G 38), .ref (zad G o1), .int x2, .int x3, .int x4] μ none μ') {o1 : Nat} (ho1 : zN o1) {x2 : Int32} {x3 : Int32} {x4 : Int32} {μ : Mem} {H : Heap} {locs : List Loc} {ls : Array Slot} {r : Unit} {μ' : Mem} (hl : lv_has ls 7 [(0, .ref (zad G 38)), (1, .ref (zad G o1)), (2, .int x2), (3, .int x3), (4, .int x4)]) (hW : zW ZC G s H locs μ) (hf : f_X2_search_9 KS o1 x2 x3 x4 μ = some (r, μ')) : W p l e (zR (dS + 1)) s m args below meth c H locs 0 0 (MQ below (zQ ZC G none μ') args s 0 0 (zAd ZC G)) (F0 m 9 ls []) := by
  have hx := B.1
  have hb := B.2.1
  unfold f_X2_search_9 at hf
  refine lv_iload_n (pc := 9) hx hb dX2_search_9 rfl (lv_at hl 2 rfl) ?_
  refine lv_aload_n (pc := 10) hx hb dX2_search_10 rfl (lv_at hl 1 rfl) ?_
  refine g_X2_22 (pc := 11) B hW ho1 dX2_search_11 ?_
  refine yic_ge (pc := 14) (tgt := 22) B dX2_search_14 (by decide) hf (fun hf => ?_) (fun hf => ?_)
  · refine lv_aload_n (pc := 22) hx hb dX2_search_22 rfl (lv_at hl 0 rfl) ?_
    refine lv_iload (pc := 23) hx hb dX2_search_23 (lv_at hl 4 rfl) ?_
    refine s_X2_27 (pc := 25) B hW hl.1 (Nat.lt_succ_of_lt (Nat.lt_of_lt_of_le (by decide) hdS0)) (zle8 rfl) dX2_search_25 (fun _ _ h => c_X2_keepIfFewer h) hf (fun _ μ1 H locs hW hf => ?_)
    exact zretv (pc := 28) B hW hf dX2_search_28
  · refine lv_iload_n (pc := 17) hx hb dX2_search_17 rfl (lv_at hl 2 rfl) ?_
    refine lv_iconst (pc := 18) (v := (5 : Int32)) hx hb dX2_search_18 rfl ?_
    refine yic_lt (pc := 19) (tgt := 29) B dX2_search_19 (by decide) hf (fun hf => ?_) (fun hf => ?_)
    · refine lv_iconst (pc := 29) (v := (0 : Int32)) hx hb dX2_search_29 rfl ?_
      refine lv_istore (pc := 30) (lv' := [(5, .int (0 : Int32)), (0, .ref (zad G 38)), (1, .ref (zad G o1)), (2, .int x2), (3, .int x3), (4, .int x4)]) hx hb dX2_search_30 hl (by decide) rfl (fun ls hl => ?_)
      exact t_X2_search_32 B hdS0 @hS ho1 zFU (lv_sub hl [1, 2, 3, 4, 5, 0] rfl) hW hf
    · refine lv_aload_n (pc := 22) hx hb dX2_search_22 rfl (lv_at hl 0 rfl) ?_
      refine lv_iload (pc := 23) hx hb dX2_search_23 (lv_at hl 4 rfl) ?_
      refine s_X2_27 (pc := 25) B hW hl.1 (Nat.lt_succ_of_lt (Nat.lt_of_lt_of_le (by decide) hdS0)) (zle8 rfl) dX2_search_25 (fun _ _ h => c_X2_keepIfFewer h) hf (fun _ μ2 H locs hW hf => ?_)
      exact zretv (pc := 28) B hW hf dX2_search_28
noncomputable def f_X2_search : Nat → Nat → Int32 → Int32 → Int32 → Mem → Option (Unit × Mem)
  | 0, _, _, _, _, _ => none
  | nS + 1, o1, x2, x3, x4, μ => (if x2 = 0 then zlet (zI μ 38 2 (-1 : Int32)) (fun μ1 => f_X2_search_9 (f_X2_search nS) o1 x2 x3 x4 μ1) else f_X2_search_9 (f_X2_search nS) o1 x2 x3 x4 μ)
set_option maxRecDepth 100000 in
theorem c_X2_search {G : ZG} {l : Launch} : ∀ (nS : Nat) {o1 : Nat} (ho1 : zN o1) {x2 : Int32} {x3 : Int32} {x4 : Int32} {μ : Mem} {r : Unit} {μ' : Mem} (h : f_X2_search nS o1 x2 x3 x4 μ = some (r, μ')), zC ZC G l yX2_search cX2_search 7 none (7 + nS) [.ref (zad G 38), .ref (zad G o1), .int x2, .int x3, .int x4] μ none μ' := by
  intro nS
  induction nS with
  | zero => intro _ _ _ _ _ _ _ _ h; cases h
  | succ nS ih =>
    intro o1 ho1 x2 x3 x4 μ r μ' h
    refine zC.mk (by decide +kernel) (Nat.le_of_ble_eq_true rfl) ?_
    intro p e s m below meth c ls B hl hW
    have B : zB ZC G cX2_search 7 "DarkShares$Pieces" none p s m [.ref (zad G 38), .ref (zad G o1), .int x2, .int x3, .int x4].toArray meth c := B
    have hl : lv_has ls 7 [(0, .ref (zad G 38)), (1, .ref (zad G o1)), (2, .int x2), (3, .int x3), (4, .int x4)] := hl
    have hx := B.1
    have hb := B.2.1
    have hdS0 : 7 ≤ 7 + nS := Nat.le_add_right _ _
    have hS := @ih
    have hf := h
    rw [f_X2_search] at hf
    rw [show 7 + (nS + 1) = (7 + nS) + 1 from rfl]
    refine lv_iload_n (pc := 0) hx hb dX2_search_0 rfl (lv_at hl 2 rfl) ?_
    refine yif_ne (pc := 1) (tgt := 9) B dX2_search_1 (by decide) hf (fun hf => ?_) (fun hf => ?_)
    · exact t_X2_search_9 B hdS0 @hS ho1 (lv_sub hl [0, 1, 2, 3, 4] rfl) hW hf
    · refine lv_aload_n (pc := 4) hx hb dX2_search_4 rfl (lv_at hl 0 rfl) ?_
      refine lv_iconst (pc := 5) (v := (-1 : Int32)) hx hb dX2_search_5 rfl ?_
      refine p_X2_18 (pc := 6) B hW dX2_search_6 hf (fun μ1 H locs hW hf => ?_)
      exact t_X2_search_9 B hdS0 @hS ho1 (lv_sub hl [0, 1, 2, 3, 4] rfl) hW hf
noncomputable def f_X8_put (x1 : Int32) (μ : Mem) : Option (Int32 × Mem) := (if (μ.1 41 1) < (150 : Int32) then zck (zin (μ.1 41 1) 150) (zlet (zI μ 42 ((μ.1 41 1)).toNatClampNeg (vp_nar .byte x1)) (fun μ1 => zlet (zI μ1 41 1 ((μ1.1 41 1) + (1 : Int32))) (fun μ2 => some ((μ2.1 41 1), μ2)))) else some ((-4 : Int32), μ))
set_option maxRecDepth 100000 in
theorem c_X8_put {G : ZG} {l : Launch} {x1 : Int32} {μ : Mem} {r : Int32} {μ' : Mem} (h : f_X8_put x1 μ = some (r, μ')) : zC ZC G l yX8_put cX8_put 2 (some .int) 1 [.ref (zad G 41), .int x1] μ (some (.int r)) μ' := by
  refine zC.mk (by decide +kernel) (Nat.le_of_ble_eq_true rfl) ?_
  intro p e s m below meth c ls B hl hW
  have B : zB ZC G cX8_put 2 "DarkShares$Text" (some .int) p s m [.ref (zad G 41), .int x1].toArray meth c := B
  have hl : lv_has ls 2 [(0, .ref (zad G 41)), (1, .int x1)] := hl
  have hx := B.1
  have hb := B.2.1
  have hf := h
  unfold f_X8_put at hf
  refine lv_aload_n (pc := 0) hx hb dX8_put_0 rfl (lv_at hl 0 rfl) ?_
  refine g_X8_15 (pc := 1) B hW dX8_put_1 ?_
  refine lv_sipush (pc := 4) (v := (150 : Int32)) hx hb dX8_put_4 rfl ?_
  refine yic_lt (pc := 7) (tgt := 13) B dX8_put_7 (by decide) hf (fun hf => ?_) (fun hf => ?_)
  · refine lv_aload_n (pc := 13) hx hb dX8_put_13 rfl (lv_at hl 0 rfl) ?_
    refine g_X8_9 (pc := 14) B hW dX8_put_14 ?_
    refine lv_aload_n (pc := 17) hx hb dX8_put_17 rfl (lv_at hl 0 rfl) ?_
    refine g_X8_15 (pc := 18) B hW dX8_put_18 ?_
    refine lv_iload_n (pc := 21) hx hb dX8_put_21 rfl (lv_at hl 1 rfl) ?_
    refine ybst (pc := 22) B hW ar42 dX8_put_22 hf (fun μ1 H locs hW hf => ?_)
    refine lv_aload_n (pc := 23) hx hb dX8_put_23 rfl (lv_at hl 0 rfl) ?_
    refine lv_dup (pc := 24) hx hb dX8_put_24 rfl ?_
    refine g_X8_15 (pc := 25) B hW dX8_put_25 ?_
    refine lv_iconst (pc := 28) (v := (1 : Int32)) hx hb dX8_put_28 rfl ?_
    refine lv_iadd (pc := 29) hx hb dX8_put_29 ?_
    refine p_X8_15 (pc := 30) B hW dX8_put_30 hf (fun μ2 H locs hW hf => ?_)
    refine lv_aload_n (pc := 33) hx hb dX8_put_33 rfl (lv_at hl 0 rfl) ?_
    refine g_X8_15 (pc := 34) B hW dX8_put_34 ?_
    exact zreti (pc := 37) B hW hf dX8_put_37
  · refine lv_bipush (pc := 10) (v := (-4 : Int32)) hx hb dX8_put_10 rfl ?_
    exact zreti (pc := 12) B hW hf dX8_put_12
noncomputable def f_X8_isFigure (x0 : Int32) (μ : Mem) : Option (Int32 × Mem) := (if x0 < (48 : Int32) then some ((0 : Int32), μ) else (if (57 : Int32) < x0 then some ((0 : Int32), μ) else some ((1 : Int32), μ)))
set_option maxRecDepth 100000 in
theorem c_X8_isFigure {G : ZG} {l : Launch} {x0 : Int32} {μ : Mem} {r : Int32} {μ' : Mem} (h : f_X8_isFigure x0 μ = some (r, μ')) : zC ZC G l yX8_isFigure cX8_isFigure 1 (some .boolean) 1 [.int x0] μ (some (.int r)) μ' := by
  refine zC.mk (by decide +kernel) (Nat.le_of_ble_eq_true rfl) ?_
  intro p e s m below meth c ls B hl hW
  have B : zB ZC G cX8_isFigure 1 "DarkShares$Text" (some .boolean) p s m [.int x0].toArray meth c := B
  have hl : lv_has ls 1 [(0, .int x0)] := hl
  have hx := B.1
  have hb := B.2.1
  have hf := h
  unfold f_X8_isFigure at hf
  refine lv_iload_n (pc := 0) hx hb dX8_isFigure_0 rfl (lv_at hl 0 rfl) ?_
  refine lv_bipush (pc := 1) (v := (48 : Int32)) hx hb dX8_isFigure_1 rfl ?_
  refine yic_lt (pc := 3) (tgt := 16) B dX8_isFigure_3 (by decide) hf (fun hf => ?_) (fun hf => ?_)
  · refine lv_iconst (pc := 16) (v := (0 : Int32)) hx hb dX8_isFigure_16 rfl ?_
    exact zretz (pc := 17) B hW rfl hf dX8_isFigure_17
  · refine lv_iload_n (pc := 6) hx hb dX8_isFigure_6 rfl (lv_at hl 0 rfl) ?_
    refine lv_bipush (pc := 7) (v := (57 : Int32)) hx hb dX8_isFigure_7 rfl ?_
    refine yic_gt (pc := 9) (tgt := 16) B dX8_isFigure_9 (by decide) hf (fun hf => ?_) (fun hf => ?_)
    · refine lv_iconst (pc := 16) (v := (0 : Int32)) hx hb dX8_isFigure_16 rfl ?_
      exact zretz (pc := 17) B hW rfl hf dX8_isFigure_17
    · refine lv_iconst (pc := 12) (v := (1 : Int32)) hx hb dX8_isFigure_12 rfl ?_
      refine lv_goto (pc := 13) (tgt := 17) hx hb dX8_isFigure_13 (by decide) ?_
      exact zretz (pc := 17) B hW rfl hf dX8_isFigure_17
noncomputable def f_X8_isLetter (x0 : Int32) (μ : Mem) : Option (Int32 × Mem) := (if x0 < (97 : Int32) then some ((0 : Int32), μ) else (if (122 : Int32) < x0 then some ((0 : Int32), μ) else some ((1 : Int32), μ)))
set_option maxRecDepth 100000 in
theorem c_X8_isLetter {G : ZG} {l : Launch} {x0 : Int32} {μ : Mem} {r : Int32} {μ' : Mem} (h : f_X8_isLetter x0 μ = some (r, μ')) : zC ZC G l yX8_isLetter cX8_isLetter 1 (some .boolean) 1 [.int x0] μ (some (.int r)) μ' := by
  refine zC.mk (by decide +kernel) (Nat.le_of_ble_eq_true rfl) ?_
  intro p e s m below meth c ls B hl hW
  have B : zB ZC G cX8_isLetter 1 "DarkShares$Text" (some .boolean) p s m [.int x0].toArray meth c := B
  have hl : lv_has ls 1 [(0, .int x0)] := hl
  have hx := B.1
  have hb := B.2.1
  have hf := h
  unfold f_X8_isLetter at hf
  refine lv_iload_n (pc := 0) hx hb dX8_isLetter_0 rfl (lv_at hl 0 rfl) ?_
  refine lv_bipush (pc := 1) (v := (97 : Int32)) hx hb dX8_isLetter_1 rfl ?_
  refine yic_lt (pc := 3) (tgt := 16) B dX8_isLetter_3 (by decide) hf (fun hf => ?_) (fun hf => ?_)
  · refine lv_iconst (pc := 16) (v := (0 : Int32)) hx hb dX8_isLetter_16 rfl ?_
    exact zretz (pc := 17) B hW rfl hf dX8_isLetter_17
  · refine lv_iload_n (pc := 6) hx hb dX8_isLetter_6 rfl (lv_at hl 0 rfl) ?_
    refine lv_bipush (pc := 7) (v := (122 : Int32)) hx hb dX8_isLetter_7 rfl ?_
    refine yic_gt (pc := 9) (tgt := 16) B dX8_isLetter_9 (by decide) hf (fun hf => ?_) (fun hf => ?_)
    · refine lv_iconst (pc := 16) (v := (0 : Int32)) hx hb dX8_isLetter_16 rfl ?_
      exact zretz (pc := 17) B hW rfl hf dX8_isLetter_17
    · refine lv_iconst (pc := 12) (v := (1 : Int32)) hx hb dX8_isLetter_12 rfl ?_
      refine lv_goto (pc := 13) (tgt := 17) hx hb dX8_isLetter_13 (by decide) ?_
      exact zretz (pc := 17) B hW rfl hf dX8_isLetter_17
noncomputable def f_X8_tokenAt_28 : Nat → Mem → Option (Int32 × Mem)
  | 0, _ => none
  | n + 1, μ => (if (μ.1 41 1) ≤ (μ.1 41 2) then some ((1 : Int32), μ) else zck (zin (μ.1 41 2) 150) (zbind (f_X8_isLetter (μ.1 42 ((μ.1 41 2)).toNatClampNeg) μ) (fun r2 μ1 => (if r2 = 0 then some ((1 : Int32), μ1) else zlet (zI μ1 41 2 ((μ1.1 41 2) + (1 : Int32))) (fun μ3 => f_X8_tokenAt_28 n μ3)))))
set_option maxRecDepth 100000 in
theorem t_X8_tokenAt_28 {G : ZG} {p : Program} {l : Launch} {e : Env} {s : State} {m : MethodId} {args : Array Value} {below : List Frame} {meth : Method} {c : Code} (B : zB ZC G cX8_tokenAt 1 "DarkShares$Text" (some .int) p s m args meth c) : ∀ (n : Nat) {μ : Mem} {H : Heap} {locs : List Loc} {ls : Array Slot} {r : Int32} {μ' : Mem}, lv_has ls 1 [(0, .ref (zad G 41))] → zW ZC G s H locs μ → f_X8_tokenAt_28 n μ = some (r, μ') → W p l e (zR 2) s m args below meth c H locs 0 0 (MQ below (zQ ZC G (some (.int r)) μ') args s 0 0 (zAd ZC G)) (F0 m 28 ls []) := by
  have hx := B.1
  have hb := B.2.1
  intro n
  induction n with
  | zero => intro _ _ _ _ _ _ hl hW hf; cases hf
  | succ n ih =>
    intro  μ H locs ls r μ' hl hW hf
    rw [f_X8_tokenAt_28] at hf
    refine lv_aload_n (pc := 28) hx hb dX8_tokenAt_28 rfl (lv_at hl 0 rfl) ?_
    refine g_X8_19 (pc := 29) B hW dX8_tokenAt_29 ?_
    refine lv_aload_n (pc := 32) hx hb dX8_tokenAt_32 rfl (lv_at hl 0 rfl) ?_
    refine g_X8_15 (pc := 33) B hW dX8_tokenAt_33 ?_
    refine yic_ge (pc := 36) (tgt := 67) B dX8_tokenAt_36 (by decide) hf (fun hf => ?_) (fun hf => ?_)
    · refine lv_iconst (pc := 67) (v := (1 : Int32)) hx hb dX8_tokenAt_67 rfl ?_
      exact zreti (pc := 68) B hW hf dX8_tokenAt_68
    · refine lv_aload_n (pc := 39) hx hb dX8_tokenAt_39 rfl (lv_at hl 0 rfl) ?_
      refine g_X8_9 (pc := 40) B hW dX8_tokenAt_40 ?_
      refine lv_aload_n (pc := 43) hx hb dX8_tokenAt_43 rfl (lv_at hl 0 rfl) ?_
      refine g_X8_19 (pc := 44) B hW dX8_tokenAt_44 ?_
      refine ybld (pc := 47) B hW ar42 dX8_tokenAt_47 hf (fun hf => ?_)
      refine s_X8_90 (pc := 48) B hW hl.1 (by decide) (zle8 rfl) dX8_tokenAt_48 (fun _ _ h => c_X8_isLetter h) hf (fun r2 μ1 H locs hW hf => ?_)
      refine yif_eq (pc := 51) (tgt := 67) B dX8_tokenAt_51 (by decide) hf (fun hf => ?_) (fun hf => ?_)
      · refine lv_iconst (pc := 67) (v := (1 : Int32)) hx hb dX8_tokenAt_67 rfl ?_
        exact zreti (pc := 68) B hW hf dX8_tokenAt_68
      · refine lv_aload_n (pc := 54) hx hb dX8_tokenAt_54 rfl (lv_at hl 0 rfl) ?_
        refine lv_dup (pc := 55) hx hb dX8_tokenAt_55 rfl ?_
        refine g_X8_19 (pc := 56) B hW dX8_tokenAt_56 ?_
        refine lv_iconst (pc := 59) (v := (1 : Int32)) hx hb dX8_tokenAt_59 rfl ?_
        refine lv_iadd (pc := 60) hx hb dX8_tokenAt_60 ?_
        refine p_X8_19 (pc := 61) B hW dX8_tokenAt_61 hf (fun μ3 H locs hW hf => ?_)
        refine lv_goto (pc := 64) (tgt := 28) hx hb dX8_tokenAt_64 (by decide) ?_
        exact ih (lv_sub hl [0] rfl) hW hf
noncomputable def f_X8_tokenAt_123 (μ : Mem) : Option (Int32 × Mem) := (if (2 : Int32) < ((μ.1 41 2) - (μ.1 41 4)) then some ((4 : Int32), μ) else some ((2 : Int32), μ))
set_option maxRecDepth 100000 in
theorem t_X8_tokenAt_123 {G : ZG} {p : Program} {l : Launch} {e : Env} {s : State} {m : MethodId} {args : Array Value} {below : List Frame} {meth : Method} {c : Code} (B : zB ZC G cX8_tokenAt 1 "DarkShares$Text" (some .int) p s m args meth c) {μ : Mem} {H : Heap} {locs : List Loc} {ls : Array Slot} {r : Int32} {μ' : Mem} (hl : lv_has ls 1 [(0, .ref (zad G 41))]) (hW : zW ZC G s H locs μ) (hf : f_X8_tokenAt_123 μ = some (r, μ')) : W p l e (zR 2) s m args below meth c H locs 0 0 (MQ below (zQ ZC G (some (.int r)) μ') args s 0 0 (zAd ZC G)) (F0 m 123 ls []) := by
  have hx := B.1
  have hb := B.2.1
  unfold f_X8_tokenAt_123 at hf
  refine lv_aload_n (pc := 123) hx hb dX8_tokenAt_123 rfl (lv_at hl 0 rfl) ?_
  refine g_X8_19 (pc := 124) B hW dX8_tokenAt_124 ?_
  refine lv_aload_n (pc := 127) hx hb dX8_tokenAt_127 rfl (lv_at hl 0 rfl) ?_
  refine g_X8_40 (pc := 128) B hW dX8_tokenAt_128 ?_
  refine lv_isub (pc := 131) hx hb dX8_tokenAt_131 ?_
  refine lv_iconst (pc := 132) (v := (2 : Int32)) hx hb dX8_tokenAt_132 rfl ?_
  refine yic_gt (pc := 133) (tgt := 140) B dX8_tokenAt_133 (by decide) hf (fun hf => ?_) (fun hf => ?_)
  · refine lv_iconst (pc := 140) (v := (4 : Int32)) hx hb dX8_tokenAt_140 rfl ?_
    exact zreti (pc := 141) B hW hf dX8_tokenAt_141
  · refine lv_iconst (pc := 136) (v := (2 : Int32)) hx hb dX8_tokenAt_136 rfl ?_
    refine lv_goto (pc := 137) (tgt := 141) hx hb dX8_tokenAt_137 (by decide) ?_
    exact zreti (pc := 141) B hW hf dX8_tokenAt_141
noncomputable def f_X8_tokenAt_84 : Nat → Mem → Option (Int32 × Mem)
  | 0, _ => none
  | n + 1, μ => (if (μ.1 41 1) ≤ (μ.1 41 2) then f_X8_tokenAt_123 μ else zck (zin (μ.1 41 2) 150) (zbind (f_X8_isFigure (μ.1 42 ((μ.1 41 2)).toNatClampNeg) μ) (fun r2 μ1 => (if r2 = 0 then f_X8_tokenAt_123 μ1 else zlet (zI μ1 41 2 ((μ1.1 41 2) + (1 : Int32))) (fun μ3 => f_X8_tokenAt_84 n μ3)))))
set_option maxRecDepth 100000 in
theorem t_X8_tokenAt_84 {G : ZG} {p : Program} {l : Launch} {e : Env} {s : State} {m : MethodId} {args : Array Value} {below : List Frame} {meth : Method} {c : Code} (B : zB ZC G cX8_tokenAt 1 "DarkShares$Text" (some .int) p s m args meth c) : ∀ (n : Nat) {μ : Mem} {H : Heap} {locs : List Loc} {ls : Array Slot} {r : Int32} {μ' : Mem}, lv_has ls 1 [(0, .ref (zad G 41))] → zW ZC G s H locs μ → f_X8_tokenAt_84 n μ = some (r, μ') → W p l e (zR 2) s m args below meth c H locs 0 0 (MQ below (zQ ZC G (some (.int r)) μ') args s 0 0 (zAd ZC G)) (F0 m 84 ls []) := by
  have hx := B.1
  have hb := B.2.1
  intro n
  induction n with
  | zero => intro _ _ _ _ _ _ hl hW hf; cases hf
  | succ n ih =>
    intro  μ H locs ls r μ' hl hW hf
    rw [f_X8_tokenAt_84] at hf
    refine lv_aload_n (pc := 84) hx hb dX8_tokenAt_84 rfl (lv_at hl 0 rfl) ?_
    refine g_X8_19 (pc := 85) B hW dX8_tokenAt_85 ?_
    refine lv_aload_n (pc := 88) hx hb dX8_tokenAt_88 rfl (lv_at hl 0 rfl) ?_
    refine g_X8_15 (pc := 89) B hW dX8_tokenAt_89 ?_
    refine yic_ge (pc := 92) (tgt := 123) B dX8_tokenAt_92 (by decide) hf (fun hf => ?_) (fun hf => ?_)
    · exact t_X8_tokenAt_123 B (lv_sub hl [0] rfl) hW hf
    · refine lv_aload_n (pc := 95) hx hb dX8_tokenAt_95 rfl (lv_at hl 0 rfl) ?_
      refine g_X8_9 (pc := 96) B hW dX8_tokenAt_96 ?_
      refine lv_aload_n (pc := 99) hx hb dX8_tokenAt_99 rfl (lv_at hl 0 rfl) ?_
      refine g_X8_19 (pc := 100) B hW dX8_tokenAt_100 ?_
      refine ybld (pc := 103) B hW ar42 dX8_tokenAt_103 hf (fun hf => ?_)
      refine s_X8_94 (pc := 104) B hW hl.1 (by decide) (zle8 rfl) dX8_tokenAt_104 (fun _ _ h => c_X8_isFigure h) hf (fun r2 μ1 H locs hW hf => ?_)
      refine yif_eq (pc := 107) (tgt := 123) B dX8_tokenAt_107 (by decide) hf (fun hf => ?_) (fun hf => ?_)
      · exact t_X8_tokenAt_123 B (lv_sub hl [0] rfl) hW hf
      · refine lv_aload_n (pc := 110) hx hb dX8_tokenAt_110 rfl (lv_at hl 0 rfl) ?_
        refine lv_dup (pc := 111) hx hb dX8_tokenAt_111 rfl ?_
        refine g_X8_19 (pc := 112) B hW dX8_tokenAt_112 ?_
        refine lv_iconst (pc := 115) (v := (1 : Int32)) hx hb dX8_tokenAt_115 rfl ?_
        refine lv_iadd (pc := 116) hx hb dX8_tokenAt_116 ?_
        refine p_X8_19 (pc := 117) B hW dX8_tokenAt_117 hf (fun μ3 H locs hW hf => ?_)
        refine lv_goto (pc := 120) (tgt := 84) hx hb dX8_tokenAt_120 (by decide) ?_
        exact ih (lv_sub hl [0] rfl) hW hf
noncomputable def f_X8_tokenAt (μ : Mem) : Option (Int32 × Mem) := (if (μ.1 41 2) < (μ.1 41 1) then zck (zin (μ.1 41 2) 150) (zbind (f_X8_isLetter (μ.1 42 ((μ.1 41 2)).toNatClampNeg) μ) (fun r2 μ1 => (if r2 = 0 then zck (zin (μ1.1 41 2) 150) (zbind (f_X8_isFigure (μ1.1 42 ((μ1.1 41 2)).toNatClampNeg) μ1) (fun r4 μ3 => (if r4 = 0 then zlet (zI μ3 41 2 ((μ3.1 41 2) + (1 : Int32))) (fun μ5 => zck (zin (μ5.1 41 4) 150) ((if (μ5.1 42 ((μ5.1 41 4)).toNatClampNeg) = (59 : Int32) then some ((3 : Int32), μ5) else some ((4 : Int32), μ5)))) else f_X8_tokenAt_84 zFU μ3))) else f_X8_tokenAt_28 zFU μ1))) else some ((0 : Int32), μ))
set_option maxRecDepth 100000 in
theorem c_X8_tokenAt {G : ZG} {l : Launch} {μ : Mem} {r : Int32} {μ' : Mem} (h : f_X8_tokenAt μ = some (r, μ')) : zC ZC G l yX8_tokenAt cX8_tokenAt 1 (some .int) 2 [.ref (zad G 41)] μ (some (.int r)) μ' := by
  refine zC.mk (by decide +kernel) (Nat.le_of_ble_eq_true rfl) ?_
  intro p e s m below meth c ls B hl hW
  have B : zB ZC G cX8_tokenAt 1 "DarkShares$Text" (some .int) p s m [.ref (zad G 41)].toArray meth c := B
  have hl : lv_has ls 1 [(0, .ref (zad G 41))] := hl
  have hx := B.1
  have hb := B.2.1
  have hf := h
  unfold f_X8_tokenAt at hf
  refine lv_aload_n (pc := 0) hx hb dX8_tokenAt_0 rfl (lv_at hl 0 rfl) ?_
  refine g_X8_19 (pc := 1) B hW dX8_tokenAt_1 ?_
  refine lv_aload_n (pc := 4) hx hb dX8_tokenAt_4 rfl (lv_at hl 0 rfl) ?_
  refine g_X8_15 (pc := 5) B hW dX8_tokenAt_5 ?_
  refine yic_lt (pc := 8) (tgt := 13) B dX8_tokenAt_8 (by decide) hf (fun hf => ?_) (fun hf => ?_)
  · refine lv_aload_n (pc := 13) hx hb dX8_tokenAt_13 rfl (lv_at hl 0 rfl) ?_
    refine g_X8_9 (pc := 14) B hW dX8_tokenAt_14 ?_
    refine lv_aload_n (pc := 17) hx hb dX8_tokenAt_17 rfl (lv_at hl 0 rfl) ?_
    refine g_X8_19 (pc := 18) B hW dX8_tokenAt_18 ?_
    refine ybld (pc := 21) B hW ar42 dX8_tokenAt_21 hf (fun hf => ?_)
    refine s_X8_90 (pc := 22) B hW hl.1 (by decide) (zle8 rfl) dX8_tokenAt_22 (fun _ _ h => c_X8_isLetter h) hf (fun r2 μ1 H locs hW hf => ?_)
    refine yif_eq (pc := 25) (tgt := 69) B dX8_tokenAt_25 (by decide) hf (fun hf => ?_) (fun hf => ?_)
    · refine lv_aload_n (pc := 69) hx hb dX8_tokenAt_69 rfl (lv_at hl 0 rfl) ?_
      refine g_X8_9 (pc := 70) B hW dX8_tokenAt_70 ?_
      refine lv_aload_n (pc := 73) hx hb dX8_tokenAt_73 rfl (lv_at hl 0 rfl) ?_
      refine g_X8_19 (pc := 74) B hW dX8_tokenAt_74 ?_
      refine ybld (pc := 77) B hW ar42 dX8_tokenAt_77 hf (fun hf => ?_)
      refine s_X8_94 (pc := 78) B hW hl.1 (by decide) (zle8 rfl) dX8_tokenAt_78 (fun _ _ h => c_X8_isFigure h) hf (fun r4 μ3 H locs hW hf => ?_)
      refine yif_eq (pc := 81) (tgt := 142) B dX8_tokenAt_81 (by decide) hf (fun hf => ?_) (fun hf => ?_)
      · refine lv_aload_n (pc := 142) hx hb dX8_tokenAt_142 rfl (lv_at hl 0 rfl) ?_
        refine lv_dup (pc := 143) hx hb dX8_tokenAt_143 rfl ?_
        refine g_X8_19 (pc := 144) B hW dX8_tokenAt_144 ?_
        refine lv_iconst (pc := 147) (v := (1 : Int32)) hx hb dX8_tokenAt_147 rfl ?_
        refine lv_iadd (pc := 148) hx hb dX8_tokenAt_148 ?_
        refine p_X8_19 (pc := 149) B hW dX8_tokenAt_149 hf (fun μ5 H locs hW hf => ?_)
        refine lv_aload_n (pc := 152) hx hb dX8_tokenAt_152 rfl (lv_at hl 0 rfl) ?_
        refine g_X8_9 (pc := 153) B hW dX8_tokenAt_153 ?_
        refine lv_aload_n (pc := 156) hx hb dX8_tokenAt_156 rfl (lv_at hl 0 rfl) ?_
        refine g_X8_40 (pc := 157) B hW dX8_tokenAt_157 ?_
        refine ybld (pc := 160) B hW ar42 dX8_tokenAt_160 hf (fun hf => ?_)
        refine lv_bipush (pc := 161) (v := (59 : Int32)) hx hb dX8_tokenAt_161 rfl ?_
        refine yic_ne (pc := 163) (tgt := 170) B dX8_tokenAt_163 (by decide) hf (fun hf => ?_) (fun hf => ?_)
        · refine lv_iconst (pc := 170) (v := (4 : Int32)) hx hb dX8_tokenAt_170 rfl ?_
          exact zreti (pc := 171) B hW hf dX8_tokenAt_171
        · refine lv_iconst (pc := 166) (v := (3 : Int32)) hx hb dX8_tokenAt_166 rfl ?_
          refine lv_goto (pc := 167) (tgt := 171) hx hb dX8_tokenAt_167 (by decide) ?_
          exact zreti (pc := 171) B hW hf dX8_tokenAt_171
      · exact t_X8_tokenAt_84 B zFU (lv_sub hl [0] rfl) hW hf
    · exact t_X8_tokenAt_28 B zFU (lv_sub hl [0] rfl) hW hf
  · refine lv_iconst (pc := 11) (v := (0 : Int32)) hx hb dX8_tokenAt_11 rfl ?_
    exact zreti (pc := 12) B hW hf dX8_tokenAt_12
noncomputable def f_X8_next_38 (μ : Mem) : Option (Unit × Mem) := zlet (zI μ 41 4 (μ.1 41 2)) (fun μ1 => zbind (f_X8_tokenAt μ1) (fun r3 μ2 => zlet (zI μ2 41 3 r3) (fun μ4 => some ((), μ4))))
set_option maxRecDepth 100000 in
theorem t_X8_next_38 {G : ZG} {p : Program} {l : Launch} {e : Env} {s : State} {m : MethodId} {args : Array Value} {below : List Frame} {meth : Method} {c : Code} (B : zB ZC G cX8_next 1 "DarkShares$Text" none p s m args meth c) {μ : Mem} {H : Heap} {locs : List Loc} {ls : Array Slot} {r : Unit} {μ' : Mem} (hl : lv_has ls 1 [(0, .ref (zad G 41))]) (hW : zW ZC G s H locs μ) (hf : f_X8_next_38 μ = some (r, μ')) : W p l e (zR 3) s m args below meth c H locs 0 0 (MQ below (zQ ZC G none μ') args s 0 0 (zAd ZC G)) (F0 m 38 ls []) := by
  have hx := B.1
  have hb := B.2.1
  unfold f_X8_next_38 at hf
  refine lv_aload_n (pc := 38) hx hb dX8_next_38 rfl (lv_at hl 0 rfl) ?_
  refine lv_aload_n (pc := 39) hx hb dX8_next_39 rfl (lv_at hl 0 rfl) ?_
  refine g_X8_19 (pc := 40) B hW dX8_next_40 ?_
  refine p_X8_40 (pc := 43) B hW dX8_next_43 hf (fun μ1 H locs hW hf => ?_)
  refine lv_aload_n (pc := 46) hx hb dX8_next_46 rfl (lv_at hl 0 rfl) ?_
  refine lv_aload_n (pc := 47) hx hb dX8_next_47 rfl (lv_at hl 0 rfl) ?_
  refine s_X8_87 (pc := 48) B hW hl.1 (by decide) (zle8 rfl) dX8_next_48 (fun _ _ h => c_X8_tokenAt h) hf (fun r3 μ2 H locs hW hf => ?_)
  refine p_X8_33 (pc := 51) B hW dX8_next_51 hf (fun μ4 H locs hW hf => ?_)
  exact zretv (pc := 54) B hW hf dX8_next_54
noncomputable def f_X8_next_0 : Nat → Mem → Option (Unit × Mem)
  | 0, _ => none
  | n + 1, μ => (if (μ.1 41 1) ≤ (μ.1 41 2) then f_X8_next_38 μ else zck (zin (μ.1 41 2) 150) ((if (μ.1 42 ((μ.1 41 2)).toNatClampNeg) = (32 : Int32) then zlet (zI μ 41 2 ((μ.1 41 2) + (1 : Int32))) (fun μ1 => f_X8_next_0 n μ1) else f_X8_next_38 μ)))
set_option maxRecDepth 100000 in
theorem t_X8_next_0 {G : ZG} {p : Program} {l : Launch} {e : Env} {s : State} {m : MethodId} {args : Array Value} {below : List Frame} {meth : Method} {c : Code} (B : zB ZC G cX8_next 1 "DarkShares$Text" none p s m args meth c) : ∀ (n : Nat) {μ : Mem} {H : Heap} {locs : List Loc} {ls : Array Slot} {r : Unit} {μ' : Mem}, lv_has ls 1 [(0, .ref (zad G 41))] → zW ZC G s H locs μ → f_X8_next_0 n μ = some (r, μ') → W p l e (zR 3) s m args below meth c H locs 0 0 (MQ below (zQ ZC G none μ') args s 0 0 (zAd ZC G)) (F0 m 0 ls []) := by
  have hx := B.1
  have hb := B.2.1
  intro n
  induction n with
  | zero => intro _ _ _ _ _ _ hl hW hf; cases hf
  | succ n ih =>
    intro  μ H locs ls r μ' hl hW hf
    rw [f_X8_next_0] at hf
    refine lv_aload_n (pc := 0) hx hb dX8_next_0 rfl (lv_at hl 0 rfl) ?_
    refine g_X8_19 (pc := 1) B hW dX8_next_1 ?_
    refine lv_aload_n (pc := 4) hx hb dX8_next_4 rfl (lv_at hl 0 rfl) ?_
    refine g_X8_15 (pc := 5) B hW dX8_next_5 ?_
    refine yic_ge (pc := 8) (tgt := 38) B dX8_next_8 (by decide) hf (fun hf => ?_) (fun hf => ?_)
    · exact t_X8_next_38 B (lv_sub hl [0] rfl) hW hf
    · refine lv_aload_n (pc := 11) hx hb dX8_next_11 rfl (lv_at hl 0 rfl) ?_
      refine g_X8_9 (pc := 12) B hW dX8_next_12 ?_
      refine lv_aload_n (pc := 15) hx hb dX8_next_15 rfl (lv_at hl 0 rfl) ?_
      refine g_X8_19 (pc := 16) B hW dX8_next_16 ?_
      refine ybld (pc := 19) B hW ar42 dX8_next_19 hf (fun hf => ?_)
      refine lv_bipush (pc := 20) (v := (32 : Int32)) hx hb dX8_next_20 rfl ?_
      refine yic_ne (pc := 22) (tgt := 38) B dX8_next_22 (by decide) hf (fun hf => ?_) (fun hf => ?_)
      · exact t_X8_next_38 B (lv_sub hl [0] rfl) hW hf
      · refine lv_aload_n (pc := 25) hx hb dX8_next_25 rfl (lv_at hl 0 rfl) ?_
        refine lv_dup (pc := 26) hx hb dX8_next_26 rfl ?_
        refine g_X8_19 (pc := 27) B hW dX8_next_27 ?_
        refine lv_iconst (pc := 30) (v := (1 : Int32)) hx hb dX8_next_30 rfl ?_
        refine lv_iadd (pc := 31) hx hb dX8_next_31 ?_
        refine p_X8_19 (pc := 32) B hW dX8_next_32 hf (fun μ1 H locs hW hf => ?_)
        refine lv_goto (pc := 35) (tgt := 0) hx hb dX8_next_35 (by decide) ?_
        exact ih (lv_sub hl [0] rfl) hW hf
noncomputable def f_X8_next (μ : Mem) : Option (Unit × Mem) := f_X8_next_0 zFU μ
set_option maxRecDepth 100000 in
theorem c_X8_next {G : ZG} {l : Launch} {μ : Mem} {r : Unit} {μ' : Mem} (h : f_X8_next μ = some (r, μ')) : zC ZC G l yX8_next cX8_next 1 none 3 [.ref (zad G 41)] μ none μ' := by
  refine zC.mk (by decide +kernel) (Nat.le_of_ble_eq_true rfl) ?_
  intro p e s m below meth c ls B hl hW
  have B : zB ZC G cX8_next 1 "DarkShares$Text" none p s m [.ref (zad G 41)].toArray meth c := B
  have hl : lv_has ls 1 [(0, .ref (zad G 41))] := hl
  have hx := B.1
  have hb := B.2.1
  have hf := h
  unfold f_X8_next at hf
  exact t_X8_next_0 B zFU (lv_sub hl [0] rfl) hW hf
noncomputable def f_X8_number_21 : Nat → Int32 → Int32 → Int32 → Mem → Option (Int32 × Mem)
  | 0, _, _, _, _ => none
  | n + 1, x1, x2, x3, μ => (if (μ.1 41 2) ≤ x3 then (if x1 < x2 then some ((-1 : Int32), μ) else some (x2, μ)) else (if (μ.1 41 1) ≤ x3 then (if x1 < x2 then some ((-1 : Int32), μ) else some (x2, μ)) else zck (zin x3 150) (f_X8_number_21 n x1 ((((10 : Int32) * x2) + (μ.1 42 (x3).toNatClampNeg)) - (48 : Int32)) (x3 + (1 : Int32)) μ)))
set_option maxRecDepth 100000 in
theorem t_X8_number_21 {G : ZG} {p : Program} {l : Launch} {e : Env} {s : State} {m : MethodId} {args : Array Value} {below : List Frame} {meth : Method} {c : Code} (B : zB ZC G cX8_number 4 "DarkShares$Text" (some .int) p s m args meth c) : ∀ (n : Nat) {x1 : Int32} {x2 : Int32} {x3 : Int32} {μ : Mem} {H : Heap} {locs : List Loc} {ls : Array Slot} {r : Int32} {μ' : Mem}, lv_has ls 4 [(0, .ref (zad G 41)), (1, .int x1), (2, .int x2), (3, .int x3)] → zW ZC G s H locs μ → f_X8_number_21 n x1 x2 x3 μ = some (r, μ') → W p l e (zR 4) s m args below meth c H locs 0 0 (MQ below (zQ ZC G (some (.int r)) μ') args s 0 0 (zAd ZC G)) (F0 m 21 ls []) := by
  have hx := B.1
  have hb := B.2.1
  intro n
  induction n with
  | zero => intro _ _ _ _ _ _ _ _ _ hl hW hf; cases hf
  | succ n ih =>
    intro x1 x2 x3 μ H locs ls r μ' hl hW hf
    rw [f_X8_number_21] at hf
    refine lv_iload_n (pc := 21) hx hb dX8_number_21 rfl (lv_at hl 3 rfl) ?_
    refine lv_aload_n (pc := 22) hx hb dX8_number_22 rfl (lv_at hl 0 rfl) ?_
    refine g_X8_19 (pc := 23) B hW dX8_number_23 ?_
    refine yic_ge (pc := 26) (tgt := 58) B dX8_number_26 (by decide) hf (fun hf => ?_) (fun hf => ?_)
    · refine lv_iload_n (pc := 58) hx hb dX8_number_58 rfl (lv_at hl 2 rfl) ?_
      refine lv_iload_n (pc := 59) hx hb dX8_number_59 rfl (lv_at hl 1 rfl) ?_
      refine yic_gt (pc := 60) (tgt := 67) B dX8_number_60 (by decide) hf (fun hf => ?_) (fun hf => ?_)
      · refine lv_iconst (pc := 67) (v := (-1 : Int32)) hx hb dX8_number_67 rfl ?_
        exact zreti (pc := 68) B hW hf dX8_number_68
      · refine lv_iload_n (pc := 63) hx hb dX8_number_63 rfl (lv_at hl 2 rfl) ?_
        refine lv_goto (pc := 64) (tgt := 68) hx hb dX8_number_64 (by decide) ?_
        exact zreti (pc := 68) B hW hf dX8_number_68
    · refine lv_iload_n (pc := 29) hx hb dX8_number_29 rfl (lv_at hl 3 rfl) ?_
      refine lv_aload_n (pc := 30) hx hb dX8_number_30 rfl (lv_at hl 0 rfl) ?_
      refine g_X8_15 (pc := 31) B hW dX8_number_31 ?_
      refine yic_ge (pc := 34) (tgt := 58) B dX8_number_34 (by decide) hf (fun hf => ?_) (fun hf => ?_)
      · refine lv_iload_n (pc := 58) hx hb dX8_number_58 rfl (lv_at hl 2 rfl) ?_
        refine lv_iload_n (pc := 59) hx hb dX8_number_59 rfl (lv_at hl 1 rfl) ?_
        refine yic_gt (pc := 60) (tgt := 67) B dX8_number_60 (by decide) hf (fun hf => ?_) (fun hf => ?_)
        · refine lv_iconst (pc := 67) (v := (-1 : Int32)) hx hb dX8_number_67 rfl ?_
          exact zreti (pc := 68) B hW hf dX8_number_68
        · refine lv_iload_n (pc := 63) hx hb dX8_number_63 rfl (lv_at hl 2 rfl) ?_
          refine lv_goto (pc := 64) (tgt := 68) hx hb dX8_number_64 (by decide) ?_
          exact zreti (pc := 68) B hW hf dX8_number_68
      · refine lv_bipush (pc := 37) (v := (10 : Int32)) hx hb dX8_number_37 rfl ?_
        refine lv_iload_n (pc := 39) hx hb dX8_number_39 rfl (lv_at hl 2 rfl) ?_
        refine lv_imul (pc := 40) hx hb dX8_number_40 ?_
        refine lv_aload_n (pc := 41) hx hb dX8_number_41 rfl (lv_at hl 0 rfl) ?_
        refine g_X8_9 (pc := 42) B hW dX8_number_42 ?_
        refine lv_iload_n (pc := 45) hx hb dX8_number_45 rfl (lv_at hl 3 rfl) ?_
        refine ybld (pc := 46) B hW ar42 dX8_number_46 hf (fun hf => ?_)
        refine lv_iadd (pc := 47) hx hb dX8_number_47 ?_
        refine lv_bipush (pc := 48) (v := (48 : Int32)) hx hb dX8_number_48 rfl ?_
        refine lv_isub (pc := 50) hx hb dX8_number_50 ?_
        refine lv_istore_n (pc := 51) (lv' := [(2, .int ((((10 : Int32) * x2) + (μ.1 42 (x3).toNatClampNeg)) - (48 : Int32))), (0, .ref (zad G 41)), (1, .int x1), (3, .int x3)]) hx hb dX8_number_51 rfl hl (by decide) rfl (fun ls hl => ?_)
        refine lv_iinc (pc := 52) (v := (x3 + (1 : Int32))) (lv' := [(3, .int (x3 + (1 : Int32))), (2, .int ((((10 : Int32) * x2) + (μ.1 42 (x3).toNatClampNeg)) - (48 : Int32))), (0, .ref (zad G 41)), (1, .int x1)]) hx hb dX8_number_52 hl (k := 3) rfl rfl (by decide) rfl (fun ls hl => ?_)
        refine lv_goto (pc := 55) (tgt := 21) hx hb dX8_number_55 (by decide) ?_
        exact ih (lv_sub hl [2, 3, 1, 0] rfl) hW hf
noncomputable def f_X8_number (x1 : Int32) (μ : Mem) : Option (Int32 × Mem) := zbind (f_X8_next μ) (fun _ μ1 => (if (μ1.1 41 3) = (2 : Int32) then f_X8_number_21 zFU x1 (0 : Int32) (μ1.1 41 4) μ1 else some ((-1 : Int32), μ1)))
set_option maxRecDepth 100000 in
theorem c_X8_number {G : ZG} {l : Launch} {x1 : Int32} {μ : Mem} {r : Int32} {μ' : Mem} (h : f_X8_number x1 μ = some (r, μ')) : zC ZC G l yX8_number cX8_number 4 (some .int) 4 [.ref (zad G 41), .int x1] μ (some (.int r)) μ' := by
  refine zC.mk (by decide +kernel) (Nat.le_of_ble_eq_true rfl) ?_
  intro p e s m below meth c ls B hl hW
  have B : zB ZC G cX8_number 4 "DarkShares$Text" (some .int) p s m [.ref (zad G 41), .int x1].toArray meth c := B
  have hl : lv_has ls 4 [(0, .ref (zad G 41)), (1, .int x1)] := hl
  have hx := B.1
  have hb := B.2.1
  have hf := h
  unfold f_X8_number at hf
  refine lv_aload_n (pc := 0) hx hb dX8_number_0 rfl (lv_at hl 0 rfl) ?_
  refine s_X8_30 (pc := 1) B hW hl.1 (by decide) (zle8 rfl) dX8_number_1 (fun _ _ h => c_X8_next h) hf (fun _ μ1 H locs hW hf => ?_)
  refine lv_aload_n (pc := 4) hx hb dX8_number_4 rfl (lv_at hl 0 rfl) ?_
  refine g_X8_33 (pc := 5) B hW dX8_number_5 ?_
  refine lv_iconst (pc := 8) (v := (2 : Int32)) hx hb dX8_number_8 rfl ?_
  refine yic_eq (pc := 9) (tgt := 14) B dX8_number_9 (by decide) hf (fun hf => ?_) (fun hf => ?_)
  · refine lv_iconst (pc := 14) (v := (0 : Int32)) hx hb dX8_number_14 rfl ?_
    refine lv_istore_n (pc := 15) (lv' := [(2, .int (0 : Int32)), (0, .ref (zad G 41)), (1, .int x1)]) hx hb dX8_number_15 rfl hl (by decide) rfl (fun ls hl => ?_)
    refine lv_aload_n (pc := 16) hx hb dX8_number_16 rfl (lv_at hl 1 rfl) ?_
    refine g_X8_40 (pc := 17) B hW dX8_number_17 ?_
    refine lv_istore_n (pc := 20) (lv' := [(3, .int (μ1.1 41 4)), (2, .int (0 : Int32)), (0, .ref (zad G 41)), (1, .int x1)]) hx hb dX8_number_20 rfl hl (by decide) rfl (fun ls hl => ?_)
    exact t_X8_number_21 B zFU (lv_sub hl [2, 3, 1, 0] rfl) hW hf
  · refine lv_iconst (pc := 12) (v := (-1 : Int32)) hx hb dX8_number_12 rfl ?_
    exact zreti (pc := 13) B hW hf dX8_number_13
noncomputable def f_X8_stops (μ : Mem) : Option (Int32 × Mem) := zbind (f_X8_next μ) (fun _ μ1 => (if (μ1.1 41 3) = (3 : Int32) then some ((1 : Int32), μ1) else some ((0 : Int32), μ1)))
set_option maxRecDepth 100000 in
theorem c_X8_stops {G : ZG} {l : Launch} {μ : Mem} {r : Int32} {μ' : Mem} (h : f_X8_stops μ = some (r, μ')) : zC ZC G l yX8_stops cX8_stops 1 (some .boolean) 4 [.ref (zad G 41)] μ (some (.int r)) μ' := by
  refine zC.mk (by decide +kernel) (Nat.le_of_ble_eq_true rfl) ?_
  intro p e s m below meth c ls B hl hW
  have B : zB ZC G cX8_stops 1 "DarkShares$Text" (some .boolean) p s m [.ref (zad G 41)].toArray meth c := B
  have hl : lv_has ls 1 [(0, .ref (zad G 41))] := hl
  have hx := B.1
  have hb := B.2.1
  have hf := h
  unfold f_X8_stops at hf
  refine lv_aload_n (pc := 0) hx hb dX8_stops_0 rfl (lv_at hl 0 rfl) ?_
  refine s_X8_30 (pc := 1) B hW hl.1 (by decide) (zle8 rfl) dX8_stops_1 (fun _ _ h => c_X8_next h) hf (fun _ μ1 H locs hW hf => ?_)
  refine lv_aload_n (pc := 4) hx hb dX8_stops_4 rfl (lv_at hl 0 rfl) ?_
  refine g_X8_33 (pc := 5) B hW dX8_stops_5 ?_
  refine lv_iconst (pc := 8) (v := (3 : Int32)) hx hb dX8_stops_8 rfl ?_
  refine yic_ne (pc := 9) (tgt := 16) B dX8_stops_9 (by decide) hf (fun hf => ?_) (fun hf => ?_)
  · refine lv_iconst (pc := 16) (v := (0 : Int32)) hx hb dX8_stops_16 rfl ?_
    exact zretz (pc := 17) B hW rfl hf dX8_stops_17
  · refine lv_iconst (pc := 12) (v := (1 : Int32)) hx hb dX8_stops_12 rfl ?_
    refine lv_goto (pc := 13) (tgt := 17) hx hb dX8_stops_13 (by decide) ?_
    exact zretz (pc := 17) B hW rfl hf dX8_stops_17
noncomputable def f_X8_boyItem (o1 : Nat) (μ : Mem) : Option (Int32 × Mem) := (if (μ.1 o1 7) < (5 : Int32) then zbind (f_X8_number (5 : Int32) μ) (fun r2 μ1 => (if r2 = (-1 : Int32) then some ((0 : Int32), μ1) else zbind (f_X8_number (12 : Int32) μ1) (fun r4 μ3 => (if r4 = (-1 : Int32) then some ((0 : Int32), μ3) else zbind (f_X8_number (40 : Int32) μ3) (fun r6 μ5 => (if r6 = (-1 : Int32) then some ((0 : Int32), μ5) else zbind (f_X8_stops μ5) (fun r8 μ7 => (if r8 = 0 then some ((0 : Int32), μ7) else zbind (f_X1_comes o1 r2 r4 r6 μ7) (fun r10 μ9 => some ((1 : Int32), μ9)))))))))) else some ((0 : Int32), μ))
set_option maxRecDepth 100000 in
theorem c_X8_boyItem {G : ZG} {l : Launch} {o1 : Nat} (ho1 : zN o1) {μ : Mem} {r : Int32} {μ' : Mem} (h : f_X8_boyItem o1 μ = some (r, μ')) : zC ZC G l yX8_boyItem cX8_boyItem 5 (some .boolean) 5 [.ref (zad G 41), .ref (zad G o1)] μ (some (.int r)) μ' := by
  refine zC.mk (by decide +kernel) (Nat.le_of_ble_eq_true rfl) ?_
  intro p e s m below meth c ls B hl hW
  have B : zB ZC G cX8_boyItem 5 "DarkShares$Text" (some .boolean) p s m [.ref (zad G 41), .ref (zad G o1)].toArray meth c := B
  have hl : lv_has ls 5 [(0, .ref (zad G 41)), (1, .ref (zad G o1))] := hl
  have hx := B.1
  have hb := B.2.1
  have hf := h
  unfold f_X8_boyItem at hf
  refine lv_aload_n (pc := 0) hx hb dX8_boyItem_0 rfl (lv_at hl 1 rfl) ?_
  refine g_X8_63 (pc := 1) B hW ho1 dX8_boyItem_1 ?_
  refine lv_iconst (pc := 4) (v := (5 : Int32)) hx hb dX8_boyItem_4 rfl ?_
  refine yic_lt (pc := 5) (tgt := 10) B dX8_boyItem_5 (by decide) hf (fun hf => ?_) (fun hf => ?_)
  · refine lv_aload_n (pc := 10) hx hb dX8_boyItem_10 rfl (lv_at hl 0 rfl) ?_
    refine lv_iconst (pc := 11) (v := (5 : Int32)) hx hb dX8_boyItem_11 rfl ?_
    refine s_X8_66 (pc := 12) B hW hl.1 (by decide) (zle8 rfl) dX8_boyItem_12 (fun _ _ h => c_X8_number h) hf (fun r2 μ1 H locs hW hf => ?_)
    refine lv_istore_n (pc := 15) (lv' := [(2, .int r2), (0, .ref (zad G 41)), (1, .ref (zad G o1))]) hx hb dX8_boyItem_15 rfl hl (by decide) rfl (fun ls hl => ?_)
    refine lv_iload_n (pc := 16) hx hb dX8_boyItem_16 rfl (lv_at hl 0 rfl) ?_
    refine lv_iconst (pc := 17) (v := (-1 : Int32)) hx hb dX8_boyItem_17 rfl ?_
    refine yic_ne (pc := 18) (tgt := 23) B dX8_boyItem_18 (by decide) hf (fun hf => ?_) (fun hf => ?_)
    · refine lv_aload_n (pc := 23) hx hb dX8_boyItem_23 rfl (lv_at hl 1 rfl) ?_
      refine lv_bipush (pc := 24) (v := (12 : Int32)) hx hb dX8_boyItem_24 rfl ?_
      refine s_X8_66 (pc := 26) B hW hl.1 (by decide) (zle8 rfl) dX8_boyItem_26 (fun _ _ h => c_X8_number h) hf (fun r4 μ3 H locs hW hf => ?_)
      refine lv_istore_n (pc := 29) (lv' := [(3, .int r4), (2, .int r2), (0, .ref (zad G 41)), (1, .ref (zad G o1))]) hx hb dX8_boyItem_29 rfl hl (by decide) rfl (fun ls hl => ?_)
      refine lv_iload_n (pc := 30) hx hb dX8_boyItem_30 rfl (lv_at hl 0 rfl) ?_
      refine lv_iconst (pc := 31) (v := (-1 : Int32)) hx hb dX8_boyItem_31 rfl ?_
      refine yic_ne (pc := 32) (tgt := 37) B dX8_boyItem_32 (by decide) hf (fun hf => ?_) (fun hf => ?_)
      · refine lv_aload_n (pc := 37) hx hb dX8_boyItem_37 rfl (lv_at hl 2 rfl) ?_
        refine lv_bipush (pc := 38) (v := (40 : Int32)) hx hb dX8_boyItem_38 rfl ?_
        refine s_X8_66 (pc := 40) B hW hl.1 (by decide) (zle8 rfl) dX8_boyItem_40 (fun _ _ h => c_X8_number h) hf (fun r6 μ5 H locs hW hf => ?_)
        refine lv_istore (pc := 43) (lv' := [(4, .int r6), (3, .int r4), (2, .int r2), (0, .ref (zad G 41)), (1, .ref (zad G o1))]) hx hb dX8_boyItem_43 hl (by decide) rfl (fun ls hl => ?_)
        refine lv_iload (pc := 45) hx hb dX8_boyItem_45 (lv_at hl 0 rfl) ?_
        refine lv_iconst (pc := 47) (v := (-1 : Int32)) hx hb dX8_boyItem_47 rfl ?_
        refine yic_eq (pc := 48) (tgt := 58) B dX8_boyItem_48 (by decide) hf (fun hf => ?_) (fun hf => ?_)
        · refine lv_iconst (pc := 58) (v := (0 : Int32)) hx hb dX8_boyItem_58 rfl ?_
          exact zretz (pc := 59) B hW rfl hf dX8_boyItem_59
        · refine lv_aload_n (pc := 51) hx hb dX8_boyItem_51 rfl (lv_at hl 3 rfl) ?_
          refine s_X8_49 (pc := 52) B hW hl.1 (by decide) (zle8 rfl) dX8_boyItem_52 (fun _ _ h => c_X8_stops h) hf (fun r8 μ7 H locs hW hf => ?_)
          refine yif_ne (pc := 55) (tgt := 60) B dX8_boyItem_55 (by decide) hf (fun hf => ?_) (fun hf => ?_)
          · refine lv_aload_n (pc := 60) hx hb dX8_boyItem_60 rfl (lv_at hl 4 rfl) ?_
            refine lv_iload_n (pc := 61) hx hb dX8_boyItem_61 rfl (lv_at hl 2 rfl) ?_
            refine lv_iload_n (pc := 62) hx hb dX8_boyItem_62 rfl (lv_at hl 1 rfl) ?_
            refine lv_iload (pc := 63) hx hb dX8_boyItem_63 (lv_at hl 0 rfl) ?_
            refine s_X8_70 (pc := 65) B hW hl.1 ho1 (by decide) (zle8 rfl) dX8_boyItem_65 (fun _ _ h => c_X1_comes ho1 h) hf (fun r10 μ9 H locs hW hf => ?_)
            refine lv_pop (pc := 68) hx hb dX8_boyItem_68 rfl ?_
            refine lv_iconst (pc := 69) (v := (1 : Int32)) hx hb dX8_boyItem_69 rfl ?_
            exact zretz (pc := 70) B hW rfl hf dX8_boyItem_70
          · refine lv_iconst (pc := 58) (v := (0 : Int32)) hx hb dX8_boyItem_58 rfl ?_
            exact zretz (pc := 59) B hW rfl hf dX8_boyItem_59
      · refine lv_iconst (pc := 35) (v := (0 : Int32)) hx hb dX8_boyItem_35 rfl ?_
        exact zretz (pc := 36) B hW rfl hf dX8_boyItem_36
    · refine lv_iconst (pc := 21) (v := (0 : Int32)) hx hb dX8_boyItem_21 rfl ?_
      exact zretz (pc := 22) B hW rfl hf dX8_boyItem_22
  · refine lv_iconst (pc := 8) (v := (0 : Int32)) hx hb dX8_boyItem_8 rfl ?_
    exact zretz (pc := 9) B hW rfl hf dX8_boyItem_9
noncomputable def f_X8_cellsItem_62 (o1 : Nat) (μ : Mem) : Option (Int32 × Mem) := (if (μ.1 41 3) = (3 : Int32) then some ((1 : Int32), μ) else some ((0 : Int32), μ))
set_option maxRecDepth 100000 in
theorem t_X8_cellsItem_62 {G : ZG} {p : Program} {l : Launch} {e : Env} {s : State} {m : MethodId} {args : Array Value} {below : List Frame} {meth : Method} {c : Code} (B : zB ZC G cX8_cellsItem 5 "DarkShares$Text" (some .boolean) p s m args meth c) {o1 : Nat} (ho1 : zN o1) {μ : Mem} {H : Heap} {locs : List Loc} {ls : Array Slot} {r : Int32} {μ' : Mem} (hl : lv_has ls 5 [(0, .ref (zad G 41))]) (hW : zW ZC G s H locs μ) (hf : f_X8_cellsItem_62 o1 μ = some (r, μ')) : W p l e (zR 5) s m args below meth c H locs 0 0 (MQ below (zQ ZC G (some (.int r)) μ') args s 0 0 (zAd ZC G)) (F0 m 62 ls []) := by
  have hx := B.1
  have hb := B.2.1
  unfold f_X8_cellsItem_62 at hf
  refine lv_aload_n (pc := 62) hx hb dX8_cellsItem_62 rfl (lv_at hl 0 rfl) ?_
  refine g_X8_33 (pc := 63) B hW dX8_cellsItem_63 ?_
  refine lv_iconst (pc := 66) (v := (3 : Int32)) hx hb dX8_cellsItem_66 rfl ?_
  refine yic_ne (pc := 67) (tgt := 74) B dX8_cellsItem_67 (by decide) hf (fun hf => ?_) (fun hf => ?_)
  · refine lv_iconst (pc := 74) (v := (0 : Int32)) hx hb dX8_cellsItem_74 rfl ?_
    exact zretz (pc := 75) B hW rfl hf dX8_cellsItem_75
  · refine lv_iconst (pc := 70) (v := (1 : Int32)) hx hb dX8_cellsItem_70 rfl ?_
    refine lv_goto (pc := 71) (tgt := 75) hx hb dX8_cellsItem_71 (by decide) ?_
    exact zretz (pc := 75) B hW rfl hf dX8_cellsItem_75
noncomputable def f_X8_cellsItem_28 (o1 : Nat) : Nat → Int32 → Int32 → Int32 → Mem → Option (Int32 × Mem)
  | 0, _, _, _, _ => none
  | n + 1, x2, x3, x4, μ => (if x3 = (-1 : Int32) then f_X8_cellsItem_62 o1 μ else (if (μ.1 41 1) ≤ x4 then f_X8_cellsItem_62 o1 μ else zck (zin x3 12) (zlet (zI μ (o1 + 4) (x3).toNatClampNeg x2) (fun μ1 => zbind (f_X8_number (11 : Int32) μ1) (fun r3 μ2 => f_X8_cellsItem_28 o1 n x2 r3 (x4 + (1 : Int32)) μ2)))))
set_option maxRecDepth 100000 in
theorem t_X8_cellsItem_28 {G : ZG} {p : Program} {l : Launch} {e : Env} {s : State} {m : MethodId} {args : Array Value} {below : List Frame} {meth : Method} {c : Code} (B : zB ZC G cX8_cellsItem 5 "DarkShares$Text" (some .boolean) p s m args meth c) {o1 : Nat} (ho1 : zN o1) : ∀ (n : Nat) {x2 : Int32} {x3 : Int32} {x4 : Int32} {μ : Mem} {H : Heap} {locs : List Loc} {ls : Array Slot} {r : Int32} {μ' : Mem}, lv_has ls 5 [(0, .ref (zad G 41)), (1, .ref (zad G o1)), (2, .int x2), (3, .int x3), (4, .int x4)] → zW ZC G s H locs μ → f_X8_cellsItem_28 o1 n x2 x3 x4 μ = some (r, μ') → W p l e (zR 5) s m args below meth c H locs 0 0 (MQ below (zQ ZC G (some (.int r)) μ') args s 0 0 (zAd ZC G)) (F0 m 28 ls []) := by
  have hx := B.1
  have hb := B.2.1
  intro n
  induction n with
  | zero => intro _ _ _ _ _ _ _ _ _ hl hW hf; cases hf
  | succ n ih =>
    intro x2 x3 x4 μ H locs ls r μ' hl hW hf
    rw [f_X8_cellsItem_28] at hf
    refine lv_iload_n (pc := 28) hx hb dX8_cellsItem_28 rfl (lv_at hl 3 rfl) ?_
    refine lv_iconst (pc := 29) (v := (-1 : Int32)) hx hb dX8_cellsItem_29 rfl ?_
    refine yic_eq (pc := 30) (tgt := 62) B dX8_cellsItem_30 (by decide) hf (fun hf => ?_) (fun hf => ?_)
    · exact t_X8_cellsItem_62 B ho1 (lv_sub hl [0] rfl) hW hf
    · refine lv_iload (pc := 33) hx hb dX8_cellsItem_33 (lv_at hl 4 rfl) ?_
      refine lv_aload_n (pc := 35) hx hb dX8_cellsItem_35 rfl (lv_at hl 0 rfl) ?_
      refine g_X8_15 (pc := 36) B hW dX8_cellsItem_36 ?_
      refine yic_ge (pc := 39) (tgt := 62) B dX8_cellsItem_39 (by decide) hf (fun hf => ?_) (fun hf => ?_)
      · exact t_X8_cellsItem_62 B ho1 (lv_sub hl [0] rfl) hW hf
      · refine lv_aload_n (pc := 42) hx hb dX8_cellsItem_42 rfl (lv_at hl 1 rfl) ?_
        refine g_X8_74 (pc := 43) B hW ho1 dX8_cellsItem_43 ?_
        refine lv_iload_n (pc := 46) hx hb dX8_cellsItem_46 rfl (lv_at hl 3 rfl) ?_
        refine lv_iload_n (pc := 47) hx hb dX8_cellsItem_47 rfl (lv_at hl 2 rfl) ?_
        refine yast (pc := 48) B hW (arN4 ho1) dX8_cellsItem_48 hf (fun μ1 H locs hW hf => ?_)
        refine lv_aload_n (pc := 49) hx hb dX8_cellsItem_49 rfl (lv_at hl 0 rfl) ?_
        refine lv_bipush (pc := 50) (v := (11 : Int32)) hx hb dX8_cellsItem_50 rfl ?_
        refine s_X8_66 (pc := 52) B hW hl.1 (by decide) (zle8 rfl) dX8_cellsItem_52 (fun _ _ h => c_X8_number h) hf (fun r3 μ2 H locs hW hf => ?_)
        refine lv_istore_n (pc := 55) (lv' := [(3, .int r3), (0, .ref (zad G 41)), (1, .ref (zad G o1)), (2, .int x2), (4, .int x4)]) hx hb dX8_cellsItem_55 rfl hl (by decide) rfl (fun ls hl => ?_)
        refine lv_iinc (pc := 56) (v := (x4 + (1 : Int32))) (lv' := [(4, .int (x4 + (1 : Int32))), (3, .int r3), (0, .ref (zad G 41)), (1, .ref (zad G o1)), (2, .int x2)]) hx hb dX8_cellsItem_56 hl (k := 4) rfl rfl (by decide) rfl (fun ls hl => ?_)
        refine lv_goto (pc := 59) (tgt := 28) hx hb dX8_cellsItem_59 (by decide) ?_
        exact ih (lv_sub hl [2, 3, 4, 1, 0] rfl) hW hf
noncomputable def f_X8_cellsItem (o1 : Nat) (μ : Mem) : Option (Int32 × Mem) := zbind (f_X8_number ((μ.1 o1 7) - (1 : Int32)) μ) (fun r2 μ1 => (if r2 = (-1 : Int32) then some ((0 : Int32), μ1) else zbind (f_X8_number (11 : Int32) μ1) (fun r4 μ3 => f_X8_cellsItem_28 o1 zFU r2 r4 (0 : Int32) μ3)))
set_option maxRecDepth 100000 in
theorem c_X8_cellsItem {G : ZG} {l : Launch} {o1 : Nat} (ho1 : zN o1) {μ : Mem} {r : Int32} {μ' : Mem} (h : f_X8_cellsItem o1 μ = some (r, μ')) : zC ZC G l yX8_cellsItem cX8_cellsItem 5 (some .boolean) 5 [.ref (zad G 41), .ref (zad G o1)] μ (some (.int r)) μ' := by
  refine zC.mk (by decide +kernel) (Nat.le_of_ble_eq_true rfl) ?_
  intro p e s m below meth c ls B hl hW
  have B : zB ZC G cX8_cellsItem 5 "DarkShares$Text" (some .boolean) p s m [.ref (zad G 41), .ref (zad G o1)].toArray meth c := B
  have hl : lv_has ls 5 [(0, .ref (zad G 41)), (1, .ref (zad G o1))] := hl
  have hx := B.1
  have hb := B.2.1
  have hf := h
  unfold f_X8_cellsItem at hf
  refine lv_aload_n (pc := 0) hx hb dX8_cellsItem_0 rfl (lv_at hl 0 rfl) ?_
  refine lv_aload_n (pc := 1) hx hb dX8_cellsItem_1 rfl (lv_at hl 1 rfl) ?_
  refine g_X8_63 (pc := 2) B hW ho1 dX8_cellsItem_2 ?_
  refine lv_iconst (pc := 5) (v := (1 : Int32)) hx hb dX8_cellsItem_5 rfl ?_
  refine lv_isub (pc := 6) hx hb dX8_cellsItem_6 ?_
  refine s_X8_66 (pc := 7) B hW hl.1 (by decide) (zle8 rfl) dX8_cellsItem_7 (fun _ _ h => c_X8_number h) hf (fun r2 μ1 H locs hW hf => ?_)
  refine lv_istore_n (pc := 10) (lv' := [(2, .int r2), (0, .ref (zad G 41)), (1, .ref (zad G o1))]) hx hb dX8_cellsItem_10 rfl hl (by decide) rfl (fun ls hl => ?_)
  refine lv_iload_n (pc := 11) hx hb dX8_cellsItem_11 rfl (lv_at hl 0 rfl) ?_
  refine lv_iconst (pc := 12) (v := (-1 : Int32)) hx hb dX8_cellsItem_12 rfl ?_
  refine yic_ne (pc := 13) (tgt := 18) B dX8_cellsItem_13 (by decide) hf (fun hf => ?_) (fun hf => ?_)
  · refine lv_aload_n (pc := 18) hx hb dX8_cellsItem_18 rfl (lv_at hl 1 rfl) ?_
    refine lv_bipush (pc := 19) (v := (11 : Int32)) hx hb dX8_cellsItem_19 rfl ?_
    refine s_X8_66 (pc := 21) B hW hl.1 (by decide) (zle8 rfl) dX8_cellsItem_21 (fun _ _ h => c_X8_number h) hf (fun r4 μ3 H locs hW hf => ?_)
    refine lv_istore_n (pc := 24) (lv' := [(3, .int r4), (2, .int r2), (0, .ref (zad G 41)), (1, .ref (zad G o1))]) hx hb dX8_cellsItem_24 rfl hl (by decide) rfl (fun ls hl => ?_)
    refine lv_iconst (pc := 25) (v := (0 : Int32)) hx hb dX8_cellsItem_25 rfl ?_
    refine lv_istore (pc := 26) (lv' := [(4, .int (0 : Int32)), (3, .int r4), (2, .int r2), (0, .ref (zad G 41)), (1, .ref (zad G o1))]) hx hb dX8_cellsItem_26 hl (by decide) rfl (fun ls hl => ?_)
    exact t_X8_cellsItem_28 B ho1 zFU (lv_sub hl [3, 4, 2, 1, 0] rfl) hW hf
  · refine lv_iconst (pc := 16) (v := (0 : Int32)) hx hb dX8_cellsItem_16 rfl ?_
    exact zretz (pc := 17) B hW rfl hf dX8_cellsItem_17
noncomputable def f_X9_night (μ : Mem) : Option (Int32 × Mem) := zbind (f_X1_wipe 1 μ) (fun _ μ1 => some ((μ.1 1 7), μ1))
set_option maxRecDepth 100000 in
theorem c_X9_night {G : ZG} {l : Launch} {μ : Mem} {r : Int32} {μ' : Mem} (h : f_X9_night μ = some (r, μ')) : zC ZC G l yX9_night cX9_night 2 (some .int) 3 [.ref (zad G 0)] μ (some (.int r)) μ' := by
  refine zC.mk (by decide +kernel) (Nat.le_of_ble_eq_true rfl) ?_
  intro p e s m below meth c ls B hl hW
  have B : zB ZC G cX9_night 2 "DarkShares" (some .int) p s m [.ref (zad G 0)].toArray meth c := B
  have hl : lv_has ls 2 [(0, .ref (zad G 0))] := hl
  have hx := B.1
  have hb := B.2.1
  have hf := h
  unfold f_X9_night at hf
  refine lv_aload_n (pc := 0) hx hb dX9_night_0 rfl (lv_at hl 0 rfl) ?_
  refine g_X9_32 (pc := 1) B hW dX9_night_1 ?_
  refine g_X9_65 (pc := 4) B hW zN1 dX9_night_4 ?_
  refine lv_istore_n (pc := 7) (lv' := [(1, .int (μ.1 1 7)), (0, .ref (zad G 0))]) hx hb dX9_night_7 rfl hl (by decide) rfl (fun ls hl => ?_)
  refine lv_aload_n (pc := 8) hx hb dX9_night_8 rfl (lv_at hl 1 rfl) ?_
  refine g_X9_32 (pc := 9) B hW dX9_night_9 ?_
  refine s_X9_69 (pc := 12) B hW hl.1 zN1 (by decide) (zle8 rfl) dX9_night_12 (fun _ _ h => c_X1_wipe zN1 h) hf (fun _ μ1 H locs hW hf => ?_)
  refine lv_iload_n (pc := 15) hx hb dX9_night_15 rfl (lv_at hl 0 rfl) ?_
  exact zreti (pc := 16) B hW hf dX9_night_16
noncomputable def f_X9_bad (μ : Mem) : Option (Int32 × Mem) := zlet (zI μ 0 8 ((μ.1 0 8) + (1 : Int32))) (fun μ1 => some ((-2 : Int32), μ1))
set_option maxRecDepth 100000 in
theorem c_X9_bad {G : ZG} {l : Launch} {μ : Mem} {r : Int32} {μ' : Mem} (h : f_X9_bad μ = some (r, μ')) : zC ZC G l yX9_bad cX9_bad 1 (some .int) 1 [.ref (zad G 0)] μ (some (.int r)) μ' := by
  refine zC.mk (by decide +kernel) (Nat.le_of_ble_eq_true rfl) ?_
  intro p e s m below meth c ls B hl hW
  have B : zB ZC G cX9_bad 1 "DarkShares" (some .int) p s m [.ref (zad G 0)].toArray meth c := B
  have hl : lv_has ls 1 [(0, .ref (zad G 0))] := hl
  have hx := B.1
  have hb := B.2.1
  have hf := h
  unfold f_X9_bad at hf
  refine lv_aload_n (pc := 0) hx hb dX9_bad_0 rfl (lv_at hl 0 rfl) ?_
  refine lv_dup (pc := 1) hx hb dX9_bad_1 rfl ?_
  refine g_X9_237 (pc := 2) B hW dX9_bad_2 ?_
  refine lv_iconst (pc := 5) (v := (1 : Int32)) hx hb dX9_bad_5 rfl ?_
  refine lv_iadd (pc := 6) hx hb dX9_bad_6 ?_
  refine p_X9_237 (pc := 7) B hW dX9_bad_7 hf (fun μ1 H locs hW hf => ?_)
  refine lv_bipush (pc := 10) (v := (-2 : Int32)) hx hb dX9_bad_10 rfl ?_
  exact zreti (pc := 12) B hW hf dX9_bad_12
noncomputable def f_X9_full (μ : Mem) : Option (Int32 × Mem) := zlet (zI μ 0 10 ((μ.1 0 10) + (1 : Int32))) (fun μ1 => some ((-4 : Int32), μ1))
set_option maxRecDepth 100000 in
theorem c_X9_full {G : ZG} {l : Launch} {μ : Mem} {r : Int32} {μ' : Mem} (h : f_X9_full μ = some (r, μ')) : zC ZC G l yX9_full cX9_full 1 (some .int) 1 [.ref (zad G 0)] μ (some (.int r)) μ' := by
  refine zC.mk (by decide +kernel) (Nat.le_of_ble_eq_true rfl) ?_
  intro p e s m below meth c ls B hl hW
  have B : zB ZC G cX9_full 1 "DarkShares" (some .int) p s m [.ref (zad G 0)].toArray meth c := B
  have hl : lv_has ls 1 [(0, .ref (zad G 0))] := hl
  have hx := B.1
  have hb := B.2.1
  have hf := h
  unfold f_X9_full at hf
  refine lv_aload_n (pc := 0) hx hb dX9_full_0 rfl (lv_at hl 0 rfl) ?_
  refine lv_dup (pc := 1) hx hb dX9_full_1 rfl ?_
  refine g_X9_243 (pc := 2) B hW dX9_full_2 ?_
  refine lv_iconst (pc := 5) (v := (1 : Int32)) hx hb dX9_full_5 rfl ?_
  refine lv_iadd (pc := 6) hx hb dX9_full_6 ?_
  refine p_X9_243 (pc := 7) B hW dX9_full_7 hf (fun μ1 H locs hW hf => ?_)
  refine lv_bipush (pc := 10) (v := (-4 : Int32)) hx hb dX9_full_10 rfl ?_
  exact zreti (pc := 12) B hW hf dX9_full_12
noncomputable def f_X9_within (x0 : Int32) (x1 : Int32) (μ : Mem) : Option (Int32 × Mem) := (if x0 < 0 then some ((0 : Int32), μ) else (if x1 < x0 then some ((0 : Int32), μ) else some ((1 : Int32), μ)))
set_option maxRecDepth 100000 in
theorem c_X9_within {G : ZG} {l : Launch} {x0 : Int32} {x1 : Int32} {μ : Mem} {r : Int32} {μ' : Mem} (h : f_X9_within x0 x1 μ = some (r, μ')) : zC ZC G l yX9_within cX9_within 2 (some .boolean) 1 [.int x0, .int x1] μ (some (.int r)) μ' := by
  refine zC.mk (by decide +kernel) (Nat.le_of_ble_eq_true rfl) ?_
  intro p e s m below meth c ls B hl hW
  have B : zB ZC G cX9_within 2 "DarkShares" (some .boolean) p s m [.int x0, .int x1].toArray meth c := B
  have hl : lv_has ls 2 [(0, .int x0), (1, .int x1)] := hl
  have hx := B.1
  have hb := B.2.1
  have hf := h
  unfold f_X9_within at hf
  refine lv_iload_n (pc := 0) hx hb dX9_within_0 rfl (lv_at hl 0 rfl) ?_
  refine yif_lt (pc := 1) (tgt := 13) B dX9_within_1 (by decide) hf (fun hf => ?_) (fun hf => ?_)
  · refine lv_iconst (pc := 13) (v := (0 : Int32)) hx hb dX9_within_13 rfl ?_
    exact zretz (pc := 14) B hW rfl hf dX9_within_14
  · refine lv_iload_n (pc := 4) hx hb dX9_within_4 rfl (lv_at hl 0 rfl) ?_
    refine lv_iload_n (pc := 5) hx hb dX9_within_5 rfl (lv_at hl 1 rfl) ?_
    refine yic_gt (pc := 6) (tgt := 13) B dX9_within_6 (by decide) hf (fun hf => ?_) (fun hf => ?_)
    · refine lv_iconst (pc := 13) (v := (0 : Int32)) hx hb dX9_within_13 rfl ?_
      exact zretz (pc := 14) B hW rfl hf dX9_within_14
    · refine lv_iconst (pc := 9) (v := (1 : Int32)) hx hb dX9_within_9 rfl ?_
      refine lv_goto (pc := 10) (tgt := 14) hx hb dX9_within_10 (by decide) ?_
      exact zretz (pc := 14) B hW rfl hf dX9_within_14
noncomputable def f_X9_boy (x1 : Int32) (x2 : Int32) (x3 : Int32) (μ : Mem) : Option (Int32 × Mem) := zbind (f_X9_within x1 (5 : Int32) μ) (fun r2 μ1 => (if r2 = 0 then zbind (f_X9_bad μ1) (fun r4 μ3 => some (r4, μ3)) else zbind (f_X9_within x2 (12 : Int32) μ1) (fun r6 μ5 => (if r6 = 0 then zbind (f_X9_bad μ5) (fun r8 μ7 => some (r8, μ7)) else zbind (f_X9_within x3 (40 : Int32) μ5) (fun r10 μ9 => (if r10 = 0 then zbind (f_X9_bad μ9) (fun r16 μ15 => some (r16, μ15)) else (if (μ9.1 1 7) < (5 : Int32) then zbind (f_X1_comes 1 x1 x2 x3 μ9) (fun r12 μ11 => some (r12, μ11)) else zbind (f_X9_full μ9) (fun r14 μ13 => some (r14, μ13)))))))))
set_option maxRecDepth 100000 in
theorem c_X9_boy {G : ZG} {l : Launch} {x1 : Int32} {x2 : Int32} {x3 : Int32} {μ : Mem} {r : Int32} {μ' : Mem} (h : f_X9_boy x1 x2 x3 μ = some (r, μ')) : zC ZC G l yX9_boy cX9_boy 4 (some .int) 2 [.ref (zad G 0), .int x1, .int x2, .int x3] μ (some (.int r)) μ' := by
  refine zC.mk (by decide +kernel) (Nat.le_of_ble_eq_true rfl) ?_
  intro p e s m below meth c ls B hl hW
  have B : zB ZC G cX9_boy 4 "DarkShares" (some .int) p s m [.ref (zad G 0), .int x1, .int x2, .int x3].toArray meth c := B
  have hl : lv_has ls 4 [(0, .ref (zad G 0)), (1, .int x1), (2, .int x2), (3, .int x3)] := hl
  have hx := B.1
  have hb := B.2.1
  have hf := h
  unfold f_X9_boy at hf
  refine lv_iload_n (pc := 0) hx hb dX9_boy_0 rfl (lv_at hl 1 rfl) ?_
  refine lv_iconst (pc := 1) (v := (5 : Int32)) hx hb dX9_boy_1 rfl ?_
  refine s_X9_72 (pc := 2) B hW hl.1 (by decide) (zle8 rfl) dX9_boy_2 (fun _ _ h => c_X9_within h) hf (fun r2 μ1 H locs hW hf => ?_)
  refine yif_eq (pc := 5) (tgt := 26) B dX9_boy_5 (by decide) hf (fun hf => ?_) (fun hf => ?_)
  · refine lv_aload_n (pc := 26) hx hb dX9_boy_26 rfl (lv_at hl 0 rfl) ?_
    refine s_X9_76 (pc := 27) B hW hl.1 (by decide) (zle8 rfl) dX9_boy_27 (fun _ _ h => c_X9_bad h) hf (fun r4 μ3 H locs hW hf => ?_)
    exact zreti (pc := 30) B hW hf dX9_boy_30
  · refine lv_iload_n (pc := 8) hx hb dX9_boy_8 rfl (lv_at hl 2 rfl) ?_
    refine lv_bipush (pc := 9) (v := (12 : Int32)) hx hb dX9_boy_9 rfl ?_
    refine s_X9_72 (pc := 11) B hW hl.1 (by decide) (zle8 rfl) dX9_boy_11 (fun _ _ h => c_X9_within h) hf (fun r6 μ5 H locs hW hf => ?_)
    refine yif_eq (pc := 14) (tgt := 26) B dX9_boy_14 (by decide) hf (fun hf => ?_) (fun hf => ?_)
    · refine lv_aload_n (pc := 26) hx hb dX9_boy_26 rfl (lv_at hl 0 rfl) ?_
      refine s_X9_76 (pc := 27) B hW hl.1 (by decide) (zle8 rfl) dX9_boy_27 (fun _ _ h => c_X9_bad h) hf (fun r8 μ7 H locs hW hf => ?_)
      exact zreti (pc := 30) B hW hf dX9_boy_30
    · refine lv_iload_n (pc := 17) hx hb dX9_boy_17 rfl (lv_at hl 3 rfl) ?_
      refine lv_bipush (pc := 18) (v := (40 : Int32)) hx hb dX9_boy_18 rfl ?_
      refine s_X9_72 (pc := 20) B hW hl.1 (by decide) (zle8 rfl) dX9_boy_20 (fun _ _ h => c_X9_within h) hf (fun r10 μ9 H locs hW hf => ?_)
      refine yif_ne (pc := 23) (tgt := 31) B dX9_boy_23 (by decide) hf (fun hf => ?_) (fun hf => ?_)
      · refine lv_aload_n (pc := 31) hx hb dX9_boy_31 rfl (lv_at hl 0 rfl) ?_
        refine g_X9_32 (pc := 32) B hW dX9_boy_32 ?_
        refine g_X9_65 (pc := 35) B hW zN1 dX9_boy_35 ?_
        refine lv_iconst (pc := 38) (v := (5 : Int32)) hx hb dX9_boy_38 rfl ?_
        refine yic_lt (pc := 39) (tgt := 47) B dX9_boy_39 (by decide) hf (fun hf => ?_) (fun hf => ?_)
        · refine lv_aload_n (pc := 47) hx hb dX9_boy_47 rfl (lv_at hl 0 rfl) ?_
          refine g_X9_32 (pc := 48) B hW dX9_boy_48 ?_
          refine lv_iload_n (pc := 51) hx hb dX9_boy_51 rfl (lv_at hl 1 rfl) ?_
          refine lv_iload_n (pc := 52) hx hb dX9_boy_52 rfl (lv_at hl 2 rfl) ?_
          refine lv_iload_n (pc := 53) hx hb dX9_boy_53 rfl (lv_at hl 3 rfl) ?_
          refine s_X9_83 (pc := 54) B hW hl.1 zN1 (by decide) (zle8 rfl) dX9_boy_54 (fun _ _ h => c_X1_comes zN1 h) hf (fun r12 μ11 H locs hW hf => ?_)
          exact zreti (pc := 57) B hW hf dX9_boy_57
        · refine lv_aload_n (pc := 42) hx hb dX9_boy_42 rfl (lv_at hl 0 rfl) ?_
          refine s_X9_80 (pc := 43) B hW hl.1 (by decide) (zle8 rfl) dX9_boy_43 (fun _ _ h => c_X9_full h) hf (fun r14 μ13 H locs hW hf => ?_)
          exact zreti (pc := 46) B hW hf dX9_boy_46
      · refine lv_aload_n (pc := 26) hx hb dX9_boy_26 rfl (lv_at hl 0 rfl) ?_
        refine s_X9_76 (pc := 27) B hW hl.1 (by decide) (zle8 rfl) dX9_boy_27 (fun _ _ h => c_X9_bad h) hf (fun r16 μ15 H locs hW hf => ?_)
        exact zreti (pc := 30) B hW hf dX9_boy_30
noncomputable def f_X9_isBoy (x1 : Int32) (μ : Mem) : Option (Int32 × Mem) := zbind (f_X9_within x1 ((μ.1 1 7) - (1 : Int32)) μ) (fun r2 μ1 => zck (zbo r2) (some (r2, μ1)))
set_option maxRecDepth 100000 in
theorem c_X9_isBoy {G : ZG} {l : Launch} {x1 : Int32} {μ : Mem} {r : Int32} {μ' : Mem} (h : f_X9_isBoy x1 μ = some (r, μ')) : zC ZC G l yX9_isBoy cX9_isBoy 2 (some .boolean) 2 [.ref (zad G 0), .int x1] μ (some (.int r)) μ' := by
  refine zC.mk (by decide +kernel) (Nat.le_of_ble_eq_true rfl) ?_
  intro p e s m below meth c ls B hl hW
  have B : zB ZC G cX9_isBoy 2 "DarkShares" (some .boolean) p s m [.ref (zad G 0), .int x1].toArray meth c := B
  have hl : lv_has ls 2 [(0, .ref (zad G 0)), (1, .int x1)] := hl
  have hx := B.1
  have hb := B.2.1
  have hf := h
  unfold f_X9_isBoy at hf
  refine lv_iload_n (pc := 0) hx hb dX9_isBoy_0 rfl (lv_at hl 1 rfl) ?_
  refine lv_aload_n (pc := 1) hx hb dX9_isBoy_1 rfl (lv_at hl 0 rfl) ?_
  refine g_X9_32 (pc := 2) B hW dX9_isBoy_2 ?_
  refine g_X9_65 (pc := 5) B hW zN1 dX9_isBoy_5 ?_
  refine lv_iconst (pc := 8) (v := (1 : Int32)) hx hb dX9_isBoy_8 rfl ?_
  refine lv_isub (pc := 9) hx hb dX9_isBoy_9 ?_
  refine s_X9_72 (pc := 10) B hW hl.1 (by decide) (zle8 rfl) dX9_isBoy_10 (fun _ _ h => c_X9_within h) hf (fun r2 μ1 H locs hW hf => ?_)
  exact yretb (pc := 13) B hW hf dX9_isBoy_13
noncomputable def f_X9_isCell (x0 : Int32) (μ : Mem) : Option (Int32 × Mem) := zbind (f_X9_within x0 (11 : Int32) μ) (fun r2 μ1 => zck (zbo r2) (some (r2, μ1)))
set_option maxRecDepth 100000 in
theorem c_X9_isCell {G : ZG} {l : Launch} {x0 : Int32} {μ : Mem} {r : Int32} {μ' : Mem} (h : f_X9_isCell x0 μ = some (r, μ')) : zC ZC G l yX9_isCell cX9_isCell 1 (some .boolean) 2 [.int x0] μ (some (.int r)) μ' := by
  refine zC.mk (by decide +kernel) (Nat.le_of_ble_eq_true rfl) ?_
  intro p e s m below meth c ls B hl hW
  have B : zB ZC G cX9_isCell 1 "DarkShares" (some .boolean) p s m [.int x0].toArray meth c := B
  have hl : lv_has ls 1 [(0, .int x0)] := hl
  have hx := B.1
  have hb := B.2.1
  have hf := h
  unfold f_X9_isCell at hf
  refine lv_iload_n (pc := 0) hx hb dX9_isCell_0 rfl (lv_at hl 0 rfl) ?_
  refine lv_bipush (pc := 1) (v := (11 : Int32)) hx hb dX9_isCell_1 rfl ?_
  refine s_X9_72 (pc := 3) B hW hl.1 (by decide) (zle8 rfl) dX9_isCell_3 (fun _ _ h => c_X9_within h) hf (fun r2 μ1 H locs hW hf => ?_)
  exact yretb (pc := 6) B hW hf dX9_isCell_6
noncomputable def f_X9_otherBad (μ : Mem) : Option (Int32 × Mem) := zlet (zI μ 0 8 ((μ.1 0 8) + (1 : Int32))) (fun μ1 => some ((-10 : Int32), μ1))
set_option maxRecDepth 100000 in
theorem c_X9_otherBad {G : ZG} {l : Launch} {μ : Mem} {r : Int32} {μ' : Mem} (h : f_X9_otherBad μ = some (r, μ')) : zC ZC G l yX9_otherBad cX9_otherBad 1 (some .int) 1 [.ref (zad G 0)] μ (some (.int r)) μ' := by
  refine zC.mk (by decide +kernel) (Nat.le_of_ble_eq_true rfl) ?_
  intro p e s m below meth c ls B hl hW
  have B : zB ZC G cX9_otherBad 1 "DarkShares" (some .int) p s m [.ref (zad G 0)].toArray meth c := B
  have hl : lv_has ls 1 [(0, .ref (zad G 0))] := hl
  have hx := B.1
  have hb := B.2.1
  have hf := h
  unfold f_X9_otherBad at hf
  refine lv_aload_n (pc := 0) hx hb dX9_otherBad_0 rfl (lv_at hl 0 rfl) ?_
  refine lv_dup (pc := 1) hx hb dX9_otherBad_1 rfl ?_
  refine g_X9_237 (pc := 2) B hW dX9_otherBad_2 ?_
  refine lv_iconst (pc := 5) (v := (1 : Int32)) hx hb dX9_otherBad_5 rfl ?_
  refine lv_iadd (pc := 6) hx hb dX9_otherBad_6 ?_
  refine p_X9_237 (pc := 7) B hW dX9_otherBad_7 hf (fun μ1 H locs hW hf => ?_)
  refine lv_bipush (pc := 10) (v := (-10 : Int32)) hx hb dX9_otherBad_10 rfl ?_
  exact zreti (pc := 12) B hW hf dX9_otherBad_12
noncomputable def f_X9_give_25 (x1 : Int32) (x2 : Int32) (μ : Mem) : Option (Int32 × Mem) := zck (zin x1 12) (zbind (f_X1_remember 1 μ) (fun _ μ1 => zck (zin x1 12) (zlet (zI μ1 (1 + 4) (x1).toNatClampNeg x2) (fun μ2 => some ((μ.1 (1 + 4) (x1).toNatClampNeg), μ2)))))
set_option maxRecDepth 100000 in
theorem t_X9_give_25 {G : ZG} {p : Program} {l : Launch} {e : Env} {s : State} {m : MethodId} {args : Array Value} {below : List Frame} {meth : Method} {c : Code} (B : zB ZC G cX9_give 4 "DarkShares" (some .int) p s m args meth c) {x1 : Int32} {x2 : Int32} {μ : Mem} {H : Heap} {locs : List Loc} {ls : Array Slot} {r : Int32} {μ' : Mem} (hl : lv_has ls 4 [(0, .ref (zad G 0)), (1, .int x1), (2, .int x2)]) (hW : zW ZC G s H locs μ) (hf : f_X9_give_25 x1 x2 μ = some (r, μ')) : W p l e (zR 3) s m args below meth c H locs 0 0 (MQ below (zQ ZC G (some (.int r)) μ') args s 0 0 (zAd ZC G)) (F0 m 25 ls []) := by
  have hx := B.1
  have hb := B.2.1
  unfold f_X9_give_25 at hf
  refine lv_aload_n (pc := 25) hx hb dX9_give_25 rfl (lv_at hl 0 rfl) ?_
  refine g_X9_32 (pc := 26) B hW dX9_give_26 ?_
  refine g_X9_97 (pc := 29) B hW zN1 dX9_give_29 ?_
  refine lv_iload_n (pc := 32) hx hb dX9_give_32 rfl (lv_at hl 1 rfl) ?_
  refine yald (pc := 33) B hW (arN4 zN1) dX9_give_33 hf (fun hf => ?_)
  refine lv_istore_n (pc := 34) (lv' := [(3, .int (μ.1 (1 + 4) (x1).toNatClampNeg)), (0, .ref (zad G 0)), (1, .int x1), (2, .int x2)]) hx hb dX9_give_34 rfl hl (by decide) rfl (fun ls hl => ?_)
  refine lv_aload_n (pc := 35) hx hb dX9_give_35 rfl (lv_at hl 1 rfl) ?_
  refine g_X9_32 (pc := 36) B hW dX9_give_36 ?_
  refine s_X9_101 (pc := 39) B hW hl.1 zN1 (by decide) (zle8 rfl) dX9_give_39 (fun _ _ h => c_X1_remember zN1 h) hf (fun _ μ1 H locs hW hf => ?_)
  refine lv_aload_n (pc := 42) hx hb dX9_give_42 rfl (lv_at hl 1 rfl) ?_
  refine g_X9_32 (pc := 43) B hW dX9_give_43 ?_
  refine g_X9_97 (pc := 46) B hW zN1 dX9_give_46 ?_
  refine lv_iload_n (pc := 49) hx hb dX9_give_49 rfl (lv_at hl 2 rfl) ?_
  refine lv_iload_n (pc := 50) hx hb dX9_give_50 rfl (lv_at hl 3 rfl) ?_
  refine yast (pc := 51) B hW (arN4 zN1) dX9_give_51 hf (fun μ2 H locs hW hf => ?_)
  refine lv_iload_n (pc := 52) hx hb dX9_give_52 rfl (lv_at hl 0 rfl) ?_
  exact zreti (pc := 53) B hW hf dX9_give_53
noncomputable def f_X9_give (x1 : Int32) (x2 : Int32) (μ : Mem) : Option (Int32 × Mem) := zbind (f_X9_isCell x1 μ) (fun r2 μ1 => (if r2 = 0 then zbind (f_X9_otherBad μ1) (fun r4 μ3 => some (r4, μ3)) else (if x2 = (-1 : Int32) then f_X9_give_25 x1 x2 μ1 else zbind (f_X9_isBoy x2 μ1) (fun r6 μ5 => (if r6 = 0 then zbind (f_X9_otherBad μ5) (fun r8 μ7 => some (r8, μ7)) else f_X9_give_25 x1 x2 μ5)))))
set_option maxRecDepth 100000 in
theorem c_X9_give {G : ZG} {l : Launch} {x1 : Int32} {x2 : Int32} {μ : Mem} {r : Int32} {μ' : Mem} (h : f_X9_give x1 x2 μ = some (r, μ')) : zC ZC G l yX9_give cX9_give 4 (some .int) 3 [.ref (zad G 0), .int x1, .int x2] μ (some (.int r)) μ' := by
  refine zC.mk (by decide +kernel) (Nat.le_of_ble_eq_true rfl) ?_
  intro p e s m below meth c ls B hl hW
  have B : zB ZC G cX9_give 4 "DarkShares" (some .int) p s m [.ref (zad G 0), .int x1, .int x2].toArray meth c := B
  have hl : lv_has ls 4 [(0, .ref (zad G 0)), (1, .int x1), (2, .int x2)] := hl
  have hx := B.1
  have hb := B.2.1
  have hf := h
  unfold f_X9_give at hf
  refine lv_iload_n (pc := 0) hx hb dX9_give_0 rfl (lv_at hl 1 rfl) ?_
  refine s_X9_87 (pc := 1) B hW hl.1 (by decide) (zle8 rfl) dX9_give_1 (fun _ _ h => c_X9_isCell h) hf (fun r2 μ1 H locs hW hf => ?_)
  refine yif_eq (pc := 4) (tgt := 20) B dX9_give_4 (by decide) hf (fun hf => ?_) (fun hf => ?_)
  · refine lv_aload_n (pc := 20) hx hb dX9_give_20 rfl (lv_at hl 0 rfl) ?_
    refine s_X9_94 (pc := 21) B hW hl.1 (by decide) (zle8 rfl) dX9_give_21 (fun _ _ h => c_X9_otherBad h) hf (fun r4 μ3 H locs hW hf => ?_)
    exact zreti (pc := 24) B hW hf dX9_give_24
  · refine lv_iload_n (pc := 7) hx hb dX9_give_7 rfl (lv_at hl 2 rfl) ?_
    refine lv_iconst (pc := 8) (v := (-1 : Int32)) hx hb dX9_give_8 rfl ?_
    refine yic_eq (pc := 9) (tgt := 25) B dX9_give_9 (by decide) hf (fun hf => ?_) (fun hf => ?_)
    · exact t_X9_give_25 B (lv_sub hl [0, 1, 2] rfl) hW hf
    · refine lv_aload_n (pc := 12) hx hb dX9_give_12 rfl (lv_at hl 0 rfl) ?_
      refine lv_iload_n (pc := 13) hx hb dX9_give_13 rfl (lv_at hl 2 rfl) ?_
      refine s_X9_91 (pc := 14) B hW hl.1 (by decide) (zle8 rfl) dX9_give_14 (fun _ _ h => c_X9_isBoy h) hf (fun r6 μ5 H locs hW hf => ?_)
      refine yif_ne (pc := 17) (tgt := 25) B dX9_give_17 (by decide) hf (fun hf => ?_) (fun hf => ?_)
      · exact t_X9_give_25 B (lv_sub hl [0, 1, 2] rfl) hW hf
      · refine lv_aload_n (pc := 20) hx hb dX9_give_20 rfl (lv_at hl 0 rfl) ?_
        refine s_X9_94 (pc := 21) B hW hl.1 (by decide) (zle8 rfl) dX9_give_21 (fun _ _ h => c_X9_otherBad h) hf (fun r8 μ7 H locs hW hf => ?_)
        exact zreti (pc := 24) B hW hf dX9_give_24
noncomputable def f_X9_type (x1 : Int32) (μ : Mem) : Option (Int32 × Mem) := zbind (f_X9_within x1 (127 : Int32) μ) (fun r2 μ1 => (if r2 = 0 then zbind (f_X9_bad μ1) (fun r8 μ7 => some (r8, μ7)) else (if (μ1.1 41 1) < (150 : Int32) then zbind (f_X8_put ((x1).toInt8.toInt32) μ1) (fun r4 μ3 => some (r4, μ3)) else zbind (f_X9_full μ1) (fun r6 μ5 => some (r6, μ5)))))
set_option maxRecDepth 100000 in
theorem c_X9_type {G : ZG} {l : Launch} {x1 : Int32} {μ : Mem} {r : Int32} {μ' : Mem} (h : f_X9_type x1 μ = some (r, μ')) : zC ZC G l yX9_type cX9_type 2 (some .int) 2 [.ref (zad G 0), .int x1] μ (some (.int r)) μ' := by
  refine zC.mk (by decide +kernel) (Nat.le_of_ble_eq_true rfl) ?_
  intro p e s m below meth c ls B hl hW
  have B : zB ZC G cX9_type 2 "DarkShares" (some .int) p s m [.ref (zad G 0), .int x1].toArray meth c := B
  have hl : lv_has ls 2 [(0, .ref (zad G 0)), (1, .int x1)] := hl
  have hx := B.1
  have hb := B.2.1
  have hf := h
  unfold f_X9_type at hf
  refine lv_iload_n (pc := 0) hx hb dX9_type_0 rfl (lv_at hl 1 rfl) ?_
  refine lv_bipush (pc := 1) (v := (127 : Int32)) hx hb dX9_type_1 rfl ?_
  refine s_X9_72 (pc := 3) B hW hl.1 (by decide) (zle8 rfl) dX9_type_3 (fun _ _ h => c_X9_within h) hf (fun r2 μ1 H locs hW hf => ?_)
  refine yif_ne (pc := 6) (tgt := 14) B dX9_type_6 (by decide) hf (fun hf => ?_) (fun hf => ?_)
  · refine lv_aload_n (pc := 14) hx hb dX9_type_14 rfl (lv_at hl 0 rfl) ?_
    refine g_X9_57 (pc := 15) B hW dX9_type_15 ?_
    refine g_X9_104 (pc := 18) B hW dX9_type_18 ?_
    refine lv_sipush (pc := 21) (v := (150 : Int32)) hx hb dX9_type_21 rfl ?_
    refine yic_lt (pc := 24) (tgt := 32) B dX9_type_24 (by decide) hf (fun hf => ?_) (fun hf => ?_)
    · refine lv_aload_n (pc := 32) hx hb dX9_type_32 rfl (lv_at hl 0 rfl) ?_
      refine g_X9_57 (pc := 33) B hW dX9_type_33 ?_
      refine lv_iload_n (pc := 36) hx hb dX9_type_36 rfl (lv_at hl 1 rfl) ?_
      refine lv_i2b (pc := 37) (v := (x1).toInt8.toInt32) hx hb dX9_type_37 rfl ?_
      refine s_X9_107 (pc := 38) B hW hl.1 (by decide) (zle8 rfl) dX9_type_38 (fun _ _ h => c_X8_put h) hf (fun r4 μ3 H locs hW hf => ?_)
      exact zreti (pc := 41) B hW hf dX9_type_41
    · refine lv_aload_n (pc := 27) hx hb dX9_type_27 rfl (lv_at hl 0 rfl) ?_
      refine s_X9_80 (pc := 28) B hW hl.1 (by decide) (zle8 rfl) dX9_type_28 (fun _ _ h => c_X9_full h) hf (fun r6 μ5 H locs hW hf => ?_)
      exact zreti (pc := 31) B hW hf dX9_type_31
  · refine lv_aload_n (pc := 9) hx hb dX9_type_9 rfl (lv_at hl 0 rfl) ?_
    refine s_X9_76 (pc := 10) B hW hl.1 (by decide) (zle8 rfl) dX9_type_10 (fun _ _ h => c_X9_bad h) hf (fun r8 μ7 H locs hW hf => ?_)
    exact zreti (pc := 13) B hW hf dX9_type_13
noncomputable def f_X9_clear (μ : Mem) : Option (Int32 × Mem) := zlet (zI μ 41 1 (0 : Int32)) (fun μ1 => some ((μ.1 41 1), μ1))
set_option maxRecDepth 100000 in
theorem c_X9_clear {G : ZG} {l : Launch} {μ : Mem} {r : Int32} {μ' : Mem} (h : f_X9_clear μ = some (r, μ')) : zC ZC G l yX9_clear cX9_clear 2 (some .int) 1 [.ref (zad G 0)] μ (some (.int r)) μ' := by
  refine zC.mk (by decide +kernel) (Nat.le_of_ble_eq_true rfl) ?_
  intro p e s m below meth c ls B hl hW
  have B : zB ZC G cX9_clear 2 "DarkShares" (some .int) p s m [.ref (zad G 0)].toArray meth c := B
  have hl : lv_has ls 2 [(0, .ref (zad G 0))] := hl
  have hx := B.1
  have hb := B.2.1
  have hf := h
  unfold f_X9_clear at hf
  refine lv_aload_n (pc := 0) hx hb dX9_clear_0 rfl (lv_at hl 0 rfl) ?_
  refine g_X9_57 (pc := 1) B hW dX9_clear_1 ?_
  refine g_X9_104 (pc := 4) B hW dX9_clear_4 ?_
  refine lv_istore_n (pc := 7) (lv' := [(1, .int (μ.1 41 1)), (0, .ref (zad G 0))]) hx hb dX9_clear_7 rfl hl (by decide) rfl (fun ls hl => ?_)
  refine lv_aload_n (pc := 8) hx hb dX9_clear_8 rfl (lv_at hl 1 rfl) ?_
  refine g_X9_57 (pc := 9) B hW dX9_clear_9 ?_
  refine lv_iconst (pc := 12) (v := (0 : Int32)) hx hb dX9_clear_12 rfl ?_
  refine p_X9_104 (pc := 13) B hW dX9_clear_13 hf (fun μ1 H locs hW hf => ?_)
  refine lv_iload_n (pc := 16) hx hb dX9_clear_16 rfl (lv_at hl 0 rfl) ?_
  exact zreti (pc := 17) B hW hf dX9_clear_17
noncomputable def f_X9_no (μ : Mem) : Option (Int32 × Mem) := zlet (zI μ 0 9 ((μ.1 0 9) + (1 : Int32))) (fun μ1 => some ((-3 : Int32), μ1))
set_option maxRecDepth 100000 in
theorem c_X9_no {G : ZG} {l : Launch} {μ : Mem} {r : Int32} {μ' : Mem} (h : f_X9_no μ = some (r, μ')) : zC ZC G l yX9_no cX9_no 1 (some .int) 1 [.ref (zad G 0)] μ (some (.int r)) μ' := by
  refine zC.mk (by decide +kernel) (Nat.le_of_ble_eq_true rfl) ?_
  intro p e s m below meth c ls B hl hW
  have B : zB ZC G cX9_no 1 "DarkShares" (some .int) p s m [.ref (zad G 0)].toArray meth c := B
  have hl : lv_has ls 1 [(0, .ref (zad G 0))] := hl
  have hx := B.1
  have hb := B.2.1
  have hf := h
  unfold f_X9_no at hf
  refine lv_aload_n (pc := 0) hx hb dX9_no_0 rfl (lv_at hl 0 rfl) ?_
  refine lv_dup (pc := 1) hx hb dX9_no_1 rfl ?_
  refine g_X9_240 (pc := 2) B hW dX9_no_2 ?_
  refine lv_iconst (pc := 5) (v := (1 : Int32)) hx hb dX9_no_5 rfl ?_
  refine lv_iadd (pc := 6) hx hb dX9_no_6 ?_
  refine p_X9_240 (pc := 7) B hW dX9_no_7 hf (fun μ1 H locs hW hf => ?_)
  refine lv_bipush (pc := 10) (v := (-3 : Int32)) hx hb dX9_no_10 rfl ?_
  exact zreti (pc := 12) B hW hf dX9_no_12
noncomputable def f_X9_swap (x1 : Int32) (x2 : Int32) (μ : Mem) : Option (Int32 × Mem) := zbind (f_X9_isCell x1 μ) (fun r2 μ1 => (if r2 = 0 then zbind (f_X9_bad μ1) (fun r4 μ3 => some (r4, μ3)) else zbind (f_X9_isCell x2 μ1) (fun r6 μ5 => (if r6 = 0 then zbind (f_X9_bad μ5) (fun r8 μ7 => some (r8, μ7)) else (if x1 = x2 then zbind (f_X9_bad μ5) (fun r16 μ15 => some (r16, μ15)) else zbind (f_X1_ofUnlikeBoys 1 x1 x2 μ5) (fun r10 μ9 => (if r10 = 0 then zbind (f_X9_no μ9) (fun r14 μ13 => some (r14, μ13)) else zbind (f_X1_remember 1 μ9) (fun _ μ11 => zbind (f_X1_changeHands 1 x1 x2 μ11) (fun _ μ12 => some ((1 : Int32), μ12))))))))))
set_option maxRecDepth 100000 in
theorem c_X9_swap {G : ZG} {l : Launch} {x1 : Int32} {x2 : Int32} {μ : Mem} {r : Int32} {μ' : Mem} (h : f_X9_swap x1 x2 μ = some (r, μ')) : zC ZC G l yX9_swap cX9_swap 3 (some .int) 3 [.ref (zad G 0), .int x1, .int x2] μ (some (.int r)) μ' := by
  refine zC.mk (by decide +kernel) (Nat.le_of_ble_eq_true rfl) ?_
  intro p e s m below meth c ls B hl hW
  have B : zB ZC G cX9_swap 3 "DarkShares" (some .int) p s m [.ref (zad G 0), .int x1, .int x2].toArray meth c := B
  have hl : lv_has ls 3 [(0, .ref (zad G 0)), (1, .int x1), (2, .int x2)] := hl
  have hx := B.1
  have hb := B.2.1
  have hf := h
  unfold f_X9_swap at hf
  refine lv_iload_n (pc := 0) hx hb dX9_swap_0 rfl (lv_at hl 1 rfl) ?_
  refine s_X9_87 (pc := 1) B hW hl.1 (by decide) (zle8 rfl) dX9_swap_1 (fun _ _ h => c_X9_isCell h) hf (fun r2 μ1 H locs hW hf => ?_)
  refine yif_eq (pc := 4) (tgt := 19) B dX9_swap_4 (by decide) hf (fun hf => ?_) (fun hf => ?_)
  · refine lv_aload_n (pc := 19) hx hb dX9_swap_19 rfl (lv_at hl 0 rfl) ?_
    refine s_X9_76 (pc := 20) B hW hl.1 (by decide) (zle8 rfl) dX9_swap_20 (fun _ _ h => c_X9_bad h) hf (fun r4 μ3 H locs hW hf => ?_)
    exact zreti (pc := 23) B hW hf dX9_swap_23
  · refine lv_iload_n (pc := 7) hx hb dX9_swap_7 rfl (lv_at hl 2 rfl) ?_
    refine s_X9_87 (pc := 8) B hW hl.1 (by decide) (zle8 rfl) dX9_swap_8 (fun _ _ h => c_X9_isCell h) hf (fun r6 μ5 H locs hW hf => ?_)
    refine yif_eq (pc := 11) (tgt := 19) B dX9_swap_11 (by decide) hf (fun hf => ?_) (fun hf => ?_)
    · refine lv_aload_n (pc := 19) hx hb dX9_swap_19 rfl (lv_at hl 0 rfl) ?_
      refine s_X9_76 (pc := 20) B hW hl.1 (by decide) (zle8 rfl) dX9_swap_20 (fun _ _ h => c_X9_bad h) hf (fun r8 μ7 H locs hW hf => ?_)
      exact zreti (pc := 23) B hW hf dX9_swap_23
    · refine lv_iload_n (pc := 14) hx hb dX9_swap_14 rfl (lv_at hl 1 rfl) ?_
      refine lv_iload_n (pc := 15) hx hb dX9_swap_15 rfl (lv_at hl 2 rfl) ?_
      refine yic_ne (pc := 16) (tgt := 24) B dX9_swap_16 (by decide) hf (fun hf => ?_) (fun hf => ?_)
      · refine lv_aload_n (pc := 24) hx hb dX9_swap_24 rfl (lv_at hl 0 rfl) ?_
        refine g_X9_32 (pc := 25) B hW dX9_swap_25 ?_
        refine lv_iload_n (pc := 28) hx hb dX9_swap_28 rfl (lv_at hl 1 rfl) ?_
        refine lv_iload_n (pc := 29) hx hb dX9_swap_29 rfl (lv_at hl 2 rfl) ?_
        refine s_X9_119 (pc := 30) B hW hl.1 zN1 (by decide) (zle8 rfl) dX9_swap_30 (fun _ _ h => c_X1_ofUnlikeBoys zN1 h) hf (fun r10 μ9 H locs hW hf => ?_)
        refine yif_ne (pc := 33) (tgt := 41) B dX9_swap_33 (by decide) hf (fun hf => ?_) (fun hf => ?_)
        · refine lv_aload_n (pc := 41) hx hb dX9_swap_41 rfl (lv_at hl 0 rfl) ?_
          refine g_X9_32 (pc := 42) B hW dX9_swap_42 ?_
          refine s_X9_101 (pc := 45) B hW hl.1 zN1 (by decide) (zle8 rfl) dX9_swap_45 (fun _ _ h => c_X1_remember zN1 h) hf (fun _ μ11 H locs hW hf => ?_)
          refine lv_aload_n (pc := 48) hx hb dX9_swap_48 rfl (lv_at hl 0 rfl) ?_
          refine g_X9_32 (pc := 49) B hW dX9_swap_49 ?_
          refine lv_iload_n (pc := 52) hx hb dX9_swap_52 rfl (lv_at hl 1 rfl) ?_
          refine lv_iload_n (pc := 53) hx hb dX9_swap_53 rfl (lv_at hl 2 rfl) ?_
          refine s_X9_125 (pc := 54) B hW hl.1 zN1 (by decide) (zle8 rfl) dX9_swap_54 (fun _ _ h => c_X1_changeHands zN1 h) hf (fun _ μ12 H locs hW hf => ?_)
          refine lv_iconst (pc := 57) (v := (1 : Int32)) hx hb dX9_swap_57 rfl ?_
          exact zreti (pc := 58) B hW hf dX9_swap_58
        · refine lv_aload_n (pc := 36) hx hb dX9_swap_36 rfl (lv_at hl 0 rfl) ?_
          refine s_X9_122 (pc := 37) B hW hl.1 (by decide) (zle8 rfl) dX9_swap_37 (fun _ _ h => c_X9_no h) hf (fun r14 μ13 H locs hW hf => ?_)
          exact zreti (pc := 40) B hW hf dX9_swap_40
      · refine lv_aload_n (pc := 19) hx hb dX9_swap_19 rfl (lv_at hl 0 rfl) ?_
        refine s_X9_76 (pc := 20) B hW hl.1 (by decide) (zle8 rfl) dX9_swap_20 (fun _ _ h => c_X9_bad h) hf (fun r16 μ15 H locs hW hf => ?_)
        exact zreti (pc := 23) B hW hf dX9_swap_23
noncomputable def f_X9_sell (x1 : Int32) (x2 : Int32) (x3 : Int32) (μ : Mem) : Option (Int32 × Mem) := zbind (f_X9_isCell x1 μ) (fun r2 μ1 => (if r2 = 0 then zbind (f_X9_bad μ1) (fun r4 μ3 => some (r4, μ3)) else zbind (f_X9_isBoy x2 μ1) (fun r6 μ5 => (if r6 = 0 then zbind (f_X9_bad μ5) (fun r8 μ7 => some (r8, μ7)) else zbind (f_X9_within x3 (40 : Int32) μ5) (fun r10 μ9 => (if r10 = 0 then zbind (f_X9_bad μ9) (fun r22 μ21 => some (r22, μ21)) else zck (zin x1 12) ((if (μ9.1 (1 + 4) (x1).toNatClampNeg) = x2 then zbind (f_X9_no μ9) (fun r12 μ11 => some (r12, μ11)) else zck (zin x2 5) ((if x3 ≤ (μ9.1 (1 + 3) (x2).toNatClampNeg) then zbind (f_X1_remember 1 μ9) (fun _ μ13 => zck (zin x1 12) (zlet (zI μ13 (1 + 4) (x1).toNatClampNeg x2) (fun μ14 => zck (zin x2 5) (zck (zin x2 5) (zlet (zI μ14 (1 + 3) (x2).toNatClampNeg ((μ14.1 (1 + 3) (x2).toNatClampNeg) - x3)) (fun μ15 => zbind (f_X9_isBoy (μ9.1 (1 + 4) (x1).toNatClampNeg) μ15) (fun r17 μ16 => (if r17 = 0 then zck (zin x2 5) (some ((μ16.1 (1 + 3) (x2).toNatClampNeg), μ16)) else zck (zin (μ9.1 (1 + 4) (x1).toNatClampNeg) 5) (zck (zin (μ9.1 (1 + 4) (x1).toNatClampNeg) 5) (zlet (zI μ16 (1 + 3) ((μ9.1 (1 + 4) (x1).toNatClampNeg)).toNatClampNeg ((μ16.1 (1 + 3) ((μ9.1 (1 + 4) (x1).toNatClampNeg)).toNatClampNeg) + x3)) (fun μ18 => zck (zin x2 5) (some ((μ18.1 (1 + 3) (x2).toNatClampNeg), μ18))))))))))))) else zbind (f_X9_no μ9) (fun r20 μ19 => some (r20, μ19))))))))))))
set_option maxRecDepth 100000 in
theorem c_X9_sell {G : ZG} {l : Launch} {x1 : Int32} {x2 : Int32} {x3 : Int32} {μ : Mem} {r : Int32} {μ' : Mem} (h : f_X9_sell x1 x2 x3 μ = some (r, μ')) : zC ZC G l yX9_sell cX9_sell 5 (some .int) 3 [.ref (zad G 0), .int x1, .int x2, .int x3] μ (some (.int r)) μ' := by
  refine zC.mk (by decide +kernel) (Nat.le_of_ble_eq_true rfl) ?_
  intro p e s m below meth c ls B hl hW
  have B : zB ZC G cX9_sell 5 "DarkShares" (some .int) p s m [.ref (zad G 0), .int x1, .int x2, .int x3].toArray meth c := B
  have hl : lv_has ls 5 [(0, .ref (zad G 0)), (1, .int x1), (2, .int x2), (3, .int x3)] := hl
  have hx := B.1
  have hb := B.2.1
  have hf := h
  unfold f_X9_sell at hf
  refine lv_iload_n (pc := 0) hx hb dX9_sell_0 rfl (lv_at hl 1 rfl) ?_
  refine s_X9_87 (pc := 1) B hW hl.1 (by decide) (zle8 rfl) dX9_sell_1 (fun _ _ h => c_X9_isCell h) hf (fun r2 μ1 H locs hW hf => ?_)
  refine yif_eq (pc := 4) (tgt := 24) B dX9_sell_4 (by decide) hf (fun hf => ?_) (fun hf => ?_)
  · refine lv_aload_n (pc := 24) hx hb dX9_sell_24 rfl (lv_at hl 0 rfl) ?_
    refine s_X9_76 (pc := 25) B hW hl.1 (by decide) (zle8 rfl) dX9_sell_25 (fun _ _ h => c_X9_bad h) hf (fun r4 μ3 H locs hW hf => ?_)
    exact zreti (pc := 28) B hW hf dX9_sell_28
  · refine lv_aload_n (pc := 7) hx hb dX9_sell_7 rfl (lv_at hl 0 rfl) ?_
    refine lv_iload_n (pc := 8) hx hb dX9_sell_8 rfl (lv_at hl 2 rfl) ?_
    refine s_X9_91 (pc := 9) B hW hl.1 (by decide) (zle8 rfl) dX9_sell_9 (fun _ _ h => c_X9_isBoy h) hf (fun r6 μ5 H locs hW hf => ?_)
    refine yif_eq (pc := 12) (tgt := 24) B dX9_sell_12 (by decide) hf (fun hf => ?_) (fun hf => ?_)
    · refine lv_aload_n (pc := 24) hx hb dX9_sell_24 rfl (lv_at hl 0 rfl) ?_
      refine s_X9_76 (pc := 25) B hW hl.1 (by decide) (zle8 rfl) dX9_sell_25 (fun _ _ h => c_X9_bad h) hf (fun r8 μ7 H locs hW hf => ?_)
      exact zreti (pc := 28) B hW hf dX9_sell_28
    · refine lv_iload_n (pc := 15) hx hb dX9_sell_15 rfl (lv_at hl 3 rfl) ?_
      refine lv_bipush (pc := 16) (v := (40 : Int32)) hx hb dX9_sell_16 rfl ?_
      refine s_X9_72 (pc := 18) B hW hl.1 (by decide) (zle8 rfl) dX9_sell_18 (fun _ _ h => c_X9_within h) hf (fun r10 μ9 H locs hW hf => ?_)
      refine yif_ne (pc := 21) (tgt := 29) B dX9_sell_21 (by decide) hf (fun hf => ?_) (fun hf => ?_)
      · refine lv_aload_n (pc := 29) hx hb dX9_sell_29 rfl (lv_at hl 0 rfl) ?_
        refine g_X9_32 (pc := 30) B hW dX9_sell_30 ?_
        refine g_X9_97 (pc := 33) B hW zN1 dX9_sell_33 ?_
        refine lv_iload_n (pc := 36) hx hb dX9_sell_36 rfl (lv_at hl 1 rfl) ?_
        refine yald (pc := 37) B hW (arN4 zN1) dX9_sell_37 hf (fun hf => ?_)
        refine lv_istore (pc := 38) (lv' := [(4, .int (μ9.1 (1 + 4) (x1).toNatClampNeg)), (0, .ref (zad G 0)), (1, .int x1), (2, .int x2), (3, .int x3)]) hx hb dX9_sell_38 hl (by decide) rfl (fun ls hl => ?_)
        refine lv_iload (pc := 40) hx hb dX9_sell_40 (lv_at hl 0 rfl) ?_
        refine lv_iload_n (pc := 42) hx hb dX9_sell_42 rfl (lv_at hl 3 rfl) ?_
        refine yic_eq (pc := 43) (tgt := 59) B dX9_sell_43 (by decide) hf (fun hf => ?_) (fun hf => ?_)
        · refine lv_aload_n (pc := 59) hx hb dX9_sell_59 rfl (lv_at hl 1 rfl) ?_
          refine s_X9_122 (pc := 60) B hW hl.1 (by decide) (zle8 rfl) dX9_sell_60 (fun _ _ h => c_X9_no h) hf (fun r12 μ11 H locs hW hf => ?_)
          exact zreti (pc := 63) B hW hf dX9_sell_63
        · refine lv_aload_n (pc := 46) hx hb dX9_sell_46 rfl (lv_at hl 1 rfl) ?_
          refine g_X9_32 (pc := 47) B hW dX9_sell_47 ?_
          refine g_X9_129 (pc := 50) B hW zN1 dX9_sell_50 ?_
          refine lv_iload_n (pc := 53) hx hb dX9_sell_53 rfl (lv_at hl 3 rfl) ?_
          refine yald (pc := 54) B hW (arN3 zN1) dX9_sell_54 hf (fun hf => ?_)
          refine lv_iload_n (pc := 55) hx hb dX9_sell_55 rfl (lv_at hl 4 rfl) ?_
          refine yic_ge (pc := 56) (tgt := 64) B dX9_sell_56 (by decide) hf (fun hf => ?_) (fun hf => ?_)
          · refine lv_aload_n (pc := 64) hx hb dX9_sell_64 rfl (lv_at hl 1 rfl) ?_
            refine g_X9_32 (pc := 65) B hW dX9_sell_65 ?_
            refine s_X9_101 (pc := 68) B hW hl.1 zN1 (by decide) (zle8 rfl) dX9_sell_68 (fun _ _ h => c_X1_remember zN1 h) hf (fun _ μ13 H locs hW hf => ?_)
            refine lv_aload_n (pc := 71) hx hb dX9_sell_71 rfl (lv_at hl 1 rfl) ?_
            refine g_X9_32 (pc := 72) B hW dX9_sell_72 ?_
            refine g_X9_97 (pc := 75) B hW zN1 dX9_sell_75 ?_
            refine lv_iload_n (pc := 78) hx hb dX9_sell_78 rfl (lv_at hl 2 rfl) ?_
            refine lv_iload_n (pc := 79) hx hb dX9_sell_79 rfl (lv_at hl 3 rfl) ?_
            refine yast (pc := 80) B hW (arN4 zN1) dX9_sell_80 hf (fun μ14 H locs hW hf => ?_)
            refine lv_aload_n (pc := 81) hx hb dX9_sell_81 rfl (lv_at hl 1 rfl) ?_
            refine g_X9_32 (pc := 82) B hW dX9_sell_82 ?_
            refine g_X9_129 (pc := 85) B hW zN1 dX9_sell_85 ?_
            refine lv_iload_n (pc := 88) hx hb dX9_sell_88 rfl (lv_at hl 3 rfl) ?_
            refine lv_dup2_11 (pc := 89) hx hb dX9_sell_89 rfl rfl ?_
            refine yald (pc := 90) B hW (arN3 zN1) dX9_sell_90 hf (fun hf => ?_)
            refine lv_iload_n (pc := 91) hx hb dX9_sell_91 rfl (lv_at hl 4 rfl) ?_
            refine lv_isub (pc := 92) hx hb dX9_sell_92 ?_
            refine yast (pc := 93) B hW (arN3 zN1) dX9_sell_93 hf (fun μ15 H locs hW hf => ?_)
            refine lv_aload_n (pc := 94) hx hb dX9_sell_94 rfl (lv_at hl 1 rfl) ?_
            refine lv_iload (pc := 95) hx hb dX9_sell_95 (lv_at hl 0 rfl) ?_
            refine s_X9_91 (pc := 97) B hW hl.1 (by decide) (zle8 rfl) dX9_sell_97 (fun _ _ h => c_X9_isBoy h) hf (fun r17 μ16 H locs hW hf => ?_)
            refine yif_eq (pc := 100) (tgt := 117) B dX9_sell_100 (by decide) hf (fun hf => ?_) (fun hf => ?_)
            · refine lv_aload_n (pc := 117) hx hb dX9_sell_117 rfl (lv_at hl 1 rfl) ?_
              refine g_X9_32 (pc := 118) B hW dX9_sell_118 ?_
              refine g_X9_129 (pc := 121) B hW zN1 dX9_sell_121 ?_
              refine lv_iload_n (pc := 124) hx hb dX9_sell_124 rfl (lv_at hl 3 rfl) ?_
              refine yald (pc := 125) B hW (arN3 zN1) dX9_sell_125 hf (fun hf => ?_)
              exact zreti (pc := 126) B hW hf dX9_sell_126
            · refine lv_aload_n (pc := 103) hx hb dX9_sell_103 rfl (lv_at hl 1 rfl) ?_
              refine g_X9_32 (pc := 104) B hW dX9_sell_104 ?_
              refine g_X9_129 (pc := 107) B hW zN1 dX9_sell_107 ?_
              refine lv_iload (pc := 110) hx hb dX9_sell_110 (lv_at hl 0 rfl) ?_
              refine lv_dup2_11 (pc := 112) hx hb dX9_sell_112 rfl rfl ?_
              refine yald (pc := 113) B hW (arN3 zN1) dX9_sell_113 hf (fun hf => ?_)
              refine lv_iload_n (pc := 114) hx hb dX9_sell_114 rfl (lv_at hl 4 rfl) ?_
              refine lv_iadd (pc := 115) hx hb dX9_sell_115 ?_
              refine yast (pc := 116) B hW (arN3 zN1) dX9_sell_116 hf (fun μ18 H locs hW hf => ?_)
              refine lv_aload_n (pc := 117) hx hb dX9_sell_117 rfl (lv_at hl 1 rfl) ?_
              refine g_X9_32 (pc := 118) B hW dX9_sell_118 ?_
              refine g_X9_129 (pc := 121) B hW zN1 dX9_sell_121 ?_
              refine lv_iload_n (pc := 124) hx hb dX9_sell_124 rfl (lv_at hl 3 rfl) ?_
              refine yald (pc := 125) B hW (arN3 zN1) dX9_sell_125 hf (fun hf => ?_)
              exact zreti (pc := 126) B hW hf dX9_sell_126
          · refine lv_aload_n (pc := 59) hx hb dX9_sell_59 rfl (lv_at hl 1 rfl) ?_
            refine s_X9_122 (pc := 60) B hW hl.1 (by decide) (zle8 rfl) dX9_sell_60 (fun _ _ h => c_X9_no h) hf (fun r20 μ19 H locs hW hf => ?_)
            exact zreti (pc := 63) B hW hf dX9_sell_63
      · refine lv_aload_n (pc := 24) hx hb dX9_sell_24 rfl (lv_at hl 0 rfl) ?_
        refine s_X9_76 (pc := 25) B hW hl.1 (by decide) (zle8 rfl) dX9_sell_25 (fun _ _ h => c_X9_bad h) hf (fun r22 μ21 H locs hW hf => ?_)
        exact zreti (pc := 28) B hW hf dX9_sell_28
noncomputable def f_X9_undo (μ : Mem) : Option (Int32 × Mem) := (if 0 < (μ.1 1 9) then zbind (f_X1_goBack 1 μ) (fun _ μ1 => zbind (f_X1_greyCells 1 μ1) (fun r3 μ2 => some (r3, μ2))) else zbind (f_X9_no μ) (fun r5 μ4 => some (r5, μ4)))
set_option maxRecDepth 100000 in
theorem c_X9_undo {G : ZG} {l : Launch} {μ : Mem} {r : Int32} {μ' : Mem} (h : f_X9_undo μ = some (r, μ')) : zC ZC G l yX9_undo cX9_undo 1 (some .int) 3 [.ref (zad G 0)] μ (some (.int r)) μ' := by
  refine zC.mk (by decide +kernel) (Nat.le_of_ble_eq_true rfl) ?_
  intro p e s m below meth c ls B hl hW
  have B : zB ZC G cX9_undo 1 "DarkShares" (some .int) p s m [.ref (zad G 0)].toArray meth c := B
  have hl : lv_has ls 1 [(0, .ref (zad G 0))] := hl
  have hx := B.1
  have hb := B.2.1
  have hf := h
  unfold f_X9_undo at hf
  refine lv_aload_n (pc := 0) hx hb dX9_undo_0 rfl (lv_at hl 0 rfl) ?_
  refine g_X9_32 (pc := 1) B hW dX9_undo_1 ?_
  refine g_X9_132 (pc := 4) B hW zN1 dX9_undo_4 ?_
  refine yif_gt (pc := 7) (tgt := 15) B dX9_undo_7 (by decide) hf (fun hf => ?_) (fun hf => ?_)
  · refine lv_aload_n (pc := 15) hx hb dX9_undo_15 rfl (lv_at hl 0 rfl) ?_
    refine g_X9_32 (pc := 16) B hW dX9_undo_16 ?_
    refine s_X9_135 (pc := 19) B hW hl.1 zN1 (by decide) (zle8 rfl) dX9_undo_19 (fun _ _ h => c_X1_goBack zN1 h) hf (fun _ μ1 H locs hW hf => ?_)
    refine lv_aload_n (pc := 22) hx hb dX9_undo_22 rfl (lv_at hl 0 rfl) ?_
    refine g_X9_32 (pc := 23) B hW dX9_undo_23 ?_
    refine s_X9_138 (pc := 26) B hW hl.1 zN1 (by decide) (zle8 rfl) dX9_undo_26 (fun _ _ h => c_X1_greyCells zN1 h) hf (fun r3 μ2 H locs hW hf => ?_)
    exact zreti (pc := 29) B hW hf dX9_undo_29
  · refine lv_aload_n (pc := 10) hx hb dX9_undo_10 rfl (lv_at hl 0 rfl) ?_
    refine s_X9_122 (pc := 11) B hW hl.1 (by decide) (zle8 rfl) dX9_undo_11 (fun _ _ h => c_X9_no h) hf (fun r5 μ4 H locs hW hf => ?_)
    exact zreti (pc := 14) B hW hf dX9_undo_14
noncomputable def f_X9_of (x1 : Int32) (x2 : Int32) (μ : Mem) : Option (Int32 × Mem) := zbind (f_X9_isBoy x1 μ) (fun r2 μ1 => (if r2 = 0 then zbind (f_X9_bad μ1) (fun r10 μ9 => some (r10, μ9)) else (if x2 = (0 : Int32) then zck (zin x1 5) (some ((μ1.1 (1 + 1) (x1).toNatClampNeg), μ1)) else (if x2 = (1 : Int32) then zck (zin x1 5) (some ((μ1.1 (1 + 2) (x1).toNatClampNeg), μ1)) else (if x2 = (2 : Int32) then zck (zin x1 5) (some ((μ1.1 (1 + 3) (x1).toNatClampNeg), μ1)) else (if x2 = (3 : Int32) then zbind (f_X1_cellsOf 1 x1 μ1) (fun r4 μ3 => some (r4, μ3)) else (if x2 = (4 : Int32) then zbind (f_X1_ownWorth 1 x1 μ1) (fun r6 μ5 => some (r6, μ5)) else zbind (f_X9_bad μ1) (fun r8 μ7 => some (r8, μ7)))))))))
set_option maxRecDepth 100000 in
theorem c_X9_of {G : ZG} {l : Launch} {x1 : Int32} {x2 : Int32} {μ : Mem} {r : Int32} {μ' : Mem} (h : f_X9_of x1 x2 μ = some (r, μ')) : zC ZC G l yX9_of cX9_of 3 (some .int) 6 [.ref (zad G 0), .int x1, .int x2] μ (some (.int r)) μ' := by
  refine zC.mk (by decide +kernel) (Nat.le_of_ble_eq_true rfl) ?_
  intro p e s m below meth c ls B hl hW
  have B : zB ZC G cX9_of 3 "DarkShares" (some .int) p s m [.ref (zad G 0), .int x1, .int x2].toArray meth c := B
  have hl : lv_has ls 3 [(0, .ref (zad G 0)), (1, .int x1), (2, .int x2)] := hl
  have hx := B.1
  have hb := B.2.1
  have hf := h
  unfold f_X9_of at hf
  refine lv_aload_n (pc := 0) hx hb dX9_of_0 rfl (lv_at hl 0 rfl) ?_
  refine lv_iload_n (pc := 1) hx hb dX9_of_1 rfl (lv_at hl 1 rfl) ?_
  refine s_X9_91 (pc := 2) B hW hl.1 (by decide) (zle8 rfl) dX9_of_2 (fun _ _ h => c_X9_isBoy h) hf (fun r2 μ1 H locs hW hf => ?_)
  refine yif_ne (pc := 5) (tgt := 13) B dX9_of_5 (by decide) hf (fun hf => ?_) (fun hf => ?_)
  · refine lv_iload_n (pc := 13) hx hb dX9_of_13 rfl (lv_at hl 2 rfl) ?_
    rcases zsw hf with ⟨c0, hf⟩ | ⟨c0, hf⟩
    · refine ytabin (pc := 14) (tgt := 48) B dX9_of_14 c0 (by decide) (by decide) rfl (by decide) ?_
      refine lv_aload_n (pc := 48) hx hb dX9_of_48 rfl (lv_at hl 0 rfl) ?_
      refine g_X9_32 (pc := 49) B hW dX9_of_49 ?_
      refine g_X9_141 (pc := 52) B hW zN1 dX9_of_52 ?_
      refine lv_iload_n (pc := 55) hx hb dX9_of_55 rfl (lv_at hl 1 rfl) ?_
      refine yald (pc := 56) B hW (arN1 zN1) dX9_of_56 hf (fun hf => ?_)
      exact zreti (pc := 57) B hW hf dX9_of_57
    rcases zsw hf with ⟨c1, hf⟩ | ⟨c1, hf⟩
    · refine ytabin (pc := 14) (tgt := 58) B dX9_of_14 c1 (by decide) (by decide) rfl (by decide) ?_
      refine lv_aload_n (pc := 58) hx hb dX9_of_58 rfl (lv_at hl 0 rfl) ?_
      refine g_X9_32 (pc := 59) B hW dX9_of_59 ?_
      refine g_X9_144 (pc := 62) B hW zN1 dX9_of_62 ?_
      refine lv_iload_n (pc := 65) hx hb dX9_of_65 rfl (lv_at hl 1 rfl) ?_
      refine yald (pc := 66) B hW (arN2 zN1) dX9_of_66 hf (fun hf => ?_)
      exact zreti (pc := 67) B hW hf dX9_of_67
    rcases zsw hf with ⟨c2, hf⟩ | ⟨c2, hf⟩
    · refine ytabin (pc := 14) (tgt := 68) B dX9_of_14 c2 (by decide) (by decide) rfl (by decide) ?_
      refine lv_aload_n (pc := 68) hx hb dX9_of_68 rfl (lv_at hl 0 rfl) ?_
      refine g_X9_32 (pc := 69) B hW dX9_of_69 ?_
      refine g_X9_129 (pc := 72) B hW zN1 dX9_of_72 ?_
      refine lv_iload_n (pc := 75) hx hb dX9_of_75 rfl (lv_at hl 1 rfl) ?_
      refine yald (pc := 76) B hW (arN3 zN1) dX9_of_76 hf (fun hf => ?_)
      exact zreti (pc := 77) B hW hf dX9_of_77
    rcases zsw hf with ⟨c3, hf⟩ | ⟨c3, hf⟩
    · refine ytabin (pc := 14) (tgt := 78) B dX9_of_14 c3 (by decide) (by decide) rfl (by decide) ?_
      refine lv_aload_n (pc := 78) hx hb dX9_of_78 rfl (lv_at hl 0 rfl) ?_
      refine g_X9_32 (pc := 79) B hW dX9_of_79 ?_
      refine lv_iload_n (pc := 82) hx hb dX9_of_82 rfl (lv_at hl 1 rfl) ?_
      refine s_X9_147 (pc := 83) B hW hl.1 zN1 (by decide) (zle8 rfl) dX9_of_83 (fun _ _ h => c_X1_cellsOf zN1 h) hf (fun r4 μ3 H locs hW hf => ?_)
      exact zreti (pc := 86) B hW hf dX9_of_86
    rcases zsw hf with ⟨c4, hf⟩ | ⟨c4, hf⟩
    · refine ytabin (pc := 14) (tgt := 87) B dX9_of_14 c4 (by decide) (by decide) rfl (by decide) ?_
      refine lv_aload_n (pc := 87) hx hb dX9_of_87 rfl (lv_at hl 0 rfl) ?_
      refine g_X9_32 (pc := 88) B hW dX9_of_88 ?_
      refine lv_iload_n (pc := 91) hx hb dX9_of_91 rfl (lv_at hl 1 rfl) ?_
      refine s_X9_151 (pc := 92) B hW hl.1 zN1 (by decide) (zle8 rfl) dX9_of_92 (fun _ _ h => c_X1_ownWorth zN1 h) hf (fun r6 μ5 H locs hW hf => ?_)
      exact zreti (pc := 95) B hW hf dX9_of_95
    have e0 := zne c0 (show ((0 : Int32)).toInt = 0 from by decide)
    have e1 := zne c1 (show ((1 : Int32)).toInt = 1 from by decide)
    have e2 := zne c2 (show ((2 : Int32)).toInt = 2 from by decide)
    have e3 := zne c3 (show ((3 : Int32)).toInt = 3 from by decide)
    have e4 := zne c4 (show ((4 : Int32)).toInt = 4 from by decide)
    refine ytabout (pc := 14) (tgt := 96) B dX9_of_14 (by omega) (by decide) ?_
    refine lv_aload_n (pc := 96) hx hb dX9_of_96 rfl (lv_at hl 0 rfl) ?_
    refine s_X9_76 (pc := 97) B hW hl.1 (by decide) (zle8 rfl) dX9_of_97 (fun _ _ h => c_X9_bad h) hf (fun r8 μ7 H locs hW hf => ?_)
    exact zreti (pc := 100) B hW hf dX9_of_100
  · refine lv_aload_n (pc := 8) hx hb dX9_of_8 rfl (lv_at hl 0 rfl) ?_
    refine s_X9_76 (pc := 9) B hW hl.1 (by decide) (zle8 rfl) dX9_of_9 (fun _ _ h => c_X9_bad h) hf (fun r10 μ9 H locs hW hf => ?_)
    exact zreti (pc := 12) B hW hf dX9_of_12
noncomputable def f_X9_worth (x1 : Int32) (x2 : Int32) (μ : Mem) : Option (Int32 × Mem) := zbind (f_X9_isBoy x1 μ) (fun r2 μ1 => (if r2 = 0 then zbind (f_X9_bad μ1) (fun r4 μ3 => some (r4, μ3)) else zbind (f_X9_within x2 (4095 : Int32) μ1) (fun r6 μ5 => (if r6 = 0 then zbind (f_X9_bad μ5) (fun r10 μ9 => some (r10, μ9)) else zbind (f_X1_worthTo 1 x1 x2 μ5) (fun r8 μ7 => some (r8, μ7))))))
set_option maxRecDepth 100000 in
theorem c_X9_worth {G : ZG} {l : Launch} {x1 : Int32} {x2 : Int32} {μ : Mem} {r : Int32} {μ' : Mem} (h : f_X9_worth x1 x2 μ = some (r, μ')) : zC ZC G l yX9_worth cX9_worth 3 (some .int) 5 [.ref (zad G 0), .int x1, .int x2] μ (some (.int r)) μ' := by
  refine zC.mk (by decide +kernel) (Nat.le_of_ble_eq_true rfl) ?_
  intro p e s m below meth c ls B hl hW
  have B : zB ZC G cX9_worth 3 "DarkShares" (some .int) p s m [.ref (zad G 0), .int x1, .int x2].toArray meth c := B
  have hl : lv_has ls 3 [(0, .ref (zad G 0)), (1, .int x1), (2, .int x2)] := hl
  have hx := B.1
  have hb := B.2.1
  have hf := h
  unfold f_X9_worth at hf
  refine lv_aload_n (pc := 0) hx hb dX9_worth_0 rfl (lv_at hl 0 rfl) ?_
  refine lv_iload_n (pc := 1) hx hb dX9_worth_1 rfl (lv_at hl 1 rfl) ?_
  refine s_X9_91 (pc := 2) B hW hl.1 (by decide) (zle8 rfl) dX9_worth_2 (fun _ _ h => c_X9_isBoy h) hf (fun r2 μ1 H locs hW hf => ?_)
  refine yif_eq (pc := 5) (tgt := 18) B dX9_worth_5 (by decide) hf (fun hf => ?_) (fun hf => ?_)
  · refine lv_aload_n (pc := 18) hx hb dX9_worth_18 rfl (lv_at hl 0 rfl) ?_
    refine s_X9_76 (pc := 19) B hW hl.1 (by decide) (zle8 rfl) dX9_worth_19 (fun _ _ h => c_X9_bad h) hf (fun r4 μ3 H locs hW hf => ?_)
    exact zreti (pc := 22) B hW hf dX9_worth_22
  · refine lv_iload_n (pc := 8) hx hb dX9_worth_8 rfl (lv_at hl 2 rfl) ?_
    refine lv_sipush (pc := 9) (v := (4095 : Int32)) hx hb dX9_worth_9 rfl ?_
    refine s_X9_72 (pc := 12) B hW hl.1 (by decide) (zle8 rfl) dX9_worth_12 (fun _ _ h => c_X9_within h) hf (fun r6 μ5 H locs hW hf => ?_)
    refine yif_ne (pc := 15) (tgt := 23) B dX9_worth_15 (by decide) hf (fun hf => ?_) (fun hf => ?_)
    · refine lv_aload_n (pc := 23) hx hb dX9_worth_23 rfl (lv_at hl 0 rfl) ?_
      refine g_X9_32 (pc := 24) B hW dX9_worth_24 ?_
      refine lv_iload_n (pc := 27) hx hb dX9_worth_27 rfl (lv_at hl 1 rfl) ?_
      refine lv_iload_n (pc := 28) hx hb dX9_worth_28 rfl (lv_at hl 2 rfl) ?_
      refine s_X9_154 (pc := 29) B hW hl.1 zN1 (by decide) (zle8 rfl) dX9_worth_29 (fun _ _ h => c_X1_worthTo zN1 h) hf (fun r8 μ7 H locs hW hf => ?_)
      exact zreti (pc := 32) B hW hf dX9_worth_32
    · refine lv_aload_n (pc := 18) hx hb dX9_worth_18 rfl (lv_at hl 0 rfl) ?_
      refine s_X9_76 (pc := 19) B hW hl.1 (by decide) (zle8 rfl) dX9_worth_19 (fun _ _ h => c_X9_bad h) hf (fun r10 μ9 H locs hW hf => ?_)
      exact zreti (pc := 22) B hW hf dX9_worth_22
noncomputable def f_X9_whose (x1 : Int32) (μ : Mem) : Option (Int32 × Mem) := zbind (f_X9_isCell x1 μ) (fun r2 μ1 => (if r2 = 0 then zbind (f_X9_otherBad μ1) (fun r4 μ3 => some (r4, μ3)) else zck (zin x1 12) (some ((μ1.1 (1 + 4) (x1).toNatClampNeg), μ1))))
set_option maxRecDepth 100000 in
theorem c_X9_whose {G : ZG} {l : Launch} {x1 : Int32} {μ : Mem} {r : Int32} {μ' : Mem} (h : f_X9_whose x1 μ = some (r, μ')) : zC ZC G l yX9_whose cX9_whose 2 (some .int) 3 [.ref (zad G 0), .int x1] μ (some (.int r)) μ' := by
  refine zC.mk (by decide +kernel) (Nat.le_of_ble_eq_true rfl) ?_
  intro p e s m below meth c ls B hl hW
  have B : zB ZC G cX9_whose 2 "DarkShares" (some .int) p s m [.ref (zad G 0), .int x1].toArray meth c := B
  have hl : lv_has ls 2 [(0, .ref (zad G 0)), (1, .int x1)] := hl
  have hx := B.1
  have hb := B.2.1
  have hf := h
  unfold f_X9_whose at hf
  refine lv_iload_n (pc := 0) hx hb dX9_whose_0 rfl (lv_at hl 1 rfl) ?_
  refine s_X9_87 (pc := 1) B hW hl.1 (by decide) (zle8 rfl) dX9_whose_1 (fun _ _ h => c_X9_isCell h) hf (fun r2 μ1 H locs hW hf => ?_)
  refine yif_eq (pc := 4) (tgt := 19) B dX9_whose_4 (by decide) hf (fun hf => ?_) (fun hf => ?_)
  · refine lv_aload_n (pc := 19) hx hb dX9_whose_19 rfl (lv_at hl 0 rfl) ?_
    refine s_X9_94 (pc := 20) B hW hl.1 (by decide) (zle8 rfl) dX9_whose_20 (fun _ _ h => c_X9_otherBad h) hf (fun r4 μ3 H locs hW hf => ?_)
    exact zreti (pc := 23) B hW hf dX9_whose_23
  · refine lv_aload_n (pc := 7) hx hb dX9_whose_7 rfl (lv_at hl 0 rfl) ?_
    refine g_X9_32 (pc := 8) B hW dX9_whose_8 ?_
    refine g_X9_97 (pc := 11) B hW zN1 dX9_whose_11 ?_
    refine lv_iload_n (pc := 14) hx hb dX9_whose_14 rfl (lv_at hl 1 rfl) ?_
    refine yald (pc := 15) B hW (arN4 zN1) dX9_whose_15 hf (fun hf => ?_)
    refine lv_goto (pc := 16) (tgt := 23) hx hb dX9_whose_16 (by decide) ?_
    exact zreti (pc := 23) B hW hf dX9_whose_23
noncomputable def f_X9_enough (μ : Mem) : Option (Int32 × Mem) := zbind (f_X1_haveEnough 1 μ) (fun r2 μ1 => some (r2, μ1))
set_option maxRecDepth 100000 in
theorem c_X9_enough {G : ZG} {l : Launch} {μ : Mem} {r : Int32} {μ' : Mem} (h : f_X9_enough μ = some (r, μ')) : zC ZC G l yX9_enough cX9_enough 1 (some .int) 3 [.ref (zad G 0)] μ (some (.int r)) μ' := by
  refine zC.mk (by decide +kernel) (Nat.le_of_ble_eq_true rfl) ?_
  intro p e s m below meth c ls B hl hW
  have B : zB ZC G cX9_enough 1 "DarkShares" (some .int) p s m [.ref (zad G 0)].toArray meth c := B
  have hl : lv_has ls 1 [(0, .ref (zad G 0))] := hl
  have hx := B.1
  have hb := B.2.1
  have hf := h
  unfold f_X9_enough at hf
  refine lv_aload_n (pc := 0) hx hb dX9_enough_0 rfl (lv_at hl 0 rfl) ?_
  refine g_X9_32 (pc := 1) B hW dX9_enough_1 ?_
  refine s_X9_158 (pc := 4) B hW hl.1 zN1 (by decide) (zle8 rfl) dX9_enough_4 (fun _ _ h => c_X1_haveEnough zN1 h) hf (fun r2 μ1 H locs hW hf => ?_)
  exact zreti (pc := 7) B hW hf dX9_enough_7
noncomputable def f_X9_envy (x1 : Int32) (μ : Mem) : Option (Int32 × Mem) := zbind (f_X9_isBoy x1 μ) (fun r2 μ1 => (if r2 = 0 then zbind (f_X9_bad μ1) (fun r4 μ3 => some (r4, μ3)) else zbind (f_X1_enviedBy 1 x1 μ1) (fun r6 μ5 => some (r6, μ5))))
set_option maxRecDepth 100000 in
theorem c_X9_envy {G : ZG} {l : Launch} {x1 : Int32} {μ : Mem} {r : Int32} {μ' : Mem} (h : f_X9_envy x1 μ = some (r, μ')) : zC ZC G l yX9_envy cX9_envy 2 (some .int) 7 [.ref (zad G 0), .int x1] μ (some (.int r)) μ' := by
  refine zC.mk (by decide +kernel) (Nat.le_of_ble_eq_true rfl) ?_
  intro p e s m below meth c ls B hl hW
  have B : zB ZC G cX9_envy 2 "DarkShares" (some .int) p s m [.ref (zad G 0), .int x1].toArray meth c := B
  have hl : lv_has ls 2 [(0, .ref (zad G 0)), (1, .int x1)] := hl
  have hx := B.1
  have hb := B.2.1
  have hf := h
  unfold f_X9_envy at hf
  refine lv_aload_n (pc := 0) hx hb dX9_envy_0 rfl (lv_at hl 0 rfl) ?_
  refine lv_iload_n (pc := 1) hx hb dX9_envy_1 rfl (lv_at hl 1 rfl) ?_
  refine s_X9_91 (pc := 2) B hW hl.1 (by decide) (zle8 rfl) dX9_envy_2 (fun _ _ h => c_X9_isBoy h) hf (fun r2 μ1 H locs hW hf => ?_)
  refine yif_eq (pc := 5) (tgt := 19) B dX9_envy_5 (by decide) hf (fun hf => ?_) (fun hf => ?_)
  · refine lv_aload_n (pc := 19) hx hb dX9_envy_19 rfl (lv_at hl 0 rfl) ?_
    refine s_X9_76 (pc := 20) B hW hl.1 (by decide) (zle8 rfl) dX9_envy_20 (fun _ _ h => c_X9_bad h) hf (fun r4 μ3 H locs hW hf => ?_)
    exact zreti (pc := 23) B hW hf dX9_envy_23
  · refine lv_aload_n (pc := 8) hx hb dX9_envy_8 rfl (lv_at hl 0 rfl) ?_
    refine g_X9_32 (pc := 9) B hW dX9_envy_9 ?_
    refine lv_iload_n (pc := 12) hx hb dX9_envy_12 rfl (lv_at hl 1 rfl) ?_
    refine s_X9_161 (pc := 13) B hW hl.1 zN1 (by decide) (zle8 rfl) dX9_envy_13 (fun _ _ h => c_X1_enviedBy zN1 h) hf (fun r6 μ5 H locs hW hf => ?_)
    refine lv_goto (pc := 16) (tgt := 23) hx hb dX9_envy_16 (by decide) ?_
    exact zreti (pc := 23) B hW hf dX9_envy_23
noncomputable def f_X9_fair (x1 : Int32) (μ : Mem) : Option (Int32 × Mem) := zbind (f_X9_isBoy x1 μ) (fun r2 μ1 => (if r2 = 0 then zbind (f_X9_bad μ1) (fun r8 μ7 => some (r8, μ7)) else zbind (f_X1_cellsOf 1 x1 μ1) (fun r4 μ3 => zbind (f_X1_isFair 1 x1 r4 μ3) (fun r6 μ5 => (if r6 = 0 then some ((0 : Int32), μ5) else some ((1 : Int32), μ5))))))
set_option maxRecDepth 100000 in
theorem c_X9_fair {G : ZG} {l : Launch} {x1 : Int32} {μ : Mem} {r : Int32} {μ' : Mem} (h : f_X9_fair x1 μ = some (r, μ')) : zC ZC G l yX9_fair cX9_fair 2 (some .int) 6 [.ref (zad G 0), .int x1] μ (some (.int r)) μ' := by
  refine zC.mk (by decide +kernel) (Nat.le_of_ble_eq_true rfl) ?_
  intro p e s m below meth c ls B hl hW
  have B : zB ZC G cX9_fair 2 "DarkShares" (some .int) p s m [.ref (zad G 0), .int x1].toArray meth c := B
  have hl : lv_has ls 2 [(0, .ref (zad G 0)), (1, .int x1)] := hl
  have hx := B.1
  have hb := B.2.1
  have hf := h
  unfold f_X9_fair at hf
  refine lv_aload_n (pc := 0) hx hb dX9_fair_0 rfl (lv_at hl 0 rfl) ?_
  refine lv_iload_n (pc := 1) hx hb dX9_fair_1 rfl (lv_at hl 1 rfl) ?_
  refine s_X9_91 (pc := 2) B hW hl.1 (by decide) (zle8 rfl) dX9_fair_2 (fun _ _ h => c_X9_isBoy h) hf (fun r2 μ1 H locs hW hf => ?_)
  refine yif_ne (pc := 5) (tgt := 13) B dX9_fair_5 (by decide) hf (fun hf => ?_) (fun hf => ?_)
  · refine lv_aload_n (pc := 13) hx hb dX9_fair_13 rfl (lv_at hl 0 rfl) ?_
    refine g_X9_32 (pc := 14) B hW dX9_fair_14 ?_
    refine lv_iload_n (pc := 17) hx hb dX9_fair_17 rfl (lv_at hl 1 rfl) ?_
    refine lv_aload_n (pc := 18) hx hb dX9_fair_18 rfl (lv_at hl 0 rfl) ?_
    refine g_X9_32 (pc := 19) B hW dX9_fair_19 ?_
    refine lv_iload_n (pc := 22) hx hb dX9_fair_22 rfl (lv_at hl 1 rfl) ?_
    refine s_X9_147 (pc := 23) B hW hl.1 zN1 (by decide) (zle8 rfl) dX9_fair_23 (fun _ _ h => c_X1_cellsOf zN1 h) hf (fun r4 μ3 H locs hW hf => ?_)
    refine s_X9_164 (pc := 26) B hW hl.1 zN1 (by decide) (zle8 rfl) dX9_fair_26 (fun _ _ h => c_X1_isFair zN1 h) hf (fun r6 μ5 H locs hW hf => ?_)
    refine yif_eq (pc := 29) (tgt := 36) B dX9_fair_29 (by decide) hf (fun hf => ?_) (fun hf => ?_)
    · refine lv_iconst (pc := 36) (v := (0 : Int32)) hx hb dX9_fair_36 rfl ?_
      exact zreti (pc := 37) B hW hf dX9_fair_37
    · refine lv_iconst (pc := 32) (v := (1 : Int32)) hx hb dX9_fair_32 rfl ?_
      refine lv_goto (pc := 33) (tgt := 37) hx hb dX9_fair_33 (by decide) ?_
      exact zreti (pc := 37) B hW hf dX9_fair_37
  · refine lv_aload_n (pc := 8) hx hb dX9_fair_8 rfl (lv_at hl 0 rfl) ?_
    refine s_X9_76 (pc := 9) B hW hl.1 (by decide) (zle8 rfl) dX9_fair_9 (fun _ _ h => c_X9_bad h) hf (fun r8 μ7 H locs hW hf => ?_)
    exact zreti (pc := 12) B hW hf dX9_fair_12
noncomputable def f_X9_pieces (x1 : Int32) (μ : Mem) : Option (Int32 × Mem) := (if (-1 : Int32) ≤ x1 then zbind (f_X2_search zSD 1 (0 : Int32) (0 : Int32) (0 : Int32) μ) (fun _ μ1 => (if (μ1.1 38 2) = (-1 : Int32) then some ((μ1.1 38 2), μ1) else (if x1 = (-1 : Int32) then some ((μ1.1 38 2), μ1) else (if (μ1.1 1 7) ≤ x1 then some ((-5 : Int32), μ1) else zck (zin x1 5) (some ((μ1.1 40 (x1).toNatClampNeg), μ1)))))) else zbind (f_X9_otherBad μ) (fun r3 μ2 => some (r3, μ2)))
set_option maxRecDepth 100000 in
theorem c_X9_pieces {G : ZG} {l : Launch} {x1 : Int32} {μ : Mem} {r : Int32} {μ' : Mem} (h : f_X9_pieces x1 μ = some (r, μ')) : zC ZC G l yX9_pieces cX9_pieces 2 (some .int) 16 [.ref (zad G 0), .int x1] μ (some (.int r)) μ' := by
  refine zC.mk (by decide +kernel) (Nat.le_of_ble_eq_true rfl) ?_
  intro p e s m below meth c ls B hl hW
  have B : zB ZC G cX9_pieces 2 "DarkShares" (some .int) p s m [.ref (zad G 0), .int x1].toArray meth c := B
  have hl : lv_has ls 2 [(0, .ref (zad G 0)), (1, .int x1)] := hl
  have hx := B.1
  have hb := B.2.1
  have hf := h
  unfold f_X9_pieces at hf
  refine lv_iload_n (pc := 0) hx hb dX9_pieces_0 rfl (lv_at hl 1 rfl) ?_
  refine lv_iconst (pc := 1) (v := (-1 : Int32)) hx hb dX9_pieces_1 rfl ?_
  refine yic_ge (pc := 2) (tgt := 10) B dX9_pieces_2 (by decide) hf (fun hf => ?_) (fun hf => ?_)
  · refine lv_aload_n (pc := 10) hx hb dX9_pieces_10 rfl (lv_at hl 0 rfl) ?_
    refine g_X9_50 (pc := 11) B hW dX9_pieces_11 ?_
    refine lv_aload_n (pc := 14) hx hb dX9_pieces_14 rfl (lv_at hl 0 rfl) ?_
    refine g_X9_32 (pc := 15) B hW dX9_pieces_15 ?_
    refine lv_iconst (pc := 18) (v := (0 : Int32)) hx hb dX9_pieces_18 rfl ?_
    refine lv_iconst (pc := 19) (v := (0 : Int32)) hx hb dX9_pieces_19 rfl ?_
    refine lv_iconst (pc := 20) (v := (0 : Int32)) hx hb dX9_pieces_20 rfl ?_
    refine s_X9_167 (pc := 21) B hW hl.1 (zSD_lt (by decide)) (zle8 rfl) dX9_pieces_21 (fun _ _ h => c_X2_search zSD zN1 h) hf (fun _ μ1 H locs hW hf => ?_)
    refine lv_aload_n (pc := 24) hx hb dX9_pieces_24 rfl (lv_at hl 0 rfl) ?_
    refine g_X9_50 (pc := 25) B hW dX9_pieces_25 ?_
    refine g_X9_171 (pc := 28) B hW dX9_pieces_28 ?_
    refine lv_iconst (pc := 31) (v := (-1 : Int32)) hx hb dX9_pieces_31 rfl ?_
    refine yic_eq (pc := 32) (tgt := 40) B dX9_pieces_32 (by decide) hf (fun hf => ?_) (fun hf => ?_)
    · refine lv_aload_n (pc := 40) hx hb dX9_pieces_40 rfl (lv_at hl 0 rfl) ?_
      refine g_X9_50 (pc := 41) B hW dX9_pieces_41 ?_
      refine g_X9_171 (pc := 44) B hW dX9_pieces_44 ?_
      exact zreti (pc := 47) B hW hf dX9_pieces_47
    · refine lv_iload_n (pc := 35) hx hb dX9_pieces_35 rfl (lv_at hl 1 rfl) ?_
      refine lv_iconst (pc := 36) (v := (-1 : Int32)) hx hb dX9_pieces_36 rfl ?_
      refine yic_ne (pc := 37) (tgt := 48) B dX9_pieces_37 (by decide) hf (fun hf => ?_) (fun hf => ?_)
      · refine lv_iload_n (pc := 48) hx hb dX9_pieces_48 rfl (lv_at hl 1 rfl) ?_
        refine lv_aload_n (pc := 49) hx hb dX9_pieces_49 rfl (lv_at hl 0 rfl) ?_
        refine g_X9_32 (pc := 50) B hW dX9_pieces_50 ?_
        refine g_X9_65 (pc := 53) B hW zN1 dX9_pieces_53 ?_
        refine yic_ge (pc := 56) (tgt := 71) B dX9_pieces_56 (by decide) hf (fun hf => ?_) (fun hf => ?_)
        · refine lv_bipush (pc := 71) (v := (-5 : Int32)) hx hb dX9_pieces_71 rfl ?_
          exact zreti (pc := 73) B hW hf dX9_pieces_73
        · refine lv_aload_n (pc := 59) hx hb dX9_pieces_59 rfl (lv_at hl 0 rfl) ?_
          refine g_X9_50 (pc := 60) B hW dX9_pieces_60 ?_
          refine g_X9_174 (pc := 63) B hW dX9_pieces_63 ?_
          refine lv_iload_n (pc := 66) hx hb dX9_pieces_66 rfl (lv_at hl 1 rfl) ?_
          refine yald (pc := 67) B hW ar40 dX9_pieces_67 hf (fun hf => ?_)
          refine lv_goto (pc := 68) (tgt := 73) hx hb dX9_pieces_68 (by decide) ?_
          exact zreti (pc := 73) B hW hf dX9_pieces_73
      · refine lv_aload_n (pc := 40) hx hb dX9_pieces_40 rfl (lv_at hl 0 rfl) ?_
        refine g_X9_50 (pc := 41) B hW dX9_pieces_41 ?_
        refine g_X9_171 (pc := 44) B hW dX9_pieces_44 ?_
        exact zreti (pc := 47) B hW hf dX9_pieces_47
  · refine lv_aload_n (pc := 5) hx hb dX9_pieces_5 rfl (lv_at hl 0 rfl) ?_
    refine s_X9_94 (pc := 6) B hW hl.1 (by decide) (zle8 rfl) dX9_pieces_6 (fun _ _ h => c_X9_otherBad h) hf (fun r3 μ2 H locs hW hf => ?_)
    exact zreti (pc := 9) B hW hf dX9_pieces_9
noncomputable def f_X9_swaps (x1 : Int32) (μ : Mem) : Option (Int32 × Mem) := (if (-1 : Int32) ≤ x1 then (if x1 = (-1 : Int32) then zbind (f_X1_howManySwaps 1 μ) (fun r4 μ3 => some (r4, μ3)) else zbind (f_X1_swapAt 1 x1 μ) (fun r2 μ1 => (if r2 = (-1 : Int32) then some ((-5 : Int32), μ1) else some (r2, μ1)))) else zbind (f_X9_otherBad μ) (fun r6 μ5 => some (r6, μ5)))
set_option maxRecDepth 100000 in
theorem c_X9_swaps {G : ZG} {l : Launch} {x1 : Int32} {μ : Mem} {r : Int32} {μ' : Mem} (h : f_X9_swaps x1 μ = some (r, μ')) : zC ZC G l yX9_swaps cX9_swaps 3 (some .int) 8 [.ref (zad G 0), .int x1] μ (some (.int r)) μ' := by
  refine zC.mk (by decide +kernel) (Nat.le_of_ble_eq_true rfl) ?_
  intro p e s m below meth c ls B hl hW
  have B : zB ZC G cX9_swaps 3 "DarkShares" (some .int) p s m [.ref (zad G 0), .int x1].toArray meth c := B
  have hl : lv_has ls 3 [(0, .ref (zad G 0)), (1, .int x1)] := hl
  have hx := B.1
  have hb := B.2.1
  have hf := h
  unfold f_X9_swaps at hf
  refine lv_iload_n (pc := 0) hx hb dX9_swaps_0 rfl (lv_at hl 1 rfl) ?_
  refine lv_iconst (pc := 1) (v := (-1 : Int32)) hx hb dX9_swaps_1 rfl ?_
  refine yic_ge (pc := 2) (tgt := 10) B dX9_swaps_2 (by decide) hf (fun hf => ?_) (fun hf => ?_)
  · refine lv_iload_n (pc := 10) hx hb dX9_swaps_10 rfl (lv_at hl 1 rfl) ?_
    refine lv_iconst (pc := 11) (v := (-1 : Int32)) hx hb dX9_swaps_11 rfl ?_
    refine yic_ne (pc := 12) (tgt := 23) B dX9_swaps_12 (by decide) hf (fun hf => ?_) (fun hf => ?_)
    · refine lv_aload_n (pc := 23) hx hb dX9_swaps_23 rfl (lv_at hl 0 rfl) ?_
      refine g_X9_32 (pc := 24) B hW dX9_swaps_24 ?_
      refine lv_iload_n (pc := 27) hx hb dX9_swaps_27 rfl (lv_at hl 1 rfl) ?_
      refine s_X9_180 (pc := 28) B hW hl.1 zN1 (by decide) (zle8 rfl) dX9_swaps_28 (fun _ _ h => c_X1_swapAt zN1 h) hf (fun r2 μ1 H locs hW hf => ?_)
      refine lv_istore_n (pc := 31) (lv' := [(2, .int r2), (0, .ref (zad G 0)), (1, .int x1)]) hx hb dX9_swaps_31 rfl hl (by decide) rfl (fun ls hl => ?_)
      refine lv_iload_n (pc := 32) hx hb dX9_swaps_32 rfl (lv_at hl 0 rfl) ?_
      refine lv_iconst (pc := 33) (v := (-1 : Int32)) hx hb dX9_swaps_33 rfl ?_
      refine yic_ne (pc := 34) (tgt := 42) B dX9_swaps_34 (by decide) hf (fun hf => ?_) (fun hf => ?_)
      · refine lv_iload_n (pc := 42) hx hb dX9_swaps_42 rfl (lv_at hl 0 rfl) ?_
        exact zreti (pc := 43) B hW hf dX9_swaps_43
      · refine lv_bipush (pc := 37) (v := (-5 : Int32)) hx hb dX9_swaps_37 rfl ?_
        refine lv_goto (pc := 39) (tgt := 43) hx hb dX9_swaps_39 (by decide) ?_
        exact zreti (pc := 43) B hW hf dX9_swaps_43
    · refine lv_aload_n (pc := 15) hx hb dX9_swaps_15 rfl (lv_at hl 0 rfl) ?_
      refine g_X9_32 (pc := 16) B hW dX9_swaps_16 ?_
      refine s_X9_177 (pc := 19) B hW hl.1 zN1 (by decide) (zle8 rfl) dX9_swaps_19 (fun _ _ h => c_X1_howManySwaps zN1 h) hf (fun r4 μ3 H locs hW hf => ?_)
      exact zreti (pc := 22) B hW hf dX9_swaps_22
  · refine lv_aload_n (pc := 5) hx hb dX9_swaps_5 rfl (lv_at hl 0 rfl) ?_
    refine s_X9_94 (pc := 6) B hW hl.1 (by decide) (zle8 rfl) dX9_swaps_6 (fun _ _ h => c_X9_otherBad h) hf (fun r6 μ5 H locs hW hf => ?_)
    exact zreti (pc := 9) B hW hf dX9_swaps_9
noncomputable def f_X9_steps_13 : Nat → Int32 → Mem → Option (Int32 × Mem)
  | 0, _, _ => none
  | n + 1, x1, μ => (if (99 : Int32) ≤ x1 then some (x1, μ) else zbind (f_X1_swapAt 8 (0 : Int32) μ) (fun r2 μ1 => (if r2 = (-1 : Int32) then some (x1, μ1) else zck (decide (¬ (100 : Int32) = 0)) (zck (decide (¬ (100 : Int32) = 0)) (zbind (f_X1_changeHands 8 (r2 / (100 : Int32)) (r2 - r2 / (100 : Int32) * (100 : Int32)) μ1) (fun _ μ3 => f_X9_steps_13 n (x1 + (1 : Int32)) μ3))))))
set_option maxRecDepth 100000 in
theorem t_X9_steps_13 {G : ZG} {p : Program} {l : Launch} {e : Env} {s : State} {m : MethodId} {args : Array Value} {below : List Frame} {meth : Method} {c : Code} (B : zB ZC G cX9_steps 3 "DarkShares" (some .int) p s m args meth c) : ∀ (n : Nat) {x1 : Int32} {μ : Mem} {H : Heap} {locs : List Loc} {ls : Array Slot} {r : Int32} {μ' : Mem}, lv_has ls 3 [(0, .ref (zad G 0)), (1, .int x1)] → zW ZC G s H locs μ → f_X9_steps_13 n x1 μ = some (r, μ') → W p l e (zR 8) s m args below meth c H locs 0 0 (MQ below (zQ ZC G (some (.int r)) μ') args s 0 0 (zAd ZC G)) (F0 m 13 ls []) := by
  have hx := B.1
  have hb := B.2.1
  intro n
  induction n with
  | zero => intro _ _ _ _ _ _ _ hl hW hf; cases hf
  | succ n ih =>
    intro x1 μ H locs ls r μ' hl hW hf
    rw [f_X9_steps_13] at hf
    refine lv_iload_n (pc := 13) hx hb dX9_steps_13 rfl (lv_at hl 1 rfl) ?_
    refine lv_bipush (pc := 14) (v := (99 : Int32)) hx hb dX9_steps_14 rfl ?_
    refine yic_ge (pc := 16) (tgt := 57) B dX9_steps_16 (by decide) hf (fun hf => ?_) (fun hf => ?_)
    · refine lv_iload_n (pc := 57) hx hb dX9_steps_57 rfl (lv_at hl 1 rfl) ?_
      exact zreti (pc := 58) B hW hf dX9_steps_58
    · refine lv_aload_n (pc := 19) hx hb dX9_steps_19 rfl (lv_at hl 0 rfl) ?_
      refine g_X9_36 (pc := 20) B hW dX9_steps_20 ?_
      refine lv_iconst (pc := 23) (v := (0 : Int32)) hx hb dX9_steps_23 rfl ?_
      refine s_X9_180 (pc := 24) B hW hl.1 zN8 (by decide) (zle8 rfl) dX9_steps_24 (fun _ _ h => c_X1_swapAt zN8 h) hf (fun r2 μ1 H locs hW hf => ?_)
      refine lv_istore_n (pc := 27) (lv' := [(2, .int r2), (0, .ref (zad G 0)), (1, .int x1)]) hx hb dX9_steps_27 rfl hl (by decide) rfl (fun ls hl => ?_)
      refine lv_iload_n (pc := 28) hx hb dX9_steps_28 rfl (lv_at hl 0 rfl) ?_
      refine lv_iconst (pc := 29) (v := (-1 : Int32)) hx hb dX9_steps_29 rfl ?_
      refine yic_ne (pc := 30) (tgt := 36) B dX9_steps_30 (by decide) hf (fun hf => ?_) (fun hf => ?_)
      · refine lv_aload_n (pc := 36) hx hb dX9_steps_36 rfl (lv_at hl 1 rfl) ?_
        refine g_X9_36 (pc := 37) B hW dX9_steps_37 ?_
        refine lv_iload_n (pc := 40) hx hb dX9_steps_40 rfl (lv_at hl 0 rfl) ?_
        refine lv_bipush (pc := 41) (v := (100 : Int32)) hx hb dX9_steps_41 rfl ?_
        refine ydiv (pc := 43) B dX9_steps_43 hf (fun hf => ?_)
        refine lv_iload_n (pc := 44) hx hb dX9_steps_44 rfl (lv_at hl 0 rfl) ?_
        refine lv_bipush (pc := 45) (v := (100 : Int32)) hx hb dX9_steps_45 rfl ?_
        refine yrem (pc := 47) B dX9_steps_47 hf (fun hf => ?_)
        refine s_X9_125 (pc := 48) B hW hl.1 zN8 (by decide) (zle8 rfl) dX9_steps_48 (fun _ _ h => c_X1_changeHands zN8 h) hf (fun _ μ3 H locs hW hf => ?_)
        refine lv_iinc (pc := 51) (v := (x1 + (1 : Int32))) (lv' := [(1, .int (x1 + (1 : Int32))), (2, .int r2), (0, .ref (zad G 0))]) hx hb dX9_steps_51 hl (k := 2) rfl rfl (by decide) rfl (fun ls hl => ?_)
        refine lv_goto (pc := 54) (tgt := 13) hx hb dX9_steps_54 (by decide) ?_
        exact ih (lv_sub hl [2, 0] rfl) hW hf
      · refine lv_goto (pc := 33) (tgt := 57) hx hb dX9_steps_33 (by decide) ?_
        refine lv_iload_n (pc := 57) hx hb dX9_steps_57 rfl (lv_at hl 2 rfl) ?_
        exact zreti (pc := 58) B hW hf dX9_steps_58
noncomputable def f_X9_steps (μ : Mem) : Option (Int32 × Mem) := zbind (f_X1_becomes 8 1 μ) (fun _ μ1 => f_X9_steps_13 zFU (0 : Int32) μ1)
set_option maxRecDepth 100000 in
theorem c_X9_steps {G : ZG} {l : Launch} {μ : Mem} {r : Int32} {μ' : Mem} (h : f_X9_steps μ = some (r, μ')) : zC ZC G l yX9_steps cX9_steps 3 (some .int) 8 [.ref (zad G 0)] μ (some (.int r)) μ' := by
  refine zC.mk (by decide +kernel) (Nat.le_of_ble_eq_true rfl) ?_
  intro p e s m below meth c ls B hl hW
  have B : zB ZC G cX9_steps 3 "DarkShares" (some .int) p s m [.ref (zad G 0)].toArray meth c := B
  have hl : lv_has ls 3 [(0, .ref (zad G 0))] := hl
  have hx := B.1
  have hb := B.2.1
  have hf := h
  unfold f_X9_steps at hf
  refine lv_aload_n (pc := 0) hx hb dX9_steps_0 rfl (lv_at hl 0 rfl) ?_
  refine g_X9_36 (pc := 1) B hW dX9_steps_1 ?_
  refine lv_aload_n (pc := 4) hx hb dX9_steps_4 rfl (lv_at hl 0 rfl) ?_
  refine g_X9_32 (pc := 5) B hW dX9_steps_5 ?_
  refine s_X9_115 (pc := 8) B hW hl.1 zN8 (by decide) (zle8 rfl) dX9_steps_8 (fun _ _ h => c_X1_becomes zN8 zN1 h) hf (fun _ μ1 H locs hW hf => ?_)
  refine lv_iconst (pc := 11) (v := (0 : Int32)) hx hb dX9_steps_11 rfl ?_
  refine lv_istore_n (pc := 12) (lv' := [(1, .int (0 : Int32)), (0, .ref (zad G 0))]) hx hb dX9_steps_12 rfl hl (by decide) rfl (fun ls hl => ?_)
  exact t_X9_steps_13 B zFU (lv_sub hl [1, 0] rfl) hW hf
noncomputable def f_X9_sale (x1 : Int32) (x2 : Int32) (μ : Mem) : Option (Int32 × Mem) := zbind (f_X9_isCell x1 μ) (fun r2 μ1 => (if r2 = 0 then zbind (f_X9_bad μ1) (fun r4 μ3 => some (r4, μ3)) else zbind (f_X9_within x2 (1 : Int32) μ1) (fun r6 μ5 => (if r6 = 0 then zbind (f_X9_bad μ5) (fun r12 μ11 => some (r12, μ11)) else zbind (f_X1_bestBuyer 1 x1 μ5) (fun r8 μ7 => (if r8 = (-1 : Int32) then some (r8, μ7) else (if x2 = 0 then some (r8, μ7) else zbind (f_X1_saleBrings 1 x1 r8 μ7) (fun r10 μ9 => some (r10, μ9)))))))))
set_option maxRecDepth 100000 in
theorem c_X9_sale {G : ZG} {l : Launch} {x1 : Int32} {x2 : Int32} {μ : Mem} {r : Int32} {μ' : Mem} (h : f_X9_sale x1 x2 μ = some (r, μ')) : zC ZC G l yX9_sale cX9_sale 4 (some .int) 8 [.ref (zad G 0), .int x1, .int x2] μ (some (.int r)) μ' := by
  refine zC.mk (by decide +kernel) (Nat.le_of_ble_eq_true rfl) ?_
  intro p e s m below meth c ls B hl hW
  have B : zB ZC G cX9_sale 4 "DarkShares" (some .int) p s m [.ref (zad G 0), .int x1, .int x2].toArray meth c := B
  have hl : lv_has ls 4 [(0, .ref (zad G 0)), (1, .int x1), (2, .int x2)] := hl
  have hx := B.1
  have hb := B.2.1
  have hf := h
  unfold f_X9_sale at hf
  refine lv_iload_n (pc := 0) hx hb dX9_sale_0 rfl (lv_at hl 1 rfl) ?_
  refine s_X9_87 (pc := 1) B hW hl.1 (by decide) (zle8 rfl) dX9_sale_1 (fun _ _ h => c_X9_isCell h) hf (fun r2 μ1 H locs hW hf => ?_)
  refine yif_eq (pc := 4) (tgt := 15) B dX9_sale_4 (by decide) hf (fun hf => ?_) (fun hf => ?_)
  · refine lv_aload_n (pc := 15) hx hb dX9_sale_15 rfl (lv_at hl 0 rfl) ?_
    refine s_X9_76 (pc := 16) B hW hl.1 (by decide) (zle8 rfl) dX9_sale_16 (fun _ _ h => c_X9_bad h) hf (fun r4 μ3 H locs hW hf => ?_)
    exact zreti (pc := 19) B hW hf dX9_sale_19
  · refine lv_iload_n (pc := 7) hx hb dX9_sale_7 rfl (lv_at hl 2 rfl) ?_
    refine lv_iconst (pc := 8) (v := (1 : Int32)) hx hb dX9_sale_8 rfl ?_
    refine s_X9_72 (pc := 9) B hW hl.1 (by decide) (zle8 rfl) dX9_sale_9 (fun _ _ h => c_X9_within h) hf (fun r6 μ5 H locs hW hf => ?_)
    refine yif_ne (pc := 12) (tgt := 20) B dX9_sale_12 (by decide) hf (fun hf => ?_) (fun hf => ?_)
    · refine lv_aload_n (pc := 20) hx hb dX9_sale_20 rfl (lv_at hl 0 rfl) ?_
      refine g_X9_32 (pc := 21) B hW dX9_sale_21 ?_
      refine lv_iload_n (pc := 24) hx hb dX9_sale_24 rfl (lv_at hl 1 rfl) ?_
      refine s_X9_183 (pc := 25) B hW hl.1 zN1 (by decide) (zle8 rfl) dX9_sale_25 (fun _ _ h => c_X1_bestBuyer zN1 h) hf (fun r8 μ7 H locs hW hf => ?_)
      refine lv_istore_n (pc := 28) (lv' := [(3, .int r8), (0, .ref (zad G 0)), (1, .int x1), (2, .int x2)]) hx hb dX9_sale_28 rfl hl (by decide) rfl (fun ls hl => ?_)
      refine lv_iload_n (pc := 29) hx hb dX9_sale_29 rfl (lv_at hl 0 rfl) ?_
      refine lv_iconst (pc := 30) (v := (-1 : Int32)) hx hb dX9_sale_30 rfl ?_
      refine yic_eq (pc := 31) (tgt := 38) B dX9_sale_31 (by decide) hf (fun hf => ?_) (fun hf => ?_)
      · refine lv_iload_n (pc := 38) hx hb dX9_sale_38 rfl (lv_at hl 0 rfl) ?_
        exact zreti (pc := 39) B hW hf dX9_sale_39
      · refine lv_iload_n (pc := 34) hx hb dX9_sale_34 rfl (lv_at hl 3 rfl) ?_
        refine yif_ne (pc := 35) (tgt := 40) B dX9_sale_35 (by decide) hf (fun hf => ?_) (fun hf => ?_)
        · refine lv_aload_n (pc := 40) hx hb dX9_sale_40 rfl (lv_at hl 1 rfl) ?_
          refine g_X9_32 (pc := 41) B hW dX9_sale_41 ?_
          refine lv_iload_n (pc := 44) hx hb dX9_sale_44 rfl (lv_at hl 2 rfl) ?_
          refine lv_iload_n (pc := 45) hx hb dX9_sale_45 rfl (lv_at hl 0 rfl) ?_
          refine s_X9_186 (pc := 46) B hW hl.1 zN1 (by decide) (zle8 rfl) dX9_sale_46 (fun _ _ h => c_X1_saleBrings zN1 h) hf (fun r10 μ9 H locs hW hf => ?_)
          exact zreti (pc := 49) B hW hf dX9_sale_49
        · refine lv_iload_n (pc := 38) hx hb dX9_sale_38 rfl (lv_at hl 0 rfl) ?_
          exact zreti (pc := 39) B hW hf dX9_sale_39
    · refine lv_aload_n (pc := 15) hx hb dX9_sale_15 rfl (lv_at hl 0 rfl) ?_
      refine s_X9_76 (pc := 16) B hW hl.1 (by decide) (zle8 rfl) dX9_sale_16 (fun _ _ h => c_X9_bad h) hf (fun r12 μ11 H locs hW hf => ?_)
      exact zreti (pc := 19) B hW hf dX9_sale_19
noncomputable def f_X9_longest_20 : Nat → Int32 → Int32 → Int32 → Int32 → Mem → Option (Int32 × Mem)
  | 0, _, _, _, _, _ => none
  | n + 1, x1, x2, x3, x4, μ => (if (12 : Int32) ≤ x4 then (if x1 = 0 then some (x3, μ) else some (x2, μ)) else zbind (f_X1_runFrom 1 x4 μ) (fun r2 μ1 => (if r2 ≤ x2 then f_X9_longest_20 n x1 x2 x3 (x4 + (1 : Int32)) μ1 else f_X9_longest_20 n x1 r2 x4 (x4 + (1 : Int32)) μ1)))
set_option maxRecDepth 100000 in
theorem t_X9_longest_20 {G : ZG} {p : Program} {l : Launch} {e : Env} {s : State} {m : MethodId} {args : Array Value} {below : List Frame} {meth : Method} {c : Code} (B : zB ZC G cX9_longest 6 "DarkShares" (some .int) p s m args meth c) : ∀ (n : Nat) {x1 : Int32} {x2 : Int32} {x3 : Int32} {x4 : Int32} {μ : Mem} {H : Heap} {locs : List Loc} {ls : Array Slot} {r : Int32} {μ' : Mem}, lv_has ls 6 [(0, .ref (zad G 0)), (1, .int x1), (2, .int x2), (3, .int x3), (4, .int x4)] → zW ZC G s H locs μ → f_X9_longest_20 n x1 x2 x3 x4 μ = some (r, μ') → W p l e (zR 2) s m args below meth c H locs 0 0 (MQ below (zQ ZC G (some (.int r)) μ') args s 0 0 (zAd ZC G)) (F0 m 20 ls []) := by
  have hx := B.1
  have hb := B.2.1
  intro n
  induction n with
  | zero => intro _ _ _ _ _ _ _ _ _ _ hl hW hf; cases hf
  | succ n ih =>
    intro x1 x2 x3 x4 μ H locs ls r μ' hl hW hf
    rw [f_X9_longest_20] at hf
    refine lv_iload (pc := 20) hx hb dX9_longest_20 (lv_at hl 4 rfl) ?_
    refine lv_bipush (pc := 22) (v := (12 : Int32)) hx hb dX9_longest_22 rfl ?_
    refine yic_ge (pc := 24) (tgt := 56) B dX9_longest_24 (by decide) hf (fun hf => ?_) (fun hf => ?_)
    · refine lv_iload_n (pc := 56) hx hb dX9_longest_56 rfl (lv_at hl 1 rfl) ?_
      refine yif_ne (pc := 57) (tgt := 64) B dX9_longest_57 (by decide) hf (fun hf => ?_) (fun hf => ?_)
      · refine lv_iload_n (pc := 64) hx hb dX9_longest_64 rfl (lv_at hl 2 rfl) ?_
        exact zreti (pc := 65) B hW hf dX9_longest_65
      · refine lv_iload_n (pc := 60) hx hb dX9_longest_60 rfl (lv_at hl 3 rfl) ?_
        refine lv_goto (pc := 61) (tgt := 65) hx hb dX9_longest_61 (by decide) ?_
        exact zreti (pc := 65) B hW hf dX9_longest_65
    · refine lv_aload_n (pc := 27) hx hb dX9_longest_27 rfl (lv_at hl 0 rfl) ?_
      refine g_X9_32 (pc := 28) B hW dX9_longest_28 ?_
      refine lv_iload (pc := 31) hx hb dX9_longest_31 (lv_at hl 4 rfl) ?_
      refine s_X9_189 (pc := 33) B hW hl.1 zN1 (by decide) (zle8 rfl) dX9_longest_33 (fun _ _ h => c_X1_runFrom zN1 h) hf (fun r2 μ1 H locs hW hf => ?_)
      refine lv_istore (pc := 36) (lv' := [(5, .int r2), (0, .ref (zad G 0)), (1, .int x1), (2, .int x2), (3, .int x3), (4, .int x4)]) hx hb dX9_longest_36 hl (by decide) rfl (fun ls hl => ?_)
      refine lv_iload (pc := 38) hx hb dX9_longest_38 (lv_at hl 0 rfl) ?_
      refine lv_iload_n (pc := 40) hx hb dX9_longest_40 rfl (lv_at hl 3 rfl) ?_
      refine yic_le (pc := 41) (tgt := 50) B dX9_longest_41 (by decide) hf (fun hf => ?_) (fun hf => ?_)
      · refine lv_iinc (pc := 50) (v := (x4 + (1 : Int32))) (lv' := [(4, .int (x4 + (1 : Int32))), (5, .int r2), (0, .ref (zad G 0)), (1, .int x1), (2, .int x2), (3, .int x3)]) hx hb dX9_longest_50 hl (k := 5) rfl rfl (by decide) rfl (fun ls hl => ?_)
        refine lv_goto (pc := 53) (tgt := 20) hx hb dX9_longest_53 (by decide) ?_
        exact ih (lv_sub hl [2, 3, 4, 5, 0] rfl) hW hf
      · refine lv_iload (pc := 44) hx hb dX9_longest_44 (lv_at hl 0 rfl) ?_
        refine lv_istore_n (pc := 46) (lv' := [(2, .int r2), (5, .int r2), (0, .ref (zad G 0)), (1, .int x1), (3, .int x3), (4, .int x4)]) hx hb dX9_longest_46 rfl hl (by decide) rfl (fun ls hl => ?_)
        refine lv_iload (pc := 47) hx hb dX9_longest_47 (lv_at hl 5 rfl) ?_
        refine lv_istore_n (pc := 49) (lv' := [(3, .int x4), (2, .int r2), (5, .int r2), (0, .ref (zad G 0)), (1, .int x1), (4, .int x4)]) hx hb dX9_longest_49 rfl hl (by decide) rfl (fun ls hl => ?_)
        refine lv_iinc (pc := 50) (v := (x4 + (1 : Int32))) (lv' := [(4, .int (x4 + (1 : Int32))), (3, .int x4), (2, .int r2), (5, .int r2), (0, .ref (zad G 0)), (1, .int x1)]) hx hb dX9_longest_50 hl (k := 5) rfl rfl (by decide) rfl (fun ls hl => ?_)
        refine lv_goto (pc := 53) (tgt := 20) hx hb dX9_longest_53 (by decide) ?_
        exact ih (lv_sub hl [4, 5, 2, 1, 0] rfl) hW hf
noncomputable def f_X9_longest (x1 : Int32) (μ : Mem) : Option (Int32 × Mem) := zbind (f_X9_within x1 (1 : Int32) μ) (fun r2 μ1 => (if r2 = 0 then zbind (f_X9_bad μ1) (fun r4 μ3 => some (r4, μ3)) else f_X9_longest_20 zFU x1 (0 : Int32) (-1 : Int32) (0 : Int32) μ1))
set_option maxRecDepth 100000 in
theorem c_X9_longest {G : ZG} {l : Launch} {x1 : Int32} {μ : Mem} {r : Int32} {μ' : Mem} (h : f_X9_longest x1 μ = some (r, μ')) : zC ZC G l yX9_longest cX9_longest 6 (some .int) 2 [.ref (zad G 0), .int x1] μ (some (.int r)) μ' := by
  refine zC.mk (by decide +kernel) (Nat.le_of_ble_eq_true rfl) ?_
  intro p e s m below meth c ls B hl hW
  have B : zB ZC G cX9_longest 6 "DarkShares" (some .int) p s m [.ref (zad G 0), .int x1].toArray meth c := B
  have hl : lv_has ls 6 [(0, .ref (zad G 0)), (1, .int x1)] := hl
  have hx := B.1
  have hb := B.2.1
  have hf := h
  unfold f_X9_longest at hf
  refine lv_iload_n (pc := 0) hx hb dX9_longest_0 rfl (lv_at hl 1 rfl) ?_
  refine lv_iconst (pc := 1) (v := (1 : Int32)) hx hb dX9_longest_1 rfl ?_
  refine s_X9_72 (pc := 2) B hW hl.1 (by decide) (zle8 rfl) dX9_longest_2 (fun _ _ h => c_X9_within h) hf (fun r2 μ1 H locs hW hf => ?_)
  refine yif_ne (pc := 5) (tgt := 13) B dX9_longest_5 (by decide) hf (fun hf => ?_) (fun hf => ?_)
  · refine lv_iconst (pc := 13) (v := (0 : Int32)) hx hb dX9_longest_13 rfl ?_
    refine lv_istore_n (pc := 14) (lv' := [(2, .int (0 : Int32)), (0, .ref (zad G 0)), (1, .int x1)]) hx hb dX9_longest_14 rfl hl (by decide) rfl (fun ls hl => ?_)
    refine lv_iconst (pc := 15) (v := (-1 : Int32)) hx hb dX9_longest_15 rfl ?_
    refine lv_istore_n (pc := 16) (lv' := [(3, .int (-1 : Int32)), (2, .int (0 : Int32)), (0, .ref (zad G 0)), (1, .int x1)]) hx hb dX9_longest_16 rfl hl (by decide) rfl (fun ls hl => ?_)
    refine lv_iconst (pc := 17) (v := (0 : Int32)) hx hb dX9_longest_17 rfl ?_
    refine lv_istore (pc := 18) (lv' := [(4, .int (0 : Int32)), (3, .int (-1 : Int32)), (2, .int (0 : Int32)), (0, .ref (zad G 0)), (1, .int x1)]) hx hb dX9_longest_18 hl (by decide) rfl (fun ls hl => ?_)
    exact t_X9_longest_20 B zFU (lv_sub hl [3, 4, 2, 1, 0] rfl) hW hf
  · refine lv_aload_n (pc := 8) hx hb dX9_longest_8 rfl (lv_at hl 0 rfl) ?_
    refine s_X9_76 (pc := 9) B hW hl.1 (by decide) (zle8 rfl) dX9_longest_9 (fun _ _ h => c_X9_bad h) hf (fun r4 μ3 H locs hW hf => ?_)
    exact zreti (pc := 12) B hW hf dX9_longest_12
noncomputable def f_X9_together_53 : Nat → Int32 → Int32 → Int32 → Int32 → Mem → Option (Int32 × Mem)
  | 0, _, _, _, _, _ => none
  | n + 1, x3, x4, x5, x6, μ => (if (12 : Int32) ≤ x6 then some (x4, μ) else zbind (f_X9_has x3 x6 μ) (fun r2 μ1 => (if r2 = 0 then f_X9_together_53 n x3 (if x4 < (0 : Int32) then (0 : Int32) else x4) (0 : Int32) (x6 + (1 : Int32)) μ1 else f_X9_together_53 n x3 (if x4 < (x5 + (1 : Int32)) then (x5 + (1 : Int32)) else x4) (x5 + (1 : Int32)) (x6 + (1 : Int32)) μ1)))
set_option maxRecDepth 100000 in
theorem t_X9_together_53 {G : ZG} {p : Program} {l : Launch} {e : Env} {s : State} {m : MethodId} {args : Array Value} {below : List Frame} {meth : Method} {c : Code} (B : zB ZC G cX9_together 7 "DarkShares" (some .int) p s m args meth c) : ∀ (n : Nat) {x3 : Int32} {x4 : Int32} {x5 : Int32} {x6 : Int32} {μ : Mem} {H : Heap} {locs : List Loc} {ls : Array Slot} {r : Int32} {μ' : Mem}, lv_has ls 7 [(3, .int x3), (4, .int x4), (5, .int x5), (6, .int x6)] → zW ZC G s H locs μ → f_X9_together_53 n x3 x4 x5 x6 μ = some (r, μ') → W p l e (zR 3) s m args below meth c H locs 0 0 (MQ below (zQ ZC G (some (.int r)) μ') args s 0 0 (zAd ZC G)) (F0 m 53 ls []) := by
  have hx := B.1
  have hb := B.2.1
  intro n
  induction n with
  | zero => intro _ _ _ _ _ _ _ _ _ _ hl hW hf; cases hf
  | succ n ih =>
    intro x3 x4 x5 x6 μ H locs ls r μ' hl hW hf
    rw [f_X9_together_53] at hf
    refine lv_iload (pc := 53) hx hb dX9_together_53 (lv_at hl 3 rfl) ?_
    refine lv_bipush (pc := 55) (v := (12 : Int32)) hx hb dX9_together_55 rfl ?_
    refine yic_ge (pc := 57) (tgt := 94) B dX9_together_57 (by decide) hf (fun hf => ?_) (fun hf => ?_)
    · refine lv_iload (pc := 94) hx hb dX9_together_94 (lv_at hl 1 rfl) ?_
      exact zreti (pc := 96) B hW hf dX9_together_96
    · refine lv_iload_n (pc := 60) hx hb dX9_together_60 rfl (lv_at hl 0 rfl) ?_
      refine lv_iload (pc := 61) hx hb dX9_together_61 (lv_at hl 3 rfl) ?_
      refine s_X9_192 (pc := 63) B hW hl.1 (by decide) (zle8 rfl) dX9_together_63 (fun _ _ h => c_X9_has h) hf (fun r2 μ1 H locs hW hf => ?_)
      refine yif_eq (pc := 66) (tgt := 76) B dX9_together_66 (by decide) hf (fun hf => ?_) (fun hf => ?_)
      · refine lv_iconst (pc := 76) (v := (0 : Int32)) hx hb dX9_together_76 rfl ?_
        refine lv_istore (pc := 77) (lv' := [(5, .int (0 : Int32)), (3, .int x3), (4, .int x4), (6, .int x6)]) hx hb dX9_together_77 hl (by decide) rfl (fun ls hl => ?_)
        refine lv_iload (pc := 79) hx hb dX9_together_79 (lv_at hl 2 rfl) ?_
        refine lv_iload (pc := 81) hx hb dX9_together_81 (lv_at hl 0 rfl) ?_
        refine ymax (pc := 83) B hl.1 kw624 (by decide) (Nat.le_of_ble_eq_true rfl) (Nat.zero_le _) (Nat.zero_le _) dX9_together_83 ?_
        refine lv_istore (pc := 86) (lv' := [(4, .int (if x4 < (0 : Int32) then (0 : Int32) else x4)), (5, .int (0 : Int32)), (3, .int x3), (6, .int x6)]) hx hb dX9_together_86 hl (by decide) rfl (fun ls hl => ?_)
        refine lv_iinc (pc := 88) (v := (x6 + (1 : Int32))) (lv' := [(6, .int (x6 + (1 : Int32))), (4, .int (if x4 < (0 : Int32) then (0 : Int32) else x4)), (5, .int (0 : Int32)), (3, .int x3)]) hx hb dX9_together_88 hl (k := 3) rfl rfl (by decide) rfl (fun ls hl => ?_)
        refine lv_goto (pc := 91) (tgt := 53) hx hb dX9_together_91 (by decide) ?_
        exact ih (lv_sub hl [3, 1, 2, 0] rfl) hW hf
      · refine lv_iload (pc := 69) hx hb dX9_together_69 (lv_at hl 2 rfl) ?_
        refine lv_iconst (pc := 71) (v := (1 : Int32)) hx hb dX9_together_71 rfl ?_
        refine lv_iadd (pc := 72) hx hb dX9_together_72 ?_
        refine lv_goto (pc := 73) (tgt := 77) hx hb dX9_together_73 (by decide) ?_
        refine lv_istore (pc := 77) (lv' := [(5, .int (x5 + (1 : Int32))), (3, .int x3), (4, .int x4), (6, .int x6)]) hx hb dX9_together_77 hl (by decide) rfl (fun ls hl => ?_)
        refine lv_iload (pc := 79) hx hb dX9_together_79 (lv_at hl 2 rfl) ?_
        refine lv_iload (pc := 81) hx hb dX9_together_81 (lv_at hl 0 rfl) ?_
        refine ymax (pc := 83) B hl.1 kw624 (by decide) (Nat.le_of_ble_eq_true rfl) (Nat.zero_le _) (Nat.zero_le _) dX9_together_83 ?_
        refine lv_istore (pc := 86) (lv' := [(4, .int (if x4 < (x5 + (1 : Int32)) then (x5 + (1 : Int32)) else x4)), (5, .int (x5 + (1 : Int32))), (3, .int x3), (6, .int x6)]) hx hb dX9_together_86 hl (by decide) rfl (fun ls hl => ?_)
        refine lv_iinc (pc := 88) (v := (x6 + (1 : Int32))) (lv' := [(6, .int (x6 + (1 : Int32))), (4, .int (if x4 < (x5 + (1 : Int32)) then (x5 + (1 : Int32)) else x4)), (5, .int (x5 + (1 : Int32))), (3, .int x3)]) hx hb dX9_together_88 hl (k := 3) rfl rfl (by decide) rfl (fun ls hl => ?_)
        refine lv_goto (pc := 91) (tgt := 53) hx hb dX9_together_91 (by decide) ?_
        exact ih (lv_sub hl [3, 1, 2, 0] rfl) hW hf
noncomputable def f_X9_together (x1 : Int32) (x2 : Int32) (μ : Mem) : Option (Int32 × Mem) := zbind (f_X9_isBoy x1 μ) (fun r2 μ1 => (if r2 = 0 then zbind (f_X9_bad μ1) (fun r4 μ3 => some (r4, μ3)) else zbind (f_X9_isBoy x2 μ1) (fun r6 μ5 => (if r6 = 0 then zbind (f_X9_bad μ5) (fun r8 μ7 => some (r8, μ7)) else (if x1 = x2 then zbind (f_X9_bad μ5) (fun r14 μ13 => some (r14, μ13)) else zbind (f_X1_cellsOf 1 x1 μ5) (fun r10 μ9 => zbind (f_X1_cellsOf 1 x2 μ9) (fun r12 μ11 => f_X9_together_53 zFU (r10 ||| r12) (0 : Int32) (0 : Int32) (0 : Int32) μ11)))))))
set_option maxRecDepth 100000 in
theorem c_X9_together {G : ZG} {l : Launch} {x1 : Int32} {x2 : Int32} {μ : Mem} {r : Int32} {μ' : Mem} (h : f_X9_together x1 x2 μ = some (r, μ')) : zC ZC G l yX9_together cX9_together 7 (some .int) 3 [.ref (zad G 0), .int x1, .int x2] μ (some (.int r)) μ' := by
  refine zC.mk (by decide +kernel) (Nat.le_of_ble_eq_true rfl) ?_
  intro p e s m below meth c ls B hl hW
  have B : zB ZC G cX9_together 7 "DarkShares" (some .int) p s m [.ref (zad G 0), .int x1, .int x2].toArray meth c := B
  have hl : lv_has ls 7 [(0, .ref (zad G 0)), (1, .int x1), (2, .int x2)] := hl
  have hx := B.1
  have hb := B.2.1
  have hf := h
  unfold f_X9_together at hf
  refine lv_aload_n (pc := 0) hx hb dX9_together_0 rfl (lv_at hl 0 rfl) ?_
  refine lv_iload_n (pc := 1) hx hb dX9_together_1 rfl (lv_at hl 1 rfl) ?_
  refine s_X9_91 (pc := 2) B hW hl.1 (by decide) (zle8 rfl) dX9_together_2 (fun _ _ h => c_X9_isBoy h) hf (fun r2 μ1 H locs hW hf => ?_)
  refine yif_eq (pc := 5) (tgt := 21) B dX9_together_5 (by decide) hf (fun hf => ?_) (fun hf => ?_)
  · refine lv_aload_n (pc := 21) hx hb dX9_together_21 rfl (lv_at hl 0 rfl) ?_
    refine s_X9_76 (pc := 22) B hW hl.1 (by decide) (zle8 rfl) dX9_together_22 (fun _ _ h => c_X9_bad h) hf (fun r4 μ3 H locs hW hf => ?_)
    exact zreti (pc := 25) B hW hf dX9_together_25
  · refine lv_aload_n (pc := 8) hx hb dX9_together_8 rfl (lv_at hl 0 rfl) ?_
    refine lv_iload_n (pc := 9) hx hb dX9_together_9 rfl (lv_at hl 2 rfl) ?_
    refine s_X9_91 (pc := 10) B hW hl.1 (by decide) (zle8 rfl) dX9_together_10 (fun _ _ h => c_X9_isBoy h) hf (fun r6 μ5 H locs hW hf => ?_)
    refine yif_eq (pc := 13) (tgt := 21) B dX9_together_13 (by decide) hf (fun hf => ?_) (fun hf => ?_)
    · refine lv_aload_n (pc := 21) hx hb dX9_together_21 rfl (lv_at hl 0 rfl) ?_
      refine s_X9_76 (pc := 22) B hW hl.1 (by decide) (zle8 rfl) dX9_together_22 (fun _ _ h => c_X9_bad h) hf (fun r8 μ7 H locs hW hf => ?_)
      exact zreti (pc := 25) B hW hf dX9_together_25
    · refine lv_iload_n (pc := 16) hx hb dX9_together_16 rfl (lv_at hl 1 rfl) ?_
      refine lv_iload_n (pc := 17) hx hb dX9_together_17 rfl (lv_at hl 2 rfl) ?_
      refine yic_ne (pc := 18) (tgt := 26) B dX9_together_18 (by decide) hf (fun hf => ?_) (fun hf => ?_)
      · refine lv_aload_n (pc := 26) hx hb dX9_together_26 rfl (lv_at hl 0 rfl) ?_
        refine g_X9_32 (pc := 27) B hW dX9_together_27 ?_
        refine lv_iload_n (pc := 30) hx hb dX9_together_30 rfl (lv_at hl 1 rfl) ?_
        refine s_X9_147 (pc := 31) B hW hl.1 zN1 (by decide) (zle8 rfl) dX9_together_31 (fun _ _ h => c_X1_cellsOf zN1 h) hf (fun r10 μ9 H locs hW hf => ?_)
        refine lv_aload_n (pc := 34) hx hb dX9_together_34 rfl (lv_at hl 0 rfl) ?_
        refine g_X9_32 (pc := 35) B hW dX9_together_35 ?_
        refine lv_iload_n (pc := 38) hx hb dX9_together_38 rfl (lv_at hl 2 rfl) ?_
        refine s_X9_147 (pc := 39) B hW hl.1 zN1 (by decide) (zle8 rfl) dX9_together_39 (fun _ _ h => c_X1_cellsOf zN1 h) hf (fun r12 μ11 H locs hW hf => ?_)
        refine lv_ior (pc := 42) hx hb dX9_together_42 ?_
        refine lv_istore_n (pc := 43) (lv' := [(3, .int (r10 ||| r12)), (0, .ref (zad G 0)), (1, .int x1), (2, .int x2)]) hx hb dX9_together_43 rfl hl (by decide) rfl (fun ls hl => ?_)
        refine lv_iconst (pc := 44) (v := (0 : Int32)) hx hb dX9_together_44 rfl ?_
        refine lv_istore (pc := 45) (lv' := [(4, .int (0 : Int32)), (3, .int (r10 ||| r12)), (0, .ref (zad G 0)), (1, .int x1), (2, .int x2)]) hx hb dX9_together_45 hl (by decide) rfl (fun ls hl => ?_)
        refine lv_iconst (pc := 47) (v := (0 : Int32)) hx hb dX9_together_47 rfl ?_
        refine lv_istore (pc := 48) (lv' := [(5, .int (0 : Int32)), (4, .int (0 : Int32)), (3, .int (r10 ||| r12)), (0, .ref (zad G 0)), (1, .int x1), (2, .int x2)]) hx hb dX9_together_48 hl (by decide) rfl (fun ls hl => ?_)
        refine lv_iconst (pc := 50) (v := (0 : Int32)) hx hb dX9_together_50 rfl ?_
        refine lv_istore (pc := 51) (lv' := [(6, .int (0 : Int32)), (5, .int (0 : Int32)), (4, .int (0 : Int32)), (3, .int (r10 ||| r12)), (0, .ref (zad G 0)), (1, .int x1), (2, .int x2)]) hx hb dX9_together_51 hl (by decide) rfl (fun ls hl => ?_)
        exact t_X9_together_53 B zFU (lv_sub hl [3, 2, 1, 0] rfl) hW hf
      · refine lv_aload_n (pc := 21) hx hb dX9_together_21 rfl (lv_at hl 0 rfl) ?_
        refine s_X9_76 (pc := 22) B hW hl.1 (by decide) (zle8 rfl) dX9_together_22 (fun _ _ h => c_X9_bad h) hf (fun r14 μ13 H locs hW hf => ?_)
        exact zreti (pc := 25) B hW hf dX9_together_25
noncomputable def f_X9_note (x1 : Int32) (x2 : Int32) (x3 : Int32) (x4 : Int32) (μ : Mem) : Option (Int32 × Mem) := zbind (f_X9_isBoy x1 μ) (fun r2 μ1 => (if r2 = 0 then zbind (f_X9_bad μ1) (fun r4 μ3 => some (r4, μ3)) else zbind (f_X9_isCell x2 μ1) (fun r6 μ5 => (if r6 = 0 then zbind (f_X9_bad μ5) (fun r8 μ7 => some (r8, μ7)) else zbind (f_X9_within x3 (20 : Int32) μ5) (fun r10 μ9 => (if r10 = 0 then zbind (f_X9_bad μ9) (fun r12 μ11 => some (r12, μ11)) else zbind (f_X9_within x4 (1 : Int32) μ9) (fun r14 μ13 => (if r14 = 0 then zbind (f_X9_bad μ13) (fun r20 μ19 => some (r20, μ19)) else (if (μ13.1 1 8) < (6 : Int32) then zbind (f_X1_putDown 1 x1 x2 x3 x4 μ13) (fun r16 μ15 => some (r16, μ15)) else zbind (f_X9_full μ13) (fun r18 μ17 => some (r18, μ17)))))))))))
set_option maxRecDepth 100000 in
theorem c_X9_note {G : ZG} {l : Launch} {x1 : Int32} {x2 : Int32} {x3 : Int32} {x4 : Int32} {μ : Mem} {r : Int32} {μ' : Mem} (h : f_X9_note x1 x2 x3 x4 μ = some (r, μ')) : zC ZC G l yX9_note cX9_note 5 (some .int) 3 [.ref (zad G 0), .int x1, .int x2, .int x3, .int x4] μ (some (.int r)) μ' := by
  refine zC.mk (by decide +kernel) (Nat.le_of_ble_eq_true rfl) ?_
  intro p e s m below meth c ls B hl hW
  have B : zB ZC G cX9_note 5 "DarkShares" (some .int) p s m [.ref (zad G 0), .int x1, .int x2, .int x3, .int x4].toArray meth c := B
  have hl : lv_has ls 5 [(0, .ref (zad G 0)), (1, .int x1), (2, .int x2), (3, .int x3), (4, .int x4)] := hl
  have hx := B.1
  have hb := B.2.1
  have hf := h
  unfold f_X9_note at hf
  refine lv_aload_n (pc := 0) hx hb dX9_note_0 rfl (lv_at hl 0 rfl) ?_
  refine lv_iload_n (pc := 1) hx hb dX9_note_1 rfl (lv_at hl 1 rfl) ?_
  refine s_X9_91 (pc := 2) B hW hl.1 (by decide) (zle8 rfl) dX9_note_2 (fun _ _ h => c_X9_isBoy h) hf (fun r2 μ1 H locs hW hf => ?_)
  refine yif_eq (pc := 5) (tgt := 33) B dX9_note_5 (by decide) hf (fun hf => ?_) (fun hf => ?_)
  · refine lv_aload_n (pc := 33) hx hb dX9_note_33 rfl (lv_at hl 0 rfl) ?_
    refine s_X9_76 (pc := 34) B hW hl.1 (by decide) (zle8 rfl) dX9_note_34 (fun _ _ h => c_X9_bad h) hf (fun r4 μ3 H locs hW hf => ?_)
    exact zreti (pc := 37) B hW hf dX9_note_37
  · refine lv_iload_n (pc := 8) hx hb dX9_note_8 rfl (lv_at hl 2 rfl) ?_
    refine s_X9_87 (pc := 9) B hW hl.1 (by decide) (zle8 rfl) dX9_note_9 (fun _ _ h => c_X9_isCell h) hf (fun r6 μ5 H locs hW hf => ?_)
    refine yif_eq (pc := 12) (tgt := 33) B dX9_note_12 (by decide) hf (fun hf => ?_) (fun hf => ?_)
    · refine lv_aload_n (pc := 33) hx hb dX9_note_33 rfl (lv_at hl 0 rfl) ?_
      refine s_X9_76 (pc := 34) B hW hl.1 (by decide) (zle8 rfl) dX9_note_34 (fun _ _ h => c_X9_bad h) hf (fun r8 μ7 H locs hW hf => ?_)
      exact zreti (pc := 37) B hW hf dX9_note_37
    · refine lv_iload_n (pc := 15) hx hb dX9_note_15 rfl (lv_at hl 3 rfl) ?_
      refine lv_bipush (pc := 16) (v := (20 : Int32)) hx hb dX9_note_16 rfl ?_
      refine s_X9_72 (pc := 18) B hW hl.1 (by decide) (zle8 rfl) dX9_note_18 (fun _ _ h => c_X9_within h) hf (fun r10 μ9 H locs hW hf => ?_)
      refine yif_eq (pc := 21) (tgt := 33) B dX9_note_21 (by decide) hf (fun hf => ?_) (fun hf => ?_)
      · refine lv_aload_n (pc := 33) hx hb dX9_note_33 rfl (lv_at hl 0 rfl) ?_
        refine s_X9_76 (pc := 34) B hW hl.1 (by decide) (zle8 rfl) dX9_note_34 (fun _ _ h => c_X9_bad h) hf (fun r12 μ11 H locs hW hf => ?_)
        exact zreti (pc := 37) B hW hf dX9_note_37
      · refine lv_iload (pc := 24) hx hb dX9_note_24 (lv_at hl 4 rfl) ?_
        refine lv_iconst (pc := 26) (v := (1 : Int32)) hx hb dX9_note_26 rfl ?_
        refine s_X9_72 (pc := 27) B hW hl.1 (by decide) (zle8 rfl) dX9_note_27 (fun _ _ h => c_X9_within h) hf (fun r14 μ13 H locs hW hf => ?_)
        refine yif_ne (pc := 30) (tgt := 38) B dX9_note_30 (by decide) hf (fun hf => ?_) (fun hf => ?_)
        · refine lv_aload_n (pc := 38) hx hb dX9_note_38 rfl (lv_at hl 0 rfl) ?_
          refine g_X9_32 (pc := 39) B hW dX9_note_39 ?_
          refine g_X9_200 (pc := 42) B hW zN1 dX9_note_42 ?_
          refine lv_bipush (pc := 45) (v := (6 : Int32)) hx hb dX9_note_45 rfl ?_
          refine yic_lt (pc := 47) (tgt := 55) B dX9_note_47 (by decide) hf (fun hf => ?_) (fun hf => ?_)
          · refine lv_aload_n (pc := 55) hx hb dX9_note_55 rfl (lv_at hl 0 rfl) ?_
            refine g_X9_32 (pc := 56) B hW dX9_note_56 ?_
            refine lv_iload_n (pc := 59) hx hb dX9_note_59 rfl (lv_at hl 1 rfl) ?_
            refine lv_iload_n (pc := 60) hx hb dX9_note_60 rfl (lv_at hl 2 rfl) ?_
            refine lv_iload_n (pc := 61) hx hb dX9_note_61 rfl (lv_at hl 3 rfl) ?_
            refine lv_iload (pc := 62) hx hb dX9_note_62 (lv_at hl 4 rfl) ?_
            refine s_X9_203 (pc := 64) B hW hl.1 zN1 (by decide) (zle8 rfl) dX9_note_64 (fun _ _ h => c_X1_putDown zN1 h) hf (fun r16 μ15 H locs hW hf => ?_)
            exact zreti (pc := 67) B hW hf dX9_note_67
          · refine lv_aload_n (pc := 50) hx hb dX9_note_50 rfl (lv_at hl 0 rfl) ?_
            refine s_X9_80 (pc := 51) B hW hl.1 (by decide) (zle8 rfl) dX9_note_51 (fun _ _ h => c_X9_full h) hf (fun r18 μ17 H locs hW hf => ?_)
            exact zreti (pc := 54) B hW hf dX9_note_54
        · refine lv_aload_n (pc := 33) hx hb dX9_note_33 rfl (lv_at hl 0 rfl) ?_
          refine s_X9_76 (pc := 34) B hW hl.1 (by decide) (zle8 rfl) dX9_note_34 (fun _ _ h => c_X9_bad h) hf (fun r20 μ19 H locs hW hf => ?_)
          exact zreti (pc := 37) B hW hf dX9_note_37
noncomputable def f_X9_forget (μ : Mem) : Option (Int32 × Mem) := zlet (zI μ 1 8 (0 : Int32)) (fun μ1 => some ((μ.1 1 8), μ1))
set_option maxRecDepth 100000 in
theorem c_X9_forget {G : ZG} {l : Launch} {μ : Mem} {r : Int32} {μ' : Mem} (h : f_X9_forget μ = some (r, μ')) : zC ZC G l yX9_forget cX9_forget 2 (some .int) 1 [.ref (zad G 0)] μ (some (.int r)) μ' := by
  refine zC.mk (by decide +kernel) (Nat.le_of_ble_eq_true rfl) ?_
  intro p e s m below meth c ls B hl hW
  have B : zB ZC G cX9_forget 2 "DarkShares" (some .int) p s m [.ref (zad G 0)].toArray meth c := B
  have hl : lv_has ls 2 [(0, .ref (zad G 0))] := hl
  have hx := B.1
  have hb := B.2.1
  have hf := h
  unfold f_X9_forget at hf
  refine lv_aload_n (pc := 0) hx hb dX9_forget_0 rfl (lv_at hl 0 rfl) ?_
  refine g_X9_32 (pc := 1) B hW dX9_forget_1 ?_
  refine g_X9_200 (pc := 4) B hW zN1 dX9_forget_4 ?_
  refine lv_istore_n (pc := 7) (lv' := [(1, .int (μ.1 1 8)), (0, .ref (zad G 0))]) hx hb dX9_forget_7 rfl hl (by decide) rfl (fun ls hl => ?_)
  refine lv_aload_n (pc := 8) hx hb dX9_forget_8 rfl (lv_at hl 1 rfl) ?_
  refine g_X9_32 (pc := 9) B hW dX9_forget_9 ?_
  refine lv_iconst (pc := 12) (v := (0 : Int32)) hx hb dX9_forget_12 rfl ?_
  refine p_X9_200 (pc := 13) B hW zN1 dX9_forget_13 hf (fun μ1 H locs hW hf => ?_)
  refine lv_iload_n (pc := 16) hx hb dX9_forget_16 rfl (lv_at hl 0 rfl) ?_
  exact zreti (pc := 17) B hW hf dX9_forget_17
noncomputable def f_X9_is (x1 : Int32) (μ : Mem) : Option (Int32 × Mem) := zbind (f_X9_isBoy x1 μ) (fun r2 μ1 => (if r2 = 0 then zbind (f_X9_bad μ1) (fun r4 μ3 => some (r4, μ3)) else zbind (f_X1_fittingKinds 1 x1 μ1) (fun r6 μ5 => some (r6, μ5))))
set_option maxRecDepth 100000 in
theorem c_X9_is {G : ZG} {l : Launch} {x1 : Int32} {μ : Mem} {r : Int32} {μ' : Mem} (h : f_X9_is x1 μ = some (r, μ')) : zC ZC G l yX9_is cX9_is 2 (some .int) 6 [.ref (zad G 0), .int x1] μ (some (.int r)) μ' := by
  refine zC.mk (by decide +kernel) (Nat.le_of_ble_eq_true rfl) ?_
  intro p e s m below meth c ls B hl hW
  have B : zB ZC G cX9_is 2 "DarkShares" (some .int) p s m [.ref (zad G 0), .int x1].toArray meth c := B
  have hl : lv_has ls 2 [(0, .ref (zad G 0)), (1, .int x1)] := hl
  have hx := B.1
  have hb := B.2.1
  have hf := h
  unfold f_X9_is at hf
  refine lv_aload_n (pc := 0) hx hb dX9_is_0 rfl (lv_at hl 0 rfl) ?_
  refine lv_iload_n (pc := 1) hx hb dX9_is_1 rfl (lv_at hl 1 rfl) ?_
  refine s_X9_91 (pc := 2) B hW hl.1 (by decide) (zle8 rfl) dX9_is_2 (fun _ _ h => c_X9_isBoy h) hf (fun r2 μ1 H locs hW hf => ?_)
  refine yif_eq (pc := 5) (tgt := 19) B dX9_is_5 (by decide) hf (fun hf => ?_) (fun hf => ?_)
  · refine lv_aload_n (pc := 19) hx hb dX9_is_19 rfl (lv_at hl 0 rfl) ?_
    refine s_X9_76 (pc := 20) B hW hl.1 (by decide) (zle8 rfl) dX9_is_20 (fun _ _ h => c_X9_bad h) hf (fun r4 μ3 H locs hW hf => ?_)
    exact zreti (pc := 23) B hW hf dX9_is_23
  · refine lv_aload_n (pc := 8) hx hb dX9_is_8 rfl (lv_at hl 0 rfl) ?_
    refine g_X9_32 (pc := 9) B hW dX9_is_9 ?_
    refine lv_iload_n (pc := 12) hx hb dX9_is_12 rfl (lv_at hl 1 rfl) ?_
    refine s_X9_207 (pc := 13) B hW hl.1 zN1 (by decide) (zle8 rfl) dX9_is_13 (fun _ _ h => c_X1_fittingKinds zN1 h) hf (fun r6 μ5 H locs hW hf => ?_)
    refine lv_goto (pc := 16) (tgt := 23) hx hb dX9_is_16 (by decide) ?_
    exact zreti (pc := 23) B hW hf dX9_is_23
noncomputable def f_X9_asks (x1 : Int32) (μ : Mem) : Option (Int32 × Mem) := zbind (f_X9_isBoy x1 μ) (fun r2 μ1 => (if r2 = 0 then zbind (f_X9_bad μ1) (fun r4 μ3 => some (r4, μ3)) else zbind (f_X1_fittingKinds 1 x1 μ1) (fun r6 μ5 => zbind (f_X1_tellingCell 1 r6 μ5) (fun r8 μ7 => some (r8, μ7)))))
set_option maxRecDepth 100000 in
theorem c_X9_asks {G : ZG} {l : Launch} {x1 : Int32} {μ : Mem} {r : Int32} {μ' : Mem} (h : f_X9_asks x1 μ = some (r, μ')) : zC ZC G l yX9_asks cX9_asks 2 (some .int) 7 [.ref (zad G 0), .int x1] μ (some (.int r)) μ' := by
  refine zC.mk (by decide +kernel) (Nat.le_of_ble_eq_true rfl) ?_
  intro p e s m below meth c ls B hl hW
  have B : zB ZC G cX9_asks 2 "DarkShares" (some .int) p s m [.ref (zad G 0), .int x1].toArray meth c := B
  have hl : lv_has ls 2 [(0, .ref (zad G 0)), (1, .int x1)] := hl
  have hx := B.1
  have hb := B.2.1
  have hf := h
  unfold f_X9_asks at hf
  refine lv_aload_n (pc := 0) hx hb dX9_asks_0 rfl (lv_at hl 0 rfl) ?_
  refine lv_iload_n (pc := 1) hx hb dX9_asks_1 rfl (lv_at hl 1 rfl) ?_
  refine s_X9_91 (pc := 2) B hW hl.1 (by decide) (zle8 rfl) dX9_asks_2 (fun _ _ h => c_X9_isBoy h) hf (fun r2 μ1 H locs hW hf => ?_)
  refine yif_eq (pc := 5) (tgt := 26) B dX9_asks_5 (by decide) hf (fun hf => ?_) (fun hf => ?_)
  · refine lv_aload_n (pc := 26) hx hb dX9_asks_26 rfl (lv_at hl 0 rfl) ?_
    refine s_X9_76 (pc := 27) B hW hl.1 (by decide) (zle8 rfl) dX9_asks_27 (fun _ _ h => c_X9_bad h) hf (fun r4 μ3 H locs hW hf => ?_)
    exact zreti (pc := 30) B hW hf dX9_asks_30
  · refine lv_aload_n (pc := 8) hx hb dX9_asks_8 rfl (lv_at hl 0 rfl) ?_
    refine g_X9_32 (pc := 9) B hW dX9_asks_9 ?_
    refine lv_aload_n (pc := 12) hx hb dX9_asks_12 rfl (lv_at hl 0 rfl) ?_
    refine g_X9_32 (pc := 13) B hW dX9_asks_13 ?_
    refine lv_iload_n (pc := 16) hx hb dX9_asks_16 rfl (lv_at hl 1 rfl) ?_
    refine s_X9_207 (pc := 17) B hW hl.1 zN1 (by decide) (zle8 rfl) dX9_asks_17 (fun _ _ h => c_X1_fittingKinds zN1 h) hf (fun r6 μ5 H locs hW hf => ?_)
    refine s_X9_210 (pc := 20) B hW hl.1 zN1 (by decide) (zle8 rfl) dX9_asks_20 (fun _ _ h => c_X1_tellingCell zN1 h) hf (fun r8 μ7 H locs hW hf => ?_)
    refine lv_goto (pc := 23) (tgt := 30) hx hb dX9_asks_23 (by decide) ?_
    exact zreti (pc := 30) B hW hf dX9_asks_30
noncomputable def f_X9_took (x1 : Int32) (x2 : Int32) (μ : Mem) : Option (Int32 × Mem) := zbind (f_X9_isBoy x1 μ) (fun r2 μ1 => (if r2 = 0 then zbind (f_X9_bad μ1) (fun r4 μ3 => some (r4, μ3)) else zbind (f_X9_within x2 (4095 : Int32) μ1) (fun r6 μ5 => (if r6 = 0 then zbind (f_X9_bad μ5) (fun r10 μ9 => some (r10, μ9)) else zbind (f_X1_robbedBy 1 x1 x2 μ5) (fun r8 μ7 => some (r8, μ7))))))
set_option maxRecDepth 100000 in
theorem c_X9_took {G : ZG} {l : Launch} {x1 : Int32} {x2 : Int32} {μ : Mem} {r : Int32} {μ' : Mem} (h : f_X9_took x1 x2 μ = some (r, μ')) : zC ZC G l yX9_took cX9_took 3 (some .int) 3 [.ref (zad G 0), .int x1, .int x2] μ (some (.int r)) μ' := by
  refine zC.mk (by decide +kernel) (Nat.le_of_ble_eq_true rfl) ?_
  intro p e s m below meth c ls B hl hW
  have B : zB ZC G cX9_took 3 "DarkShares" (some .int) p s m [.ref (zad G 0), .int x1, .int x2].toArray meth c := B
  have hl : lv_has ls 3 [(0, .ref (zad G 0)), (1, .int x1), (2, .int x2)] := hl
  have hx := B.1
  have hb := B.2.1
  have hf := h
  unfold f_X9_took at hf
  refine lv_aload_n (pc := 0) hx hb dX9_took_0 rfl (lv_at hl 0 rfl) ?_
  refine lv_iload_n (pc := 1) hx hb dX9_took_1 rfl (lv_at hl 1 rfl) ?_
  refine s_X9_91 (pc := 2) B hW hl.1 (by decide) (zle8 rfl) dX9_took_2 (fun _ _ h => c_X9_isBoy h) hf (fun r2 μ1 H locs hW hf => ?_)
  refine yif_eq (pc := 5) (tgt := 18) B dX9_took_5 (by decide) hf (fun hf => ?_) (fun hf => ?_)
  · refine lv_aload_n (pc := 18) hx hb dX9_took_18 rfl (lv_at hl 0 rfl) ?_
    refine s_X9_76 (pc := 19) B hW hl.1 (by decide) (zle8 rfl) dX9_took_19 (fun _ _ h => c_X9_bad h) hf (fun r4 μ3 H locs hW hf => ?_)
    exact zreti (pc := 22) B hW hf dX9_took_22
  · refine lv_iload_n (pc := 8) hx hb dX9_took_8 rfl (lv_at hl 2 rfl) ?_
    refine lv_sipush (pc := 9) (v := (4095 : Int32)) hx hb dX9_took_9 rfl ?_
    refine s_X9_72 (pc := 12) B hW hl.1 (by decide) (zle8 rfl) dX9_took_12 (fun _ _ h => c_X9_within h) hf (fun r6 μ5 H locs hW hf => ?_)
    refine yif_ne (pc := 15) (tgt := 23) B dX9_took_15 (by decide) hf (fun hf => ?_) (fun hf => ?_)
    · refine lv_aload_n (pc := 23) hx hb dX9_took_23 rfl (lv_at hl 0 rfl) ?_
      refine g_X9_32 (pc := 24) B hW dX9_took_24 ?_
      refine lv_iload_n (pc := 27) hx hb dX9_took_27 rfl (lv_at hl 1 rfl) ?_
      refine lv_iload_n (pc := 28) hx hb dX9_took_28 rfl (lv_at hl 2 rfl) ?_
      refine s_X9_213 (pc := 29) B hW hl.1 zN1 (by decide) (zle8 rfl) dX9_took_29 (fun _ _ h => c_X1_robbedBy zN1 h) hf (fun r8 μ7 H locs hW hf => ?_)
      exact zreti (pc := 32) B hW hf dX9_took_32
    · refine lv_aload_n (pc := 18) hx hb dX9_took_18 rfl (lv_at hl 0 rfl) ?_
      refine s_X9_76 (pc := 19) B hW hl.1 (by decide) (zle8 rfl) dX9_took_19 (fun _ _ h => c_X9_bad h) hf (fun r10 μ9 H locs hW hf => ?_)
      exact zreti (pc := 22) B hW hf dX9_took_22
noncomputable def f_X9_commonDivisor_2 : Nat → Int32 → Int32 → Int32 → Mem → Option (Int32 × Mem)
  | 0, _, _, _, _ => none
  | n + 1, x0, x1, x2, μ => (if x2 ≤ (1 : Int32) then some ((1 : Int32), μ) else zck (decide (¬ x2 = 0)) ((if (x0 - x0 / x2 * x2) = 0 then zck (decide (¬ x2 = 0)) ((if (x1 - x1 / x2 * x2) = 0 then some (x2, μ) else f_X9_commonDivisor_2 n x0 x1 (x2 + (-1 : Int32)) μ)) else f_X9_commonDivisor_2 n x0 x1 (x2 + (-1 : Int32)) μ)))
set_option maxRecDepth 100000 in
theorem t_X9_commonDivisor_2 {G : ZG} {p : Program} {l : Launch} {e : Env} {s : State} {m : MethodId} {args : Array Value} {below : List Frame} {meth : Method} {c : Code} (B : zB ZC G cX9_commonDivisor 3 "DarkShares" (some .int) p s m args meth c) : ∀ (n : Nat) {x0 : Int32} {x1 : Int32} {x2 : Int32} {μ : Mem} {H : Heap} {locs : List Loc} {ls : Array Slot} {r : Int32} {μ' : Mem}, lv_has ls 3 [(0, .int x0), (1, .int x1), (2, .int x2)] → zW ZC G s H locs μ → f_X9_commonDivisor_2 n x0 x1 x2 μ = some (r, μ') → W p l e (zR 1) s m args below meth c H locs 0 0 (MQ below (zQ ZC G (some (.int r)) μ') args s 0 0 (zAd ZC G)) (F0 m 2 ls []) := by
  have hx := B.1
  have hb := B.2.1
  intro n
  induction n with
  | zero => intro _ _ _ _ _ _ _ _ _ hl hW hf; cases hf
  | succ n ih =>
    intro x0 x1 x2 μ H locs ls r μ' hl hW hf
    rw [f_X9_commonDivisor_2] at hf
    refine lv_iload_n (pc := 2) hx hb dX9_commonDivisor_2 rfl (lv_at hl 2 rfl) ?_
    refine lv_iconst (pc := 3) (v := (1 : Int32)) hx hb dX9_commonDivisor_3 rfl ?_
    refine yic_le (pc := 4) (tgt := 27) B dX9_commonDivisor_4 (by decide) hf (fun hf => ?_) (fun hf => ?_)
    · refine lv_iconst (pc := 27) (v := (1 : Int32)) hx hb dX9_commonDivisor_27 rfl ?_
      exact zreti (pc := 28) B hW hf dX9_commonDivisor_28
    · refine lv_iload_n (pc := 7) hx hb dX9_commonDivisor_7 rfl (lv_at hl 0 rfl) ?_
      refine lv_iload_n (pc := 8) hx hb dX9_commonDivisor_8 rfl (lv_at hl 2 rfl) ?_
      refine yrem (pc := 9) B dX9_commonDivisor_9 hf (fun hf => ?_)
      refine yif_ne (pc := 10) (tgt := 21) B dX9_commonDivisor_10 (by decide) hf (fun hf => ?_) (fun hf => ?_)
      · refine lv_iinc (pc := 21) (v := (x2 + (-1 : Int32))) (lv' := [(2, .int (x2 + (-1 : Int32))), (0, .int x0), (1, .int x1)]) hx hb dX9_commonDivisor_21 hl (k := 2) rfl rfl (by decide) rfl (fun ls hl => ?_)
        refine lv_goto (pc := 24) (tgt := 2) hx hb dX9_commonDivisor_24 (by decide) ?_
        exact ih (lv_sub hl [1, 2, 0] rfl) hW hf
      · refine lv_iload_n (pc := 13) hx hb dX9_commonDivisor_13 rfl (lv_at hl 1 rfl) ?_
        refine lv_iload_n (pc := 14) hx hb dX9_commonDivisor_14 rfl (lv_at hl 2 rfl) ?_
        refine yrem (pc := 15) B dX9_commonDivisor_15 hf (fun hf => ?_)
        refine yif_ne (pc := 16) (tgt := 21) B dX9_commonDivisor_16 (by decide) hf (fun hf => ?_) (fun hf => ?_)
        · refine lv_iinc (pc := 21) (v := (x2 + (-1 : Int32))) (lv' := [(2, .int (x2 + (-1 : Int32))), (0, .int x0), (1, .int x1)]) hx hb dX9_commonDivisor_21 hl (k := 2) rfl rfl (by decide) rfl (fun ls hl => ?_)
          refine lv_goto (pc := 24) (tgt := 2) hx hb dX9_commonDivisor_24 (by decide) ?_
          exact ih (lv_sub hl [1, 2, 0] rfl) hW hf
        · refine lv_iload_n (pc := 19) hx hb dX9_commonDivisor_19 rfl (lv_at hl 2 rfl) ?_
          exact zreti (pc := 20) B hW hf dX9_commonDivisor_20
noncomputable def f_X9_commonDivisor (x0 : Int32) (x1 : Int32) (μ : Mem) : Option (Int32 × Mem) := f_X9_commonDivisor_2 zFU x0 x1 x1 μ
set_option maxRecDepth 100000 in
theorem c_X9_commonDivisor {G : ZG} {l : Launch} {x0 : Int32} {x1 : Int32} {μ : Mem} {r : Int32} {μ' : Mem} (h : f_X9_commonDivisor x0 x1 μ = some (r, μ')) : zC ZC G l yX9_commonDivisor cX9_commonDivisor 3 (some .int) 1 [.int x0, .int x1] μ (some (.int r)) μ' := by
  refine zC.mk (by decide +kernel) (Nat.le_of_ble_eq_true rfl) ?_
  intro p e s m below meth c ls B hl hW
  have B : zB ZC G cX9_commonDivisor 3 "DarkShares" (some .int) p s m [.int x0, .int x1].toArray meth c := B
  have hl : lv_has ls 3 [(0, .int x0), (1, .int x1)] := hl
  have hx := B.1
  have hb := B.2.1
  have hf := h
  unfold f_X9_commonDivisor at hf
  refine lv_iload_n (pc := 0) hx hb dX9_commonDivisor_0 rfl (lv_at hl 1 rfl) ?_
  refine lv_istore_n (pc := 1) (lv' := [(2, .int x1), (0, .int x0), (1, .int x1)]) hx hb dX9_commonDivisor_1 rfl hl (by decide) rfl (fun ls hl => ?_)
  exact t_X9_commonDivisor_2 B zFU (lv_sub hl [1, 2, 0] rfl) hW hf
noncomputable def f_X9_setFraction (x1 : Int32) (x2 : Int32) (μ : Mem) : Option (Unit × Mem) := zbind (f_X9_commonDivisor x1 x2 μ) (fun r2 μ1 => (if (1 : Int32) ≤ r2 then zck (decide (¬ r2 = 0)) (zlet (zL μ1 0 6 (((x1 / r2)).toInt64)) (fun μ3 => zck (decide (¬ r2 = 0)) (zlet (zL μ3 0 7 (((x2 / r2)).toInt64)) (fun μ4 => some ((), μ4))))) else some ((), μ1)))
set_option maxRecDepth 100000 in
theorem c_X9_setFraction {G : ZG} {l : Launch} {x1 : Int32} {x2 : Int32} {μ : Mem} {r : Unit} {μ' : Mem} (h : f_X9_setFraction x1 x2 μ = some (r, μ')) : zC ZC G l yX9_setFraction cX9_setFraction 4 none 2 [.ref (zad G 0), .int x1, .int x2] μ none μ' := by
  refine zC.mk (by decide +kernel) (Nat.le_of_ble_eq_true rfl) ?_
  intro p e s m below meth c ls B hl hW
  have B : zB ZC G cX9_setFraction 4 "DarkShares" none p s m [.ref (zad G 0), .int x1, .int x2].toArray meth c := B
  have hl : lv_has ls 4 [(0, .ref (zad G 0)), (1, .int x1), (2, .int x2)] := hl
  have hx := B.1
  have hb := B.2.1
  have hf := h
  unfold f_X9_setFraction at hf
  refine lv_iload_n (pc := 0) hx hb dX9_setFraction_0 rfl (lv_at hl 1 rfl) ?_
  refine lv_iload_n (pc := 1) hx hb dX9_setFraction_1 rfl (lv_at hl 2 rfl) ?_
  refine s_X9_274 (pc := 2) B hW hl.1 (by decide) (zle8 rfl) dX9_setFraction_2 (fun _ _ h => c_X9_commonDivisor h) hf (fun r2 μ1 H locs hW hf => ?_)
  refine lv_istore_n (pc := 5) (lv' := [(3, .int r2), (0, .ref (zad G 0)), (1, .int x1), (2, .int x2)]) hx hb dX9_setFraction_5 rfl hl (by decide) rfl (fun ls hl => ?_)
  refine lv_iload_n (pc := 6) hx hb dX9_setFraction_6 rfl (lv_at hl 0 rfl) ?_
  refine lv_iconst (pc := 7) (v := (1 : Int32)) hx hb dX9_setFraction_7 rfl ?_
  refine yic_ge (pc := 8) (tgt := 12) B dX9_setFraction_8 (by decide) hf (fun hf => ?_) (fun hf => ?_)
  · refine lv_aload_n (pc := 12) hx hb dX9_setFraction_12 rfl (lv_at hl 1 rfl) ?_
    refine lv_iload_n (pc := 13) hx hb dX9_setFraction_13 rfl (lv_at hl 2 rfl) ?_
    refine lv_iload_n (pc := 14) hx hb dX9_setFraction_14 rfl (lv_at hl 0 rfl) ?_
    refine ydiv (pc := 15) B dX9_setFraction_15 hf (fun hf => ?_)
    refine lv_i2l (pc := 16) (v := ((x1 / r2)).toInt64) hx hb dX9_setFraction_16 rfl ?_
    refine p_X9_234 (pc := 17) B hW dX9_setFraction_17 hf (fun μ3 H locs hW hf => ?_)
    refine lv_aload_n (pc := 20) hx hb dX9_setFraction_20 rfl (lv_at hl 1 rfl) ?_
    refine lv_iload_n (pc := 21) hx hb dX9_setFraction_21 rfl (lv_at hl 3 rfl) ?_
    refine lv_iload_n (pc := 22) hx hb dX9_setFraction_22 rfl (lv_at hl 0 rfl) ?_
    refine ydiv (pc := 23) B dX9_setFraction_23 hf (fun hf => ?_)
    refine lv_i2l (pc := 24) (v := ((x2 / r2)).toInt64) hx hb dX9_setFraction_24 rfl ?_
    refine p_X9_61 (pc := 25) B hW dX9_setFraction_25 hf (fun μ4 H locs hW hf => ?_)
    exact zretv (pc := 28) B hW hf dX9_setFraction_28
  · exact zretv (pc := 11) B hW hf dX9_setFraction_11
noncomputable def f_X9_owls (x1 : Int32) (x2 : Int32) (μ : Mem) : Option (Int32 × Mem) := zbind (f_X9_isBoy x1 μ) (fun r2 μ1 => (if r2 = 0 then zbind (f_X9_bad μ1) (fun r4 μ3 => some (r4, μ3)) else zbind (f_X9_within x2 (10 : Int32) μ1) (fun r6 μ5 => (if r6 = 0 then zbind (f_X9_bad μ5) (fun r11 μ10 => some (r11, μ10)) else zbind (f_X1_tenfoldMean 1 x1 x2 μ5) (fun r8 μ7 => zbind (f_X9_setFraction r8 (10 : Int32) μ7) (fun _ μ9 => some ((1 : Int32), μ9)))))))
set_option maxRecDepth 100000 in
theorem c_X9_owls {G : ZG} {l : Launch} {x1 : Int32} {x2 : Int32} {μ : Mem} {r : Int32} {μ' : Mem} (h : f_X9_owls x1 x2 μ = some (r, μ')) : zC ZC G l yX9_owls cX9_owls 3 (some .int) 5 [.ref (zad G 0), .int x1, .int x2] μ (some (.int r)) μ' := by
  refine zC.mk (by decide +kernel) (Nat.le_of_ble_eq_true rfl) ?_
  intro p e s m below meth c ls B hl hW
  have B : zB ZC G cX9_owls 3 "DarkShares" (some .int) p s m [.ref (zad G 0), .int x1, .int x2].toArray meth c := B
  have hl : lv_has ls 3 [(0, .ref (zad G 0)), (1, .int x1), (2, .int x2)] := hl
  have hx := B.1
  have hb := B.2.1
  have hf := h
  unfold f_X9_owls at hf
  refine lv_aload_n (pc := 0) hx hb dX9_owls_0 rfl (lv_at hl 0 rfl) ?_
  refine lv_iload_n (pc := 1) hx hb dX9_owls_1 rfl (lv_at hl 1 rfl) ?_
  refine s_X9_91 (pc := 2) B hW hl.1 (by decide) (zle8 rfl) dX9_owls_2 (fun _ _ h => c_X9_isBoy h) hf (fun r2 μ1 H locs hW hf => ?_)
  refine yif_eq (pc := 5) (tgt := 17) B dX9_owls_5 (by decide) hf (fun hf => ?_) (fun hf => ?_)
  · refine lv_aload_n (pc := 17) hx hb dX9_owls_17 rfl (lv_at hl 0 rfl) ?_
    refine s_X9_76 (pc := 18) B hW hl.1 (by decide) (zle8 rfl) dX9_owls_18 (fun _ _ h => c_X9_bad h) hf (fun r4 μ3 H locs hW hf => ?_)
    exact zreti (pc := 21) B hW hf dX9_owls_21
  · refine lv_iload_n (pc := 8) hx hb dX9_owls_8 rfl (lv_at hl 2 rfl) ?_
    refine lv_bipush (pc := 9) (v := (10 : Int32)) hx hb dX9_owls_9 rfl ?_
    refine s_X9_72 (pc := 11) B hW hl.1 (by decide) (zle8 rfl) dX9_owls_11 (fun _ _ h => c_X9_within h) hf (fun r6 μ5 H locs hW hf => ?_)
    refine yif_ne (pc := 14) (tgt := 22) B dX9_owls_14 (by decide) hf (fun hf => ?_) (fun hf => ?_)
    · refine lv_aload_n (pc := 22) hx hb dX9_owls_22 rfl (lv_at hl 0 rfl) ?_
      refine lv_aload_n (pc := 23) hx hb dX9_owls_23 rfl (lv_at hl 0 rfl) ?_
      refine g_X9_32 (pc := 24) B hW dX9_owls_24 ?_
      refine lv_iload_n (pc := 27) hx hb dX9_owls_27 rfl (lv_at hl 1 rfl) ?_
      refine lv_iload_n (pc := 28) hx hb dX9_owls_28 rfl (lv_at hl 2 rfl) ?_
      refine s_X9_216 (pc := 29) B hW hl.1 zN1 (by decide) (zle8 rfl) dX9_owls_29 (fun _ _ h => c_X1_tenfoldMean zN1 h) hf (fun r8 μ7 H locs hW hf => ?_)
      refine lv_bipush (pc := 32) (v := (10 : Int32)) hx hb dX9_owls_32 rfl ?_
      refine s_X9_219 (pc := 34) B hW hl.1 (by decide) (zle8 rfl) dX9_owls_34 (fun _ _ h => c_X9_setFraction h) hf (fun _ μ9 H locs hW hf => ?_)
      refine lv_iconst (pc := 37) (v := (1 : Int32)) hx hb dX9_owls_37 rfl ?_
      exact zreti (pc := 38) B hW hf dX9_owls_38
    · refine lv_aload_n (pc := 17) hx hb dX9_owls_17 rfl (lv_at hl 0 rfl) ?_
      refine s_X9_76 (pc := 18) B hW hl.1 (by decide) (zle8 rfl) dX9_owls_18 (fun _ _ h => c_X9_bad h) hf (fun r11 μ10 H locs hW hf => ?_)
      exact zreti (pc := 21) B hW hf dX9_owls_21
noncomputable def f_X9_cellBy (x0 : Int64) (μ : Mem) : Option (Int32 × Mem) := zck (decide (¬ (65536 : Int64) = 0)) (zck (decide (¬ (12 : Int64) = 0)) (some (((((x0 / (65536 : Int64)) - (x0 / (65536 : Int64)) / (12 : Int64) * (12 : Int64))).toInt32), μ)))
set_option maxRecDepth 100000 in
theorem c_X9_cellBy {G : ZG} {l : Launch} {x0 : Int64} {μ : Mem} {r : Int32} {μ' : Mem} (h : f_X9_cellBy x0 μ = some (r, μ')) : zC ZC G l yX9_cellBy cX9_cellBy 2 (some .int) 1 [.long x0] μ (some (.int r)) μ' := by
  refine zC.mk (by decide +kernel) (Nat.le_of_ble_eq_true rfl) ?_
  intro p e s m below meth c ls B hl hW
  have B : zB ZC G cX9_cellBy 2 "DarkShares" (some .int) p s m [.long x0].toArray meth c := B
  have hl : lv_has ls 2 [(0, .long x0)] := hl
  have hx := B.1
  have hb := B.2.1
  have hf := h
  unfold f_X9_cellBy at hf
  refine lv_lload_n (pc := 0) hx hb dX9_cellBy_0 rfl (lv_at hl 0 rfl) ?_
  refine lv_ldc2 (pc := 1) hx hb B.2.2.2.1 (B.2.2.2.2.1 _ kw706) dX9_cellBy_1 ?_
  refine ydivl (pc := 4) B dX9_cellBy_4 hf (fun hf => ?_)
  refine lv_ldc2 (pc := 5) hx hb B.2.2.2.1 (B.2.2.2.2.1 _ kw707) dX9_cellBy_5 ?_
  refine yreml (pc := 8) B dX9_cellBy_8 hf (fun hf => ?_)
  refine lv_l2i (pc := 9) (v := (((x0 / (65536 : Int64)) - (x0 / (65536 : Int64)) / (12 : Int64) * (12 : Int64))).toInt32) hx hb dX9_cellBy_9 rfl ?_
  exact zreti (pc := 10) B hW hf dX9_cellBy_10
noncomputable def f_X9_drawn (x0 : Int64) (μ : Mem) : Option (Int64 × Mem) := zck (decide (¬ (2147483648 : Int64) = 0)) (some ((((x0 * (1103515245 : Int64)) + (12345 : Int64)) - ((x0 * (1103515245 : Int64)) + (12345 : Int64)) / (2147483648 : Int64) * (2147483648 : Int64)), μ))
set_option maxRecDepth 100000 in
theorem c_X9_drawn {G : ZG} {l : Launch} {x0 : Int64} {μ : Mem} {r : Int64} {μ' : Mem} (h : f_X9_drawn x0 μ = some (r, μ')) : zC ZC G l yX9_drawn cX9_drawn 2 (some .long) 1 [.long x0] μ (some (.long r)) μ' := by
  refine zC.mk (by decide +kernel) (Nat.le_of_ble_eq_true rfl) ?_
  intro p e s m below meth c ls B hl hW
  have B : zB ZC G cX9_drawn 2 "DarkShares" (some .long) p s m [.long x0].toArray meth c := B
  have hl : lv_has ls 2 [(0, .long x0)] := hl
  have hx := B.1
  have hb := B.2.1
  have hf := h
  unfold f_X9_drawn at hf
  refine lv_lload_n (pc := 0) hx hb dX9_drawn_0 rfl (lv_at hl 0 rfl) ?_
  refine lv_ldc2 (pc := 1) hx hb B.2.2.2.1 (B.2.2.2.2.1 _ kw700) dX9_drawn_1 ?_
  refine lv_lmul (pc := 4) hx hb dX9_drawn_4 ?_
  refine lv_ldc2 (pc := 5) hx hb B.2.2.2.1 (B.2.2.2.2.1 _ kw701) dX9_drawn_5 ?_
  refine lv_ladd (pc := 8) hx hb dX9_drawn_8 ?_
  refine lv_ldc2 (pc := 9) hx hb B.2.2.2.1 (B.2.2.2.2.1 _ kw702) dX9_drawn_9 ?_
  refine yreml (pc := 12) B dX9_drawn_12 hf (fun hf => ?_)
  exact zretl (pc := 13) B hW hf dX9_drawn_13
noncomputable def f_X9_terms_43 : Nat → Int32 → Int64 → Int32 → Int32 → Mem → Option (Int32 × Mem)
  | 0, _, _, _, _, _ => none
  | n + 1, x2, x3, x5, x6, μ => (if x2 ≤ x6 then some (x5, μ) else zbind (f_X9_drawn x3 μ) (fun r2 μ1 => zbind (f_X9_cellBy r2 μ1) (fun r4 μ3 => zbind (f_X9_drawn r2 μ3) (fun r6 μ5 => zbind (f_X9_cellBy r6 μ5) (fun r8 μ7 => zbind (f_X1_bothGain 8 r4 r8 μ7) (fun r10 μ9 => (if r10 = 0 then f_X9_terms_43 n x2 r6 x5 (x6 + (1 : Int32)) μ9 else zbind (f_X1_changeHands 8 r4 r8 μ9) (fun _ μ11 => f_X9_terms_43 n x2 r6 (x5 + (1 : Int32)) (x6 + (1 : Int32)) μ11))))))))
set_option maxRecDepth 100000 in
theorem t_X9_terms_43 {G : ZG} {p : Program} {l : Launch} {e : Env} {s : State} {m : MethodId} {args : Array Value} {below : List Frame} {meth : Method} {c : Code} (B : zB ZC G cX9_terms 9 "DarkShares" (some .int) p s m args meth c) : ∀ (n : Nat) {x2 : Int32} {x3 : Int64} {x5 : Int32} {x6 : Int32} {μ : Mem} {H : Heap} {locs : List Loc} {ls : Array Slot} {r : Int32} {μ' : Mem}, lv_has ls 9 [(0, .ref (zad G 0)), (2, .int x2), (3, .long x3), (5, .int x5), (6, .int x6)] → zW ZC G s H locs μ → f_X9_terms_43 n x2 x3 x5 x6 μ = some (r, μ') → W p l e (zR 7) s m args below meth c H locs 0 0 (MQ below (zQ ZC G (some (.int r)) μ') args s 0 0 (zAd ZC G)) (F0 m 43 ls []) := by
  have hx := B.1
  have hb := B.2.1
  intro n
  induction n with
  | zero => intro _ _ _ _ _ _ _ _ _ _ hl hW hf; cases hf
  | succ n ih =>
    intro x2 x3 x5 x6 μ H locs ls r μ' hl hW hf
    rw [f_X9_terms_43] at hf
    refine lv_iload (pc := 43) hx hb dX9_terms_43 (lv_at hl 4 rfl) ?_
    refine lv_iload_n (pc := 45) hx hb dX9_terms_45 rfl (lv_at hl 1 rfl) ?_
    refine yic_ge (pc := 46) (tgt := 105) B dX9_terms_46 (by decide) hf (fun hf => ?_) (fun hf => ?_)
    · refine lv_iload (pc := 105) hx hb dX9_terms_105 (lv_at hl 3 rfl) ?_
      exact zreti (pc := 107) B hW hf dX9_terms_107
    · refine lv_lload_n (pc := 49) hx hb dX9_terms_49 rfl (lv_at hl 2 rfl) ?_
      refine s_X9_223 (pc := 50) B hW hl.1 (by decide) (zle8 rfl) dX9_terms_50 (fun _ _ h => c_X9_drawn h) hf (fun r2 μ1 H locs hW hf => ?_)
      refine lv_lstore_n (pc := 53) (lv' := [(3, .long r2), (0, .ref (zad G 0)), (2, .int x2), (5, .int x5), (6, .int x6)]) hx hb dX9_terms_53 rfl hl (by decide) rfl (fun ls hl => ?_)
      refine lv_lload_n (pc := 54) hx hb dX9_terms_54 rfl (lv_at hl 0 rfl) ?_
      refine s_X9_227 (pc := 55) B hW hl.1 (by decide) (zle8 rfl) dX9_terms_55 (fun _ _ h => c_X9_cellBy h) hf (fun r4 μ3 H locs hW hf => ?_)
      refine lv_istore (pc := 58) (lv' := [(7, .int r4), (3, .long r2), (0, .ref (zad G 0)), (2, .int x2), (5, .int x5), (6, .int x6)]) hx hb dX9_terms_58 hl (by decide) rfl (fun ls hl => ?_)
      refine lv_lload_n (pc := 60) hx hb dX9_terms_60 rfl (lv_at hl 1 rfl) ?_
      refine s_X9_223 (pc := 61) B hW hl.1 (by decide) (zle8 rfl) dX9_terms_61 (fun _ _ h => c_X9_drawn h) hf (fun r6 μ5 H locs hW hf => ?_)
      refine lv_lstore_n (pc := 64) (lv' := [(3, .long r6), (7, .int r4), (0, .ref (zad G 0)), (2, .int x2), (5, .int x5), (6, .int x6)]) hx hb dX9_terms_64 rfl hl (by decide) rfl (fun ls hl => ?_)
      refine lv_lload_n (pc := 65) hx hb dX9_terms_65 rfl (lv_at hl 0 rfl) ?_
      refine s_X9_227 (pc := 66) B hW hl.1 (by decide) (zle8 rfl) dX9_terms_66 (fun _ _ h => c_X9_cellBy h) hf (fun r8 μ7 H locs hW hf => ?_)
      refine lv_istore (pc := 69) (lv' := [(8, .int r8), (3, .long r6), (7, .int r4), (0, .ref (zad G 0)), (2, .int x2), (5, .int x5), (6, .int x6)]) hx hb dX9_terms_69 hl (by decide) rfl (fun ls hl => ?_)
      refine lv_aload_n (pc := 71) hx hb dX9_terms_71 rfl (lv_at hl 3 rfl) ?_
      refine g_X9_36 (pc := 72) B hW dX9_terms_72 ?_
      refine lv_iload (pc := 75) hx hb dX9_terms_75 (lv_at hl 2 rfl) ?_
      refine lv_iload (pc := 77) hx hb dX9_terms_77 (lv_at hl 0 rfl) ?_
      refine s_X9_231 (pc := 79) B hW hl.1 zN8 (by decide) (zle8 rfl) dX9_terms_79 (fun _ _ h => c_X1_bothGain zN8 h) hf (fun r10 μ9 H locs hW hf => ?_)
      refine yif_eq (pc := 82) (tgt := 99) B dX9_terms_82 (by decide) hf (fun hf => ?_) (fun hf => ?_)
      · refine lv_iinc (pc := 99) (v := (x6 + (1 : Int32))) (lv' := [(6, .int (x6 + (1 : Int32))), (8, .int r8), (3, .long r6), (7, .int r4), (0, .ref (zad G 0)), (2, .int x2), (5, .int x5)]) hx hb dX9_terms_99 hl (k := 6) rfl rfl (by decide) rfl (fun ls hl => ?_)
        refine lv_goto (pc := 102) (tgt := 43) hx hb dX9_terms_102 (by decide) ?_
        exact ih (lv_sub hl [4, 5, 2, 6, 0] rfl) hW hf
      · refine lv_aload_n (pc := 85) hx hb dX9_terms_85 rfl (lv_at hl 3 rfl) ?_
        refine g_X9_36 (pc := 86) B hW dX9_terms_86 ?_
        refine lv_iload (pc := 89) hx hb dX9_terms_89 (lv_at hl 2 rfl) ?_
        refine lv_iload (pc := 91) hx hb dX9_terms_91 (lv_at hl 0 rfl) ?_
        refine s_X9_125 (pc := 93) B hW hl.1 zN8 (by decide) (zle8 rfl) dX9_terms_93 (fun _ _ h => c_X1_changeHands zN8 h) hf (fun _ μ11 H locs hW hf => ?_)
        refine lv_iinc (pc := 96) (v := (x5 + (1 : Int32))) (lv' := [(5, .int (x5 + (1 : Int32))), (8, .int r8), (3, .long r6), (7, .int r4), (0, .ref (zad G 0)), (2, .int x2), (6, .int x6)]) hx hb dX9_terms_96 hl (k := 5) rfl rfl (by decide) rfl (fun ls hl => ?_)
        refine lv_iinc (pc := 99) (v := (x6 + (1 : Int32))) (lv' := [(6, .int (x6 + (1 : Int32))), (5, .int (x5 + (1 : Int32))), (8, .int r8), (3, .long r6), (7, .int r4), (0, .ref (zad G 0)), (2, .int x2)]) hx hb dX9_terms_99 hl (k := 6) rfl rfl (by decide) rfl (fun ls hl => ?_)
        refine lv_goto (pc := 102) (tgt := 43) hx hb dX9_terms_102 (by decide) ?_
        exact ih (lv_sub hl [5, 6, 3, 1, 0] rfl) hW hf
noncomputable def f_X9_terms (x1 : Int32) (x2 : Int32) (μ : Mem) : Option (Int32 × Mem) := zbind (f_X9_within x1 (999999 : Int32) μ) (fun r2 μ1 => (if r2 = 0 then zbind (f_X9_bad μ1) (fun r4 μ3 => some (r4, μ3)) else zbind (f_X9_within x2 (60 : Int32) μ1) (fun r6 μ5 => (if r6 = 0 then zbind (f_X9_bad μ5) (fun r9 μ8 => some (r9, μ8)) else zbind (f_X1_becomes 8 1 μ5) (fun _ μ7 => f_X9_terms_43 zFU x2 ((x1).toInt64) (0 : Int32) (0 : Int32) μ7)))))
set_option maxRecDepth 100000 in
theorem c_X9_terms {G : ZG} {l : Launch} {x1 : Int32} {x2 : Int32} {μ : Mem} {r : Int32} {μ' : Mem} (h : f_X9_terms x1 x2 μ = some (r, μ')) : zC ZC G l yX9_terms cX9_terms 9 (some .int) 7 [.ref (zad G 0), .int x1, .int x2] μ (some (.int r)) μ' := by
  refine zC.mk (by decide +kernel) (Nat.le_of_ble_eq_true rfl) ?_
  intro p e s m below meth c ls B hl hW
  have B : zB ZC G cX9_terms 9 "DarkShares" (some .int) p s m [.ref (zad G 0), .int x1, .int x2].toArray meth c := B
  have hl : lv_has ls 9 [(0, .ref (zad G 0)), (1, .int x1), (2, .int x2)] := hl
  have hx := B.1
  have hb := B.2.1
  have hf := h
  unfold f_X9_terms at hf
  refine lv_iload_n (pc := 0) hx hb dX9_terms_0 rfl (lv_at hl 1 rfl) ?_
  refine lv_ldc (pc := 1) hx hb B.2.2.2.1 (B.2.2.2.2.1 _ kw696) dX9_terms_1 ?_
  refine s_X9_72 (pc := 3) B hW hl.1 (by decide) (zle8 rfl) dX9_terms_3 (fun _ _ h => c_X9_within h) hf (fun r2 μ1 H locs hW hf => ?_)
  refine yif_eq (pc := 6) (tgt := 18) B dX9_terms_6 (by decide) hf (fun hf => ?_) (fun hf => ?_)
  · refine lv_aload_n (pc := 18) hx hb dX9_terms_18 rfl (lv_at hl 0 rfl) ?_
    refine s_X9_76 (pc := 19) B hW hl.1 (by decide) (zle8 rfl) dX9_terms_19 (fun _ _ h => c_X9_bad h) hf (fun r4 μ3 H locs hW hf => ?_)
    exact zreti (pc := 22) B hW hf dX9_terms_22
  · refine lv_iload_n (pc := 9) hx hb dX9_terms_9 rfl (lv_at hl 2 rfl) ?_
    refine lv_bipush (pc := 10) (v := (60 : Int32)) hx hb dX9_terms_10 rfl ?_
    refine s_X9_72 (pc := 12) B hW hl.1 (by decide) (zle8 rfl) dX9_terms_12 (fun _ _ h => c_X9_within h) hf (fun r6 μ5 H locs hW hf => ?_)
    refine yif_ne (pc := 15) (tgt := 23) B dX9_terms_15 (by decide) hf (fun hf => ?_) (fun hf => ?_)
    · refine lv_aload_n (pc := 23) hx hb dX9_terms_23 rfl (lv_at hl 0 rfl) ?_
      refine g_X9_36 (pc := 24) B hW dX9_terms_24 ?_
      refine lv_aload_n (pc := 27) hx hb dX9_terms_27 rfl (lv_at hl 0 rfl) ?_
      refine g_X9_32 (pc := 28) B hW dX9_terms_28 ?_
      refine s_X9_115 (pc := 31) B hW hl.1 zN8 (by decide) (zle8 rfl) dX9_terms_31 (fun _ _ h => c_X1_becomes zN8 zN1 h) hf (fun _ μ7 H locs hW hf => ?_)
      refine lv_iload_n (pc := 34) hx hb dX9_terms_34 rfl (lv_at hl 1 rfl) ?_
      refine lv_i2l (pc := 35) (v := (x1).toInt64) hx hb dX9_terms_35 rfl ?_
      refine lv_lstore_n (pc := 36) (lv' := [(3, .long ((x1).toInt64)), (0, .ref (zad G 0)), (1, .int x1), (2, .int x2)]) hx hb dX9_terms_36 rfl hl (by decide) rfl (fun ls hl => ?_)
      refine lv_iconst (pc := 37) (v := (0 : Int32)) hx hb dX9_terms_37 rfl ?_
      refine lv_istore (pc := 38) (lv' := [(5, .int (0 : Int32)), (3, .long ((x1).toInt64)), (0, .ref (zad G 0)), (1, .int x1), (2, .int x2)]) hx hb dX9_terms_38 hl (by decide) rfl (fun ls hl => ?_)
      refine lv_iconst (pc := 40) (v := (0 : Int32)) hx hb dX9_terms_40 rfl ?_
      refine lv_istore (pc := 41) (lv' := [(6, .int (0 : Int32)), (5, .int (0 : Int32)), (3, .long ((x1).toInt64)), (0, .ref (zad G 0)), (1, .int x1), (2, .int x2)]) hx hb dX9_terms_41 hl (by decide) rfl (fun ls hl => ?_)
      exact t_X9_terms_43 B zFU (lv_sub hl [3, 5, 2, 1, 0] rfl) hW hf
    · refine lv_aload_n (pc := 18) hx hb dX9_terms_18 rfl (lv_at hl 0 rfl) ?_
      refine s_X9_76 (pc := 19) B hW hl.1 (by decide) (zle8 rfl) dX9_terms_19 (fun _ _ h => c_X9_bad h) hf (fun r9 μ8 H locs hW hf => ?_)
      exact zreti (pc := 22) B hW hf dX9_terms_22
noncomputable def f_X9_part (x1 : Int32) (μ : Mem) : Option (Int64 × Mem) := (if x1 = (0 : Int32) then some ((μ.2 0 6), μ) else (if x1 = (1 : Int32) then some ((μ.2 0 7), μ) else zbind (f_X9_bad μ) (fun r2 μ1 => some (((r2).toInt64), μ1))))
set_option maxRecDepth 100000 in
theorem c_X9_part {G : ZG} {l : Launch} {x1 : Int32} {μ : Mem} {r : Int64} {μ' : Mem} (h : f_X9_part x1 μ = some (r, μ')) : zC ZC G l yX9_part cX9_part 2 (some .long) 2 [.ref (zad G 0), .int x1] μ (some (.long r)) μ' := by
  refine zC.mk (by decide +kernel) (Nat.le_of_ble_eq_true rfl) ?_
  intro p e s m below meth c ls B hl hW
  have B : zB ZC G cX9_part 2 "DarkShares" (some .long) p s m [.ref (zad G 0), .int x1].toArray meth c := B
  have hl : lv_has ls 2 [(0, .ref (zad G 0)), (1, .int x1)] := hl
  have hx := B.1
  have hb := B.2.1
  have hf := h
  unfold f_X9_part at hf
  refine lv_iload_n (pc := 0) hx hb dX9_part_0 rfl (lv_at hl 1 rfl) ?_
  rcases zsw hf with ⟨c0, hf⟩ | ⟨c0, hf⟩
  · refine lv_lookup (pc := 1) (tgt := 28) (off := 27) hx hb dX9_part_1 (by decide) (by rw [c0]; decide) (by decide) ?_
    refine lv_aload_n (pc := 28) hx hb dX9_part_28 rfl (lv_at hl 0 rfl) ?_
    refine g_X9_234 (pc := 29) B hW dX9_part_29 ?_
    exact zretl (pc := 32) B hW hf dX9_part_32
  rcases zsw hf with ⟨c1, hf⟩ | ⟨c1, hf⟩
  · refine lv_lookup (pc := 1) (tgt := 33) (off := 32) hx hb dX9_part_1 (by decide) (by rw [c1]; decide) (by decide) ?_
    refine lv_aload_n (pc := 33) hx hb dX9_part_33 rfl (lv_at hl 0 rfl) ?_
    refine g_X9_61 (pc := 34) B hW dX9_part_34 ?_
    exact zretl (pc := 37) B hW hf dX9_part_37
  have e0 := zne c0 (show ((0 : Int32)).toInt = 0 from by decide)
  have e1 := zne c1 (show ((1 : Int32)).toInt = 1 from by decide)
  refine lv_lookup (pc := 1) (tgt := 38) (off := 37) hx hb dX9_part_1 (by decide) (by simp [Op.lookupswitch.offset, Ne.symm e0, e0, Ne.symm e1, e1]) (by decide) ?_
  refine lv_aload_n (pc := 38) hx hb dX9_part_38 rfl (lv_at hl 0 rfl) ?_
  refine s_X9_76 (pc := 39) B hW hl.1 (by decide) (zle8 rfl) dX9_part_39 (fun _ _ h => c_X9_bad h) hf (fun r2 μ1 H locs hW hf => ?_)
  refine lv_i2l (pc := 42) (v := (r2).toInt64) hx hb dX9_part_42 rfl ?_
  exact zretl (pc := 43) B hW hf dX9_part_43
noncomputable def f_X9_image (x1 : Int32) (μ : Mem) : Option (Int32 × Mem) := zbind (f_X9_within x1 (1 : Int32) μ) (fun r2 μ1 => (if r2 = 0 then zbind (f_X9_bad μ1) (fun r7 μ6 => some (r7, μ6)) else zck (zin x1 2) (zbind (f_X1_becomes (15 + 7 * (x1).toNatClampNeg) 1 μ1) (fun _ μ4 => zck (zin x1 2) (zlet (zI μ4 37 (x1).toNatClampNeg (vp_nar .boolean (1 : Int32))) (fun μ5 => some ((1 : Int32), μ5)))))))
set_option maxRecDepth 100000 in
theorem c_X9_image {G : ZG} {l : Launch} {x1 : Int32} {μ : Mem} {r : Int32} {μ' : Mem} (h : f_X9_image x1 μ = some (r, μ')) : zC ZC G l yX9_image cX9_image 2 (some .int) 2 [.ref (zad G 0), .int x1] μ (some (.int r)) μ' := by
  refine zC.mk (by decide +kernel) (Nat.le_of_ble_eq_true rfl) ?_
  intro p e s m below meth c ls B hl hW
  have B : zB ZC G cX9_image 2 "DarkShares" (some .int) p s m [.ref (zad G 0), .int x1].toArray meth c := B
  have hl : lv_has ls 2 [(0, .ref (zad G 0)), (1, .int x1)] := hl
  have hx := B.1
  have hb := B.2.1
  have hf := h
  unfold f_X9_image at hf
  refine lv_iload_n (pc := 0) hx hb dX9_image_0 rfl (lv_at hl 1 rfl) ?_
  refine lv_iconst (pc := 1) (v := (1 : Int32)) hx hb dX9_image_1 rfl ?_
  refine s_X9_72 (pc := 2) B hW hl.1 (by decide) (zle8 rfl) dX9_image_2 (fun _ _ h => c_X9_within h) hf (fun r2 μ1 H locs hW hf => ?_)
  refine yif_ne (pc := 5) (tgt := 13) B dX9_image_5 (by decide) hf (fun hf => ?_) (fun hf => ?_)
  · refine lv_aload_n (pc := 13) hx hb dX9_image_13 rfl (lv_at hl 0 rfl) ?_
    refine g_X9_39 (pc := 14) B hW dX9_image_14 ?_
    refine lv_iload_n (pc := 17) hx hb dX9_image_17 rfl (lv_at hl 1 rfl) ?_
    refine yaldN (pc := 18) B hW dX9_image_18 hf (fun hN3 hf => ?_)
    refine lv_aload_n (pc := 19) hx hb dX9_image_19 rfl (lv_at hl 0 rfl) ?_
    refine g_X9_32 (pc := 20) B hW dX9_image_20 ?_
    refine s_X9_115 (pc := 23) B hW hl.1 hN3 (by decide) (zle8 rfl) dX9_image_23 (fun _ _ h => c_X1_becomes hN3 zN1 h) hf (fun _ μ4 H locs hW hf => ?_)
    refine lv_aload_n (pc := 26) hx hb dX9_image_26 rfl (lv_at hl 0 rfl) ?_
    refine g_X9_43 (pc := 27) B hW dX9_image_27 ?_
    refine lv_iload_n (pc := 30) hx hb dX9_image_30 rfl (lv_at hl 1 rfl) ?_
    refine lv_iconst (pc := 31) (v := (1 : Int32)) hx hb dX9_image_31 rfl ?_
    refine yzst (pc := 32) B hW ar37 dX9_image_32 hf (fun μ5 H locs hW hf => ?_)
    refine lv_iconst (pc := 33) (v := (1 : Int32)) hx hb dX9_image_33 rfl ?_
    exact zreti (pc := 34) B hW hf dX9_image_34
  · refine lv_aload_n (pc := 8) hx hb dX9_image_8 rfl (lv_at hl 0 rfl) ?_
    refine s_X9_76 (pc := 9) B hW hl.1 (by decide) (zle8 rfl) dX9_image_9 (fun _ _ h => c_X9_bad h) hf (fun r7 μ6 H locs hW hf => ?_)
    exact zreti (pc := 12) B hW hf dX9_image_12
noncomputable def f_X9_from (x1 : Int32) (μ : Mem) : Option (Int32 × Mem) := zbind (f_X9_within x1 (1 : Int32) μ) (fun r2 μ1 => (if r2 = 0 then zbind (f_X9_bad μ1) (fun r8 μ7 => some (r8, μ7)) else zck (zin x1 2) ((if (μ1.1 37 (x1).toNatClampNeg) = 0 then zbind (f_X9_no μ1) (fun r6 μ5 => some (r6, μ5)) else zck (zin x1 2) (zbind (f_X1_becomes 1 (15 + 7 * (x1).toNatClampNeg) μ1) (fun _ μ4 => some ((1 : Int32), μ4)))))))
set_option maxRecDepth 100000 in
theorem c_X9_from {G : ZG} {l : Launch} {x1 : Int32} {μ : Mem} {r : Int32} {μ' : Mem} (h : f_X9_from x1 μ = some (r, μ')) : zC ZC G l yX9_from cX9_from 2 (some .int) 2 [.ref (zad G 0), .int x1] μ (some (.int r)) μ' := by
  refine zC.mk (by decide +kernel) (Nat.le_of_ble_eq_true rfl) ?_
  intro p e s m below meth c ls B hl hW
  have B : zB ZC G cX9_from 2 "DarkShares" (some .int) p s m [.ref (zad G 0), .int x1].toArray meth c := B
  have hl : lv_has ls 2 [(0, .ref (zad G 0)), (1, .int x1)] := hl
  have hx := B.1
  have hb := B.2.1
  have hf := h
  unfold f_X9_from at hf
  refine lv_iload_n (pc := 0) hx hb dX9_from_0 rfl (lv_at hl 1 rfl) ?_
  refine lv_iconst (pc := 1) (v := (1 : Int32)) hx hb dX9_from_1 rfl ?_
  refine s_X9_72 (pc := 2) B hW hl.1 (by decide) (zle8 rfl) dX9_from_2 (fun _ _ h => c_X9_within h) hf (fun r2 μ1 H locs hW hf => ?_)
  refine yif_ne (pc := 5) (tgt := 13) B dX9_from_5 (by decide) hf (fun hf => ?_) (fun hf => ?_)
  · refine lv_aload_n (pc := 13) hx hb dX9_from_13 rfl (lv_at hl 0 rfl) ?_
    refine g_X9_43 (pc := 14) B hW dX9_from_14 ?_
    refine lv_iload_n (pc := 17) hx hb dX9_from_17 rfl (lv_at hl 1 rfl) ?_
    refine yzld (pc := 18) B hW ar37 dX9_from_18 hf (fun hf => ?_)
    refine yif_ne (pc := 19) (tgt := 27) B dX9_from_19 (by decide) hf (fun hf => ?_) (fun hf => ?_)
    · refine lv_aload_n (pc := 27) hx hb dX9_from_27 rfl (lv_at hl 0 rfl) ?_
      refine g_X9_32 (pc := 28) B hW dX9_from_28 ?_
      refine lv_aload_n (pc := 31) hx hb dX9_from_31 rfl (lv_at hl 0 rfl) ?_
      refine g_X9_39 (pc := 32) B hW dX9_from_32 ?_
      refine lv_iload_n (pc := 35) hx hb dX9_from_35 rfl (lv_at hl 1 rfl) ?_
      refine yaldN (pc := 36) B hW dX9_from_36 hf (fun hN3 hf => ?_)
      refine s_X9_115 (pc := 37) B hW hl.1 zN1 (by decide) (zle8 rfl) dX9_from_37 (fun _ _ h => c_X1_becomes zN1 hN3 h) hf (fun _ μ4 H locs hW hf => ?_)
      refine lv_iconst (pc := 40) (v := (1 : Int32)) hx hb dX9_from_40 rfl ?_
      exact zreti (pc := 41) B hW hf dX9_from_41
    · refine lv_aload_n (pc := 22) hx hb dX9_from_22 rfl (lv_at hl 0 rfl) ?_
      refine s_X9_122 (pc := 23) B hW hl.1 (by decide) (zle8 rfl) dX9_from_23 (fun _ _ h => c_X9_no h) hf (fun r6 μ5 H locs hW hf => ?_)
      exact zreti (pc := 26) B hW hf dX9_from_26
  · refine lv_aload_n (pc := 8) hx hb dX9_from_8 rfl (lv_at hl 0 rfl) ?_
    refine s_X9_76 (pc := 9) B hW hl.1 (by decide) (zle8 rfl) dX9_from_9 (fun _ _ h => c_X9_bad h) hf (fun r8 μ7 H locs hW hf => ?_)
    exact zreti (pc := 12) B hW hf dX9_from_12
noncomputable def f_X9_status (x1 : Int32) (μ : Mem) : Option (Int32 × Mem) := (if x1 = (0 : Int32) then some ((μ.1 0 8), μ) else (if x1 = (1 : Int32) then some ((μ.1 0 9), μ) else (if x1 = (2 : Int32) then some ((μ.1 0 10), μ) else zbind (f_X9_bad μ) (fun r2 μ1 => some ((-1 : Int32), μ1)))))
set_option maxRecDepth 100000 in
theorem c_X9_status {G : ZG} {l : Launch} {x1 : Int32} {μ : Mem} {r : Int32} {μ' : Mem} (h : f_X9_status x1 μ = some (r, μ')) : zC ZC G l yX9_status cX9_status 2 (some .int) 2 [.ref (zad G 0), .int x1] μ (some (.int r)) μ' := by
  refine zC.mk (by decide +kernel) (Nat.le_of_ble_eq_true rfl) ?_
  intro p e s m below meth c ls B hl hW
  have B : zB ZC G cX9_status 2 "DarkShares" (some .int) p s m [.ref (zad G 0), .int x1].toArray meth c := B
  have hl : lv_has ls 2 [(0, .ref (zad G 0)), (1, .int x1)] := hl
  have hx := B.1
  have hb := B.2.1
  have hf := h
  unfold f_X9_status at hf
  refine lv_iload_n (pc := 0) hx hb dX9_status_0 rfl (lv_at hl 1 rfl) ?_
  rcases zsw hf with ⟨c0, hf⟩ | ⟨c0, hf⟩
  · refine ytabin (pc := 1) (tgt := 28) B dX9_status_1 c0 (by decide) (by decide) rfl (by decide) ?_
    refine lv_aload_n (pc := 28) hx hb dX9_status_28 rfl (lv_at hl 0 rfl) ?_
    refine g_X9_237 (pc := 29) B hW dX9_status_29 ?_
    exact zreti (pc := 32) B hW hf dX9_status_32
  rcases zsw hf with ⟨c1, hf⟩ | ⟨c1, hf⟩
  · refine ytabin (pc := 1) (tgt := 33) B dX9_status_1 c1 (by decide) (by decide) rfl (by decide) ?_
    refine lv_aload_n (pc := 33) hx hb dX9_status_33 rfl (lv_at hl 0 rfl) ?_
    refine g_X9_240 (pc := 34) B hW dX9_status_34 ?_
    exact zreti (pc := 37) B hW hf dX9_status_37
  rcases zsw hf with ⟨c2, hf⟩ | ⟨c2, hf⟩
  · refine ytabin (pc := 1) (tgt := 38) B dX9_status_1 c2 (by decide) (by decide) rfl (by decide) ?_
    refine lv_aload_n (pc := 38) hx hb dX9_status_38 rfl (lv_at hl 0 rfl) ?_
    refine g_X9_243 (pc := 39) B hW dX9_status_39 ?_
    exact zreti (pc := 42) B hW hf dX9_status_42
  have e0 := zne c0 (show ((0 : Int32)).toInt = 0 from by decide)
  have e1 := zne c1 (show ((1 : Int32)).toInt = 1 from by decide)
  have e2 := zne c2 (show ((2 : Int32)).toInt = 2 from by decide)
  refine ytabout (pc := 1) (tgt := 43) B dX9_status_1 (by omega) (by decide) ?_
  refine lv_aload_n (pc := 43) hx hb dX9_status_43 rfl (lv_at hl 0 rfl) ?_
  refine s_X9_76 (pc := 44) B hW hl.1 (by decide) (zle8 rfl) dX9_status_44 (fun _ _ h => c_X9_bad h) hf (fun r2 μ1 H locs hW hf => ?_)
  refine lv_pop (pc := 47) hx hb dX9_status_47 rfl ?_
  refine lv_iconst (pc := 48) (v := (-1 : Int32)) hx hb dX9_status_48 rfl ?_
  exact zreti (pc := 49) B hW hf dX9_status_49
noncomputable def f_X9_count (x1 : Int32) (μ : Mem) : Option (Int32 × Mem) := (if x1 = (0 : Int32) then some ((μ.1 1 7), μ) else (if x1 = (1 : Int32) then zbind (f_X1_greyCells 1 μ) (fun r2 μ1 => some (r2, μ1)) else (if x1 = (2 : Int32) then zbind (f_X1_allJam 1 μ) (fun r4 μ3 => some (r4, μ3)) else (if x1 = (3 : Int32) then zbind (f_X1_haveEnough 1 μ) (fun r6 μ5 => zbind (f_J6_bitCount_0f7a4 r6 μ5) (fun r8 μ7 => some (r8, μ7))) else (if x1 = (4 : Int32) then some ((μ.1 1 8), μ) else (if x1 = (5 : Int32) then some ((μ.1 1 9), μ) else (if x1 = (6 : Int32) then some ((μ.1 41 1), μ) else zbind (f_X9_bad μ) (fun r10 μ9 => some (r10, μ9)))))))))
set_option maxRecDepth 100000 in
theorem c_X9_count {G : ZG} {l : Launch} {x1 : Int32} {μ : Mem} {r : Int32} {μ' : Mem} (h : f_X9_count x1 μ = some (r, μ')) : zC ZC G l yX9_count cX9_count 2 (some .int) 3 [.ref (zad G 0), .int x1] μ (some (.int r)) μ' := by
  refine zC.mk (by decide +kernel) (Nat.le_of_ble_eq_true rfl) ?_
  intro p e s m below meth c ls B hl hW
  have B : zB ZC G cX9_count 2 "DarkShares" (some .int) p s m [.ref (zad G 0), .int x1].toArray meth c := B
  have hl : lv_has ls 2 [(0, .ref (zad G 0)), (1, .int x1)] := hl
  have hx := B.1
  have hb := B.2.1
  have hf := h
  unfold f_X9_count at hf
  refine lv_iload_n (pc := 0) hx hb dX9_count_0 rfl (lv_at hl 1 rfl) ?_
  rcases zsw hf with ⟨c0, hf⟩ | ⟨c0, hf⟩
  · refine ytabin (pc := 1) (tgt := 44) B dX9_count_1 c0 (by decide) (by decide) rfl (by decide) ?_
    refine lv_aload_n (pc := 44) hx hb dX9_count_44 rfl (lv_at hl 0 rfl) ?_
    refine g_X9_32 (pc := 45) B hW dX9_count_45 ?_
    refine g_X9_65 (pc := 48) B hW zN1 dX9_count_48 ?_
    exact zreti (pc := 51) B hW hf dX9_count_51
  rcases zsw hf with ⟨c1, hf⟩ | ⟨c1, hf⟩
  · refine ytabin (pc := 1) (tgt := 52) B dX9_count_1 c1 (by decide) (by decide) rfl (by decide) ?_
    refine lv_aload_n (pc := 52) hx hb dX9_count_52 rfl (lv_at hl 0 rfl) ?_
    refine g_X9_32 (pc := 53) B hW dX9_count_53 ?_
    refine s_X9_138 (pc := 56) B hW hl.1 zN1 (by decide) (zle8 rfl) dX9_count_56 (fun _ _ h => c_X1_greyCells zN1 h) hf (fun r2 μ1 H locs hW hf => ?_)
    exact zreti (pc := 59) B hW hf dX9_count_59
  rcases zsw hf with ⟨c2, hf⟩ | ⟨c2, hf⟩
  · refine ytabin (pc := 1) (tgt := 60) B dX9_count_1 c2 (by decide) (by decide) rfl (by decide) ?_
    refine lv_aload_n (pc := 60) hx hb dX9_count_60 rfl (lv_at hl 0 rfl) ?_
    refine g_X9_32 (pc := 61) B hW dX9_count_61 ?_
    refine s_X9_246 (pc := 64) B hW hl.1 zN1 (by decide) (zle8 rfl) dX9_count_64 (fun _ _ h => c_X1_allJam zN1 h) hf (fun r4 μ3 H locs hW hf => ?_)
    exact zreti (pc := 67) B hW hf dX9_count_67
  rcases zsw hf with ⟨c3, hf⟩ | ⟨c3, hf⟩
  · refine ytabin (pc := 1) (tgt := 68) B dX9_count_1 c3 (by decide) (by decide) rfl (by decide) ?_
    refine lv_aload_n (pc := 68) hx hb dX9_count_68 rfl (lv_at hl 0 rfl) ?_
    refine g_X9_32 (pc := 69) B hW dX9_count_69 ?_
    refine s_X9_158 (pc := 72) B hW hl.1 zN1 (by decide) (zle8 rfl) dX9_count_72 (fun _ _ h => c_X1_haveEnough zN1 h) hf (fun r6 μ5 H locs hW hf => ?_)
    refine s_X9_249 (pc := 75) B hW hl.1 (by decide) (zle8 rfl) dX9_count_75 (fun _ _ h => c_J6_bitCount_0f7a4 h) hf (fun r8 μ7 H locs hW hf => ?_)
    exact zreti (pc := 78) B hW hf dX9_count_78
  rcases zsw hf with ⟨c4, hf⟩ | ⟨c4, hf⟩
  · refine ytabin (pc := 1) (tgt := 79) B dX9_count_1 c4 (by decide) (by decide) rfl (by decide) ?_
    refine lv_aload_n (pc := 79) hx hb dX9_count_79 rfl (lv_at hl 0 rfl) ?_
    refine g_X9_32 (pc := 80) B hW dX9_count_80 ?_
    refine g_X9_200 (pc := 83) B hW zN1 dX9_count_83 ?_
    exact zreti (pc := 86) B hW hf dX9_count_86
  rcases zsw hf with ⟨c5, hf⟩ | ⟨c5, hf⟩
  · refine ytabin (pc := 1) (tgt := 87) B dX9_count_1 c5 (by decide) (by decide) rfl (by decide) ?_
    refine lv_aload_n (pc := 87) hx hb dX9_count_87 rfl (lv_at hl 0 rfl) ?_
    refine g_X9_32 (pc := 88) B hW dX9_count_88 ?_
    refine g_X9_132 (pc := 91) B hW zN1 dX9_count_91 ?_
    exact zreti (pc := 94) B hW hf dX9_count_94
  rcases zsw hf with ⟨c6, hf⟩ | ⟨c6, hf⟩
  · refine ytabin (pc := 1) (tgt := 95) B dX9_count_1 c6 (by decide) (by decide) rfl (by decide) ?_
    refine lv_aload_n (pc := 95) hx hb dX9_count_95 rfl (lv_at hl 0 rfl) ?_
    refine g_X9_57 (pc := 96) B hW dX9_count_96 ?_
    refine g_X9_104 (pc := 99) B hW dX9_count_99 ?_
    exact zreti (pc := 102) B hW hf dX9_count_102
  have e0 := zne c0 (show ((0 : Int32)).toInt = 0 from by decide)
  have e1 := zne c1 (show ((1 : Int32)).toInt = 1 from by decide)
  have e2 := zne c2 (show ((2 : Int32)).toInt = 2 from by decide)
  have e3 := zne c3 (show ((3 : Int32)).toInt = 3 from by decide)
  have e4 := zne c4 (show ((4 : Int32)).toInt = 4 from by decide)
  have e5 := zne c5 (show ((5 : Int32)).toInt = 5 from by decide)
  have e6 := zne c6 (show ((6 : Int32)).toInt = 6 from by decide)
  refine ytabout (pc := 1) (tgt := 103) B dX9_count_1 (by omega) (by decide) ?_
  refine lv_aload_n (pc := 103) hx hb dX9_count_103 rfl (lv_at hl 0 rfl) ?_
  refine s_X9_76 (pc := 104) B hW hl.1 (by decide) (zle8 rfl) dX9_count_104 (fun _ _ h => c_X9_bad h) hf (fun r10 μ9 H locs hW hf => ?_)
  exact zreti (pc := 107) B hW hf dX9_count_107
noncomputable def f_X9_digest_6 : Nat → Int64 → Int32 → Mem → Option (Int64 × Mem)
  | 0, _, _, _ => none
  | n + 1, x1, x3, μ => (if (7 : Int32) ≤ x3 then zbind (f_X1_mixInto 1 x1 μ) (fun r2 μ1 => some ((((31 : Int64) * (((31 : Int64) * r2) + (μ1.2 0 6))) + (μ1.2 0 7)), μ1)) else zbind (f_X9_count x3 μ) (fun r4 μ3 => f_X9_digest_6 n (((31 : Int64) * x1) + ((r4).toInt64)) (x3 + (1 : Int32)) μ3))
set_option maxRecDepth 100000 in
theorem t_X9_digest_6 {G : ZG} {p : Program} {l : Launch} {e : Env} {s : State} {m : MethodId} {args : Array Value} {below : List Frame} {meth : Method} {c : Code} (B : zB ZC G cX9_digest 4 "DarkShares" (some .long) p s m args meth c) : ∀ (n : Nat) {x1 : Int64} {x3 : Int32} {μ : Mem} {H : Heap} {locs : List Loc} {ls : Array Slot} {r : Int64} {μ' : Mem}, lv_has ls 4 [(0, .ref (zad G 0)), (1, .long x1), (3, .int x3)] → zW ZC G s H locs μ → f_X9_digest_6 n x1 x3 μ = some (r, μ') → W p l e (zR 4) s m args below meth c H locs 0 0 (MQ below (zQ ZC G (some (.long r)) μ') args s 0 0 (zAd ZC G)) (F0 m 6 ls []) := by
  have hx := B.1
  have hb := B.2.1
  intro n
  induction n with
  | zero => intro _ _ _ _ _ _ _ _ hl hW hf; cases hf
  | succ n ih =>
    intro x1 x3 μ H locs ls r μ' hl hW hf
    rw [f_X9_digest_6] at hf
    refine lv_iload_n (pc := 6) hx hb dX9_digest_6 rfl (lv_at hl 2 rfl) ?_
    refine lv_bipush (pc := 7) (v := (7 : Int32)) hx hb dX9_digest_7 rfl ?_
    refine yic_ge (pc := 9) (tgt := 31) B dX9_digest_9 (by decide) hf (fun hf => ?_) (fun hf => ?_)
    · refine lv_aload_n (pc := 31) hx hb dX9_digest_31 rfl (lv_at hl 0 rfl) ?_
      refine g_X9_32 (pc := 32) B hW dX9_digest_32 ?_
      refine lv_lload_n (pc := 35) hx hb dX9_digest_35 rfl (lv_at hl 1 rfl) ?_
      refine s_X9_261 (pc := 36) B hW hl.1 zN1 (by decide) (zle8 rfl) dX9_digest_36 (fun _ _ h => c_X1_mixInto zN1 h) hf (fun r2 μ1 H locs hW hf => ?_)
      refine lv_lstore_n (pc := 39) (lv' := [(1, .long r2), (0, .ref (zad G 0)), (3, .int x3)]) hx hb dX9_digest_39 rfl hl (by decide) rfl (fun ls hl => ?_)
      refine lv_ldc2 (pc := 40) hx hb B.2.2.2.1 (B.2.2.2.2.1 _ kw739) dX9_digest_40 ?_
      refine lv_lload_n (pc := 43) hx hb dX9_digest_43 rfl (lv_at hl 0 rfl) ?_
      refine lv_lmul (pc := 44) hx hb dX9_digest_44 ?_
      refine lv_aload_n (pc := 45) hx hb dX9_digest_45 rfl (lv_at hl 1 rfl) ?_
      refine g_X9_234 (pc := 46) B hW dX9_digest_46 ?_
      refine lv_ladd (pc := 49) hx hb dX9_digest_49 ?_
      refine lv_lstore_n (pc := 50) (lv' := [(1, .long (((31 : Int64) * r2) + (μ1.2 0 6))), (0, .ref (zad G 0)), (3, .int x3)]) hx hb dX9_digest_50 rfl hl (by decide) rfl (fun ls hl => ?_)
      refine lv_ldc2 (pc := 51) hx hb B.2.2.2.1 (B.2.2.2.2.1 _ kw739) dX9_digest_51 ?_
      refine lv_lload_n (pc := 54) hx hb dX9_digest_54 rfl (lv_at hl 0 rfl) ?_
      refine lv_lmul (pc := 55) hx hb dX9_digest_55 ?_
      refine lv_aload_n (pc := 56) hx hb dX9_digest_56 rfl (lv_at hl 1 rfl) ?_
      refine g_X9_61 (pc := 57) B hW dX9_digest_57 ?_
      refine lv_ladd (pc := 60) hx hb dX9_digest_60 ?_
      exact zretl (pc := 61) B hW hf dX9_digest_61
    · refine lv_ldc2 (pc := 12) hx hb B.2.2.2.1 (B.2.2.2.2.1 _ kw739) dX9_digest_12 ?_
      refine lv_lload_n (pc := 15) hx hb dX9_digest_15 rfl (lv_at hl 1 rfl) ?_
      refine lv_lmul (pc := 16) hx hb dX9_digest_16 ?_
      refine lv_aload_n (pc := 17) hx hb dX9_digest_17 rfl (lv_at hl 0 rfl) ?_
      refine lv_iload_n (pc := 18) hx hb dX9_digest_18 rfl (lv_at hl 2 rfl) ?_
      refine s_X9_258 (pc := 19) B hW hl.1 (by decide) (zle8 rfl) dX9_digest_19 (fun _ _ h => c_X9_count h) hf (fun r4 μ3 H locs hW hf => ?_)
      refine lv_i2l (pc := 22) (v := (r4).toInt64) hx hb dX9_digest_22 rfl ?_
      refine lv_ladd (pc := 23) hx hb dX9_digest_23 ?_
      refine lv_lstore_n (pc := 24) (lv' := [(1, .long (((31 : Int64) * x1) + ((r4).toInt64))), (0, .ref (zad G 0)), (3, .int x3)]) hx hb dX9_digest_24 rfl hl (by decide) rfl (fun ls hl => ?_)
      refine lv_iinc (pc := 25) (v := (x3 + (1 : Int32))) (lv' := [(3, .int (x3 + (1 : Int32))), (1, .long (((31 : Int64) * x1) + ((r4).toInt64))), (0, .ref (zad G 0))]) hx hb dX9_digest_25 hl (k := 2) rfl rfl (by decide) rfl (fun ls hl => ?_)
      refine lv_goto (pc := 28) (tgt := 6) hx hb dX9_digest_28 (by decide) ?_
      exact ih (lv_sub hl [2, 1, 0] rfl) hW hf
noncomputable def f_X9_digest (μ : Mem) : Option (Int64 × Mem) := f_X9_digest_6 zFU (1193 : Int64) (0 : Int32) μ
set_option maxRecDepth 100000 in
theorem c_X9_digest {G : ZG} {l : Launch} {μ : Mem} {r : Int64} {μ' : Mem} (h : f_X9_digest μ = some (r, μ')) : zC ZC G l yX9_digest cX9_digest 4 (some .long) 4 [.ref (zad G 0)] μ (some (.long r)) μ' := by
  refine zC.mk (by decide +kernel) (Nat.le_of_ble_eq_true rfl) ?_
  intro p e s m below meth c ls B hl hW
  have B : zB ZC G cX9_digest 4 "DarkShares" (some .long) p s m [.ref (zad G 0)].toArray meth c := B
  have hl : lv_has ls 4 [(0, .ref (zad G 0))] := hl
  have hx := B.1
  have hb := B.2.1
  have hf := h
  unfold f_X9_digest at hf
  refine lv_ldc2 (pc := 0) hx hb B.2.2.2.1 (B.2.2.2.2.1 _ kw738) dX9_digest_0 ?_
  refine lv_lstore_n (pc := 3) (lv' := [(1, .long (1193 : Int64)), (0, .ref (zad G 0))]) hx hb dX9_digest_3 rfl hl (by decide) rfl (fun ls hl => ?_)
  refine lv_iconst (pc := 4) (v := (0 : Int32)) hx hb dX9_digest_4 rfl ?_
  refine lv_istore_n (pc := 5) (lv' := [(3, .int (0 : Int32)), (1, .long (1193 : Int64)), (0, .ref (zad G 0))]) hx hb dX9_digest_5 rfl hl (by decide) rfl (fun ls hl => ?_)
  exact t_X9_digest_6 B zFU (lv_sub hl [2, 1, 0] rfl) hW hf
