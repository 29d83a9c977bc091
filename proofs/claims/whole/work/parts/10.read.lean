theorem hy_J0_coder_7d493 : yJ0_coder_7d493.cls ≠ "java/lang/invoke/MethodHandle" ∧ yJ0_coder_7d493.cls ≠ "java/lang/invoke/VarHandle" ∧ (parseMethodDescriptor yJ0_coder_7d493.desc).map (fun d => d.parameters.length) = some 0 := ⟨by decide +kernel, by decide +kernel, by decide +kernel⟩
theorem hy_J0_isLatin1_aae02 : yJ0_isLatin1_aae02.cls ≠ "java/lang/invoke/MethodHandle" ∧ yJ0_isLatin1_aae02.cls ≠ "java/lang/invoke/VarHandle" ∧ (parseMethodDescriptor yJ0_isLatin1_aae02.desc).map (fun d => d.parameters.length) = some 0 := ⟨by decide +kernel, by decide +kernel, by decide +kernel⟩
theorem hy_J0_length_8abf5 : yJ0_length_8abf5.cls ≠ "java/lang/invoke/MethodHandle" ∧ yJ0_length_8abf5.cls ≠ "java/lang/invoke/VarHandle" ∧ (parseMethodDescriptor yJ0_length_8abf5.desc).map (fun d => d.parameters.length) = some 0 := ⟨by decide +kernel, by decide +kernel, by decide +kernel⟩
theorem hy_J0_charAt_5068e : yJ0_charAt_5068e.cls ≠ "java/lang/invoke/MethodHandle" ∧ yJ0_charAt_5068e.cls ≠ "java/lang/invoke/VarHandle" ∧ (parseMethodDescriptor yJ0_charAt_5068e.desc).map (fun d => d.parameters.length) = some 1 := ⟨by decide +kernel, by decide +kernel, by decide +kernel⟩
theorem hy_J1_charAt_3b067 : yJ1_charAt_3b067.cls ≠ "java/lang/invoke/MethodHandle" ∧ yJ1_charAt_3b067.cls ≠ "java/lang/invoke/VarHandle" ∧ (parseMethodDescriptor yJ1_charAt_3b067.desc).map (fun d => d.parameters.length) = some 2 := ⟨by decide +kernel, by decide +kernel, by decide +kernel⟩
theorem hy_J0_checkIndex_df160 : yJ0_checkIndex_df160.cls ≠ "java/lang/invoke/MethodHandle" ∧ yJ0_checkIndex_df160.cls ≠ "java/lang/invoke/VarHandle" ∧ (parseMethodDescriptor yJ0_checkIndex_df160.desc).map (fun d => d.parameters.length) = some 2 := ⟨by decide +kernel, by decide +kernel, by decide +kernel⟩
theorem hy_J3_checkIndex_8e157 : yJ3_checkIndex_8e157.cls ≠ "java/lang/invoke/MethodHandle" ∧ yJ3_checkIndex_8e157.cls ≠ "java/lang/invoke/VarHandle" ∧ (parseMethodDescriptor yJ3_checkIndex_8e157.desc).map (fun d => d.parameters.length) = some 3 := ⟨by decide +kernel, by decide +kernel, by decide +kernel⟩
section STRS
variable {Z : ZS} {G : ZG} {p : Program} {l : Launch} {e : Env} {R : Room} {s : State} {m : MethodId} {args : Array Value} {below : List Frame} {meth : Method} {c : Code} {H : Heap} {locs : List Loc} {cells slots : Nat} {Q : State → Prop}
variable {cc : ByteArray} {nL pc : Nat} {own : String} {rt : Option FieldType} {ls : Array Slot} {rest st0 : List Value} {μ μ' : Mem}
theorem zcallVs {y : MethodName} {bytes : ByteArray} {maxL d index x0 : Nat} {ret : Option FieldType} {As : List Value} {ov : Option Value} (B : zB Z G cc nL own rt p s m args meth c) (hW : zW Z G s H locs μ) (hfl : zfl Z = true) (hl : ls.size = nL) (hx0 : x0 < 3) (hM : zC Z G l y bytes maxL ret d (.ref (zak G x0) :: As) μ ov μ')
    (kl : Cond.methodLink own index y ∈ zTT) (ki : Cond.instanceMethod y ∈ zTT) (ks : Cond.selects "java/lang/String" y y ∈ zTT) (kn : Cond.initialized y.cls ∈ zTT) (kc : Cond.code y bytes maxL ret ∈ zTT) (hy : y.cls ≠ "java/lang/invoke/MethodHandle" ∧ y.cls ≠ "java/lang/invoke/VarHandle" ∧ (parseMethodDescriptor y.desc).map (fun d => d.parameters.length) = some As.length)
    (hR : d + 1 ≤ R.frames ∧ 8 + (maxL + 11) + 64 * d ≤ R.locals) (hcs : cells ≤ R.cells ∧ slots ≤ R.slots) (hst : (rest.map fun v => v.category).sum ≤ 8) (hstack : st0 = As.reverse ++ .ref (zak G x0) :: rest) (hdg : decode cc pc = .ok (.invokevirtual index, 3))
    (kk : ∀ (H1 : Heap) (locs1 : List Loc), zW Z G s H1 locs1 μ' → W p l e R s m args below meth c H1 locs1 cells slots Q (F0 m (pc + 3) ls (ov.toList ++ rest))) : W p l e R s m args below meth c H locs cells slots Q (F0 m pc ls st0) := by
  obtain ⟨hx, hb, hml, hown, hts, hK, -⟩ := B
  exact zrun (va_runV (As := As) (rest := rest) ⟨hx, hb, hml, hown, hts⟩ hM ⟨callB_of As.length hts (zgood kc) rfl rfl rfl (hts _ kn) (hts _ kl) hy hR, hts _ ki, hts _ ks⟩ ⟨(zpreS hK hW).1, vk_recv (hK.2.2 hfl).2.1 hx0 hW.2, (zpreS hK hW).2⟩ rfl rfl hl hstack (lv_room hst) hdg hcs) hW kk
end STRS
set_option maxRecDepth 100000 in
theorem c_J0_coder_7d493 {G : ZG} {l : Launch} {μ : Mem} {x0 : Nat} (hx0 : x0 < 3) : zC ZC G l yJ0_coder_7d493 cJ0_coder_7d493 1 (some .byte) 1 [.ref (zak G x0)] μ (some (.int 0)) μ := by
  refine zC.mk (by decide +kernel) (Nat.le_of_ble_eq_true rfl) ?_
  intro p e s m below meth c ls B hl hW
  have B : zB ZC G cJ0_coder_7d493 1 "java/lang/String" (some .byte) p s m [.ref (zak G x0)].toArray meth c := B
  have hl : lv_has ls 1 [(0, .ref (zak G x0))] := hl
  have hx := B.1
  have hb := B.2.1
  have hE := (B.2.2.2.2.2.1.2.2 rfl).2
  refine va_gets (pc := 0) hx hb hE.2.2.1 hW.2 B.2.2.2.1 (B.2.2.2.2.1 _ kw363) (fun _ h => h) dJ0_coder_7d493_0 ?_
  refine lv_if_eq (pc := 3) (tgt := 13) hx hb dJ0_coder_7d493_3 (by decide) (fun c => absurd c (by decide)) (fun _ => ?_)
  refine lv_aload_n (pc := 6) hx hb dJ0_coder_7d493_6 rfl (lv_at hl 0 rfl) ?_
  refine vk_getf (pc := 7) hx hb (hE.1.1 x0 hx0).2.1 hW.2 B.2.2.2.1 (B.2.2.2.2.1 _ kw1167) (fun _ h => h) dJ0_coder_7d493_7 ?_
  refine lv_goto (pc := 10) (tgt := 14) hx hb dJ0_coder_7d493_10 (by decide) ?_
  exact zretz (pc := 14) B hW rfl rfl dJ0_coder_7d493_14
set_option maxRecDepth 100000 in
theorem c_J0_isLatin1_aae02 {G : ZG} {l : Launch} {μ : Mem} {x0 : Nat} (hx0 : x0 < 3) : zC ZC G l yJ0_isLatin1_aae02 cJ0_isLatin1_aae02 1 (some .boolean) 1 [.ref (zak G x0)] μ (some (.int 1)) μ := by
  refine zC.mk (by decide +kernel) (Nat.le_of_ble_eq_true rfl) ?_
  intro p e s m below meth c ls B hl hW
  have B : zB ZC G cJ0_isLatin1_aae02 1 "java/lang/String" (some .boolean) p s m [.ref (zak G x0)].toArray meth c := B
  have hl : lv_has ls 1 [(0, .ref (zak G x0))] := hl
  have hx := B.1
  have hb := B.2.1
  have hE := (B.2.2.2.2.2.1.2.2 rfl).2
  refine va_gets (pc := 0) hx hb hE.2.2.1 hW.2 B.2.2.2.1 (B.2.2.2.2.1 _ kw363) (fun _ h => h) dJ0_isLatin1_aae02_0 ?_
  refine lv_if_eq (pc := 3) (tgt := 17) hx hb dJ0_isLatin1_aae02_3 (by decide) (fun c => absurd c (by decide)) (fun _ => ?_)
  refine lv_aload_n (pc := 6) hx hb dJ0_isLatin1_aae02_6 rfl (lv_at hl 0 rfl) ?_
  refine vk_getf (pc := 7) hx hb (hE.1.1 x0 hx0).2.1 hW.2 B.2.2.2.1 (B.2.2.2.2.1 _ kw1167) (fun _ h => h) dJ0_isLatin1_aae02_7 ?_
  refine lv_if_ne (pc := 10) (tgt := 17) hx hb dJ0_isLatin1_aae02_10 (by decide) (fun c => absurd rfl c) (fun _ => ?_)
  refine lv_iconst (pc := 13) (v := 1) hx hb dJ0_isLatin1_aae02_13 rfl ?_
  refine lv_goto (pc := 14) (tgt := 18) hx hb dJ0_isLatin1_aae02_14 (by decide) ?_
  exact zretz (pc := 18) B hW rfl rfl dJ0_isLatin1_aae02_18
def f_J0_length_8abf5 (x0 : Nat) (μ : Mem) : Option (Int32 × Mem) := some (nI (zSl.getD x0 0), μ)
set_option maxRecDepth 100000 in
theorem c_J0_length_8abf5 {G : ZG} {l : Launch} {x0 : Nat} (hx0 : x0 < 3) {μ : Mem} {r : Int32} {μ' : Mem} (h : f_J0_length_8abf5 x0 μ = some (r, μ')) : zC ZC G l yJ0_length_8abf5 cJ0_length_8abf5 1 (some .int) 2 [.ref (zak G x0)] μ (some (.int r)) μ' := by
  refine zC.mk (by decide +kernel) (Nat.le_of_ble_eq_true rfl) ?_
  intro p e s m below meth c ls B hl hW
  have B : zB ZC G cJ0_length_8abf5 1 "java/lang/String" (some .int) p s m [.ref (zak G x0)].toArray meth c := B
  have hl : lv_has ls 1 [(0, .ref (zak G x0))] := hl
  have hx := B.1
  have hb := B.2.1
  have hE := (B.2.2.2.2.2.1.2.2 rfl).2
  refine lv_aload_n (pc := 0) hx hb dJ0_length_8abf5_0 rfl (lv_at hl 0 rfl) ?_
  refine vk_getf (pc := 1) hx hb (hE.1.1 x0 hx0).2.2.1 hW.2 B.2.2.2.1 (B.2.2.2.2.1 _ kw1166) (fun _ h => h) dJ0_length_8abf5_1 ?_
  refine va_tlen (pc := 4) (v := nI (zSl.getD x0 0)) hx hb (hE.1.1 x0 hx0).2.2.2 hW.2 rfl dJ0_length_8abf5_4 ?_
  refine lv_aload_n (pc := 5) hx hb dJ0_length_8abf5_5 rfl (lv_at hl 0 rfl) ?_
  refine zcallVs (pc := 6) (As := []) (ov := some (.int 0)) (rest := [.int (nI (zSl.getD x0 0))]) B hW rfl hl.1 hx0 (c_J0_coder_7d493 hx0) kw359 kw360 kw361 kw73 kw362 hy_J0_coder_7d493 (zRok (by decide) (by decide)) zcs0 (zle8 rfl) rfl dJ0_length_8abf5_6 (fun H locs hW => ?_)
  refine W.eq (g2 := F0 m 9 ls [.int 0, .int (nI (zSl.getD x0 0))]) rfl ?_
  refine lv_ishr (pc := 9) hx hb dJ0_length_8abf5_9 ?_
  rw [sb_shr0]
  exact zreti (pc := 10) B hW h dJ0_length_8abf5_10
theorem zlt_of {i : Int32} {N : Nat} (h : vp_in i N) (hN : N < 2 ^ 31) : ¬ i < 0 ∧ i < nI N := by
  obtain ⟨j, hj, rfl⟩ := vp_in_of h hN
  exact ⟨nI_pos (by omega), nI_lt hj hN⟩
set_option maxRecDepth 100000 in
theorem c_J3_checkIndex_8e157_n {G : ZG} {l : Launch} {μ : Mem} {q : Nat} {i k : Int32} (h0 : ¬ i < 0) (h1 : i < k) : zC ZC G l yJ3_checkIndex_8e157 cJ3_checkIndex_8e157 3 (some .int) 1 [.int i, .int k, .null] μ (some (.int i)) μ := by
  refine zC.mk (by decide +kernel) (Nat.le_of_ble_eq_true rfl) ?_
  intro p e s m below meth c ls B hl hW
  have B : zB ZC G cJ3_checkIndex_8e157 3 "jdk/internal/util/Preconditions" (some .int) p s m [.int i, .int k, .null].toArray meth c := B
  have hl : lv_has ls 3 [(0, .int i), (1, .int k), (2, .null)] := hl
  have hx := B.1
  have hb := B.2.1
  have hE := (B.2.2.2.2.2.1.2.2 rfl).2
  refine lv_iload_n (pc := 0) hx hb dJ3_checkIndex_8e157_0 rfl (lv_at hl 0 rfl) ?_
  refine lv_if_lt (pc := 1) (tgt := 9) hx hb dJ3_checkIndex_8e157_1 (by decide) (fun c => absurd c h0) (fun _ => ?_)
  refine lv_iload_n (pc := 4) hx hb dJ3_checkIndex_8e157_4 rfl (lv_at hl 0 rfl) ?_
  refine lv_iload_n (pc := 5) hx hb dJ3_checkIndex_8e157_5 rfl (lv_at hl 1 rfl) ?_
  refine lv_icmp_lt (pc := 6) (tgt := 16) hx hb dJ3_checkIndex_8e157_6 (by decide) (fun _ => ?_) (fun c => absurd h1 c)
  refine lv_iload_n (pc := 16) hx hb dJ3_checkIndex_8e157_16 rfl (lv_at hl 0 rfl) ?_
  exact zreti (pc := 17) B hW rfl dJ3_checkIndex_8e157_17
set_option maxRecDepth 100000 in
theorem c_J3_checkIndex_8e157_r {G : ZG} {l : Launch} {μ : Mem} {q : Nat} {i k : Int32} (h0 : ¬ i < 0) (h1 : i < k) : zC ZC G l yJ3_checkIndex_8e157 cJ3_checkIndex_8e157 3 (some .int) 1 [.int i, .int k, .ref q] μ (some (.int i)) μ := by
  refine zC.mk (by decide +kernel) (Nat.le_of_ble_eq_true rfl) ?_
  intro p e s m below meth c ls B hl hW
  have B : zB ZC G cJ3_checkIndex_8e157 3 "jdk/internal/util/Preconditions" (some .int) p s m [.int i, .int k, .ref q].toArray meth c := B
  have hl : lv_has ls 3 [(0, .int i), (1, .int k), (2, .ref q)] := hl
  have hx := B.1
  have hb := B.2.1
  have hE := (B.2.2.2.2.2.1.2.2 rfl).2
  refine lv_iload_n (pc := 0) hx hb dJ3_checkIndex_8e157_0 rfl (lv_at hl 0 rfl) ?_
  refine lv_if_lt (pc := 1) (tgt := 9) hx hb dJ3_checkIndex_8e157_1 (by decide) (fun c => absurd c h0) (fun _ => ?_)
  refine lv_iload_n (pc := 4) hx hb dJ3_checkIndex_8e157_4 rfl (lv_at hl 0 rfl) ?_
  refine lv_iload_n (pc := 5) hx hb dJ3_checkIndex_8e157_5 rfl (lv_at hl 1 rfl) ?_
  refine lv_icmp_lt (pc := 6) (tgt := 16) hx hb dJ3_checkIndex_8e157_6 (by decide) (fun _ => ?_) (fun c => absurd h1 c)
  refine lv_iload_n (pc := 16) hx hb dJ3_checkIndex_8e157_16 rfl (lv_at hl 0 rfl) ?_
  exact zreti (pc := 17) B hW rfl dJ3_checkIndex_8e157_17
set_option maxRecDepth 100000 in
theorem c_J0_checkIndex_df160 {G : ZG} {l : Launch} {μ : Mem} {i k : Int32} (h0 : ¬ i < 0) (h1 : i < k) : zC ZC G l yJ0_checkIndex_df160 cJ0_checkIndex_df160 2 none 2 [.int i, .int k] μ none μ := by
  refine zC.mk (by decide +kernel) (Nat.le_of_ble_eq_true rfl) ?_
  intro p e s m below meth c ls B hl hW
  have B : zB ZC G cJ0_checkIndex_df160 2 "java/lang/String" none p s m [.int i, .int k].toArray meth c := B
  have hl : lv_has ls 2 [(0, .int i), (1, .int k)] := hl
  have hx := B.1
  have hb := B.2.1
  have hE := (B.2.2.2.2.2.1.2.2 rfl).2
  refine lv_iload_n (pc := 0) hx hb dJ0_checkIndex_df160_0 rfl (lv_at hl 0 rfl) ?_
  refine lv_iload_n (pc := 1) hx hb dJ0_checkIndex_df160_1 rfl (lv_at hl 1 rfl) ?_
  rcases hE.2.2.2 with hZ | ⟨q, hZ⟩
  · refine va_gets (pc := 2) hx hb hZ hW.2 B.2.2.2.1 (B.2.2.2.2.1 _ kw379) (fun _ h => h) dJ0_checkIndex_df160_2 ?_
    refine zcallS (pc := 5) (As := [.int i, .int k, .null]) (ov := some (.int i)) (rest := []) B hW hl.1 (c_J3_checkIndex_8e157_n (q := 0) h0 h1) kw381 kw382 kw75 kw383 hy_J3_checkIndex_8e157 (zRok (by decide) (by decide)) zcs0 (zle8 rfl) rfl dJ0_checkIndex_df160_5 (fun H locs hW => ?_)
    refine W.eq (g2 := F0 m 8 ls [.int i]) rfl ?_
    refine lv_pop (pc := 8) hx hb dJ0_checkIndex_df160_8 rfl ?_
    exact zretv (pc := 9) (r := ()) B hW rfl dJ0_checkIndex_df160_9
  · refine va_gets (pc := 2) hx hb hZ hW.2 B.2.2.2.1 (B.2.2.2.2.1 _ kw379) (fun _ h => h) dJ0_checkIndex_df160_2 ?_
    refine zcallS (pc := 5) (As := [.int i, .int k, .ref q]) (ov := some (.int i)) (rest := []) B hW hl.1 (c_J3_checkIndex_8e157_r h0 h1) kw381 kw382 kw75 kw383 hy_J3_checkIndex_8e157 (zRok (by decide) (by decide)) zcs0 (zle8 rfl) rfl dJ0_checkIndex_df160_5 (fun H locs hW => ?_)
    refine W.eq (g2 := F0 m 8 ls [.int i]) rfl ?_
    refine lv_pop (pc := 8) hx hb dJ0_checkIndex_df160_8 rfl ?_
    exact zretv (pc := 9) (r := ()) B hW rfl dJ0_checkIndex_df160_9
theorem zchr : ∀ x0, x0 < 3 → zSl.getD x0 0 < 2 ^ 31 ∧ ∀ j, j < zSl.getD x0 0 → ((((zSb.getD x0 []).getD j 0) &&& 255).toUInt32 % 65536).toInt32 = (zSb.getD x0 []).getD j 0 ∧ narrow .char (.int ((zSb.getD x0 []).getD j 0)) = .int ((zSb.getD x0 []).getD j 0) := by decide +kernel
set_option maxRecDepth 100000 in
theorem c_J1_charAt_3b067 {G : ZG} {l : Launch} {μ : Mem} {x0 : Nat} (hx0 : x0 < 3) {i : Int32} (hi : vp_in i (zSl.getD x0 0)) : zC ZC G l yJ1_charAt_3b067 cJ1_charAt_3b067 2 (some .char) 3 [.ref (zav G x0), .int i] μ (some (.int ((zSb.getD x0 []).getD i.toNatClampNeg 0))) μ := by
  refine zC.mk (by decide +kernel) (Nat.le_of_ble_eq_true rfl) ?_
  intro p e s m below meth c ls B hl hW
  have B : zB ZC G cJ1_charAt_3b067 2 "java/lang/StringLatin1" (some .char) p s m [.ref (zav G x0), .int i].toArray meth c := B
  have hl : lv_has ls 2 [(0, .ref (zav G x0)), (1, .int i)] := hl
  have hx := B.1
  have hb := B.2.1
  have hE := (B.2.2.2.2.2.1.2.2 rfl).2
  have hc := zchr x0 hx0
  have hj : i.toNatClampNeg < zSl.getD x0 0 := Nat.lt_of_not_le (fun q => hi (Or.inr q))
  have hlt := zlt_of hi hc.1
  refine lv_iload_n (pc := 0) hx hb dJ1_charAt_3b067_0 rfl (lv_at hl 1 rfl) ?_
  refine lv_aload_n (pc := 1) hx hb dJ1_charAt_3b067_1 rfl (lv_at hl 0 rfl) ?_
  refine va_tlen (pc := 2) (v := nI (zSl.getD x0 0)) hx hb (hE.1.1 x0 hx0).2.2.2 hW.2 rfl dJ1_charAt_3b067_2 ?_
  refine zcallS (pc := 3) (As := [.int i, .int (nI (zSl.getD x0 0))]) (ov := none) (rest := []) B hW hl.1 (c_J0_checkIndex_df160 hlt.1 hlt.2) kw376 kw377 kw73 kw378 hy_J0_checkIndex_df160 (zRok (by decide) (by decide)) zcs0 (zle8 rfl) rfl dJ1_charAt_3b067_3 (fun H locs hW => ?_)
  refine W.eq (g2 := F0 m 6 ls []) rfl ?_
  refine lv_aload_n (pc := 6) hx hb dJ1_charAt_3b067_6 rfl (lv_at hl 0 rfl) ?_
  refine lv_iload_n (pc := 7) hx hb dJ1_charAt_3b067_7 rfl (lv_at hl 1 rfl) ?_
  refine va_tb (pc := 8) hx hb (hE.1.1 x0 hx0).2.2.2 hW.2 hi rfl dJ1_charAt_3b067_8 ?_
  refine lv_sipush (pc := 9) (v := 255) hx hb dJ1_charAt_3b067_9 rfl ?_
  refine lv_iand (pc := 12) hx hb dJ1_charAt_3b067_12 ?_
  refine lv_i2c (pc := 13) (v := (zSb.getD x0 []).getD i.toNatClampNeg 0) hx hb dJ1_charAt_3b067_13 (hc.2 _ hj).1 ?_
  exact zretz (pc := 14) B hW (hc.2 _ hj).2 rfl dJ1_charAt_3b067_14
def f_J0_charAt_5068e (x0 : Nat) (x1 : Int32) (μ : Mem) : Option (Int32 × Mem) := zck (zin x1 (zSl.getD x0 0)) (some ((zSb.getD x0 []).getD x1.toNatClampNeg 0, μ))
set_option maxRecDepth 100000 in
theorem c_J0_charAt_5068e {G : ZG} {l : Launch} {x0 : Nat} (hx0 : x0 < 3) {x1 : Int32} {μ : Mem} {r : Int32} {μ' : Mem} (h : f_J0_charAt_5068e x0 x1 μ = some (r, μ')) : zC ZC G l yJ0_charAt_5068e cJ0_charAt_5068e 2 (some .char) 4 [.ref (zak G x0), .int x1] μ (some (.int r)) μ' := by
  refine zC.mk (by decide +kernel) (Nat.le_of_ble_eq_true rfl) ?_
  intro p e s m below meth c ls B hl hW
  have B : zB ZC G cJ0_charAt_5068e 2 "java/lang/String" (some .char) p s m [.ref (zak G x0), .int x1].toArray meth c := B
  have hl : lv_has ls 2 [(0, .ref (zak G x0)), (1, .int x1)] := hl
  have hx := B.1
  have hb := B.2.1
  have hE := (B.2.2.2.2.2.1.2.2 rfl).2
  obtain ⟨hi, h⟩ := zck_s h
  have hi := zin_s hi
  have hj : x1.toNatClampNeg < zSl.getD x0 0 := Nat.lt_of_not_le (fun q => hi (Or.inr q))
  refine lv_aload_n (pc := 0) hx hb dJ0_charAt_5068e_0 rfl (lv_at hl 0 rfl) ?_
  refine zcallVs (pc := 1) (As := []) (ov := some (.int 1)) (rest := []) B hW rfl hl.1 hx0 (c_J0_isLatin1_aae02 hx0) kw369 kw370 kw371 kw73 kw372 hy_J0_isLatin1_aae02 (zRok (by decide) (by decide)) zcs0 (zle8 rfl) rfl dJ0_charAt_5068e_1 (fun H locs hW => ?_)
  refine W.eq (g2 := F0 m 4 ls [.int 1]) rfl ?_
  refine lv_if_eq (pc := 4) (tgt := 16) hx hb dJ0_charAt_5068e_4 (by decide) (fun c => absurd c (by decide)) (fun _ => ?_)
  refine lv_aload_n (pc := 7) hx hb dJ0_charAt_5068e_7 rfl (lv_at hl 0 rfl) ?_
  refine vk_getf (pc := 8) hx hb (hE.1.1 x0 hx0).2.2.1 hW.2 B.2.2.2.1 (B.2.2.2.2.1 _ kw1166) (fun _ h => h) dJ0_charAt_5068e_8 ?_
  refine lv_iload_n (pc := 11) hx hb dJ0_charAt_5068e_11 rfl (lv_at hl 1 rfl) ?_
  refine zcallS (pc := 12) (As := [.ref (zav G x0), .int x1]) (ov := some (.int ((zSb.getD x0 []).getD x1.toNatClampNeg 0))) (rest := []) B hW hl.1 (c_J1_charAt_3b067 hx0 hi) kw373 kw374 kw74 kw375 hy_J1_charAt_3b067 (zRok (by decide) (by decide)) zcs0 (zle8 rfl) rfl dJ0_charAt_5068e_12 (fun H locs hW => ?_)
  refine W.eq (g2 := F0 m 15 ls [.int ((zSb.getD x0 []).getD x1.toNatClampNeg 0)]) rfl ?_
  exact zretz (pc := 15) B hW ((zchr x0 hx0).2 _ hj).2 h dJ0_charAt_5068e_15
set_option maxRecDepth 100000 in
theorem s_X8_78 {G : ZG} {p : Program} {l : Launch} {e : Env} {s : State} {m : MethodId} {args : Array Value} {below : List Frame} {meth : Method} {c : Code} {H : Heap} {locs : List Loc} {Q : State → Prop} {cc : ByteArray} {nL pc : Nat} {rt : Option FieldType} {ls : Array Slot} {rest : List Value} {μ : Mem} {α : Type} {d d' : Nat} {o : Nat} {F : Option (Int32 × Mem)} {f : Int32 → Mem → Option α} {z : α} (B : zB ZC G cc nL "DarkShares$Text" rt p s m args meth c) (hW : zW ZC G s H locs μ) (hl : ls.size = nL) (ho : o < 3) (hd : d' < d) (hst : (rest.map fun v => v.category).sum ≤ 8) (hdg : decode cc pc = .ok (.invokevirtual 78, 3)) (hM : ∀ (r : Int32) (μ1 : Mem), F = some (r, μ1) → zC ZC G l yJ0_length_8abf5 cJ0_length_8abf5 1 (some .int) d' [.ref (zak G o)] μ (some (.int r)) μ1) (hf : zbind F f = some z) (kk : ∀ (r : Int32) (μ1 : Mem) (H1 : Heap) (locs1 : List Loc), zW ZC G s H1 locs1 μ1 → f r μ1 = some z → W p l e (zR d) s m args below meth c H1 locs1 0 0 Q (F0 m (pc + 3) ls (.int r :: rest))) : W p l e (zR d) s m args below meth c H locs 0 0 Q (F0 m pc ls (.ref (zak G o) :: rest)) := by
  obtain ⟨r, μ1, hq, hf⟩ := zbind_s hf
  exact zcallVs (As := []) (ov := (some (.int r))) B hW rfl hl ho (hM r μ1 hq) kw355 kw356 kw357 kw73 kw358 hy_J0_length_8abf5 (zRok hd (by decide)) zcs0 hst rfl hdg (fun H1 locs1 hW => kk r μ1 H1 locs1 hW hf)
set_option maxRecDepth 100000 in
theorem s_X8_83 {G : ZG} {p : Program} {l : Launch} {e : Env} {s : State} {m : MethodId} {args : Array Value} {below : List Frame} {meth : Method} {c : Code} {H : Heap} {locs : List Loc} {Q : State → Prop} {cc : ByteArray} {nL pc : Nat} {rt : Option FieldType} {ls : Array Slot} {rest : List Value} {μ : Mem} {α : Type} {d d' : Nat} {o : Nat} {a1 : Int32} {F : Option (Int32 × Mem)} {f : Int32 → Mem → Option α} {z : α} (B : zB ZC G cc nL "DarkShares$Text" rt p s m args meth c) (hW : zW ZC G s H locs μ) (hl : ls.size = nL) (ho : o < 3) (hd : d' < d) (hst : (rest.map fun v => v.category).sum ≤ 8) (hdg : decode cc pc = .ok (.invokevirtual 83, 3)) (hM : ∀ (r : Int32) (μ1 : Mem), F = some (r, μ1) → zC ZC G l yJ0_charAt_5068e cJ0_charAt_5068e 2 (some .char) d' [.ref (zak G o), .int a1] μ (some (.int r)) μ1) (hf : zbind F f = some z) (kk : ∀ (r : Int32) (μ1 : Mem) (H1 : Heap) (locs1 : List Loc), zW ZC G s H1 locs1 μ1 → f r μ1 = some z → W p l e (zR d) s m args below meth c H1 locs1 0 0 Q (F0 m (pc + 3) ls (.int r :: rest))) : W p l e (zR d) s m args below meth c H locs 0 0 Q (F0 m pc ls (.int a1 :: .ref (zak G o) :: rest)) := by
  obtain ⟨r, μ1, hq, hf⟩ := zbind_s hf
  exact zcallVs (As := [.int a1]) (ov := (some (.int r))) B hW rfl hl ho (hM r μ1 hq) kw365 kw366 kw367 kw73 kw368 hy_J0_charAt_5068e (zRok hd (by decide)) zcs0 hst rfl hdg (fun H1 locs1 hW => kk r μ1 H1 locs1 hW hf)
noncomputable def f_X8_isWord_28 (x1 : Nat) : Nat → Int32 → Mem → Option (Int32 × Mem)
  | 0, _, _ => none
  | n + 1, x2, μ => zbind (f_J0_length_8abf5 x1 μ) (fun r2 μ1 => (if r2 ≤ x2 then some ((1 : Int32), μ1) else (if (μ1.1 41 1) ≤ ((μ1.1 41 4) + x2) then some ((0 : Int32), μ1) else zck (zin ((μ1.1 41 4) + x2) 150) (zbind (f_J0_charAt_5068e x1 x2 μ1) (fun r4 μ3 => (if (μ1.1 42 (((μ1.1 41 4) + x2)).toNatClampNeg) = r4 then f_X8_isWord_28 x1 n (x2 + (1 : Int32)) μ3 else some ((0 : Int32), μ3)))))))
set_option maxRecDepth 100000 in
theorem t_X8_isWord_28 {G : ZG} {p : Program} {l : Launch} {e : Env} {s : State} {m : MethodId} {args : Array Value} {below : List Frame} {meth : Method} {c : Code} (B : zB ZC G cX8_isWord 3 "DarkShares$Text" (some .boolean) p s m args meth c) {x1 : Nat} (hx1 : x1 < 3) : ∀ (n : Nat) {x2 : Int32} {μ : Mem} {H : Heap} {locs : List Loc} {ls : Array Slot} {r : Int32} {μ' : Mem}, lv_has ls 3 [(0, .ref (zad G 41)), (1, .ref (zak G x1)), (2, .int x2)] → zW ZC G s H locs μ → f_X8_isWord_28 x1 n x2 μ = some (r, μ') → W p l e (zR 5) s m args below meth c H locs 0 0 (MQ below (zQ ZC G (some (.int r)) μ') args s 0 0 (zAd ZC G)) (F0 m 28 ls []) := by
  have hx := B.1
  have hb := B.2.1
  intro n
  induction n with
  | zero => intro _ _ _ _ _ _ _ hl hW hf; cases hf
  | succ n ih =>
    intro x2 μ H locs ls r μ' hl hW hf
    rw [f_X8_isWord_28] at hf
    refine lv_iload_n (pc := 28) hx hb dX8_isWord_28 rfl (lv_at hl 2 rfl) ?_
    refine lv_aload_n (pc := 29) hx hb dX8_isWord_29 rfl (lv_at hl 1 rfl) ?_
    refine s_X8_78 (pc := 30) B hW hl.1 hx1 (by decide) (zle8 rfl) dX8_isWord_30 (fun _ _ h => c_J0_length_8abf5 hx1 h) hf (fun r2 μ1 H locs hW hf => ?_)
    refine yic_ge (pc := 33) (tgt := 76) B dX8_isWord_33 (by decide) hf (fun hf => ?_) (fun hf => ?_)
    · refine lv_iconst (pc := 76) (v := (1 : Int32)) hx hb dX8_isWord_76 rfl ?_
      exact zretz (pc := 77) B hW rfl hf dX8_isWord_77
    · refine lv_aload_n (pc := 36) hx hb dX8_isWord_36 rfl (lv_at hl 0 rfl) ?_
      refine g_X8_40 (pc := 37) B hW dX8_isWord_37 ?_
      refine lv_iload_n (pc := 40) hx hb dX8_isWord_40 rfl (lv_at hl 2 rfl) ?_
      refine lv_iadd (pc := 41) hx hb dX8_isWord_41 ?_
      refine lv_aload_n (pc := 42) hx hb dX8_isWord_42 rfl (lv_at hl 0 rfl) ?_
      refine g_X8_15 (pc := 43) B hW dX8_isWord_43 ?_
      refine yic_ge (pc := 46) (tgt := 68) B dX8_isWord_46 (by decide) hf (fun hf => ?_) (fun hf => ?_)
      · refine lv_iconst (pc := 68) (v := (0 : Int32)) hx hb dX8_isWord_68 rfl ?_
        exact zretz (pc := 69) B hW rfl hf dX8_isWord_69
      · refine lv_aload_n (pc := 49) hx hb dX8_isWord_49 rfl (lv_at hl 0 rfl) ?_
        refine g_X8_9 (pc := 50) B hW dX8_isWord_50 ?_
        refine lv_aload_n (pc := 53) hx hb dX8_isWord_53 rfl (lv_at hl 0 rfl) ?_
        refine g_X8_40 (pc := 54) B hW dX8_isWord_54 ?_
        refine lv_iload_n (pc := 57) hx hb dX8_isWord_57 rfl (lv_at hl 2 rfl) ?_
        refine lv_iadd (pc := 58) hx hb dX8_isWord_58 ?_
        refine ybld (pc := 59) B hW ar42 dX8_isWord_59 hf (fun hf => ?_)
        refine lv_aload_n (pc := 60) hx hb dX8_isWord_60 rfl (lv_at hl 1 rfl) ?_
        refine lv_iload_n (pc := 61) hx hb dX8_isWord_61 rfl (lv_at hl 2 rfl) ?_
        refine s_X8_83 (pc := 62) B hW hl.1 hx1 (by decide) (zle8 rfl) dX8_isWord_62 (fun _ _ h => c_J0_charAt_5068e hx1 h) hf (fun r4 μ3 H locs hW hf => ?_)
        refine yic_eq (pc := 65) (tgt := 70) B dX8_isWord_65 (by decide) hf (fun hf => ?_) (fun hf => ?_)
        · refine lv_iinc (pc := 70) (v := (x2 + (1 : Int32))) (lv' := [(2, .int (x2 + (1 : Int32))), (0, .ref (zad G 41)), (1, .ref (zak G x1))]) hx hb dX8_isWord_70 hl (k := 2) rfl rfl (by decide) rfl (fun ls hl => ?_)
          refine lv_goto (pc := 73) (tgt := 28) hx hb dX8_isWord_73 (by decide) ?_
          exact ih (lv_sub hl [1, 2, 0] rfl) hW hf
        · refine lv_iconst (pc := 68) (v := (0 : Int32)) hx hb dX8_isWord_68 rfl ?_
          exact zretz (pc := 69) B hW rfl hf dX8_isWord_69
noncomputable def f_X8_isWord (x1 : Nat) (μ : Mem) : Option (Int32 × Mem) := (if (μ.1 41 3) = (1 : Int32) then zbind (f_J0_length_8abf5 x1 μ) (fun r2 μ1 => (if ((μ.1 41 2) - (μ.1 41 4)) = r2 then f_X8_isWord_28 x1 zFU (0 : Int32) μ1 else some ((0 : Int32), μ1))) else some ((0 : Int32), μ))
set_option maxRecDepth 100000 in
theorem c_X8_isWord {G : ZG} {l : Launch} {x1 : Nat} (hx1 : x1 < 3) {μ : Mem} {r : Int32} {μ' : Mem} (h : f_X8_isWord x1 μ = some (r, μ')) : zC ZC G l yX8_isWord cX8_isWord 3 (some .boolean) 5 [.ref (zad G 41), .ref (zak G x1)] μ (some (.int r)) μ' := by
  refine zC.mk (by decide +kernel) (Nat.le_of_ble_eq_true rfl) ?_
  intro p e s m below meth c ls B hl hW
  have B : zB ZC G cX8_isWord 3 "DarkShares$Text" (some .boolean) p s m [.ref (zad G 41), .ref (zak G x1)].toArray meth c := B
  have hl : lv_has ls 3 [(0, .ref (zad G 41)), (1, .ref (zak G x1))] := hl
  have hx := B.1
  have hb := B.2.1
  have hf := h
  unfold f_X8_isWord at hf
  refine lv_aload_n (pc := 0) hx hb dX8_isWord_0 rfl (lv_at hl 0 rfl) ?_
  refine g_X8_33 (pc := 1) B hW dX8_isWord_1 ?_
  refine lv_iconst (pc := 4) (v := (1 : Int32)) hx hb dX8_isWord_4 rfl ?_
  refine yic_ne (pc := 5) (tgt := 24) B dX8_isWord_5 (by decide) hf (fun hf => ?_) (fun hf => ?_)
  · refine lv_iconst (pc := 24) (v := (0 : Int32)) hx hb dX8_isWord_24 rfl ?_
    exact zretz (pc := 25) B hW rfl hf dX8_isWord_25
  · refine lv_aload_n (pc := 8) hx hb dX8_isWord_8 rfl (lv_at hl 0 rfl) ?_
    refine g_X8_19 (pc := 9) B hW dX8_isWord_9 ?_
    refine lv_aload_n (pc := 12) hx hb dX8_isWord_12 rfl (lv_at hl 0 rfl) ?_
    refine g_X8_40 (pc := 13) B hW dX8_isWord_13 ?_
    refine lv_isub (pc := 16) hx hb dX8_isWord_16 ?_
    refine lv_aload_n (pc := 17) hx hb dX8_isWord_17 rfl (lv_at hl 1 rfl) ?_
    refine s_X8_78 (pc := 18) B hW hl.1 hx1 (by decide) (zle8 rfl) dX8_isWord_18 (fun _ _ h => c_J0_length_8abf5 hx1 h) hf (fun r2 μ1 H locs hW hf => ?_)
    refine yic_eq (pc := 21) (tgt := 26) B dX8_isWord_21 (by decide) hf (fun hf => ?_) (fun hf => ?_)
    · refine lv_iconst (pc := 26) (v := (0 : Int32)) hx hb dX8_isWord_26 rfl ?_
      refine lv_istore_n (pc := 27) (lv' := [(2, .int (0 : Int32)), (0, .ref (zad G 41)), (1, .ref (zak G x1))]) hx hb dX8_isWord_27 rfl hl (by decide) rfl (fun ls hl => ?_)
      exact t_X8_isWord_28 B hx1 zFU (lv_sub hl [1, 2, 0] rfl) hW hf
    · refine lv_iconst (pc := 24) (v := (0 : Int32)) hx hb dX8_isWord_24 rfl ?_
      exact zretz (pc := 25) B hW rfl hf dX8_isWord_25
noncomputable def f_X8_item (o1 : Nat) (μ : Mem) : Option (Int32 × Mem) := (if (μ.1 41 5) = 0 then zbind (f_X8_isWord 0 μ) (fun r10 μ9 => (if r10 = 0 then some ((0 : Int32), μ9) else zbind (f_X8_stops μ9) (fun r12 μ11 => (if r12 = 0 then some ((0 : Int32), μ11) else some ((1 : Int32), μ11))))) else zbind (f_X8_isWord 1 μ) (fun r2 μ1 => (if r2 = 0 then zbind (f_X8_isWord 2 μ1) (fun r4 μ3 => (if r4 = 0 then some ((0 : Int32), μ3) else zbind (f_X8_cellsItem o1 μ3) (fun r6 μ5 => (if r6 = 0 then some ((0 : Int32), μ5) else some ((1 : Int32), μ5))))) else zbind (f_X8_boyItem o1 μ1) (fun r8 μ7 => zck (zbo r8) (some (r8, μ7))))))
set_option maxRecDepth 100000 in
theorem c_X8_item {G : ZG} {l : Launch} {o1 : Nat} (ho1 : zN o1) {μ : Mem} {r : Int32} {μ' : Mem} (h : f_X8_item o1 μ = some (r, μ')) : zC ZC G l yX8_item cX8_item 2 (some .boolean) 6 [.ref (zad G 41), .ref (zad G o1)] μ (some (.int r)) μ' := by
  refine zC.mk (by decide +kernel) (Nat.le_of_ble_eq_true rfl) ?_
  intro p e s m below meth c ls B hl hW
  have B : zB ZC G cX8_item 2 "DarkShares$Text" (some .boolean) p s m [.ref (zad G 41), .ref (zad G o1)].toArray meth c := B
  have hl : lv_has ls 2 [(0, .ref (zad G 41)), (1, .ref (zad G o1))] := hl
  have hx := B.1
  have hb := B.2.1
  have hf := h
  unfold f_X8_item at hf
  refine lv_aload_n (pc := 0) hx hb dX8_item_0 rfl (lv_at hl 0 rfl) ?_
  refine g_X8_27 (pc := 1) B hW dX8_item_1 ?_
  refine yif_ne (pc := 4) (tgt := 29) B dX8_item_4 (by decide) hf (fun hf => ?_) (fun hf => ?_)
  · refine lv_aload_n (pc := 29) hx hb dX8_item_29 rfl (lv_at hl 0 rfl) ?_
    refine va_ldcS (pc := 30) hx hb B.2.2.2.1 ((B.2.2.2.2.2.1.2.2 rfl).2.2.1 1 (by decide)) dX8_item_30 ?_
    refine s_X8_45 (pc := 32) B hW hl.1 (by decide) (zle8 rfl) dX8_item_32 (fun _ _ h => c_X8_isWord (by decide) h) hf (fun r2 μ1 H locs hW hf => ?_)
    refine yif_eq (pc := 35) (tgt := 44) B dX8_item_35 (by decide) hf (fun hf => ?_) (fun hf => ?_)
    · refine lv_aload_n (pc := 44) hx hb dX8_item_44 rfl (lv_at hl 0 rfl) ?_
      refine va_ldcS (pc := 45) hx hb B.2.2.2.1 ((B.2.2.2.2.2.1.2.2 rfl).2.2.1 2 (by decide)) dX8_item_45 ?_
      refine s_X8_45 (pc := 47) B hW hl.1 (by decide) (zle8 rfl) dX8_item_47 (fun _ _ h => c_X8_isWord (by decide) h) hf (fun r4 μ3 H locs hW hf => ?_)
      refine yif_eq (pc := 50) (tgt := 65) B dX8_item_50 (by decide) hf (fun hf => ?_) (fun hf => ?_)
      · refine lv_iconst (pc := 65) (v := (0 : Int32)) hx hb dX8_item_65 rfl ?_
        exact zretz (pc := 66) B hW rfl hf dX8_item_66
      · refine lv_aload_n (pc := 53) hx hb dX8_item_53 rfl (lv_at hl 0 rfl) ?_
        refine lv_aload_n (pc := 54) hx hb dX8_item_54 rfl (lv_at hl 1 rfl) ?_
        refine s_X8_60 (pc := 55) B hW hl.1 (by decide) (zle8 rfl) dX8_item_55 (fun _ _ h => c_X8_cellsItem ho1 h) hf (fun r6 μ5 H locs hW hf => ?_)
        refine yif_eq (pc := 58) (tgt := 65) B dX8_item_58 (by decide) hf (fun hf => ?_) (fun hf => ?_)
        · refine lv_iconst (pc := 65) (v := (0 : Int32)) hx hb dX8_item_65 rfl ?_
          exact zretz (pc := 66) B hW rfl hf dX8_item_66
        · refine lv_iconst (pc := 61) (v := (1 : Int32)) hx hb dX8_item_61 rfl ?_
          refine lv_goto (pc := 62) (tgt := 66) hx hb dX8_item_62 (by decide) ?_
          exact zretz (pc := 66) B hW rfl hf dX8_item_66
    · refine lv_aload_n (pc := 38) hx hb dX8_item_38 rfl (lv_at hl 0 rfl) ?_
      refine lv_aload_n (pc := 39) hx hb dX8_item_39 rfl (lv_at hl 1 rfl) ?_
      refine s_X8_55 (pc := 40) B hW hl.1 (by decide) (zle8 rfl) dX8_item_40 (fun _ _ h => c_X8_boyItem ho1 h) hf (fun r8 μ7 H locs hW hf => ?_)
      exact yretb (pc := 43) B hW hf dX8_item_43
  · refine lv_aload_n (pc := 7) hx hb dX8_item_7 rfl (lv_at hl 0 rfl) ?_
    refine va_ldcS (pc := 8) hx hb B.2.2.2.1 ((B.2.2.2.2.2.1.2.2 rfl).2.2.1 0 (by decide)) dX8_item_8 ?_
    refine s_X8_45 (pc := 10) B hW hl.1 (by decide) (zle8 rfl) dX8_item_10 (fun _ _ h => c_X8_isWord (by decide) h) hf (fun r10 μ9 H locs hW hf => ?_)
    refine yif_eq (pc := 13) (tgt := 27) B dX8_item_13 (by decide) hf (fun hf => ?_) (fun hf => ?_)
    · refine lv_iconst (pc := 27) (v := (0 : Int32)) hx hb dX8_item_27 rfl ?_
      exact zretz (pc := 28) B hW rfl hf dX8_item_28
    · refine lv_aload_n (pc := 16) hx hb dX8_item_16 rfl (lv_at hl 0 rfl) ?_
      refine s_X8_49 (pc := 17) B hW hl.1 (by decide) (zle8 rfl) dX8_item_17 (fun _ _ h => c_X8_stops h) hf (fun r12 μ11 H locs hW hf => ?_)
      refine yif_eq (pc := 20) (tgt := 27) B dX8_item_20 (by decide) hf (fun hf => ?_) (fun hf => ?_)
      · refine lv_iconst (pc := 27) (v := (0 : Int32)) hx hb dX8_item_27 rfl ?_
        exact zretz (pc := 28) B hW rfl hf dX8_item_28
      · refine lv_iconst (pc := 23) (v := (1 : Int32)) hx hb dX8_item_23 rfl ?_
        refine lv_goto (pc := 24) (tgt := 28) hx hb dX8_item_24 (by decide) ?_
        exact zretz (pc := 28) B hW rfl hf dX8_item_28
noncomputable def f_X8_tell_48 (o1 : Nat) (K14 : Mem → Option (Int32 × Mem)) (μ : Mem) : Option (Int32 × Mem) := zbind (f_X8_item o1 μ) (fun r2 μ1 => (if r2 = 0 then some (((-10 : Int32) - (μ1.1 41 4)), μ1) else zlet (zI μ1 41 5 ((μ1.1 41 5) + (1 : Int32))) (fun μ3 => K14 μ3)))
set_option maxRecDepth 100000 in
theorem t_X8_tell_48 {G : ZG} {p : Program} {l : Launch} {e : Env} {s : State} {m : MethodId} {args : Array Value} {below : List Frame} {meth : Method} {c : Code} (B : zB ZC G cX8_tell 2 "DarkShares$Text" (some .int) p s m args meth c) {o1 : Nat} (ho1 : zN o1) {K14 : Mem → Option (Int32 × Mem)} (hK14 : ∀ {μ : Mem} {H : Heap} {locs : List Loc} {ls : Array Slot} {r : Int32} {μ' : Mem}, lv_has ls 2 [(0, .ref (zad G 41)), (1, .ref (zad G o1))] → zW ZC G s H locs μ → K14  μ = some (r, μ') → W p l e (zR 7) s m args below meth c H locs 0 0 (MQ below (zQ ZC G (some (.int r)) μ') args s 0 0 (zAd ZC G)) (F0 m 14 ls [])) {μ : Mem} {H : Heap} {locs : List Loc} {ls : Array Slot} {r : Int32} {μ' : Mem} (hl : lv_has ls 2 [(0, .ref (zad G 41)), (1, .ref (zad G o1))]) (hW : zW ZC G s H locs μ) (hf : f_X8_tell_48 o1 K14 μ = some (r, μ')) : W p l e (zR 7) s m args below meth c H locs 0 0 (MQ below (zQ ZC G (some (.int r)) μ') args s 0 0 (zAd ZC G)) (F0 m 48 ls []) := by
  have hx := B.1
  have hb := B.2.1
  unfold f_X8_tell_48 at hf
  refine lv_aload_n (pc := 48) hx hb dX8_tell_48 rfl (lv_at hl 0 rfl) ?_
  refine lv_aload_n (pc := 49) hx hb dX8_tell_49 rfl (lv_at hl 1 rfl) ?_
  refine s_X8_36 (pc := 50) B hW hl.1 (by decide) (zle8 rfl) dX8_tell_50 (fun _ _ h => c_X8_item ho1 h) hf (fun r2 μ1 H locs hW hf => ?_)
  refine yif_ne (pc := 53) (tgt := 64) B dX8_tell_53 (by decide) hf (fun hf => ?_) (fun hf => ?_)
  · refine lv_aload_n (pc := 64) hx hb dX8_tell_64 rfl (lv_at hl 0 rfl) ?_
    refine lv_dup (pc := 65) hx hb dX8_tell_65 rfl ?_
    refine g_X8_27 (pc := 66) B hW dX8_tell_66 ?_
    refine lv_iconst (pc := 69) (v := (1 : Int32)) hx hb dX8_tell_69 rfl ?_
    refine lv_iadd (pc := 70) hx hb dX8_tell_70 ?_
    refine p_X8_27 (pc := 71) B hW dX8_tell_71 hf (fun μ3 H locs hW hf => ?_)
    refine lv_goto (pc := 74) (tgt := 14) hx hb dX8_tell_74 (by decide) ?_
    exact hK14 (lv_sub hl [0, 1] rfl) hW hf
  · refine lv_bipush (pc := 56) (v := (-10 : Int32)) hx hb dX8_tell_56 rfl ?_
    refine lv_aload_n (pc := 58) hx hb dX8_tell_58 rfl (lv_at hl 0 rfl) ?_
    refine g_X8_40 (pc := 59) B hW dX8_tell_59 ?_
    refine lv_isub (pc := 62) hx hb dX8_tell_62 ?_
    exact zreti (pc := 63) B hW hf dX8_tell_63
noncomputable def f_X8_tell_14 (o1 : Nat) : Nat → Mem → Option (Int32 × Mem)
  | 0, _ => none
  | n + 1, μ => (if (μ.1 41 1) < (μ.1 41 5) then some ((μ.1 41 5), μ) else zbind (f_X8_next μ) (fun _ μ1 => (if (μ1.1 41 5) ≤ 0 then f_X8_tell_48 o1 (fun  ν => f_X8_tell_14 o1 n  ν) μ1 else (if (μ1.1 41 3) = 0 then some ((μ1.1 41 5), μ1) else f_X8_tell_48 o1 (fun  ν => f_X8_tell_14 o1 n  ν) μ1))))
set_option maxRecDepth 100000 in
theorem t_X8_tell_14 {G : ZG} {p : Program} {l : Launch} {e : Env} {s : State} {m : MethodId} {args : Array Value} {below : List Frame} {meth : Method} {c : Code} (B : zB ZC G cX8_tell 2 "DarkShares$Text" (some .int) p s m args meth c) {o1 : Nat} (ho1 : zN o1) : ∀ (n : Nat) {μ : Mem} {H : Heap} {locs : List Loc} {ls : Array Slot} {r : Int32} {μ' : Mem}, lv_has ls 2 [(0, .ref (zad G 41)), (1, .ref (zad G o1))] → zW ZC G s H locs μ → f_X8_tell_14 o1 n μ = some (r, μ') → W p l e (zR 7) s m args below meth c H locs 0 0 (MQ below (zQ ZC G (some (.int r)) μ') args s 0 0 (zAd ZC G)) (F0 m 14 ls []) := by
  have hx := B.1
  have hb := B.2.1
  intro n
  induction n with
  | zero => intro _ _ _ _ _ _ hl hW hf; cases hf
  | succ n ih =>
    intro  μ H locs ls r μ' hl hW hf
    rw [f_X8_tell_14] at hf
    refine lv_aload_n (pc := 14) hx hb dX8_tell_14 rfl (lv_at hl 0 rfl) ?_
    refine g_X8_27 (pc := 15) B hW dX8_tell_15 ?_
    refine lv_aload_n (pc := 18) hx hb dX8_tell_18 rfl (lv_at hl 0 rfl) ?_
    refine g_X8_15 (pc := 19) B hW dX8_tell_19 ?_
    refine yic_gt (pc := 22) (tgt := 77) B dX8_tell_22 (by decide) hf (fun hf => ?_) (fun hf => ?_)
    · refine lv_aload_n (pc := 77) hx hb dX8_tell_77 rfl (lv_at hl 0 rfl) ?_
      refine g_X8_27 (pc := 78) B hW dX8_tell_78 ?_
      exact zreti (pc := 81) B hW hf dX8_tell_81
    · refine lv_aload_n (pc := 25) hx hb dX8_tell_25 rfl (lv_at hl 0 rfl) ?_
      refine s_X8_30 (pc := 26) B hW hl.1 (by decide) (zle8 rfl) dX8_tell_26 (fun _ _ h => c_X8_next h) hf (fun _ μ1 H locs hW hf => ?_)
      refine lv_aload_n (pc := 29) hx hb dX8_tell_29 rfl (lv_at hl 0 rfl) ?_
      refine g_X8_27 (pc := 30) B hW dX8_tell_30 ?_
      refine yif_le (pc := 33) (tgt := 48) B dX8_tell_33 (by decide) hf (fun hf => ?_) (fun hf => ?_)
      · exact t_X8_tell_48 B ho1 @ih (lv_sub hl [0, 1] rfl) hW hf
      · refine lv_aload_n (pc := 36) hx hb dX8_tell_36 rfl (lv_at hl 0 rfl) ?_
        refine g_X8_33 (pc := 37) B hW dX8_tell_37 ?_
        refine yif_ne (pc := 40) (tgt := 48) B dX8_tell_40 (by decide) hf (fun hf => ?_) (fun hf => ?_)
        · exact t_X8_tell_48 B ho1 @ih (lv_sub hl [0, 1] rfl) hW hf
        · refine lv_aload_n (pc := 43) hx hb dX8_tell_43 rfl (lv_at hl 0 rfl) ?_
          refine g_X8_27 (pc := 44) B hW dX8_tell_44 ?_
          exact zreti (pc := 47) B hW hf dX8_tell_47
noncomputable def f_X8_tell (o1 : Nat) (μ : Mem) : Option (Int32 × Mem) := zlet (zI μ 41 2 (0 : Int32)) (fun μ1 => zbind (f_X1_wipe o1 μ1) (fun _ μ2 => zlet (zI μ2 41 5 (0 : Int32)) (fun μ3 => f_X8_tell_14 o1 zFU μ3)))
set_option maxRecDepth 100000 in
theorem c_X8_tell {G : ZG} {l : Launch} {o1 : Nat} (ho1 : zN o1) {μ : Mem} {r : Int32} {μ' : Mem} (h : f_X8_tell o1 μ = some (r, μ')) : zC ZC G l yX8_tell cX8_tell 2 (some .int) 7 [.ref (zad G 41), .ref (zad G o1)] μ (some (.int r)) μ' := by
  refine zC.mk (by decide +kernel) (Nat.le_of_ble_eq_true rfl) ?_
  intro p e s m below meth c ls B hl hW
  have B : zB ZC G cX8_tell 2 "DarkShares$Text" (some .int) p s m [.ref (zad G 41), .ref (zad G o1)].toArray meth c := B
  have hl : lv_has ls 2 [(0, .ref (zad G 41)), (1, .ref (zad G o1))] := hl
  have hx := B.1
  have hb := B.2.1
  have hf := h
  unfold f_X8_tell at hf
  refine lv_aload_n (pc := 0) hx hb dX8_tell_0 rfl (lv_at hl 0 rfl) ?_
  refine lv_iconst (pc := 1) (v := (0 : Int32)) hx hb dX8_tell_1 rfl ?_
  refine p_X8_19 (pc := 2) B hW dX8_tell_2 hf (fun μ1 H locs hW hf => ?_)
  refine lv_aload_n (pc := 5) hx hb dX8_tell_5 rfl (lv_at hl 1 rfl) ?_
  refine s_X8_22 (pc := 6) B hW hl.1 ho1 (by decide) (zle8 rfl) dX8_tell_6 (fun _ _ h => c_X1_wipe ho1 h) hf (fun _ μ2 H locs hW hf => ?_)
  refine lv_aload_n (pc := 9) hx hb dX8_tell_9 rfl (lv_at hl 0 rfl) ?_
  refine lv_iconst (pc := 10) (v := (0 : Int32)) hx hb dX8_tell_10 rfl ?_
  refine p_X8_27 (pc := 11) B hW dX8_tell_11 hf (fun μ3 H locs hW hf => ?_)
  exact t_X8_tell_14 B ho1 zFU (lv_sub hl [0, 1] rfl) hW hf
noncomputable def f_X9_read (μ : Mem) : Option (Int32 × Mem) := zbind (f_X8_tell 8 μ) (fun r2 μ1 => (if r2 ≤ 0 then some (r2, μ1) else zbind (f_X1_becomes 1 8 μ1) (fun _ μ3 => some (r2, μ3))))
set_option maxRecDepth 100000 in
theorem c_X9_read {G : ZG} {l : Launch} {μ : Mem} {r : Int32} {μ' : Mem} (h : f_X9_read μ = some (r, μ')) : zC ZC G l yX9_read cX9_read 2 (some .int) 8 [.ref (zad G 0)] μ (some (.int r)) μ' := by
  refine zC.mk (by decide +kernel) (Nat.le_of_ble_eq_true rfl) ?_
  intro p e s m below meth c ls B hl hW
  have B : zB ZC G cX9_read 2 "DarkShares" (some .int) p s m [.ref (zad G 0)].toArray meth c := B
  have hl : lv_has ls 2 [(0, .ref (zad G 0))] := hl
  have hx := B.1
  have hb := B.2.1
  have hf := h
  unfold f_X9_read at hf
  refine lv_aload_n (pc := 0) hx hb dX9_read_0 rfl (lv_at hl 0 rfl) ?_
  refine g_X9_57 (pc := 1) B hW dX9_read_1 ?_
  refine lv_aload_n (pc := 4) hx hb dX9_read_4 rfl (lv_at hl 0 rfl) ?_
  refine g_X9_36 (pc := 5) B hW dX9_read_5 ?_
  refine s_X9_111 (pc := 8) B hW hl.1 (by decide) (zle8 rfl) dX9_read_8 (fun _ _ h => c_X8_tell zN8 h) hf (fun r2 μ1 H locs hW hf => ?_)
  refine lv_istore_n (pc := 11) (lv' := [(1, .int r2), (0, .ref (zad G 0))]) hx hb dX9_read_11 rfl hl (by decide) rfl (fun ls hl => ?_)
  refine lv_iload_n (pc := 12) hx hb dX9_read_12 rfl (lv_at hl 0 rfl) ?_
  refine yif_le (pc := 13) (tgt := 27) B dX9_read_13 (by decide) hf (fun hf => ?_) (fun hf => ?_)
  · refine lv_iload_n (pc := 27) hx hb dX9_read_27 rfl (lv_at hl 0 rfl) ?_
    exact zreti (pc := 28) B hW hf dX9_read_28
  · refine lv_aload_n (pc := 16) hx hb dX9_read_16 rfl (lv_at hl 1 rfl) ?_
    refine g_X9_32 (pc := 17) B hW dX9_read_17 ?_
    refine lv_aload_n (pc := 20) hx hb dX9_read_20 rfl (lv_at hl 1 rfl) ?_
    refine g_X9_36 (pc := 21) B hW dX9_read_21 ?_
    refine s_X9_115 (pc := 24) B hW hl.1 zN1 (by decide) (zle8 rfl) dX9_read_24 (fun _ _ h => c_X1_becomes zN1 zN8 h) hf (fun _ μ3 H locs hW hf => ?_)
    refine lv_iload_n (pc := 27) hx hb dX9_read_27 rfl (lv_at hl 0 rfl) ?_
    exact zreti (pc := 28) B hW hf dX9_read_28
