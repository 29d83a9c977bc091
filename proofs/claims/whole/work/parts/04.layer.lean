/-! ===== the layer: a world that makes no cells, its contents one function ===== -/
abbrev Mem : Type := (Nat → Nat → Int32) × (Nat → Nat → Int64)
def zA (μ : Mem) (o : Nat) (g : Nat → Int32) : Mem := (fun a => if a = o then g else μ.1 a, μ.2)
def zI (μ : Mem) (o k : Nat) (x : Int32) : Mem := zA μ o (upd (μ.1 o) k x)
def zL (μ : Mem) (o k : Nat) (x : Int64) : Mem := (μ.1, fun a => if a = o then vp_updL (μ.2 o) k x else μ.2 a)
/-- a shape of world: how many cells, what each is, the array types, whether nest mates and texts belong to it -/
abbrev ZS : Type := Nat × ((Nat → Nat) → (Nat → ClassId) → Nat → (Nat → Int32) → (Nat → Int64) → va_E) × List FieldType × Bool
abbrev zcell (Z : ZS) : (Nat → Nat) → (Nat → ClassId) → Nat → (Nat → Int32) → (Nat → Int64) → va_E := Z.2.1
abbrev ztys (Z : ZS) : List FieldType := Z.2.2.1
abbrev zfl (Z : ZS) : Bool := Z.2.2.2
/-- where a world lies: classes and slots, addresses, array classes, texts, their bytes -/
abbrev ZG : Type := va_G × (Nat → Nat) × (Nat → ClassId) × (Nat → Nat) × (Nat → Nat)
abbrev zad (G : ZG) : Nat → Nat := G.2.1
abbrev zca (G : ZG) : Nat → ClassId := G.2.2.1
abbrev zak (G : ZG) : Nat → Nat := G.2.2.2.1
abbrev zav (G : ZG) : Nat → Nat := G.2.2.2.2
def zws (Z : ZS) (G : ZG) (μ : Mem) : va_W := (List.range Z.1).map fun a => (zad G a, zcell Z (zad G) (zca G) a (μ.1 a) (μ.2 a))
def zT (Z : ZS) (G : ZG) : List (ClassId × FieldType) := (List.range (ztys Z).length).map fun t => (zca G t, (ztys Z).getD t .int)
def zAd (Z : ZS) (G : ZG) : Nat → Prop := fun q => ∃ a, a < Z.1 ∧ zad G a = q
theorem zws_len {Z : ZS} {G : ZG} {μ : Mem} : (zws Z G μ).length = Z.1 := by simp [zws]
theorem zws_at {Z : ZS} {G : ZG} {μ : Mem} {a : Nat} (h : a < Z.1) : (zws Z G μ)[a]? = some (zad G a, zcell Z (zad G) (zca G) a (μ.1 a) (μ.2 a)) := by
  simp [zws, List.getElem?_map, List.getElem?_range h]
theorem zws_no {Z : ZS} {G : ZG} {μ : Mem} {a : Nat} (h : ¬ a < Z.1) : (zws Z G μ)[a]? = none := List.getElem?_eq_none (by rw [zws_len]; omega)
theorem zws_setA {Z : ZS} {G : ZG} {μ : Mem} {o : Nat} {g : Nat → Int32} (h : o < Z.1) : (zws Z G μ).set o (zad G o, zcell Z (zad G) (zca G) o g (μ.2 o)) = zws Z G (zA μ o g) := by
  apply List.ext_getElem?
  intro i
  by_cases hi : i = o
  · subst hi
    rw [List.getElem?_set_self (by rw [zws_len]; exact h), zws_at h]
    simp [zA]
  · rw [List.getElem?_set_ne (Ne.symm hi)]
    by_cases hz : i < Z.1
    · rw [zws_at hz, zws_at hz]; simp [zA, hi]
    · rw [zws_no hz, zws_no hz]
theorem zws_setL {Z : ZS} {G : ZG} {μ : Mem} {o k : Nat} {x : Int64} (h : o < Z.1) : (zws Z G μ).set o (zad G o, zcell Z (zad G) (zca G) o (μ.1 o) (vp_updL (μ.2 o) k x)) = zws Z G (zL μ o k x) := by
  apply List.ext_getElem?
  intro i
  by_cases hi : i = o
  · subst hi
    rw [List.getElem?_set_self (by rw [zws_len]; exact h), zws_at h]
    simp [zL]
  · rw [List.getElem?_set_ne (Ne.symm hi)]
    by_cases hz : i < Z.1
    · rw [zws_at hz, zws_at hz]; simp [zL, hi]
    · rw [zws_no hz, zws_no hz]
/-- the words that all methods share: the tables' good ones -/
def zTT : List Cond := lw_tbl.filter goodWord
theorem zmem {w : Cond} (i : Nat) (h : lw_tbl[i]? = some w) (g : goodWord w = true) : w ∈ zTT := List.mem_filter.mpr ⟨List.mem_of_getElem? h, g⟩
theorem zsub {ws : List Cond} (ps : List Nat) (h : ws = ps.filterMap (fun i => lw_tbl[i]?)) (g : ws.all goodWord = true) : ∀ w ∈ ws, w ∈ zTT := by
  intro w hw
  have g1 := List.all_eq_true.mp g w hw
  rw [h] at hw
  obtain ⟨i, -, hi⟩ := List.mem_filterMap.mp hw
  exact zmem i hi g1
theorem zTT_good {w : Cond} (h : w ∈ zTT) : (w.onTables && w.keeps) = true ∨ ∃ ty, w = .arrayClass ty := good_of_word (List.mem_filter.mp h).2
theorem zTT_in {w : Cond} (h : w ∈ zTT) : w ∈ lw_tbl := (List.mem_filter.mp h).1
theorem zgood {y : MethodName} {cc : ByteArray} {n : Nat} {r : Option FieldType} (h : Cond.code y cc n r ∈ zTT) : GoodIn zTT (.code y cc n r :: zTT) := by
  intro w hw
  rcases List.mem_cons.mp hw with rfl | hw
  · exact ⟨h, zTT_good h⟩
  · exact ⟨hw, zTT_good hw⟩
/-- nest mates' links, and casts that hold -/
def zNF : List (String × Nat × String × String × String × String) := [("DarkShares", 141, "DarkShares$Night", "kind", "[I", "DarkShares"), ("DarkShares", 144, "DarkShares$Night", "need", "[I", "DarkShares"), ("DarkShares", 129, "DarkShares$Night", "jam", "[I", "DarkShares"), ("DarkShares", 97, "DarkShares$Night", "owner", "[I", "DarkShares"), ("DarkShares$Text", 74, "DarkShares$Night", "owner", "[I", "DarkShares"), ("DarkShares", 65, "DarkShares$Night", "boys", "I", "DarkShares"), ("DarkShares$Pieces", 22, "DarkShares$Night", "boys", "I", "DarkShares"), ("DarkShares$Text", 63, "DarkShares$Night", "boys", "I", "DarkShares"), ("DarkShares", 200, "DarkShares$Night", "notes", "I", "DarkShares"), ("DarkShares", 132, "DarkShares$Night", "undos", "I", "DarkShares"), ("DarkShares", 174, "DarkShares$Pieces", "first", "[I", "DarkShares"), ("DarkShares", 171, "DarkShares$Pieces", "fewest", "I", "DarkShares"), ("DarkShares", 104, "DarkShares$Text", "length", "I", "DarkShares")]
def zNM : List (String × Nat × MethodName × String) := [("DarkShares", 11, ⟨"DarkShares$Plain", "<init>", "()V"⟩, "DarkShares"), ("DarkShares", 14, ⟨"DarkShares$Small", "<init>", "()V"⟩, "DarkShares"), ("DarkShares$Small", 1, ⟨"DarkShares$Plain", "<init>", "()V"⟩, "DarkShares"), ("DarkShares", 17, ⟨"DarkShares$Prefect", "<init>", "()V"⟩, "DarkShares"), ("DarkShares$Prefect", 1, ⟨"DarkShares$Plain", "<init>", "()V"⟩, "DarkShares"), ("DarkShares", 20, ⟨"DarkShares$Sleeper", "<init>", "()V"⟩, "DarkShares"), ("DarkShares$Sleeper", 1, ⟨"DarkShares$Plain", "<init>", "()V"⟩, "DarkShares"), ("DarkShares", 23, ⟨"DarkShares$Afraid", "<init>", "()V"⟩, "DarkShares"), ("DarkShares$Afraid", 1, ⟨"DarkShares$Small", "<init>", "()V"⟩, "DarkShares"), ("DarkShares", 26, ⟨"DarkShares$Saver", "<init>", "()V"⟩, "DarkShares"), ("DarkShares$Saver", 3, ⟨"DarkShares$Sleeper", "<init>", "()V"⟩, "DarkShares"), ("DarkShares", 49, ⟨"DarkShares$Pieces", "<init>", "()V"⟩, "DarkShares"), ("DarkShares", 56, ⟨"DarkShares$Text", "<init>", "()V"⟩, "DarkShares"), ("DarkShares$Night", 69, ⟨"DarkShares", "has", "(II)Z"⟩, "DarkShares"), ("DarkShares$Afraid", 7, ⟨"DarkShares", "isMiddle", "(I)Z"⟩, "DarkShares"), ("DarkShares$Prefect", 11, ⟨"DarkShares", "isMiddle", "(I)Z"⟩, "DarkShares"), ("DarkShares", 167, ⟨"DarkShares$Pieces", "search", "(LDarkShares$Pieces;LDarkShares$Night;III)V"⟩, "DarkShares"), ("DarkShares$Pieces", 31, ⟨"DarkShares", "has", "(II)Z"⟩, "DarkShares"), ("DarkShares$Night", 117, ⟨"DarkShares", "isMiddle", "(I)Z"⟩, "DarkShares")]
def zNC : List (String × String) := [("DarkShares$Small", "DarkShares$Plain"), ("DarkShares$Prefect", "DarkShares$Plain"), ("DarkShares$Sleeper", "DarkShares$Plain"), ("DarkShares$Afraid", "DarkShares$Plain"), ("DarkShares$Saver", "DarkShares$Plain")]
def zNest (U : State) : Prop := (∀ q ∈ zNF, va_Nw (.fieldLinkNest q.1 q.2.1 q.2.2.1 q.2.2.2.1 q.2.2.2.2.1 q.2.2.2.2.2) U) ∧ (∀ q ∈ zNM, va_Nw (.methodLinkNest q.1 q.2.1 q.2.2.1 q.2.2.2) U) ∧ (∀ q ∈ zNC, va_Nw (.castable q.1 q.2) U) ∧ va_AO "DarkShares$Plain" U ∧ va_AO "DarkShares$Night" U
def zSl : List Nat := [5, 3, 5]
def zSb : List (List Int32) := [[110, 105, 103, 104, 116], [98, 111, 121], [99, 101, 108, 108, 115]]
def zSt : List (Nat × String) := [(43, "night"), (53, "boy"), (58, "cells")]
def zStr (Z : ZS) (G : ZG) (U : State) : Prop := vk_S 3 zSl zSb (zak G) (zav G) (zAd Z G) U U.heap ∧ (∀ i, i < 3 → vk_R RX8 (zSt.getD i (0, "")).1 (zSt.getD i (0, "")).2 (zak G i) U) ∧ va_Z "java/lang/String" "COMPACT_STRINGS" "Z" (.int 1) (zAd Z G) U U.heap ∧ va_Zq "jdk/internal/util/Preconditions" "SIOOBE_FORMATTER" "Ljava/util/function/BiFunction;" (zAd Z G) U U.heap
def zK (Z : ZS) (G : ZG) (U : State) : Prop := va_K G.1 vwCl (zT Z G) U ∧ (∀ i j, i < Z.1 → j < Z.1 → zad G i = zad G j → i = j) ∧ (zfl Z = true → zNest U ∧ zStr Z G U)
def zW (Z : ZS) (G : ZG) (s : State) (H : Heap) (locs : List Loc) (μ : Mem) : Prop := va_P G.1 vwCl (zws Z G μ) H ∧ va_S (zAd Z G) s.heap H locs
theorem zNest.warm {s U : State} (hW : s.WarmedH U.vm) (h : zNest s) : zNest U := ⟨fun q hq => va_Nw.warmF hW (h.1 q hq), fun q hq => va_Nw.warmM hW (h.2.1 q hq), fun q hq => va_Nw.warmC hW (h.2.2.1 q hq), h.2.2.2.1.moved hW.alike, h.2.2.2.2.moved hW.alike⟩
theorem zNest.same {u U : State} (hv : u.vm = U.vm) (h : zNest u) : zNest U := ⟨fun q hq => va_Nw.same rfl hv (h.1 q hq), fun q hq => va_Nw.same rfl hv (h.2.1 q hq), fun q hq => va_Nw.same rfl hv (h.2.2.1 q hq), h.2.2.2.1.moved (hv ▸ Vm.Alike.refl u.vm), h.2.2.2.2.moved (hv ▸ Vm.Alike.refl u.vm)⟩
theorem zK.warm {Z : ZS} {G : ZG} {s U : State} {locs : List Loc} (h : zK Z G s) (hW : s.WarmedH U.vm) (hS : va_S (zAd Z G) s.heap U.heap locs) : zK Z G U :=
  ⟨h.1.moved hW.alike, h.2.1, fun hf => ⟨(h.2.2 hf).1.warm hW, ((h.2.2 hf).2.1.moved hW.alike).kept hS.2.1, fun i hi => vk_R.warm hW ((h.2.2 hf).2.2.1 i hi), ((h.2.2 hf).2.2.2.1.moved hW.alike).kept hS.2.1, ((h.2.2 hf).2.2.2.2.moved hW.alike).kept hS.2.1⟩⟩
theorem zK.blind {Z : ZS} {G : ZG} {U : State} {g : JFrame} {mk : MethodId} {a : Array Value} (h : zK Z G U) : zK Z G (U.calling g mk a) :=
  ⟨va_K.moved (u := U) (U := U.calling g mk a) (Vm.Alike.refl U.vm) h.1, h.2.1, fun hf => ⟨zNest.same (u := U) rfl (h.2.2 hf).1, vk_S.moved (u := U) (U := U.calling g mk a) (Vm.Alike.refl U.vm) (h.2.2 hf).2.1, fun i hi => vk_R.same (u := U) rfl ((h.2.2 hf).2.2.1 i hi), va_Z.moved (u := U) (U := U.calling g mk a) (Vm.Alike.refl U.vm) (h.2.2 hf).2.2.2.1, va_Zq.moved (u := U) (U := U.calling g mk a) (Vm.Alike.refl U.vm) (h.2.2 hf).2.2.2.2⟩⟩
theorem zD {Z : ZS} {G : ZG} {U : State} (h : zK Z G U) (μ : Mem) : va_D (zAd Z G) (zws Z G μ) := by
  refine ⟨fun i j x y hi hj hxy => ?_, fun k q hk => ?_⟩
  · by_cases h1 : i < Z.1
    · by_cases h2 : j < Z.1
      · rw [zws_at h1] at hi
        rw [zws_at h2] at hj
        cases hi
        cases hj
        exact h.2.1 i j h1 h2 hxy
      · rw [zws_no h2] at hj; cases hj
    · rw [zws_no h1] at hi; cases hi
  · by_cases h1 : k < Z.1
    · rw [zws_at h1] at hk
      cases hk
      exact ⟨k, h1, rfl⟩
    · rw [zws_no h1] at hk; cases hk
def zR (d : Nat) : Room := { frames := d, cells := 0, slots := 0, locals := 64 * d }
/-- what a method's walk stands on -/
def zB (Z : ZS) (G : ZG) (cc : ByteArray) (nL : Nat) (own : String) (rt : Option FieldType) (p : Program) (s : State) (m : MethodId) (args : Array Value) (meth : Method) (c : Code) : Prop :=
  p.tables.exec = Jvm.exec ∧ c.code = cc ∧ c.maxLocals = nL ∧ s.vm.findClass own = some m.cls ∧ (∀ w ∈ zTT, w.before args s = true) ∧ zK Z G s ∧ meth.sig.returnType = rt ∧ meth.locks = false
def zQ (Z : ZS) (G : ZG) (ov : Option Value) (μ' : Mem) : Array Value → State → Outcome → State → Prop := fun _ st oc t => oc = .returned ov ∧ va_P G.1 vwCl (zws Z G μ') t.heap ∧ va_F (zAd Z G) st t
/-- a contract: from the memory μ the method y comes back with ov, and the memory is μ' -/
def zC (Z : ZS) (G : ZG) (l : Launch) (y : MethodName) (cc : ByteArray) (nL : Nat) (ret : Option FieldType) (d : Nat) (av : List Value) (μ : Mem) (ov : Option Value) (μ' : Mem) : Prop :=
  Met l y (.code y cc nL ret :: zTT) (zR d) (va_Pc av (fun U => va_P G.1 vwCl (zws Z G μ) U.heap ∧ zK Z G U)) (zQ Z G ov μ') 0 0 (zAd Z G)
theorem zC.mk {Z : ZS} {G : ZG} {l : Launch} {y : MethodName} {cc : ByteArray} {nL : Nat} {ret : Option FieldType} {d : Nat} {av : List Value} {μ : Mem} {ov : Option Value} {μ' : Mem} (hy : plainName y.cls = true) (hlen : (lg_sl av).length ≤ nL)
    (body : ∀ (p : Program) (e : Env) (s : State) (m : MethodId) (below : List Frame) (meth : Method) (c : Code) (ls : Array Slot), zB Z G cc nL y.cls ret p s m av.toArray meth c → lv_has ls nL (lv_args 0 av) → zW Z G s s.heap [] μ → W p l e (zR d) s m av.toArray below meth c s.heap [] 0 0 (MQ below (zQ Z G ov μ') av.toArray s 0 0 (zAd Z G)) (F0 m 0 ls [])) : zC Z G l y cc nL ret d av μ ov μ' := by
  refine Met.ofW (cc := cc) (maxL := nL) (ret := ret) hy rfl ?_
  intro p e s m args below meth c s₁ B hml hv
  obtain ⟨rfl, hP, hK⟩ := hv
  have hts := atoms_spec (ws := .code y cc nL ret :: zTT) B.pre
  rw [lg_entry_eq]
  exact body p e s m below meth c _ ⟨B.exec, B.bytes, hml, findClass_of_methodNamed B.named, fun w h => hts w (List.mem_cons_of_mem _ h), hK, B.returns, B.notSynchronized⟩ (lv_entry av hlen) ⟨hP, va_S.rf⟩
def zO (Z : ZS) (o ci : Nat) : Prop := o < Z.1 ∧ ∀ (ad : Nat → Nat) (ca : Nat → ClassId) (fi : Nat → Int32) (fl : Nat → Int64), ∃ fs, zcell Z ad ca o fi fl = .inr (ci, fs)
def zAr (Z : ZS) (a t n : Nat) (ty : FieldType) : Prop := a < Z.1 ∧ (∀ (ad : Nat → Nat) (ca : Nat → ClassId) (fi : Nat → Int32) (fl : Nat → Int64), zcell Z ad ca a fi fl = .inl (ca t, n, .inl fi)) ∧ (ztys Z)[t]? = some ty
theorem zT_at {Z : ZS} {G : ZG} {t : Nat} {ty : FieldType} (h : (ztys Z)[t]? = some ty) : (zT Z G)[t]? = some (zca G t, ty) := by
  have h1 := (List.getElem?_eq_some_iff.mp h).1
  simp [zT, List.getElem?_map, List.getElem?_range h1, List.getD, h]
section ZL
variable {Z : ZS} {G : ZG} {p : Program} {l : Launch} {e : Env} {R : Room} {s : State} {m : MethodId} {args : Array Value} {below : List Frame} {meth : Method} {c : Code} {H : Heap} {locs : List Loc} {cells slots : Nat} {Q : State → Prop}
variable {cc : ByteArray} {nL pc : Nat} {own : String} {rt : Option FieldType} {ls : Array Slot} {rest st0 : List Value} {μ μ' : Mem}
theorem zrun {a : Array Value} {ov : Option Value} (hr : va_Run p l e R s m args below meth c H locs cells slots 0 0 (F0 m pc ls st0) rest (zQ Z G ov μ' a) (zAd Z G)) (hW : zW Z G s H locs μ)
    (kk : ∀ (H1 : Heap) (locs1 : List Loc), zW Z G s H1 locs1 μ' → W p l e R s m args below meth c H1 locs1 cells slots Q (F0 m (pc + 3) ls (ov.toList ++ rest))) : W p l e R s m args below meth c H locs cells slots Q (F0 m pc ls st0) := by
  intro T hT X
  obtain ⟨v, st₀, t, T', L, h0, X', hL, e1, e2, ⟨hv, hP, hz, hk⟩, st⟩ := hr T hT X
  cases hv
  rw [h0] at hz hk
  have hS := hW.2
  obtain ⟨t2, a1, b1⟩ := kk T'.heap (locs ++ L) ⟨by rw [e1]; exact hP, Nat.le_trans hS.1 (by rw [e1]; exact hz), fun q h1 h2 => by rw [e1, hk q (Nat.lt_of_lt_of_le h1 hS.1) h2]; exact hS.2.1 q h1 h2, fun q hq => by
      rcases List.mem_append.mp hq with h | h
      · exact hS.2.2 q h
      · exact hL q h⟩ T' rfl X'
  exact ⟨t2, st t2 a1, b1⟩
theorem zpreS {As : List Value} (hK : zK Z G s) (hW : zW Z G s H locs μ) : PreS s H (va_Pc As (fun U => va_P G.1 vwCl (zws Z G μ) U.heap ∧ zK Z G U)) As :=
  ⟨fun _ _ _ _ q => ⟨q.1, q.2.1, q.2.2.blind⟩, fun U hU hw => ⟨rfl, by rw [hU]; exact hW.1, hK.warm hw (locs := locs) (by rw [hU]; exact hW.2)⟩⟩
theorem zpreV {As : List Value} {o ci : Nat} {q : vw_C} (hK : zK Z G s) (hW : zW Z G s H locs μ) (ho : zO Z o ci) (hc : vwCl[ci]? = some q) : PreV s H q.1 (zad G o) (va_Pc (.ref (zad G o) :: As) (fun U => va_P G.1 vwCl (zws Z G μ) U.heap ∧ zK Z G U)) As := by
  obtain ⟨fs, hfs⟩ := ho.2 (zad G) (zca G) (μ.1 o) (μ.2 o)
  exact ⟨(zpreS hK hW).1, va_recv hK.1 hW.1 hc (q0 := o) (fs := fs) (by rw [zws_at ho.1, hfs]), (zpreS hK hW).2⟩
theorem zget {o ci N k index : Nat} {C : String} {T : u_T} {fs : List Value} {v : Value} (B : zB Z G cc nL own rt p s m args meth c) (hW : zW Z G s H locs μ) (ho : o < Z.1) (hcell : zcell Z (zad G) (zca G) o (μ.1 o) (μ.2 o) = .inr (ci, fs)) (hc : vwCl[ci]? = some (C, T, N)) (hin : ∀ w ∈ u_ws C T N, w ∈ zTT) (hk : k < N)
    (hlink : Cond.fieldLink own index (T k).1 (T k).2.1 (T k).2.2.1 ∈ zTT) (hv : fs[k]? = some v) (hdg : decode cc pc = .ok (.getfield index, 3))
    (kk : W p l e R s m args below meth c H locs cells slots Q (F0 m (pc + 3) ls (v :: rest))) : W p l e R s m args below meth c H locs cells slots Q (F0 m pc ls (.ref (zad G o) :: rest)) := by
  obtain ⟨hx, hb, -, hown, hts, hK, -⟩ := B
  exact va_get hx hb hts hin hown hK.1 hW.1 o (by rw [zws_at ho, hcell]) hc k hk (hts _ hlink) (fun _ h => h) hv hdg kk
theorem zgetN {o ci N k index : Nat} {C host : String} {T : u_T} {fs : List Value} {v : Value} (B : zB Z G cc nL own rt p s m args meth c) (hW : zW Z G s H locs μ) (hfl : zfl Z = true) (ho : o < Z.1) (hcell : zcell Z (zad G) (zca G) o (μ.1 o) (μ.2 o) = .inr (ci, fs)) (hc : vwCl[ci]? = some (C, T, N)) (hin : ∀ w ∈ u_ws C T N, w ∈ zTT) (hk : k < N)
    (hlink : (own, index, (T k).1, (T k).2.1, (T k).2.2.1, host) ∈ zNF) (hv : fs[k]? = some v) (hdg : decode cc pc = .ok (.getfield index, 3))
    (kk : W p l e R s m args below meth c H locs cells slots Q (F0 m (pc + 3) ls (v :: rest))) : W p l e R s m args below meth c H locs cells slots Q (F0 m pc ls (.ref (zad G o) :: rest)) := by
  obtain ⟨hx, hb, -, hown, hts, hK, -⟩ := B
  exact va_getN hx hb hts hin hown hK.1 hW.1 o (by rw [zws_at ho, hcell]) hc k hk (va_Nw.use rfl ((hK.2.2 hfl).1.1 _ hlink)) (fun _ h => h) hv hdg kk
theorem zputI {o ci N k index : Nat} {C : String} {T : u_T} {fs : List Value} {x : Int32} (B : zB Z G cc nL own rt p s m args meth c) (hW : zW Z G s H locs μ) (ho : o < Z.1) (hcell : zcell Z (zad G) (zca G) o (μ.1 o) (μ.2 o) = .inr (ci, fs)) (hcell' : zcell Z (zad G) (zca G) o (upd (μ.1 o) k x) (μ.2 o) = .inr (ci, fs.set k (.int x))) (hc : vwCl[ci]? = some (C, T, N)) (hin : ∀ w ∈ u_ws C T N, w ∈ zTT) (hk : k < N)
    (ty0 : Nat → FieldType) (hty : ∀ k, k < N → parseFieldDescriptor (T k).2.2.1 = some (ty0 k)) (hnm : ∀ a, a < N → ∀ b, b < N → a ≠ b → (T a).2.1 ≠ (T b).2.1)
    (hlink : Cond.fieldLink own index (T k).1 (T k).2.1 (T k).2.2.1 ∈ zTT) (hfin : (T k).2.2.2 = false) (hd : parseFieldDescriptor (T k).2.2.1 = some .int) (hl : k < fs.length) (hdg : decode cc pc = .ok (.putfield index, 3))
    (kk : ∀ (H1 : Heap) (locs1 : List Loc), zW Z G s H1 locs1 (zI μ o k x) → W p l e R s m args below meth c H1 locs1 cells slots Q (F0 m (pc + 3) ls rest)) : W p l e R s m args below meth c H locs cells slots Q (F0 m pc ls (.int x :: .ref (zad G o) :: rest)) := by
  obtain ⟨hx, hb, -, hown, hts, hK, -⟩ := B
  refine va_put hx hb hts hin ty0 hty hnm hown hK.1 hW.1 (zD hK μ) hW.2 o (by rw [zws_at ho, hcell]) hc k hk (hts _ hlink) (fun _ h => h) hfin hd rfl rfl hl hdg (fun H1 locs1 hP _ hS => kk H1 locs1 ⟨?_, hS⟩)
  rw [← hcell', zws_setA ho] at hP
  exact hP
theorem zputIN {o ci N k index : Nat} {C host : String} {T : u_T} {fs : List Value} {x : Int32} (B : zB Z G cc nL own rt p s m args meth c) (hW : zW Z G s H locs μ) (hfl : zfl Z = true) (ho : o < Z.1) (hcell : zcell Z (zad G) (zca G) o (μ.1 o) (μ.2 o) = .inr (ci, fs)) (hcell' : zcell Z (zad G) (zca G) o (upd (μ.1 o) k x) (μ.2 o) = .inr (ci, fs.set k (.int x))) (hc : vwCl[ci]? = some (C, T, N)) (hin : ∀ w ∈ u_ws C T N, w ∈ zTT) (hk : k < N)
    (ty0 : Nat → FieldType) (hty : ∀ k, k < N → parseFieldDescriptor (T k).2.2.1 = some (ty0 k)) (hnm : ∀ a, a < N → ∀ b, b < N → a ≠ b → (T a).2.1 ≠ (T b).2.1)
    (hlink : (own, index, (T k).1, (T k).2.1, (T k).2.2.1, host) ∈ zNF) (hfin : (T k).2.2.2 = false) (hd : parseFieldDescriptor (T k).2.2.1 = some .int) (hl : k < fs.length) (hdg : decode cc pc = .ok (.putfield index, 3))
    (kk : ∀ (H1 : Heap) (locs1 : List Loc), zW Z G s H1 locs1 (zI μ o k x) → W p l e R s m args below meth c H1 locs1 cells slots Q (F0 m (pc + 3) ls rest)) : W p l e R s m args below meth c H locs cells slots Q (F0 m pc ls (.int x :: .ref (zad G o) :: rest)) := by
  obtain ⟨hx, hb, -, hown, hts, hK, -⟩ := B
  refine va_putN hx hb hts hin ty0 hty hnm hown hK.1 hW.1 (zD hK μ) hW.2 o (by rw [zws_at ho, hcell]) hc k hk (va_Nw.use rfl ((hK.2.2 hfl).1.1 _ hlink)) (fun _ h => h) hfin hd rfl rfl hl hdg (fun H1 locs1 hP _ hS => kk H1 locs1 ⟨?_, hS⟩)
  rw [← hcell', zws_setA ho] at hP
  exact hP
theorem zputL {o ci N k index : Nat} {C : String} {T : u_T} {fs : List Value} {x : Int64} (B : zB Z G cc nL own rt p s m args meth c) (hW : zW Z G s H locs μ) (ho : o < Z.1) (hcell : zcell Z (zad G) (zca G) o (μ.1 o) (μ.2 o) = .inr (ci, fs)) (hcell' : zcell Z (zad G) (zca G) o (μ.1 o) (vp_updL (μ.2 o) k x) = .inr (ci, fs.set k (.long x))) (hc : vwCl[ci]? = some (C, T, N)) (hin : ∀ w ∈ u_ws C T N, w ∈ zTT) (hk : k < N)
    (ty0 : Nat → FieldType) (hty : ∀ k, k < N → parseFieldDescriptor (T k).2.2.1 = some (ty0 k)) (hnm : ∀ a, a < N → ∀ b, b < N → a ≠ b → (T a).2.1 ≠ (T b).2.1)
    (hlink : Cond.fieldLink own index (T k).1 (T k).2.1 (T k).2.2.1 ∈ zTT) (hfin : (T k).2.2.2 = false) (hd : parseFieldDescriptor (T k).2.2.1 = some .long) (hl : k < fs.length) (hdg : decode cc pc = .ok (.putfield index, 3))
    (kk : ∀ (H1 : Heap) (locs1 : List Loc), zW Z G s H1 locs1 (zL μ o k x) → W p l e R s m args below meth c H1 locs1 cells slots Q (F0 m (pc + 3) ls rest)) : W p l e R s m args below meth c H locs cells slots Q (F0 m pc ls (.long x :: .ref (zad G o) :: rest)) := by
  obtain ⟨hx, hb, -, hown, hts, hK, -⟩ := B
  refine va_put hx hb hts hin ty0 hty hnm hown hK.1 hW.1 (zD hK μ) hW.2 o (by rw [zws_at ho, hcell]) hc k hk (hts _ hlink) (fun _ h => h) hfin hd rfl rfl hl hdg (fun H1 locs1 hP _ hS => kk H1 locs1 ⟨?_, hS⟩)
  rw [← hcell', zws_setL ho] at hP
  exact hP
theorem zald {a t n : Nat} {i : Int32} (B : zB Z G cc nL own rt p s m args meth c) (hW : zW Z G s H locs μ) (ha : zAr Z a t n .int) (hin : vp_in i n) (hdg : decode cc pc = .ok (.iaload, 1))
    (kk : W p l e R s m args below meth c H locs cells slots Q (F0 m (pc + 1) ls (.int (μ.1 a i.toNatClampNeg) :: rest))) : W p l e R s m args below meth c H locs cells slots Q (F0 m pc ls (.int i :: .ref (zad G a) :: rest)) :=
  va_iald B.1 B.2.1 B.2.2.2.2.2.1.1 hW.1 a t (by rw [zws_at ha.1, ha.2.1]) (zT_at ha.2.2) hin hdg kk
theorem zbld {a t n : Nat} {i : Int32} (B : zB Z G cc nL own rt p s m args meth c) (hW : zW Z G s H locs μ) (ha : zAr Z a t n .byte) (hin : vp_in i n) (hdg : decode cc pc = .ok (.baload, 1))
    (kk : W p l e R s m args below meth c H locs cells slots Q (F0 m (pc + 1) ls (.int (μ.1 a i.toNatClampNeg) :: rest))) : W p l e R s m args below meth c H locs cells slots Q (F0 m pc ls (.int i :: .ref (zad G a) :: rest)) :=
  va_bald B.1 B.2.1 B.2.2.2.2.2.1.1 hW.1 a t (by rw [zws_at ha.1, ha.2.1]) (zT_at ha.2.2) hin hdg kk
theorem zzld {a t n : Nat} {i : Int32} (B : zB Z G cc nL own rt p s m args meth c) (hW : zW Z G s H locs μ) (ha : zAr Z a t n .boolean) (hin : vp_in i n) (hdg : decode cc pc = .ok (.baload, 1))
    (kk : W p l e R s m args below meth c H locs cells slots Q (F0 m (pc + 1) ls (.int (μ.1 a i.toNatClampNeg) :: rest))) : W p l e R s m args below meth c H locs cells slots Q (F0 m pc ls (.int i :: .ref (zad G a) :: rest)) :=
  va_zald B.1 B.2.1 B.2.2.2.2.2.1.1 hW.1 a t (by rw [zws_at ha.1, ha.2.1]) (zT_at ha.2.2) hin hdg kk
theorem zast {a t n : Nat} {i x : Int32} (B : zB Z G cc nL own rt p s m args meth c) (hW : zW Z G s H locs μ) (ha : zAr Z a t n .int) (hin : vp_in i n) (hdg : decode cc pc = .ok (.iastore, 1))
    (kk : ∀ (H1 : Heap) (locs1 : List Loc), zW Z G s H1 locs1 (zI μ a i.toNatClampNeg x) → W p l e R s m args below meth c H1 locs1 cells slots Q (F0 m (pc + 1) ls rest)) : W p l e R s m args below meth c H locs cells slots Q (F0 m pc ls (.int x :: .int i :: .ref (zad G a) :: rest)) := by
  have hK := B.2.2.2.2.2.1
  refine va_iast B.1 B.2.1 hK.1 hW.1 (zD hK μ) hW.2 a t (by rw [zws_at ha.1, ha.2.1]) (zT_at ha.2.2) hin hdg (fun H1 locs1 hP _ hS => kk H1 locs1 ⟨?_, hS⟩)
  rw [← ha.2.1 (zad G) (zca G) _ (μ.2 a), zws_setA ha.1] at hP
  exact hP
theorem zbst {a t n : Nat} {i x : Int32} (B : zB Z G cc nL own rt p s m args meth c) (hW : zW Z G s H locs μ) (ha : zAr Z a t n .byte) (hin : vp_in i n) (hdg : decode cc pc = .ok (.bastore, 1))
    (kk : ∀ (H1 : Heap) (locs1 : List Loc), zW Z G s H1 locs1 (zI μ a i.toNatClampNeg (vp_nar .byte x)) → W p l e R s m args below meth c H1 locs1 cells slots Q (F0 m (pc + 1) ls rest)) : W p l e R s m args below meth c H locs cells slots Q (F0 m pc ls (.int x :: .int i :: .ref (zad G a) :: rest)) := by
  have hK := B.2.2.2.2.2.1
  refine va_bast B.1 B.2.1 hK.1 hW.1 (zD hK μ) hW.2 a t (by rw [zws_at ha.1, ha.2.1]) (zT_at ha.2.2) hin hdg (fun H1 locs1 hP _ hS => kk H1 locs1 ⟨?_, hS⟩)
  rw [← ha.2.1 (zad G) (zca G) _ (μ.2 a), zws_setA ha.1] at hP
  exact hP
theorem zzst {a t n : Nat} {i x : Int32} (B : zB Z G cc nL own rt p s m args meth c) (hW : zW Z G s H locs μ) (ha : zAr Z a t n .boolean) (hin : vp_in i n) (hdg : decode cc pc = .ok (.bastore, 1))
    (kk : ∀ (H1 : Heap) (locs1 : List Loc), zW Z G s H1 locs1 (zI μ a i.toNatClampNeg (vp_nar .boolean x)) → W p l e R s m args below meth c H1 locs1 cells slots Q (F0 m (pc + 1) ls rest)) : W p l e R s m args below meth c H locs cells slots Q (F0 m pc ls (.int x :: .int i :: .ref (zad G a) :: rest)) := by
  have hK := B.2.2.2.2.2.1
  refine va_zast B.1 B.2.1 hK.1 hW.1 (zD hK μ) hW.2 a t (by rw [zws_at ha.1, ha.2.1]) (zT_at ha.2.2) hin hdg (fun H1 locs1 hP _ hS => kk H1 locs1 ⟨?_, hS⟩)
  rw [← ha.2.1 (zad G) (zca G) _ (μ.2 a), zws_setA ha.1] at hP
  exact hP
def zcpOk (sp dp n : Int32) (n0 n1 : Nat) : Prop := ¬ sp < 0 ∧ ¬ dp < 0 ∧ ¬ n < 0 ∧ sp.toNatClampNeg + n.toNatClampNeg ≤ n0 ∧ dp.toNatClampNeg + n.toNatClampNeg ≤ n1
theorem zcopy {a0 a1 t n0 n1 index : Nat} {sp dp n : Int32} (B : zB Z G cc nL own rt p s m args meth c) (hW : zW Z G s H locs μ) (hl : ls.size = nL) (ha0 : zAr Z a0 t n0 .int) (ha1 : zAr Z a1 t n1 .int) (hok : zcpOk sp dp n n0 n1)
    (hlink : Cond.methodLink own index arraycopyName ∈ zTT) (hnat : Cond.native arraycopyName ∈ zTT) (hstat : Cond.static arraycopyName ∈ zTT) (hini : Cond.initialized "java/lang/System" ∈ zTT)
    (hframes : 1 ≤ R.frames) (hlocals : (rest.map fun v => v.category).sum + (nativeFrameWords "java/lang/System" "arraycopy" 5 + 11) ≤ R.locals) (hdg : decode cc pc = .ok (.invokestatic index, 3))
    (kk : ∀ (H1 : Heap) (locs1 : List Loc), zW Z G s H1 locs1 (zA μ a1 (va_cpy (μ.1 a0) (μ.1 a1) sp.toNatClampNeg dp.toNatClampNeg n.toNatClampNeg)) → W p l e R s m args below meth c H1 locs1 cells slots Q (F0 m (pc + 3) ls rest)) : W p l e R s m args below meth c H locs cells slots Q (F0 m pc ls (.int n :: .int dp :: .ref (zad G a1) :: .int sp :: .ref (zad G a0) :: rest)) := by
  obtain ⟨hx, hb, hml, hown, hts, hK, -⟩ := B
  obtain ⟨h1, h2, h3, h4, h5⟩ := hok
  refine va_copyi hx hb (by rw [hml, hl]) hown (hts _ hlink) (hts _ hnat) (hts _ hstat) (hts _ hini) hK.1 hW.1 (zD hK μ) hW.2 a0 a1 t t (ty := .int) (by rw [zws_at ha0.1, ha0.2.1]) (by rw [zws_at ha1.1, ha1.2.1]) (zT_at ha0.2.2) (zT_at ha1.2.2) rfl h1 h2 h3 h4 h5 (fun _ _ => rfl) hframes hlocals hdg (fun H1 locs1 hP _ hS => kk H1 locs1 ⟨?_, hS⟩)
  rw [← ha1.2.1 (zad G) (zca G) _ (μ.2 a1), zws_setA ha1.1] at hP
  exact hP
theorem zreti {v r : Int32} (B : zB Z G cc nL own (some .int) p s m args meth c) (hW : zW Z G s H locs μ) (hf : some (v, μ) = some (r, μ')) (hdg : decode cc pc = .ok (.ireturn, 1)) : W p l e R s m args below meth c H locs 0 0 (MQ below (zQ Z G (some (.int r)) μ') args s 0 0 (zAd Z G)) (F0 m pc ls [.int v]) := by
  cases hf
  exact W.iret B.1 B.2.1 B.2.2.2.2.2.2.1 (fun t ht _ => ⟨rfl, by rw [ht]; exact hW.1, hW.2.F ht⟩) hW.2.2.2 hdg B.2.2.2.2.2.2.2
theorem zretz {v r : Int32} {ty : FieldType} (B : zB Z G cc nL own (some ty) p s m args meth c) (hW : zW Z G s H locs μ) (hn : narrow ty (.int v) = .int v) (hf : some (v, μ) = some (r, μ')) (hdg : decode cc pc = .ok (.ireturn, 1)) : W p l e R s m args below meth c H locs 0 0 (MQ below (zQ Z G (some (.int r)) μ') args s 0 0 (zAd Z G)) (F0 m pc ls [.int v]) := by
  cases hf
  exact W.zret B.1 B.2.1 B.2.2.2.2.2.2.1 hn (fun t ht _ => ⟨rfl, by rw [ht]; exact hW.1, hW.2.F ht⟩) hW.2.2.2 hdg B.2.2.2.2.2.2.2
theorem zretl {v r : Int64} (B : zB Z G cc nL own (some .long) p s m args meth c) (hW : zW Z G s H locs μ) (hf : some (v, μ) = some (r, μ')) (hdg : decode cc pc = .ok (.lreturn, 1)) : W p l e R s m args below meth c H locs 0 0 (MQ below (zQ Z G (some (.long r)) μ') args s 0 0 (zAd Z G)) (F0 m pc ls [.long v]) := by
  cases hf
  exact W.lret B.1 B.2.1 B.2.2.2.2.2.2.1 (fun t ht _ => ⟨rfl, by rw [ht]; exact hW.1, hW.2.F ht⟩) hW.2.2.2 hdg B.2.2.2.2.2.2.2
theorem zretv {r : Unit} (B : zB Z G cc nL own none p s m args meth c) (hW : zW Z G s H locs μ) (hf : some ((), μ) = some (r, μ')) (hdg : decode cc pc = .ok (.return_, 1)) : W p l e R s m args below meth c H locs 0 0 (MQ below (zQ Z G none μ') args s 0 0 (zAd Z G)) (F0 m pc ls []) := by
  cases hf
  exact W.vret B.1 B.2.1 B.2.2.2.2.2.2.1 (fun t ht _ => ⟨rfl, by rw [ht]; exact hW.1, hW.2.F ht⟩) hW.2.2.2 hdg B.2.2.2.2.2.2.2
theorem zreta {v r : Nat} {n : String} (B : zB Z G cc nL own (some (.object n)) p s m args meth c) (hW : zW Z G s H locs μ) (hf : some (v, μ) = some (r, μ')) (hdg : decode cc pc = .ok (.areturn, 1)) : W p l e R s m args below meth c H locs 0 0 (MQ below (zQ Z G (some (.ref (zad G r))) μ') args s 0 0 (zAd Z G)) (F0 m pc ls [.ref (zad G v)]) := by
  cases hf
  exact W.aret B.1 B.2.1 B.2.2.2.2.2.2.1 (Or.inl ⟨n, rfl⟩) (Or.inr ⟨_, rfl⟩) (fun t ht _ => ⟨rfl, by rw [ht]; exact hW.1, hW.2.F ht⟩) hW.2.2.2 hdg B.2.2.2.2.2.2.2
end ZL
/-- the pure side: a check, a call, a branch -/
def zck {α : Type} (b : Bool) (x : Option α) : Option α := if b = true then x else none
def zin (i : Int32) (n : Nat) : Bool := decide (¬ (i < 0 ∨ n ≤ i.toNatClampNeg))
def zcp (sp dp n : Int32) (n0 n1 : Nat) : Bool := decide (¬ sp < 0 ∧ ¬ dp < 0 ∧ ¬ n < 0 ∧ sp.toNatClampNeg + n.toNatClampNeg ≤ n0 ∧ dp.toNatClampNeg + n.toNatClampNeg ≤ n1)
def zbind {α β : Type} (x : Option (α × Mem)) (f : α → Mem → Option β) : Option β := match x with
  | none => none
  | some (a, μ) => f a μ
theorem zck_s {α : Type} {b : Bool} {x : Option α} {z : α} (h : zck b x = some z) : b = true ∧ x = some z := by
  unfold zck at h
  split at h
  · exact ⟨by assumption, h⟩
  · cases h
theorem zin_s {i : Int32} {n : Nat} (h : zin i n = true) : vp_in i n := show ¬ (i < 0 ∨ n ≤ i.toNatClampNeg) from of_decide_eq_true h
theorem zcp_s {sp dp n : Int32} {n0 n1 : Nat} (h : zcp sp dp n n0 n1 = true) : zcpOk sp dp n n0 n1 := show ¬ sp < 0 ∧ ¬ dp < 0 ∧ ¬ n < 0 ∧ sp.toNatClampNeg + n.toNatClampNeg ≤ n0 ∧ dp.toNatClampNeg + n.toNatClampNeg ≤ n1 from of_decide_eq_true h
theorem zbind_s {α β : Type} {x : Option (α × Mem)} {f : α → Mem → Option β} {z : β} (h : zbind x f = some z) : ∃ (a : α) (μ : Mem), x = some (a, μ) ∧ f a μ = some z := by
  cases x with
  | none => cases h
  | some q => exact ⟨q.1, q.2, rfl, h⟩
theorem zip {c : Prop} [Decidable c] {α : Type} {a b z : α} (h : c) (hf : (if c then a else b) = z) : a = z := by rw [if_pos h] at hf; exact hf
theorem zinn {c : Prop} [Decidable c] {α : Type} {a b z : α} (h : ¬ c) (hf : (if c then a else b) = z) : b = z := by rw [if_neg h] at hf; exact hf
theorem zFU_ex : ∃ n : Nat, n = 400 := ⟨_, rfl⟩
noncomputable def zFU : Nat := Classical.choose zFU_ex
theorem zFU_eq : zFU = 400 := Classical.choose_spec zFU_ex
theorem zFU_lt {n : Nat} (h : n < 400) : n < zFU := by rw [zFU_eq]; exact h
theorem zSD_ex : ∃ n : Nat, n = 7 := ⟨_, rfl⟩
noncomputable def zSD : Nat := Classical.choose zSD_ex
theorem zSD_eq : zSD = 7 := Classical.choose_spec zSD_ex
theorem zSD_lt {a n : Nat} (h : a + 7 < n) : a + zSD < n := by rw [zSD_eq]; exact h
