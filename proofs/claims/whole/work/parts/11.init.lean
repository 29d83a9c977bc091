/-! ===== constructors ===== -/
def zRI (d mc ms : Nat) : Room := { frames := d, cells := mc, slots := ms, locals := 64 * d }
def zQI (D : va_G) (A : Nat → Prop) (h0 : Nat) (Post : Nat → va_W → List (ClassId × FieldType) → Prop) : Array Value → State → Outcome → State → Prop := fun _ st oc t => oc = .returned none ∧ (∃ (w1 : va_W) (t1 : List (ClassId × FieldType)), Post h0 w1 t1 ∧ va_P D vwCl w1 t.heap ∧ va_K D vwCl t1 t ∧ va_D A w1) ∧ va_F A st t
def zCI (D : va_G) (l : Launch) (y : MethodName) (cc : ByteArray) (nL d mc ms : Nat) (As : List Value) (ci : Nat) (fs0 : List Value) (Post : Nat → va_W → List (ClassId × FieldType) → Prop) : Prop := ∀ (h0 sz : Nat),
  Met l y (.code y cc nL none :: zTT) (zRI d mc ms) (va_Pc (.ref h0 :: As) (fun U => U.heap.size = sz ∧ va_P D vwCl [(h0, .inr (ci, fs0))] U.heap ∧ va_K D vwCl [] U ∧ zNest U)) (zQI D (va_A [(h0, .inr (ci, fs0))] sz) h0 Post) mc ms (va_A [(h0, .inr (ci, fs0))] sz)
theorem zD1 {A : Nat → Prop} {h0 : Nat} {e : va_E} (h : A h0) : va_D A [(h0, e)] := by
  refine ⟨fun i j x y hi hj _ => ?_, fun k q hk => ?_⟩
  · have h1 := (List.getElem?_eq_some_iff.mp hi).1
    have h2 := (List.getElem?_eq_some_iff.mp hj).1
    simp at h1 h2
    omega
  · have h1 := (List.getElem?_eq_some_iff.mp hk).1
    simp at h1
    subst h1
    simp at hk
    rw [← hk]
    exact h
/-- what a constructor's walk stands on -/
def zBI (cc : ByteArray) (nL : Nat) (own : String) (p : Program) (s : State) (m : MethodId) (args : Array Value) (meth : Method) (c : Code) : Prop :=
  p.tables.exec = Jvm.exec ∧ c.code = cc ∧ c.maxLocals = nL ∧ s.vm.findClass own = some m.cls ∧ (∀ w ∈ zTT, w.before args s = true) ∧ meth.sig.returnType = none ∧ meth.locks = false ∧ meth.name = "<init>" ∧ zNest s
theorem zCI.mk {D : va_G} {l : Launch} {y : MethodName} {cc : ByteArray} {nL d mc ms : Nat} {As : List Value} {ci : Nat} {fs0 : List Value} {Post : Nat → va_W → List (ClassId × FieldType) → Prop} (hy : plainName y.cls = true) (hyn : y.name = "<init>") (hlen : ∀ h0 : Nat, (lg_sl (.ref h0 :: As)).length ≤ nL)
    (body : ∀ (h0 : Nat) (p : Program) (e : Env) (s : State) (m : MethodId) (below : List Frame) (meth : Method) (c : Code) (ls : Array Slot) (A : Nat → Prop), zBI cc nL y.cls p s m (.ref h0 :: As : List Value).toArray meth c → lv_has ls nL (lv_args 0 (.ref h0 :: As)) → va_K D vwCl [] s → va_P D vwCl [(h0, .inr (ci, fs0))] s.heap → va_D A [(h0, .inr (ci, fs0))] → va_S A s.heap s.heap [] → (∀ q : Nat, s.heap.size ≤ q → A q) → (∀ q : Nat, A q → q = h0 ∨ s.heap.size ≤ q) →
      W p l e (zRI d mc ms) s m (.ref h0 :: As : List Value).toArray below meth c s.heap [] 0 0 (MQ below (zQI D A h0 Post) (.ref h0 :: As : List Value).toArray s mc ms A) (F0 m 0 ls [])) : zCI D l y cc nL d mc ms As ci fs0 Post := by
  intro h0 sz
  refine Met.ofW (cc := cc) (maxL := nL) (ret := none) hy rfl ?_
  intro p e s m args below meth c s₁ B hml hv
  obtain ⟨rfl, hsz, hP, hK, hN⟩ := hv
  subst hsz
  have hts := atoms_spec (ws := .code y cc nL none :: zTT) B.pre
  have hnm : meth.name = "<init>" := (name_of_methodNamed B.named B.method).1.trans hyn
  rw [lg_entry_eq]
  have hA1 : ∀ q : Nat, va_A [(h0, .inr (ci, fs0))] s.heap.size q → q = h0 ∨ s.heap.size ≤ q := by
    intro q h
    rcases h with ⟨k, e, h⟩ | h
    · have h1 := (List.getElem?_eq_some_iff.mp h).1
      simp at h1
      subst h1
      simp at h
      exact Or.inl h.1.symm
    · exact Or.inr h
  exact body h0 p e s m below meth c _ _ ⟨B.exec, B.bytes, hml, findClass_of_methodNamed B.named, fun w h => hts w (List.mem_cons_of_mem _ h), B.returns, B.notSynchronized, hnm, hN⟩ (lv_entry (.ref h0 :: As) (hlen h0)) hK hP (zD1 (Or.inl ⟨0, _, rfl⟩)) va_S.rf (fun q h => Or.inr h) hA1
theorem zca_eq {D : va_G} {cl : List vw_C} {tys : List (ClassId × FieldType)} {s : State} (hK : va_K D cl tys s) (i j : Nat) {c1 c2 : ClassId} {ty : FieldType} (h1 : tys[i]? = some (c1, ty)) (h2 : tys[j]? = some (c2, ty)) : c1 = c2 := by
  have a := (hK.2 i _ h1).2
  have b := (hK.2 j _ h2).2
  cases ty with
  | object C =>
    obtain ⟨_, _, _, _, _, a4⟩ := a
    obtain ⟨_, _, _, _, _, b4⟩ := b
    exact Option.some.inj (a4.symm.trans b4)
  | _ => exact Option.some.inj (Eq.trans (Eq.symm a) b)
section ZI
variable {D : va_G} {p : Program} {l : Launch} {e : Env} {R : Room} {s : State} {m : MethodId} {args : Array Value} {below : List Frame} {meth : Method} {c : Code} {H H0 : Heap} {locs : List Loc} {cells slots : Nat} {Q : State → Prop}
variable {cc : ByteArray} {nL pc : Nat} {own : String} {ls : Array Slot} {rest st0 : List Value} {A : Nat → Prop} {ws : va_W} {tys : List (ClassId × FieldType)}
theorem zretI {h0 : Nat} {Post : Nat → va_W → List (ClassId × FieldType) → Prop} {w1 : va_W} {t1 : List (ClassId × FieldType)} (B : zBI cc nL own p s m args meth c) (hK : va_K D vwCl t1 s) (hP : va_P D vwCl w1 H) (hD : va_D A w1) (hS : va_S A s.heap H locs) (hpost : Post h0 w1 t1) (hdg : decode cc pc = .ok (.return_, 1)) : W p l e R s m args below meth c H locs cells slots (MQ below (zQI D A h0 Post) args s cells slots A) (F0 m pc ls []) :=
  W.vret B.1 B.2.1 B.2.2.2.2.2.1 (fun t ht hW => ⟨rfl, ⟨w1, t1, hpost, by rw [ht]; exact hP, va_K.moved hW.alike hK, hD⟩, hS.F ht⟩) hS.2.2 hdg B.2.2.2.2.2.2.1
/-- the call of a constructor: its cell i is cut out, what comes back stands behind the rest -/
theorem zinitR {y : MethodName} {bytes : ByteArray} {maxL d mc ms ci h0 : Nat} {As fs0 : List Value} {Post : Nat → va_W → List (ClassId × FieldType) → Prop} (hK : va_K D vwCl tys s) (hP : va_P D vwCl ws H) (hD : va_D A ws) (hS : va_S A H0 H locs) (hA : ∀ q : Nat, H0.size ≤ q → A q) (i : Nat) (hi : ws[i]? = some (h0, .inr (ci, fs0))) (isR : List Nat) {wr : va_W} (hR : isR.map (fun i => ws[i]?) = wr.map some) (hn : va_nd isR = true) (hdis : ∀ j ∈ isR, j ∉ [i])
    (hrun : va_Run p l e R s m args below meth c H locs cells slots mc ms (F0 m pc ls st0) rest (zQI D (va_A [(h0, .inr (ci, fs0))] H.size) h0 Post (Value.ref h0 :: As).toArray) (va_A [(h0, .inr (ci, fs0))] H.size))
    (kk : ∀ (w1 : va_W) (t1 : List (ClassId × FieldType)) (H1 : Heap) (locs1 : List Loc), Post h0 w1 t1 → va_K D vwCl (tys ++ t1) s → va_P D vwCl (wr ++ w1) H1 → va_D A (wr ++ w1) → va_S A H0 H1 locs1 → W p l e R s m args below meth c H1 locs1 (cells + mc) (slots + ms) Q (F0 m (pc + 3) ls rest)) : W p l e R s m args below meth c H locs cells slots Q (F0 m pc ls st0) := by
  have hC : [i].map (fun i => ws[i]?) = [(h0, (.inr (ci, fs0) : va_E))].map some := by simp [hi]
  have hF : ∀ q, va_A [(h0, .inr (ci, fs0))] H.size q → A q := va_free hD hS hA [i] hC
  intro T hT X
  obtain ⟨v, st₀, t, T', L, e0, X', hL, e1, e2, ⟨hv, ⟨w1, t1, hpost, hP1, hK1, hD1⟩, hz, hk⟩, st⟩ := hrun T hT X
  cases hv
  rw [e0] at hz hk
  have hP1' : va_P D vwCl w1 T'.heap := by rw [e1]; exact hP1
  have hk' : ∀ q : Nat, q < H.size → ¬ va_A [(h0, .inr (ci, fs0))] H.size q → T'.heap[q]? = H[q]? := fun q a b => by rw [e1]; exact hk q a b
  obtain ⟨hP2, hD2⟩ := va_join hP hD [i] isR hC hR hn hdis hk' hF hP1' hD1
  have hal : t.vm.Alike s.vm := by
    have := X'.warmed.alike
    rw [e2] at this
    exact this.symm
  obtain ⟨t2, a1, b1⟩ := kk w1 t1 T'.heap (locs ++ L) hpost (hK.app (va_K.moved hal hK1)) hP2 hD2 ⟨Nat.le_trans hS.1 (by rw [e1]; exact hz), fun q h1 h2 => by rw [hk' q (Nat.lt_of_lt_of_le h1 hS.1) (fun z => h2 (hF q z))]; exact hS.2.1 q h1 h2, fun q hq => by
      rcases List.mem_append.mp hq with h | h
      · exact hS.2.2 q h
      · exact hF _ (hL q h)⟩ T' rfl X'
  exact ⟨t2, st t2 a1, b1⟩
theorem zpreI {ci h0 : Nat} {As fs0 : List Value} (hK : va_K D vwCl tys s) (hN : zNest s) (hP : va_P D vwCl ws H) (i : Nat) (hi : ws[i]? = some (h0, .inr (ci, fs0))) : PreS s H (va_Pc (.ref h0 :: As) (fun U => U.heap.size = H.size ∧ va_P D vwCl [(h0, .inr (ci, fs0))] U.heap ∧ va_K D vwCl [] U ∧ zNest U)) (.ref h0 :: As) := by
  refine ⟨fun a U g mk q => ⟨q.1, q.2.1, q.2.2.1, va_K.moved (u := U) (U := U.calling g mk a) (Vm.Alike.refl U.vm) q.2.2.2.1, zNest.same (u := U) rfl q.2.2.2.2⟩, fun U hU hw => ⟨rfl, by rw [hU], ?_, va_K.moved hw.alike (hK.sub [] rfl), hN.warm hw⟩⟩
  rw [hU]
  exact hP.sub [i] (by simp [hi])
theorem zinitN {y : MethodName} {bytes : ByteArray} {maxL d mc ms ci h0 index : Nat} {host : String} {As fs0 : List Value} {Post : Nat → va_W → List (ClassId × FieldType) → Prop} (B : zBI cc nL own p s m args meth c) (hl : ls.size = nL) (hM : zCI D l y bytes maxL d mc ms As ci fs0 Post) (kl : (own, index, y, host) ∈ zNM) (ki : Cond.instanceMethod y ∈ zTT) (kn : Cond.initialized y.cls ∈ zTT) (kc : Cond.code y bytes maxL none ∈ zTT) (hy : y.cls ≠ "java/lang/invoke/MethodHandle" ∧ y.cls ≠ "java/lang/invoke/VarHandle" ∧ (parseMethodDescriptor y.desc).map (fun d => d.parameters.length) = some As.length) (hyn : y.name = "<init>")
    (hR : d + 1 ≤ R.frames ∧ 8 + (maxL + 11) + 64 * d ≤ R.locals) (hcs : cells + mc ≤ R.cells ∧ slots + ms ≤ R.slots) (hst : (rest.map fun v => v.category).sum ≤ 8) (hstack : st0 = As.reverse ++ .ref h0 :: rest) (hdg : decode cc pc = .ok (.invokespecial index, 3))
    (hK : va_K D vwCl tys s) (hP : va_P D vwCl ws H) (hD : va_D A ws) (hS : va_S A H0 H locs) (hA : ∀ q : Nat, H0.size ≤ q → A q) (i : Nat) (hi : ws[i]? = some (h0, .inr (ci, fs0))) (isR : List Nat) {wr : va_W} (hRr : isR.map (fun i => ws[i]?) = wr.map some) (hn : va_nd isR = true) (hdis : ∀ j ∈ isR, j ∉ [i])
    (kk : ∀ (w1 : va_W) (t1 : List (ClassId × FieldType)) (H1 : Heap) (locs1 : List Loc), Post h0 w1 t1 → va_K D vwCl (tys ++ t1) s → va_P D vwCl (wr ++ w1) H1 → va_D A (wr ++ w1) → va_S A H0 H1 locs1 → W p l e R s m args below meth c H1 locs1 (cells + mc) (slots + ms) Q (F0 m (pc + 3) ls rest)) : W p l e R s m args below meth c H locs cells slots Q (F0 m pc ls st0) := by
  obtain ⟨hx, hb, hml, hown, hts, -, -, -, hN⟩ := B
  exact zinitR (y := y) (bytes := bytes) (maxL := maxL) (d := d) hK hP hD hS hA i hi isR hRr hn hdis (va_runIN (As := As) (rest := rest) (host := host) ⟨hx, hb, hml, hown, hts⟩ (hM h0 H.size) ⟨va_cnB As.length hts (zgood kc) rfl rfl rfl (hN.2.1 _ kl) (hts _ kn) hy hR, hyn, hts _ ki⟩ (zpreI hK hN hP i hi) rfl rfl hl hstack (lv_room hst) hdg hcs) kk
theorem zinitP {y : MethodName} {bytes : ByteArray} {maxL d mc ms ci h0 index : Nat} {As fs0 : List Value} {Post : Nat → va_W → List (ClassId × FieldType) → Prop} (hx : p.tables.exec = Jvm.exec) (hb : c.code = cc) (hml : c.maxLocals = nL) (hown : s.vm.findClass own = some m.cls) (hts : ∀ w ∈ zTT, w.before args s = true) (hN : zNest s) (hl : ls.size = nL) (hM : zCI D l y bytes maxL d mc ms As ci fs0 Post) (kl : Cond.methodLink own index y ∈ zTT) (ki : Cond.instanceMethod y ∈ zTT) (kn : Cond.initialized y.cls ∈ zTT) (kc : Cond.code y bytes maxL none ∈ zTT) (hy : y.cls ≠ "java/lang/invoke/MethodHandle" ∧ y.cls ≠ "java/lang/invoke/VarHandle" ∧ (parseMethodDescriptor y.desc).map (fun d => d.parameters.length) = some As.length) (hyn : y.name = "<init>")
    (hR : d + 1 ≤ R.frames ∧ 8 + (maxL + 11) + 64 * d ≤ R.locals) (hcs : cells + mc ≤ R.cells ∧ slots + ms ≤ R.slots) (hst : (rest.map fun v => v.category).sum ≤ 8) (hstack : st0 = As.reverse ++ .ref h0 :: rest) (hdg : decode cc pc = .ok (.invokespecial index, 3))
    (hK : va_K D vwCl tys s) (hP : va_P D vwCl ws H) (hD : va_D A ws) (hS : va_S A H0 H locs) (hA : ∀ q : Nat, H0.size ≤ q → A q) (i : Nat) (hi : ws[i]? = some (h0, .inr (ci, fs0))) (isR : List Nat) {wr : va_W} (hRr : isR.map (fun i => ws[i]?) = wr.map some) (hn : va_nd isR = true) (hdis : ∀ j ∈ isR, j ∉ [i])
    (kk : ∀ (w1 : va_W) (t1 : List (ClassId × FieldType)) (H1 : Heap) (locs1 : List Loc), Post h0 w1 t1 → va_K D vwCl (tys ++ t1) s → va_P D vwCl (wr ++ w1) H1 → va_D A (wr ++ w1) → va_S A H0 H1 locs1 → W p l e R s m args below meth c H1 locs1 (cells + mc) (slots + ms) Q (F0 m (pc + 3) ls rest)) : W p l e R s m args below meth c H locs cells slots Q (F0 m pc ls st0) :=
  zinitR (y := y) (bytes := bytes) (maxL := maxL) (d := d) hK hP hD hS hA i hi isR hRr hn hdis (va_runI (As := As) (rest := rest) ⟨hx, hb, hml, hown, hts⟩ (hM h0 H.size) ⟨callB_of As.length hts (zgood kc) rfl rfl rfl (hts _ kn) (hts _ kl) hy hR, hyn, hts _ ki⟩ (zpreI hK hN hP i hi) rfl rfl hl hstack (lv_room hst) hdg hcs) kk
/-- a call of a method of a world Z from a place that knows more cells -/
theorem zrunA {Z : ZS} {G : ZG} {a : Array Value} {ov : Option Value} {μ μ' : Mem} (hr : va_Run p l e R s m args below meth c H locs cells slots 0 0 (F0 m pc ls st0) rest (zQ Z G ov μ' a) (zAd Z G)) (hS : va_S A H0 H locs) (hA : ∀ q, zAd Z G q → A q)
    (kk : ∀ (H1 : Heap) (locs1 : List Loc), va_P G.1 vwCl (zws Z G μ') H1 → H.size ≤ H1.size → (∀ q : Nat, q < H.size → ¬ zAd Z G q → H1[q]? = H[q]?) → va_S A H0 H1 locs1 → W p l e R s m args below meth c H1 locs1 cells slots Q (F0 m (pc + 3) ls (ov.toList ++ rest))) : W p l e R s m args below meth c H locs cells slots Q (F0 m pc ls st0) := by
  intro T hT X
  obtain ⟨v, st₀, t, T', L, h0, X', hL, e1, e2, ⟨hv, hP, hz, hk⟩, st⟩ := hr T hT X
  cases hv
  rw [h0] at hz hk
  have hk' : ∀ q : Nat, q < H.size → ¬ zAd Z G q → T'.heap[q]? = H[q]? := fun q a b => by rw [e1]; exact hk q a b
  obtain ⟨t2, a1, b1⟩ := kk T'.heap (locs ++ L) (by rw [e1]; exact hP) (by rw [e1]; exact hz) hk' ⟨Nat.le_trans hS.1 (by rw [e1]; exact hz), fun q h1 h2 => by rw [hk' q (Nat.lt_of_lt_of_le h1 hS.1) (fun z => h2 (hA q z))]; exact hS.2.1 q h1 h2, fun q hq => by
      rcases List.mem_append.mp hq with h | h
      · exact hS.2.2 q h
      · exact hA _ (hL q h)⟩ T' rfl X'
  exact ⟨t2, st t2 a1, b1⟩
theorem zcallSA {Z : ZS} {G : ZG} {μ μ' : Mem} {y : MethodName} {bytes : ByteArray} {maxL d index : Nat} {ret : Option FieldType} {As : List Value} {ov : Option Value} (hx : p.tables.exec = Jvm.exec) (hb : c.code = cc) (hml : c.maxLocals = nL) (hown : s.vm.findClass own = some m.cls) (hts : ∀ w ∈ zTT, w.before args s = true) (hKU : ∀ U : State, U.heap = H → s.WarmedH U.vm → zK Z G U) (hP : va_P G.1 vwCl (zws Z G μ) H) (hS : va_S A H0 H locs) (hA : ∀ q, zAd Z G q → A q) (hl : ls.size = nL) (hM : zC Z G l y bytes maxL ret d As μ ov μ')
    (kl : Cond.methodLink own index y ∈ zTT) (ki : Cond.static y ∈ zTT) (kn : Cond.initialized y.cls ∈ zTT) (kc : Cond.code y bytes maxL ret ∈ zTT) (hy : y.cls ≠ "java/lang/invoke/MethodHandle" ∧ y.cls ≠ "java/lang/invoke/VarHandle" ∧ (parseMethodDescriptor y.desc).map (fun d => d.parameters.length) = some As.length)
    (hR : d + 1 ≤ R.frames ∧ 8 + (maxL + 11) + 64 * d ≤ R.locals) (hcs : cells ≤ R.cells ∧ slots ≤ R.slots) (hst : (rest.map fun v => v.category).sum ≤ 8) (hstack : st0 = As.reverse ++ rest) (hdg : decode cc pc = .ok (.invokestatic index, 3))
    (kk : ∀ (H1 : Heap) (locs1 : List Loc), va_P G.1 vwCl (zws Z G μ') H1 → H.size ≤ H1.size → (∀ q : Nat, q < H.size → ¬ zAd Z G q → H1[q]? = H[q]?) → va_S A H0 H1 locs1 → W p l e R s m args below meth c H1 locs1 cells slots Q (F0 m (pc + 3) ls (ov.toList ++ rest))) : W p l e R s m args below meth c H locs cells slots Q (F0 m pc ls st0) :=
  zrunA (μ := μ) (va_runS (As := As) (rest := rest) ⟨hx, hb, hml, hown, hts⟩ hM ⟨callB_of As.length hts (zgood kc) rfl rfl rfl (hts _ kn) (hts _ kl) hy hR, hts _ ki⟩ ⟨fun _ _ _ _ q => ⟨q.1, q.2.1, q.2.2.blind⟩, fun U hU hw => ⟨rfl, by rw [hU]; exact hP, hKU U hU hw⟩⟩ rfl rfl hl hstack (lv_room hst) hdg hcs) hS hA kk
theorem zcallVA {Z : ZS} {G : ZG} {μ μ' : Mem} {y : MethodName} {bytes : ByteArray} {maxL d index o ci : Nat} {ret : Option FieldType} {q : vw_C} {As : List Value} {ov : Option Value} (hx : p.tables.exec = Jvm.exec) (hb : c.code = cc) (hml : c.maxLocals = nL) (hown : s.vm.findClass own = some m.cls) (hts : ∀ w ∈ zTT, w.before args s = true) (hKU : ∀ U : State, U.heap = H → s.WarmedH U.vm → zK Z G U) (hKs : va_K G.1 vwCl (zT Z G) s) (hP : va_P G.1 vwCl (zws Z G μ) H) (hS : va_S A H0 H locs) (hA : ∀ q, zAd Z G q → A q) (hl : ls.size = nL) (ho : zO Z o ci) (hc : vwCl[ci]? = some q) (hM : zC Z G l y bytes maxL ret d (.ref (zad G o) :: As) μ ov μ')
    (kl : Cond.methodLink own index y ∈ zTT) (ki : Cond.instanceMethod y ∈ zTT) (ks : Cond.selects q.1 y y ∈ zTT) (kn : Cond.initialized y.cls ∈ zTT) (kc : Cond.code y bytes maxL ret ∈ zTT) (hy : y.cls ≠ "java/lang/invoke/MethodHandle" ∧ y.cls ≠ "java/lang/invoke/VarHandle" ∧ (parseMethodDescriptor y.desc).map (fun d => d.parameters.length) = some As.length)
    (hR : d + 1 ≤ R.frames ∧ 8 + (maxL + 11) + 64 * d ≤ R.locals) (hcs : cells ≤ R.cells ∧ slots ≤ R.slots) (hst : (rest.map fun v => v.category).sum ≤ 8) (hstack : st0 = As.reverse ++ .ref (zad G o) :: rest) (hdg : decode cc pc = .ok (.invokevirtual index, 3))
    (kk : ∀ (H1 : Heap) (locs1 : List Loc), va_P G.1 vwCl (zws Z G μ') H1 → H.size ≤ H1.size → (∀ q : Nat, q < H.size → ¬ zAd Z G q → H1[q]? = H[q]?) → va_S A H0 H1 locs1 → W p l e R s m args below meth c H1 locs1 cells slots Q (F0 m (pc + 3) ls (ov.toList ++ rest))) : W p l e R s m args below meth c H locs cells slots Q (F0 m pc ls st0) := by
  obtain ⟨fs, hfs⟩ := ho.2 (zad G) (zca G) (μ.1 o) (μ.2 o)
  exact zrunA (μ := μ) (va_runV (As := As) (rest := rest) ⟨hx, hb, hml, hown, hts⟩ hM ⟨callB_of As.length hts (zgood kc) rfl rfl rfl (hts _ kn) (hts _ kl) hy hR, hts _ ki, hts _ ks⟩ ⟨fun _ _ _ _ q => ⟨q.1, q.2.1, q.2.2.blind⟩, va_recv hKs hP hc (q0 := o) (fs := fs) (by rw [zws_at ho.1, hfs]), fun U hU hw => ⟨rfl, by rw [hU]; exact hP, hKU U hU hw⟩⟩ rfl rfl hl hstack (lv_room hst) hdg hcs) hS hA kk
end ZI

theorem hy_X0_init : yX0_init.cls ≠ "java/lang/invoke/MethodHandle" ∧ yX0_init.cls ≠ "java/lang/invoke/VarHandle" ∧ (parseMethodDescriptor yX0_init.desc).map (fun d => d.parameters.length) = some 0 := ⟨by decide +kernel, by decide +kernel, by decide +kernel⟩
theorem hy_X1_init : yX1_init.cls ≠ "java/lang/invoke/MethodHandle" ∧ yX1_init.cls ≠ "java/lang/invoke/VarHandle" ∧ (parseMethodDescriptor yX1_init.desc).map (fun d => d.parameters.length) = some 1 := ⟨by decide +kernel, by decide +kernel, by decide +kernel⟩
theorem hy_X2_init : yX2_init.cls ≠ "java/lang/invoke/MethodHandle" ∧ yX2_init.cls ≠ "java/lang/invoke/VarHandle" ∧ (parseMethodDescriptor yX2_init.desc).map (fun d => d.parameters.length) = some 0 := ⟨by decide +kernel, by decide +kernel, by decide +kernel⟩
theorem hy_X3_init : yX3_init.cls ≠ "java/lang/invoke/MethodHandle" ∧ yX3_init.cls ≠ "java/lang/invoke/VarHandle" ∧ (parseMethodDescriptor yX3_init.desc).map (fun d => d.parameters.length) = some 0 := ⟨by decide +kernel, by decide +kernel, by decide +kernel⟩
theorem hy_X4_init : yX4_init.cls ≠ "java/lang/invoke/MethodHandle" ∧ yX4_init.cls ≠ "java/lang/invoke/VarHandle" ∧ (parseMethodDescriptor yX4_init.desc).map (fun d => d.parameters.length) = some 0 := ⟨by decide +kernel, by decide +kernel, by decide +kernel⟩
theorem hy_X5_init : yX5_init.cls ≠ "java/lang/invoke/MethodHandle" ∧ yX5_init.cls ≠ "java/lang/invoke/VarHandle" ∧ (parseMethodDescriptor yX5_init.desc).map (fun d => d.parameters.length) = some 0 := ⟨by decide +kernel, by decide +kernel, by decide +kernel⟩
theorem hy_X6_init : yX6_init.cls ≠ "java/lang/invoke/MethodHandle" ∧ yX6_init.cls ≠ "java/lang/invoke/VarHandle" ∧ (parseMethodDescriptor yX6_init.desc).map (fun d => d.parameters.length) = some 0 := ⟨by decide +kernel, by decide +kernel, by decide +kernel⟩
theorem hy_X7_init : yX7_init.cls ≠ "java/lang/invoke/MethodHandle" ∧ yX7_init.cls ≠ "java/lang/invoke/VarHandle" ∧ (parseMethodDescriptor yX7_init.desc).map (fun d => d.parameters.length) = some 0 := ⟨by decide +kernel, by decide +kernel, by decide +kernel⟩
theorem hy_X8_init : yX8_init.cls ≠ "java/lang/invoke/MethodHandle" ∧ yX8_init.cls ≠ "java/lang/invoke/VarHandle" ∧ (parseMethodDescriptor yX8_init.desc).map (fun d => d.parameters.length) = some 0 := ⟨by decide +kernel, by decide +kernel, by decide +kernel⟩
theorem hy_X9_init : yX9_init.cls ≠ "java/lang/invoke/MethodHandle" ∧ yX9_init.cls ≠ "java/lang/invoke/VarHandle" ∧ (parseMethodDescriptor yX9_init.desc).map (fun d => d.parameters.length) = some 0 := ⟨by decide +kernel, by decide +kernel, by decide +kernel⟩
theorem hy_X10_init : yX10_init.cls ≠ "java/lang/invoke/MethodHandle" ∧ yX10_init.cls ≠ "java/lang/invoke/VarHandle" ∧ (parseMethodDescriptor yX10_init.desc).map (fun d => d.parameters.length) = some 0 := ⟨by decide +kernel, by decide +kernel, by decide +kernel⟩
def Z1 : ZS := (1, fun _ ca _ fi _ => .inl (ca 0, 12, .inl fi), [.int], false)
theorem ar1 : zAr Z1 0 0 12 .int := ⟨by decide, fun _ _ _ _ => rfl, rfl⟩
theorem fill_ok {a : Nat} {x : Int32} : ∀ (k j n : Nat) (μ : Mem), j + k = 12 → k < n → (∀ i, i < j → μ.1 a i = x) → ∃ μ' : Mem, f_J7_fill_53178_5 a n x (nI j) 12 μ = some ((), μ') ∧ (∀ i, i < 12 → μ'.1 a i = x) ∧ (∀ b, b ≠ a → μ'.1 b = μ.1 b) ∧ μ'.2 = μ.2 := by
  intro k
  induction k with
  | zero =>
    intro j n μ hj hn h
    obtain ⟨n, rfl⟩ : ∃ q, n = q + 1 := ⟨n - 1, by omega⟩
    refine ⟨μ, ?_, fun i hi => h i (by omega), fun _ _ => rfl, rfl⟩
    rw [f_J7_fill_53178_5, if_pos (show (12 : Int32) ≤ nI j from nI_le (a := 12) (by omega) (by omega))]
  | succ k ih =>
    intro j n μ hj hn h
    obtain ⟨n, rfl⟩ : ∃ q, n = q + 1 := ⟨n - 1, by omega⟩
    rw [f_J7_fill_53178_5, if_neg (show ¬ (12 : Int32) ≤ nI j from nI_ge (b := 12) (by omega) (by omega)), zck_t (zin_nI (by omega) (by omega)), zlet_eq]
    obtain ⟨μ', h1, h2, h3, h4⟩ := ih (j + 1) n (zI μ a j x) (by omega) (by omega) (fun i hi => by
      simp only [zI, zA, upd, if_true]
      by_cases q : i = j
      · simp [q]
      · simp only [if_neg q]; exact h i (by omega))
    refine ⟨μ', ?_, h2, fun b hb => (h3 b hb).trans ?_, h4⟩
    · rw [nI_clamp (by omega), nI_1]
      exact h1
    · simp [zI, zA, hb]
theorem fill_all (a : Nat) (x : Int32) (μ : Mem) : ∃ μ' : Mem, f_J7_fill_53178 a x μ = some ((), μ') ∧ (∀ i, i < 12 → μ'.1 a i = x) ∧ (∀ b, b ≠ a → μ'.1 b = μ.1 b) ∧ μ'.2 = μ.2 := by
  have h := fill_ok (a := a) (x := x) 12 0 zFU μ rfl (zFU_lt (by decide)) (fun i hi => absurd hi (Nat.not_lt_zero i))
  rw [nI_0] at h
  rw [f_J7_fill_53178]
  exact h
set_option maxRecDepth 100000 in
theorem c_X3_init {D : va_G} {l : Launch} {ci : Nat} {fs0 : List Value} : zCI D l yX3_init cX3_init 1 1 0 0 [] ci fs0 (fun h0 w1 t1 => w1 = [(h0, .inr (ci, fs0))] ∧ t1 = []) := by
  refine zCI.mk (by decide +kernel) rfl (fun _ => Nat.le_of_ble_eq_true rfl) ?_
  intro h0 p e s m below meth c ls A B hl hK hP hD hS hA hA1
  have B : zBI cX3_init 1 "DarkShares$Plain" p s m [.ref h0].toArray meth c := B
  have hl : lv_has ls 1 [(0, .ref h0)] := hl
  have hx := B.1
  have hb := B.2.1
  have hown := B.2.2.2.1
  have hts := B.2.2.2.2.1
  have hin := B.2.2.2.2.2.2.2.1
  have hN := B.2.2.2.2.2.2.2.2
  refine lv_aload_n (pc := 0) hx hb dX3_init_0 rfl (lv_at hl 0 rfl) ?_
  refine W.objInit hx hb hown (hts _ kw93) (hts _ kw85) (hts _ kw86) rfl (by rw [B.2.2.1]; exact hl.1) rfl dX3_init_1 (Nat.le_of_ble_eq_true rfl) (Nat.le_of_ble_eq_true rfl) ?_
  refine W.eq (g2 := F0 m 4 ls []) rfl ?_
  exact zretI (pc := 4) B hK hP hD hS ⟨rfl, rfl⟩ dX3_init_4
set_option maxRecDepth 100000 in
theorem c_X7_init {D : va_G} {l : Launch} {ci : Nat} {fs0 : List Value} : zCI D l yX7_init cX7_init 1 2 0 0 [] ci fs0 (fun h0 w1 t1 => w1 = [(h0, .inr (ci, fs0))] ∧ t1 = []) := by
  refine zCI.mk (by decide +kernel) rfl (fun _ => Nat.le_of_ble_eq_true rfl) ?_
  intro h0 p e s m below meth c ls A B hl hK hP hD hS hA hA1
  have B : zBI cX7_init 1 "DarkShares$Small" p s m [.ref h0].toArray meth c := B
  have hl : lv_has ls 1 [(0, .ref h0)] := hl
  have hx := B.1
  have hb := B.2.1
  have hown := B.2.2.2.1
  have hts := B.2.2.2.2.1
  have hin := B.2.2.2.2.2.2.2.1
  have hN := B.2.2.2.2.2.2.2.2
  refine lv_aload_n (pc := 0) hx hb dX7_init_0 rfl (lv_at hl 0 rfl) ?_
  refine zinitN (pc := 1) (host := "DarkShares") (As := []) (rest := []) B hl.1 c_X3_init (List.mem_of_getElem? (i := 2) (by decide +kernel)) kw91 kw61 kw92 hy_X3_init rfl ⟨Nat.le_of_ble_eq_true rfl, Nat.le_of_ble_eq_true rfl⟩ ⟨Nat.le_of_ble_eq_true rfl, Nat.le_of_ble_eq_true rfl⟩ (zle8 rfl) rfl dX7_init_1 hK hP hD hS hA 0 rfl [] (wr := []) rfl (by decide) (by decide) (fun w1 t1 H locs hpost hK hP hD hS => ?_)
  obtain ⟨rfl, rfl⟩ := hpost
  have hK : va_K D vwCl [] s := hK
  have hP : va_P D vwCl [(h0, .inr (ci, fs0))] H := hP
  have hD : va_D A [(h0, .inr (ci, fs0))] := hD
  exact zretI (pc := 4) B hK hP hD hS ⟨rfl, rfl⟩ dX7_init_4
set_option maxRecDepth 100000 in
theorem c_X4_init {D : va_G} {l : Launch} {ci : Nat} {fs0 : List Value} : zCI D l yX4_init cX4_init 1 2 0 0 [] ci fs0 (fun h0 w1 t1 => w1 = [(h0, .inr (ci, fs0))] ∧ t1 = []) := by
  refine zCI.mk (by decide +kernel) rfl (fun _ => Nat.le_of_ble_eq_true rfl) ?_
  intro h0 p e s m below meth c ls A B hl hK hP hD hS hA hA1
  have B : zBI cX4_init 1 "DarkShares$Prefect" p s m [.ref h0].toArray meth c := B
  have hl : lv_has ls 1 [(0, .ref h0)] := hl
  have hx := B.1
  have hb := B.2.1
  have hown := B.2.2.2.1
  have hts := B.2.2.2.2.1
  have hin := B.2.2.2.2.2.2.2.1
  have hN := B.2.2.2.2.2.2.2.2
  refine lv_aload_n (pc := 0) hx hb dX4_init_0 rfl (lv_at hl 0 rfl) ?_
  refine zinitN (pc := 1) (host := "DarkShares") (As := []) (rest := []) B hl.1 c_X3_init (List.mem_of_getElem? (i := 4) (by decide +kernel)) kw91 kw61 kw92 hy_X3_init rfl ⟨Nat.le_of_ble_eq_true rfl, Nat.le_of_ble_eq_true rfl⟩ ⟨Nat.le_of_ble_eq_true rfl, Nat.le_of_ble_eq_true rfl⟩ (zle8 rfl) rfl dX4_init_1 hK hP hD hS hA 0 rfl [] (wr := []) rfl (by decide) (by decide) (fun w1 t1 H locs hpost hK hP hD hS => ?_)
  obtain ⟨rfl, rfl⟩ := hpost
  have hK : va_K D vwCl [] s := hK
  have hP : va_P D vwCl [(h0, .inr (ci, fs0))] H := hP
  have hD : va_D A [(h0, .inr (ci, fs0))] := hD
  exact zretI (pc := 4) B hK hP hD hS ⟨rfl, rfl⟩ dX4_init_4
set_option maxRecDepth 100000 in
theorem c_X6_init {D : va_G} {l : Launch} {ci : Nat} {fs0 : List Value} : zCI D l yX6_init cX6_init 1 2 0 0 [] ci fs0 (fun h0 w1 t1 => w1 = [(h0, .inr (ci, fs0))] ∧ t1 = []) := by
  refine zCI.mk (by decide +kernel) rfl (fun _ => Nat.le_of_ble_eq_true rfl) ?_
  intro h0 p e s m below meth c ls A B hl hK hP hD hS hA hA1
  have B : zBI cX6_init 1 "DarkShares$Sleeper" p s m [.ref h0].toArray meth c := B
  have hl : lv_has ls 1 [(0, .ref h0)] := hl
  have hx := B.1
  have hb := B.2.1
  have hown := B.2.2.2.1
  have hts := B.2.2.2.2.1
  have hin := B.2.2.2.2.2.2.2.1
  have hN := B.2.2.2.2.2.2.2.2
  refine lv_aload_n (pc := 0) hx hb dX6_init_0 rfl (lv_at hl 0 rfl) ?_
  refine zinitN (pc := 1) (host := "DarkShares") (As := []) (rest := []) B hl.1 c_X3_init (List.mem_of_getElem? (i := 6) (by decide +kernel)) kw91 kw61 kw92 hy_X3_init rfl ⟨Nat.le_of_ble_eq_true rfl, Nat.le_of_ble_eq_true rfl⟩ ⟨Nat.le_of_ble_eq_true rfl, Nat.le_of_ble_eq_true rfl⟩ (zle8 rfl) rfl dX6_init_1 hK hP hD hS hA 0 rfl [] (wr := []) rfl (by decide) (by decide) (fun w1 t1 H locs hpost hK hP hD hS => ?_)
  obtain ⟨rfl, rfl⟩ := hpost
  have hK : va_K D vwCl [] s := hK
  have hP : va_P D vwCl [(h0, .inr (ci, fs0))] H := hP
  have hD : va_D A [(h0, .inr (ci, fs0))] := hD
  exact zretI (pc := 4) B hK hP hD hS ⟨rfl, rfl⟩ dX6_init_4
set_option maxRecDepth 100000 in
theorem c_X0_init {D : va_G} {l : Launch} {ci : Nat} {fs0 : List Value} : zCI D l yX0_init cX0_init 1 3 0 0 [] ci fs0 (fun h0 w1 t1 => w1 = [(h0, .inr (ci, fs0))] ∧ t1 = []) := by
  refine zCI.mk (by decide +kernel) rfl (fun _ => Nat.le_of_ble_eq_true rfl) ?_
  intro h0 p e s m below meth c ls A B hl hK hP hD hS hA hA1
  have B : zBI cX0_init 1 "DarkShares$Afraid" p s m [.ref h0].toArray meth c := B
  have hl : lv_has ls 1 [(0, .ref h0)] := hl
  have hx := B.1
  have hb := B.2.1
  have hown := B.2.2.2.1
  have hts := B.2.2.2.2.1
  have hin := B.2.2.2.2.2.2.2.1
  have hN := B.2.2.2.2.2.2.2.2
  refine lv_aload_n (pc := 0) hx hb dX0_init_0 rfl (lv_at hl 0 rfl) ?_
  refine zinitN (pc := 1) (host := "DarkShares") (As := []) (rest := []) B hl.1 c_X7_init (List.mem_of_getElem? (i := 8) (by decide +kernel)) kw98 kw62 kw99 hy_X7_init rfl ⟨Nat.le_of_ble_eq_true rfl, Nat.le_of_ble_eq_true rfl⟩ ⟨Nat.le_of_ble_eq_true rfl, Nat.le_of_ble_eq_true rfl⟩ (zle8 rfl) rfl dX0_init_1 hK hP hD hS hA 0 rfl [] (wr := []) rfl (by decide) (by decide) (fun w1 t1 H locs hpost hK hP hD hS => ?_)
  obtain ⟨rfl, rfl⟩ := hpost
  have hK : va_K D vwCl [] s := hK
  have hP : va_P D vwCl [(h0, .inr (ci, fs0))] H := hP
  have hD : va_D A [(h0, .inr (ci, fs0))] := hD
  exact zretI (pc := 4) B hK hP hD hS ⟨rfl, rfl⟩ dX0_init_4
set_option maxRecDepth 100000 in
theorem c_X5_init {D : va_G} {l : Launch} {ci : Nat} {fs0 : List Value} : zCI D l yX5_init cX5_init 1 3 0 0 [] ci fs0 (fun h0 w1 t1 => w1 = [(h0, .inr (ci, fs0))] ∧ t1 = []) := by
  refine zCI.mk (by decide +kernel) rfl (fun _ => Nat.le_of_ble_eq_true rfl) ?_
  intro h0 p e s m below meth c ls A B hl hK hP hD hS hA hA1
  have B : zBI cX5_init 1 "DarkShares$Saver" p s m [.ref h0].toArray meth c := B
  have hl : lv_has ls 1 [(0, .ref h0)] := hl
  have hx := B.1
  have hb := B.2.1
  have hown := B.2.2.2.1
  have hts := B.2.2.2.2.1
  have hin := B.2.2.2.2.2.2.2.1
  have hN := B.2.2.2.2.2.2.2.2
  refine lv_aload_n (pc := 0) hx hb dX5_init_0 rfl (lv_at hl 0 rfl) ?_
  refine zinitN (pc := 1) (host := "DarkShares") (As := []) (rest := []) B hl.1 c_X6_init (List.mem_of_getElem? (i := 10) (by decide +kernel)) kw112 kw64 kw113 hy_X6_init rfl ⟨Nat.le_of_ble_eq_true rfl, Nat.le_of_ble_eq_true rfl⟩ ⟨Nat.le_of_ble_eq_true rfl, Nat.le_of_ble_eq_true rfl⟩ (zle8 rfl) rfl dX5_init_1 hK hP hD hS hA 0 rfl [] (wr := []) rfl (by decide) (by decide) (fun w1 t1 H locs hpost hK hP hD hS => ?_)
  obtain ⟨rfl, rfl⟩ := hpost
  have hK : va_K D vwCl [] s := hK
  have hP : va_P D vwCl [(h0, .inr (ci, fs0))] H := hP
  have hD : va_D A [(h0, .inr (ci, fs0))] := hD
  exact zretI (pc := 4) B hK hP hD hS ⟨rfl, rfl⟩ dX5_init_4
def PostN (k0 : Nat) (h0 : Nat) (w1 : va_W) (t1 : List (ClassId × FieldType)) : Prop := ∃ (q1 q2 q3 q4 q5 q6 : Nat) (cI : ClassId) (g : Nat → Int32), (∀ j, j < 12 → g j = -1) ∧ w1 = [(h0, .inr (1, [.ref k0, .ref q1, .ref q2, .ref q3, .ref q4, .ref q5, .ref q6, .int 0, .int 0, .int 0])), (q1, .inl (cI, 5, .inl (fun _ => 0))), (q2, .inl (cI, 5, .inl (fun _ => 0))), (q3, .inl (cI, 5, .inl (fun _ => 0))), (q4, .inl (cI, 12, .inl g)), (q5, .inl (cI, 24, .inl (fun _ => 0))), (q6, .inl (cI, 136, .inl (fun _ => 0)))] ∧ t1 = [(cI, .int)]
def PostP (h0 : Nat) (w1 : va_W) (t1 : List (ClassId × FieldType)) : Prop := ∃ (q1 q2 : Nat) (cI : ClassId), w1 = [(h0, .inr (2, [.ref q1, .ref q2, .int 0])), (q1, .inl (cI, 5, .inl (fun _ => 0))), (q2, .inl (cI, 5, .inl (fun _ => 0)))] ∧ t1 = [(cI, .int)]
def PostT (h0 : Nat) (w1 : va_W) (t1 : List (ClassId × FieldType)) : Prop := ∃ (q1 : Nat) (cB : ClassId), w1 = [(h0, .inr (8, [.ref q1, .int 0, .int 0, .int 0, .int 0, .int 0])), (q1, .inl (cB, 150, .inl (fun _ => 0)))] ∧ t1 = [(cB, .byte)]
set_option maxRecDepth 100000 in
theorem c_X1_init {D : va_G} {l : Launch} {k0 : Nat} : zCI D l yX1_init cX1_init 2 2 6 187 [.ref k0] 1 [.null, .null, .null, .null, .null, .null, .null, .int 0, .int 0, .int 0] (PostN k0) := by
  refine zCI.mk (by decide +kernel) rfl (fun _ => Nat.le_of_ble_eq_true rfl) ?_
  intro h0 p e s m below meth c ls A B hl hK hP hD hS hA hA1
  have B : zBI cX1_init 2 "DarkShares$Night" p s m [.ref h0, .ref k0].toArray meth c := B
  have hl : lv_has ls 2 [(0, .ref h0), (1, .ref k0)] := hl
  have hx := B.1
  have hb := B.2.1
  have hown := B.2.2.2.1
  have hts := B.2.2.2.2.1
  have hin := B.2.2.2.2.2.2.2.1
  have hN := B.2.2.2.2.2.2.2.2
  refine lv_aload_n (pc := 0) hx hb dX1_init_0 rfl (lv_at hl 0 rfl) ?_
  refine W.objInit hx hb hown (hts _ kw135) (hts _ kw85) (hts _ kw86) rfl (by rw [B.2.2.1]; exact hl.1) rfl dX1_init_1 (Nat.le_of_ble_eq_true rfl) (Nat.le_of_ble_eq_true rfl) ?_
  refine W.eq (g2 := F0 m 4 ls []) rfl ?_
  refine lv_aload_n (pc := 4) hx hb dX1_init_4 rfl (lv_at hl 0 rfl) ?_
  refine lv_iconst (pc := 5) (v := (5 : Int32)) hx hb dX1_init_5 rfl ?_
  refine va_newa (pc := 6) (atype := .int) (ty := .int) (n := (5 : Int32)) (N' := 5) (a0 := (5, .inl (fun _ => 0))) hx hb (hts _ kw180) rfl hK hP hD hS hA (fun _ => rfl) (by decide) (by decide) (by decide) (Nat.le_of_ble_eq_true rfl) (Nat.le_of_ble_eq_true rfl) dX1_init_6 (fun q1 cN H hK hP hD hS => ?_)
  have hK : va_K D vwCl [(cN, .int)] s := hK
  obtain ⟨cI, rfl⟩ : ∃ z, z = cN := ⟨_, rfl⟩
  have hP : va_P D vwCl [(h0, .inr (1, [.null, .null, .null, .null, .null, .null, .null, .int 0, .int 0, .int 0])), (q1, .inl (cI, 5, .inl (fun _ => 0)))] H := hP
  have hD : va_D A [(h0, .inr (1, [.null, .null, .null, .null, .null, .null, .null, .int 0, .int 0, .int 0])), (q1, .inl (cI, 5, .inl (fun _ => 0)))] := hD
  refine va_putF (pc := 8) (D := D) (ci := 1) (v := .ref q1) (ty := .array .int) (C := RX1) (T := TX1) (N := 10) hx hb hts zin1 tyX1 tyX1_ok nmX1 hown hK hP hD hS 0 rfl rfl 1 (by decide) (hts _ kw140) (fun _ h9 => h9) rfl hin rfl (by decide +kernel) rfl rfl (Nat.le_of_ble_eq_true rfl) dX1_init_8 (fun H locs hP hD hS => ?_)
  have hP : va_P D vwCl [(h0, .inr (1, [.null, .ref q1, .null, .null, .null, .null, .null, .int 0, .int 0, .int 0])), (q1, .inl (cI, 5, .inl (fun _ => 0)))] H := hP
  have hD : va_D A [(h0, .inr (1, [.null, .ref q1, .null, .null, .null, .null, .null, .int 0, .int 0, .int 0])), (q1, .inl (cI, 5, .inl (fun _ => 0)))] := hD
  refine lv_aload_n (pc := 11) hx hb dX1_init_11 rfl (lv_at hl 0 rfl) ?_
  refine lv_iconst (pc := 12) (v := (5 : Int32)) hx hb dX1_init_12 rfl ?_
  refine va_newa (pc := 13) (atype := .int) (ty := .int) (n := (5 : Int32)) (N' := 5) (a0 := (5, .inl (fun _ => 0))) hx hb (hts _ kw180) rfl hK hP hD hS hA (fun _ => rfl) (by decide) (by decide) (by decide) (Nat.le_of_ble_eq_true rfl) (Nat.le_of_ble_eq_true rfl) dX1_init_13 (fun q2 cN H hK hP hD hS => ?_)
  have hK : va_K D vwCl [(cI, .int), (cN, .int)] s := hK
  have eC : cN = cI := zca_eq hK 1 0 rfl rfl
  rw [eC] at hP hD
  have hK : va_K D vwCl [(cI, .int)] s := hK.sub [0] rfl
  clear eC
  have hP : va_P D vwCl [(h0, .inr (1, [.null, .ref q1, .null, .null, .null, .null, .null, .int 0, .int 0, .int 0])), (q1, .inl (cI, 5, .inl (fun _ => 0))), (q2, .inl (cI, 5, .inl (fun _ => 0)))] H := hP
  have hD : va_D A [(h0, .inr (1, [.null, .ref q1, .null, .null, .null, .null, .null, .int 0, .int 0, .int 0])), (q1, .inl (cI, 5, .inl (fun _ => 0))), (q2, .inl (cI, 5, .inl (fun _ => 0)))] := hD
  refine va_putF (pc := 15) (D := D) (ci := 1) (v := .ref q2) (ty := .array .int) (C := RX1) (T := TX1) (N := 10) hx hb hts zin1 tyX1 tyX1_ok nmX1 hown hK hP hD hS 0 rfl rfl 2 (by decide) (hts _ kw142) (fun _ h9 => h9) rfl hin rfl (by decide +kernel) rfl rfl (Nat.le_of_ble_eq_true rfl) dX1_init_15 (fun H locs hP hD hS => ?_)
  have hP : va_P D vwCl [(h0, .inr (1, [.null, .ref q1, .ref q2, .null, .null, .null, .null, .int 0, .int 0, .int 0])), (q1, .inl (cI, 5, .inl (fun _ => 0))), (q2, .inl (cI, 5, .inl (fun _ => 0)))] H := hP
  have hD : va_D A [(h0, .inr (1, [.null, .ref q1, .ref q2, .null, .null, .null, .null, .int 0, .int 0, .int 0])), (q1, .inl (cI, 5, .inl (fun _ => 0))), (q2, .inl (cI, 5, .inl (fun _ => 0)))] := hD
  refine lv_aload_n (pc := 18) hx hb dX1_init_18 rfl (lv_at hl 0 rfl) ?_
  refine lv_iconst (pc := 19) (v := (5 : Int32)) hx hb dX1_init_19 rfl ?_
  refine va_newa (pc := 20) (atype := .int) (ty := .int) (n := (5 : Int32)) (N' := 5) (a0 := (5, .inl (fun _ => 0))) hx hb (hts _ kw180) rfl hK hP hD hS hA (fun _ => rfl) (by decide) (by decide) (by decide) (Nat.le_of_ble_eq_true rfl) (Nat.le_of_ble_eq_true rfl) dX1_init_20 (fun q3 cN H hK hP hD hS => ?_)
  have hK : va_K D vwCl [(cI, .int), (cN, .int)] s := hK
  have eC : cN = cI := zca_eq hK 1 0 rfl rfl
  rw [eC] at hP hD
  have hK : va_K D vwCl [(cI, .int)] s := hK.sub [0] rfl
  clear eC
  have hP : va_P D vwCl [(h0, .inr (1, [.null, .ref q1, .ref q2, .null, .null, .null, .null, .int 0, .int 0, .int 0])), (q1, .inl (cI, 5, .inl (fun _ => 0))), (q2, .inl (cI, 5, .inl (fun _ => 0))), (q3, .inl (cI, 5, .inl (fun _ => 0)))] H := hP
  have hD : va_D A [(h0, .inr (1, [.null, .ref q1, .ref q2, .null, .null, .null, .null, .int 0, .int 0, .int 0])), (q1, .inl (cI, 5, .inl (fun _ => 0))), (q2, .inl (cI, 5, .inl (fun _ => 0))), (q3, .inl (cI, 5, .inl (fun _ => 0)))] := hD
  refine va_putF (pc := 22) (D := D) (ci := 1) (v := .ref q3) (ty := .array .int) (C := RX1) (T := TX1) (N := 10) hx hb hts zin1 tyX1 tyX1_ok nmX1 hown hK hP hD hS 0 rfl rfl 3 (by decide) (hts _ kw144) (fun _ h9 => h9) rfl hin rfl (by decide +kernel) rfl rfl (Nat.le_of_ble_eq_true rfl) dX1_init_22 (fun H locs hP hD hS => ?_)
  have hP : va_P D vwCl [(h0, .inr (1, [.null, .ref q1, .ref q2, .ref q3, .null, .null, .null, .int 0, .int 0, .int 0])), (q1, .inl (cI, 5, .inl (fun _ => 0))), (q2, .inl (cI, 5, .inl (fun _ => 0))), (q3, .inl (cI, 5, .inl (fun _ => 0)))] H := hP
  have hD : va_D A [(h0, .inr (1, [.null, .ref q1, .ref q2, .ref q3, .null, .null, .null, .int 0, .int 0, .int 0])), (q1, .inl (cI, 5, .inl (fun _ => 0))), (q2, .inl (cI, 5, .inl (fun _ => 0))), (q3, .inl (cI, 5, .inl (fun _ => 0)))] := hD
  refine lv_aload_n (pc := 25) hx hb dX1_init_25 rfl (lv_at hl 0 rfl) ?_
  refine lv_bipush (pc := 26) (v := (12 : Int32)) hx hb dX1_init_26 rfl ?_
  refine va_newa (pc := 28) (atype := .int) (ty := .int) (n := (12 : Int32)) (N' := 12) (a0 := (12, .inl (fun _ => 0))) hx hb (hts _ kw180) rfl hK hP hD hS hA (fun _ => rfl) (by decide) (by decide) (by decide) (Nat.le_of_ble_eq_true rfl) (Nat.le_of_ble_eq_true rfl) dX1_init_28 (fun q4 cN H hK hP hD hS => ?_)
  have hK : va_K D vwCl [(cI, .int), (cN, .int)] s := hK
  have eC : cN = cI := zca_eq hK 1 0 rfl rfl
  rw [eC] at hP hD
  have hK : va_K D vwCl [(cI, .int)] s := hK.sub [0] rfl
  clear eC
  have hP : va_P D vwCl [(h0, .inr (1, [.null, .ref q1, .ref q2, .ref q3, .null, .null, .null, .int 0, .int 0, .int 0])), (q1, .inl (cI, 5, .inl (fun _ => 0))), (q2, .inl (cI, 5, .inl (fun _ => 0))), (q3, .inl (cI, 5, .inl (fun _ => 0))), (q4, .inl (cI, 12, .inl (fun _ => 0)))] H := hP
  have hD : va_D A [(h0, .inr (1, [.null, .ref q1, .ref q2, .ref q3, .null, .null, .null, .int 0, .int 0, .int 0])), (q1, .inl (cI, 5, .inl (fun _ => 0))), (q2, .inl (cI, 5, .inl (fun _ => 0))), (q3, .inl (cI, 5, .inl (fun _ => 0))), (q4, .inl (cI, 12, .inl (fun _ => 0)))] := hD
  refine va_putF (pc := 30) (D := D) (ci := 1) (v := .ref q4) (ty := .array .int) (C := RX1) (T := TX1) (N := 10) hx hb hts zin1 tyX1 tyX1_ok nmX1 hown hK hP hD hS 0 rfl rfl 4 (by decide) (hts _ kw146) (fun _ h9 => h9) rfl hin rfl (by decide +kernel) rfl rfl (Nat.le_of_ble_eq_true rfl) dX1_init_30 (fun H locs hP hD hS => ?_)
  have hP : va_P D vwCl [(h0, .inr (1, [.null, .ref q1, .ref q2, .ref q3, .ref q4, .null, .null, .int 0, .int 0, .int 0])), (q1, .inl (cI, 5, .inl (fun _ => 0))), (q2, .inl (cI, 5, .inl (fun _ => 0))), (q3, .inl (cI, 5, .inl (fun _ => 0))), (q4, .inl (cI, 12, .inl (fun _ => 0)))] H := hP
  have hD : va_D A [(h0, .inr (1, [.null, .ref q1, .ref q2, .ref q3, .ref q4, .null, .null, .int 0, .int 0, .int 0])), (q1, .inl (cI, 5, .inl (fun _ => 0))), (q2, .inl (cI, 5, .inl (fun _ => 0))), (q3, .inl (cI, 5, .inl (fun _ => 0))), (q4, .inl (cI, 12, .inl (fun _ => 0)))] := hD
  refine lv_aload_n (pc := 33) hx hb dX1_init_33 rfl (lv_at hl 0 rfl) ?_
  refine lv_bipush (pc := 34) (v := (24 : Int32)) hx hb dX1_init_34 rfl ?_
  refine va_newa (pc := 36) (atype := .int) (ty := .int) (n := (24 : Int32)) (N' := 24) (a0 := (24, .inl (fun _ => 0))) hx hb (hts _ kw180) rfl hK hP hD hS hA (fun _ => rfl) (by decide) (by decide) (by decide) (Nat.le_of_ble_eq_true rfl) (Nat.le_of_ble_eq_true rfl) dX1_init_36 (fun q5 cN H hK hP hD hS => ?_)
  have hK : va_K D vwCl [(cI, .int), (cN, .int)] s := hK
  have eC : cN = cI := zca_eq hK 1 0 rfl rfl
  rw [eC] at hP hD
  have hK : va_K D vwCl [(cI, .int)] s := hK.sub [0] rfl
  clear eC
  have hP : va_P D vwCl [(h0, .inr (1, [.null, .ref q1, .ref q2, .ref q3, .ref q4, .null, .null, .int 0, .int 0, .int 0])), (q1, .inl (cI, 5, .inl (fun _ => 0))), (q2, .inl (cI, 5, .inl (fun _ => 0))), (q3, .inl (cI, 5, .inl (fun _ => 0))), (q4, .inl (cI, 12, .inl (fun _ => 0))), (q5, .inl (cI, 24, .inl (fun _ => 0)))] H := hP
  have hD : va_D A [(h0, .inr (1, [.null, .ref q1, .ref q2, .ref q3, .ref q4, .null, .null, .int 0, .int 0, .int 0])), (q1, .inl (cI, 5, .inl (fun _ => 0))), (q2, .inl (cI, 5, .inl (fun _ => 0))), (q3, .inl (cI, 5, .inl (fun _ => 0))), (q4, .inl (cI, 12, .inl (fun _ => 0))), (q5, .inl (cI, 24, .inl (fun _ => 0)))] := hD
  refine va_putF (pc := 38) (D := D) (ci := 1) (v := .ref q5) (ty := .array .int) (C := RX1) (T := TX1) (N := 10) hx hb hts zin1 tyX1 tyX1_ok nmX1 hown hK hP hD hS 0 rfl rfl 5 (by decide) (hts _ kw149) (fun _ h9 => h9) rfl hin rfl (by decide +kernel) rfl rfl (Nat.le_of_ble_eq_true rfl) dX1_init_38 (fun H locs hP hD hS => ?_)
  have hP : va_P D vwCl [(h0, .inr (1, [.null, .ref q1, .ref q2, .ref q3, .ref q4, .ref q5, .null, .int 0, .int 0, .int 0])), (q1, .inl (cI, 5, .inl (fun _ => 0))), (q2, .inl (cI, 5, .inl (fun _ => 0))), (q3, .inl (cI, 5, .inl (fun _ => 0))), (q4, .inl (cI, 12, .inl (fun _ => 0))), (q5, .inl (cI, 24, .inl (fun _ => 0)))] H := hP
  have hD : va_D A [(h0, .inr (1, [.null, .ref q1, .ref q2, .ref q3, .ref q4, .ref q5, .null, .int 0, .int 0, .int 0])), (q1, .inl (cI, 5, .inl (fun _ => 0))), (q2, .inl (cI, 5, .inl (fun _ => 0))), (q3, .inl (cI, 5, .inl (fun _ => 0))), (q4, .inl (cI, 12, .inl (fun _ => 0))), (q5, .inl (cI, 24, .inl (fun _ => 0)))] := hD
  refine lv_aload_n (pc := 41) hx hb dX1_init_41 rfl (lv_at hl 0 rfl) ?_
  refine lv_sipush (pc := 42) (v := (136 : Int32)) hx hb dX1_init_42 rfl ?_
  refine va_newa (pc := 45) (atype := .int) (ty := .int) (n := (136 : Int32)) (N' := 136) (a0 := (136, .inl (fun _ => 0))) hx hb (hts _ kw180) rfl hK hP hD hS hA (fun _ => rfl) (by decide) (by decide) (by decide) (Nat.le_of_ble_eq_true rfl) (Nat.le_of_ble_eq_true rfl) dX1_init_45 (fun q6 cN H hK hP hD hS => ?_)
  have hK : va_K D vwCl [(cI, .int), (cN, .int)] s := hK
  have eC : cN = cI := zca_eq hK 1 0 rfl rfl
  rw [eC] at hP hD
  have hK : va_K D vwCl [(cI, .int)] s := hK.sub [0] rfl
  clear eC
  have hP : va_P D vwCl [(h0, .inr (1, [.null, .ref q1, .ref q2, .ref q3, .ref q4, .ref q5, .null, .int 0, .int 0, .int 0])), (q1, .inl (cI, 5, .inl (fun _ => 0))), (q2, .inl (cI, 5, .inl (fun _ => 0))), (q3, .inl (cI, 5, .inl (fun _ => 0))), (q4, .inl (cI, 12, .inl (fun _ => 0))), (q5, .inl (cI, 24, .inl (fun _ => 0))), (q6, .inl (cI, 136, .inl (fun _ => 0)))] H := hP
  have hD : va_D A [(h0, .inr (1, [.null, .ref q1, .ref q2, .ref q3, .ref q4, .ref q5, .null, .int 0, .int 0, .int 0])), (q1, .inl (cI, 5, .inl (fun _ => 0))), (q2, .inl (cI, 5, .inl (fun _ => 0))), (q3, .inl (cI, 5, .inl (fun _ => 0))), (q4, .inl (cI, 12, .inl (fun _ => 0))), (q5, .inl (cI, 24, .inl (fun _ => 0))), (q6, .inl (cI, 136, .inl (fun _ => 0)))] := hD
  refine va_putF (pc := 47) (D := D) (ci := 1) (v := .ref q6) (ty := .array .int) (C := RX1) (T := TX1) (N := 10) hx hb hts zin1 tyX1 tyX1_ok nmX1 hown hK hP hD hS 0 rfl rfl 6 (by decide) (hts _ kw150) (fun _ h9 => h9) rfl hin rfl (by decide +kernel) rfl rfl (Nat.le_of_ble_eq_true rfl) dX1_init_47 (fun H locs hP hD hS => ?_)
  have hP : va_P D vwCl [(h0, .inr (1, [.null, .ref q1, .ref q2, .ref q3, .ref q4, .ref q5, .ref q6, .int 0, .int 0, .int 0])), (q1, .inl (cI, 5, .inl (fun _ => 0))), (q2, .inl (cI, 5, .inl (fun _ => 0))), (q3, .inl (cI, 5, .inl (fun _ => 0))), (q4, .inl (cI, 12, .inl (fun _ => 0))), (q5, .inl (cI, 24, .inl (fun _ => 0))), (q6, .inl (cI, 136, .inl (fun _ => 0)))] H := hP
  have hD : va_D A [(h0, .inr (1, [.null, .ref q1, .ref q2, .ref q3, .ref q4, .ref q5, .ref q6, .int 0, .int 0, .int 0])), (q1, .inl (cI, 5, .inl (fun _ => 0))), (q2, .inl (cI, 5, .inl (fun _ => 0))), (q3, .inl (cI, 5, .inl (fun _ => 0))), (q4, .inl (cI, 12, .inl (fun _ => 0))), (q5, .inl (cI, 24, .inl (fun _ => 0))), (q6, .inl (cI, 136, .inl (fun _ => 0)))] := hD
  refine lv_aload_n (pc := 50) hx hb dX1_init_50 rfl (lv_at hl 0 rfl) ?_
  refine lv_aload_n (pc := 51) hx hb dX1_init_51 rfl (lv_at hl 1 rfl) ?_
  refine va_putF (pc := 52) (D := D) (ci := 1) (v := .ref k0) (ty := .array (.object "DarkShares$Plain")) (C := RX1) (T := TX1) (N := 10) hx hb hts zin1 tyX1 tyX1_ok nmX1 hown hK hP hD hS 0 rfl rfl 0 (by decide) (hts _ kw139) (fun _ h9 => h9) rfl hin rfl (by decide +kernel) rfl rfl (Nat.le_of_ble_eq_true rfl) dX1_init_52 (fun H locs hP hD hS => ?_)
  have hP : va_P D vwCl [(h0, .inr (1, [.ref k0, .ref q1, .ref q2, .ref q3, .ref q4, .ref q5, .ref q6, .int 0, .int 0, .int 0])), (q1, .inl (cI, 5, .inl (fun _ => 0))), (q2, .inl (cI, 5, .inl (fun _ => 0))), (q3, .inl (cI, 5, .inl (fun _ => 0))), (q4, .inl (cI, 12, .inl (fun _ => 0))), (q5, .inl (cI, 24, .inl (fun _ => 0))), (q6, .inl (cI, 136, .inl (fun _ => 0)))] H := hP
  have hD : va_D A [(h0, .inr (1, [.ref k0, .ref q1, .ref q2, .ref q3, .ref q4, .ref q5, .ref q6, .int 0, .int 0, .int 0])), (q1, .inl (cI, 5, .inl (fun _ => 0))), (q2, .inl (cI, 5, .inl (fun _ => 0))), (q3, .inl (cI, 5, .inl (fun _ => 0))), (q4, .inl (cI, 12, .inl (fun _ => 0))), (q5, .inl (cI, 24, .inl (fun _ => 0))), (q6, .inl (cI, 136, .inl (fun _ => 0)))] := hD
  refine lv_aload_n (pc := 55) hx hb dX1_init_55 rfl (lv_at hl 0 rfl) ?_
  refine va_get (pc := 56) (D := D) (ci := 1) (v := .ref q4) (C := RX1) (T := TX1) (N := 10) hx hb hts zin1 hown hK hP 0 rfl rfl 4 (by decide) (hts _ kw146) (fun _ h9 => h9) rfl dX1_init_56 ?_
  refine lv_iconst (pc := 59) (v := (-1 : Int32)) hx hb dX1_init_59 rfl ?_
  obtain ⟨μ1, hf1, hf2, -, -⟩ := fill_all 0 (-1) ((fun _ _ => 0, fun _ _ => 0) : Mem)
  have hAq : ∀ z, zAd Z1 (D, fun _ => q4, fun _ => cI, fun _ => 0, fun _ => 0) z → A z := by
    rintro z ⟨_, _, rfl⟩
    exact hD.2 4 (q4, .inl (cI, 12, .inl (fun _ => 0))) rfl
  have hS0 := hS
  refine zcallSA (pc := 60) (Z := Z1) (G := (D, fun _ => q4, fun _ => cI, fun _ => 0, fun _ => 0)) (μ := (fun _ _ => 0, fun _ _ => 0)) (As := [.ref q4, .int (-1)]) (ov := none) (rest := []) hx hb B.2.2.1 hown hts (fun U hU hw => ⟨va_K.moved hw.alike (hK.sub [0] rfl), fun i j hi hj _ => by have : i < 1 := hi; have : j < 1 := hj; omega, fun h => by cases h⟩) (hP.sub [4] rfl) hS hAq hl.1 (c_J7_fill_53178 ar1 hf1) kw136 kw137 kw68 kw138 hy_J7_fill_53178 ⟨Nat.le_of_ble_eq_true rfl, Nat.le_of_ble_eq_true rfl⟩ ⟨Nat.le_of_ble_eq_true rfl, Nat.le_of_ble_eq_true rfl⟩ (zle8 rfl) rfl dX1_init_60 (fun H1 locs hP1 hz1 hk1 hS => ?_)
  obtain ⟨hP, hD⟩ := va_join (wr := [(h0, .inr (1, [.ref k0, .ref q1, .ref q2, .ref q3, .ref q4, .ref q5, .ref q6, .int 0, .int 0, .int 0])), (q1, .inl (cI, 5, .inl (fun _ => 0))), (q2, .inl (cI, 5, .inl (fun _ => 0))), (q3, .inl (cI, 5, .inl (fun _ => 0))), (q5, .inl (cI, 24, .inl (fun _ => 0))), (q6, .inl (cI, 136, .inl (fun _ => 0)))]) (w1 := [(q4, .inl (cI, 12, .inl (μ1.1 0)))]) hP hD [4] [0, 1, 2, 3, 5, 6] (wc := [(q4, .inl (cI, 12, .inl (fun _ => 0)))]) rfl rfl (by decide) (by decide) (fun z a b => hk1 z a (fun h => b (by obtain ⟨_, _, rfl⟩ := h; exact Or.inl ⟨0, _, rfl⟩))) (va_free hD hS0 hA [4] rfl) hP1 (zD1 (Or.inl ⟨0, _, rfl⟩))
  refine W.eq (g2 := F0 m 63 ls []) rfl ?_
  generalize H1 = H at hP hS ⊢
  have hP : va_P D vwCl [(h0, .inr (1, [.ref k0, .ref q1, .ref q2, .ref q3, .ref q4, .ref q5, .ref q6, .int 0, .int 0, .int 0])), (q1, .inl (cI, 5, .inl (fun _ => 0))), (q2, .inl (cI, 5, .inl (fun _ => 0))), (q3, .inl (cI, 5, .inl (fun _ => 0))), (q5, .inl (cI, 24, .inl (fun _ => 0))), (q6, .inl (cI, 136, .inl (fun _ => 0))), (q4, .inl (cI, 12, .inl (μ1.1 0)))] H := hP
  have hD : va_D A [(h0, .inr (1, [.ref k0, .ref q1, .ref q2, .ref q3, .ref q4, .ref q5, .ref q6, .int 0, .int 0, .int 0])), (q1, .inl (cI, 5, .inl (fun _ => 0))), (q2, .inl (cI, 5, .inl (fun _ => 0))), (q3, .inl (cI, 5, .inl (fun _ => 0))), (q5, .inl (cI, 24, .inl (fun _ => 0))), (q6, .inl (cI, 136, .inl (fun _ => 0))), (q4, .inl (cI, 12, .inl (μ1.1 0)))] := hD
  exact zretI (pc := 63) B hK (hP.sub [0, 1, 2, 3, 6, 4, 5] rfl) (hD.sub [0, 1, 2, 3, 6, 4, 5] (by decide) rfl) hS ⟨q1, q2, q3, q4, q5, q6, cI, μ1.1 0, hf2, rfl, rfl⟩ dX1_init_63
set_option maxRecDepth 100000 in
theorem c_X2_init {D : va_G} {l : Launch} : zCI D l yX2_init cX2_init 1 1 2 10 [] 2 [.null, .null, .int 0] PostP := by
  refine zCI.mk (by decide +kernel) rfl (fun _ => Nat.le_of_ble_eq_true rfl) ?_
  intro h0 p e s m below meth c ls A B hl hK hP hD hS hA hA1
  have B : zBI cX2_init 1 "DarkShares$Pieces" p s m [.ref h0].toArray meth c := B
  have hl : lv_has ls 1 [(0, .ref h0)] := hl
  have hx := B.1
  have hb := B.2.1
  have hown := B.2.2.2.1
  have hts := B.2.2.2.2.1
  have hin := B.2.2.2.2.2.2.2.1
  have hN := B.2.2.2.2.2.2.2.2
  refine lv_aload_n (pc := 0) hx hb dX2_init_0 rfl (lv_at hl 0 rfl) ?_
  refine W.objInit hx hb hown (hts _ kw187) (hts _ kw85) (hts _ kw86) rfl (by rw [B.2.2.1]; exact hl.1) rfl dX2_init_1 (Nat.le_of_ble_eq_true rfl) (Nat.le_of_ble_eq_true rfl) ?_
  refine W.eq (g2 := F0 m 4 ls []) rfl ?_
  refine lv_aload_n (pc := 4) hx hb dX2_init_4 rfl (lv_at hl 0 rfl) ?_
  refine lv_iconst (pc := 5) (v := (5 : Int32)) hx hb dX2_init_5 rfl ?_
  refine va_newa (pc := 6) (atype := .int) (ty := .int) (n := (5 : Int32)) (N' := 5) (a0 := (5, .inl (fun _ => 0))) hx hb (hts _ kw180) rfl hK hP hD hS hA (fun _ => rfl) (by decide) (by decide) (by decide) (Nat.le_of_ble_eq_true rfl) (Nat.le_of_ble_eq_true rfl) dX2_init_6 (fun q1 cN H hK hP hD hS => ?_)
  have hK : va_K D vwCl [(cN, .int)] s := hK
  obtain ⟨cI, rfl⟩ : ∃ z, z = cN := ⟨_, rfl⟩
  have hP : va_P D vwCl [(h0, .inr (2, [.null, .null, .int 0])), (q1, .inl (cI, 5, .inl (fun _ => 0)))] H := hP
  have hD : va_D A [(h0, .inr (2, [.null, .null, .int 0])), (q1, .inl (cI, 5, .inl (fun _ => 0)))] := hD
  refine va_putF (pc := 8) (D := D) (ci := 2) (v := .ref q1) (ty := .array .int) (C := RX2) (T := TX2) (N := 3) hx hb hts zin2 tyX2 tyX2_ok nmX2 hown hK hP hD hS 0 rfl rfl 0 (by decide) (hts _ kw188) (fun _ h9 => h9) rfl hin rfl (by decide +kernel) rfl rfl (Nat.le_of_ble_eq_true rfl) dX2_init_8 (fun H locs hP hD hS => ?_)
  have hP : va_P D vwCl [(h0, .inr (2, [.ref q1, .null, .int 0])), (q1, .inl (cI, 5, .inl (fun _ => 0)))] H := hP
  have hD : va_D A [(h0, .inr (2, [.ref q1, .null, .int 0])), (q1, .inl (cI, 5, .inl (fun _ => 0)))] := hD
  refine lv_aload_n (pc := 11) hx hb dX2_init_11 rfl (lv_at hl 0 rfl) ?_
  refine lv_iconst (pc := 12) (v := (5 : Int32)) hx hb dX2_init_12 rfl ?_
  refine va_newa (pc := 13) (atype := .int) (ty := .int) (n := (5 : Int32)) (N' := 5) (a0 := (5, .inl (fun _ => 0))) hx hb (hts _ kw180) rfl hK hP hD hS hA (fun _ => rfl) (by decide) (by decide) (by decide) (Nat.le_of_ble_eq_true rfl) (Nat.le_of_ble_eq_true rfl) dX2_init_13 (fun q2 cN H hK hP hD hS => ?_)
  have hK : va_K D vwCl [(cI, .int), (cN, .int)] s := hK
  have eC : cN = cI := zca_eq hK 1 0 rfl rfl
  rw [eC] at hP hD
  have hK : va_K D vwCl [(cI, .int)] s := hK.sub [0] rfl
  clear eC
  have hP : va_P D vwCl [(h0, .inr (2, [.ref q1, .null, .int 0])), (q1, .inl (cI, 5, .inl (fun _ => 0))), (q2, .inl (cI, 5, .inl (fun _ => 0)))] H := hP
  have hD : va_D A [(h0, .inr (2, [.ref q1, .null, .int 0])), (q1, .inl (cI, 5, .inl (fun _ => 0))), (q2, .inl (cI, 5, .inl (fun _ => 0)))] := hD
  refine va_putF (pc := 15) (D := D) (ci := 2) (v := .ref q2) (ty := .array .int) (C := RX2) (T := TX2) (N := 3) hx hb hts zin2 tyX2 tyX2_ok nmX2 hown hK hP hD hS 0 rfl rfl 1 (by decide) (hts _ kw189) (fun _ h9 => h9) rfl hin rfl (by decide +kernel) rfl rfl (Nat.le_of_ble_eq_true rfl) dX2_init_15 (fun H locs hP hD hS => ?_)
  have hP : va_P D vwCl [(h0, .inr (2, [.ref q1, .ref q2, .int 0])), (q1, .inl (cI, 5, .inl (fun _ => 0))), (q2, .inl (cI, 5, .inl (fun _ => 0)))] H := hP
  have hD : va_D A [(h0, .inr (2, [.ref q1, .ref q2, .int 0])), (q1, .inl (cI, 5, .inl (fun _ => 0))), (q2, .inl (cI, 5, .inl (fun _ => 0)))] := hD
  exact zretI (pc := 18) B hK hP hD hS ⟨q1, q2, cI, rfl, rfl⟩ dX2_init_18
set_option maxRecDepth 100000 in
theorem c_X8_init {D : va_G} {l : Launch} : zCI D l yX8_init cX8_init 1 1 1 150 [] 8 [.null, .int 0, .int 0, .int 0, .int 0, .int 0] PostT := by
  refine zCI.mk (by decide +kernel) rfl (fun _ => Nat.le_of_ble_eq_true rfl) ?_
  intro h0 p e s m below meth c ls A B hl hK hP hD hS hA hA1
  have B : zBI cX8_init 1 "DarkShares$Text" p s m [.ref h0].toArray meth c := B
  have hl : lv_has ls 1 [(0, .ref h0)] := hl
  have hx := B.1
  have hb := B.2.1
  have hown := B.2.2.2.1
  have hts := B.2.2.2.2.1
  have hin := B.2.2.2.2.2.2.2.1
  have hN := B.2.2.2.2.2.2.2.2
  refine lv_aload_n (pc := 0) hx hb dX8_init_0 rfl (lv_at hl 0 rfl) ?_
  refine W.objInit hx hb hown (hts _ kw206) (hts _ kw85) (hts _ kw86) rfl (by rw [B.2.2.1]; exact hl.1) rfl dX8_init_1 (Nat.le_of_ble_eq_true rfl) (Nat.le_of_ble_eq_true rfl) ?_
  refine W.eq (g2 := F0 m 4 ls []) rfl ?_
  refine lv_aload_n (pc := 4) hx hb dX8_init_4 rfl (lv_at hl 0 rfl) ?_
  refine lv_sipush (pc := 5) (v := (150 : Int32)) hx hb dX8_init_5 rfl ?_
  refine va_newa (pc := 8) (atype := .byte) (ty := .byte) (n := (150 : Int32)) (N' := 150) (a0 := (150, .inl (fun _ => 0))) hx hb (hts _ kw227) rfl hK hP hD hS hA (fun _ => rfl) (by decide) (by decide) (by decide) (Nat.le_of_ble_eq_true rfl) (Nat.le_of_ble_eq_true rfl) dX8_init_8 (fun q1 cN H hK hP hD hS => ?_)
  have hK : va_K D vwCl [(cN, .byte)] s := hK
  obtain ⟨cB, rfl⟩ : ∃ z, z = cN := ⟨_, rfl⟩
  have hP : va_P D vwCl [(h0, .inr (8, [.null, .int 0, .int 0, .int 0, .int 0, .int 0])), (q1, .inl (cB, 150, .inl (fun _ => 0)))] H := hP
  have hD : va_D A [(h0, .inr (8, [.null, .int 0, .int 0, .int 0, .int 0, .int 0])), (q1, .inl (cB, 150, .inl (fun _ => 0)))] := hD
  refine va_putF (pc := 10) (D := D) (ci := 8) (v := .ref q1) (ty := .array .byte) (C := RX8) (T := TX8) (N := 6) hx hb hts zin8 tyX8 tyX8_ok nmX8 hown hK hP hD hS 0 rfl rfl 0 (by decide) (hts _ kw207) (fun _ h9 => h9) rfl hin rfl (by decide +kernel) rfl rfl (Nat.le_of_ble_eq_true rfl) dX8_init_10 (fun H locs hP hD hS => ?_)
  have hP : va_P D vwCl [(h0, .inr (8, [.ref q1, .int 0, .int 0, .int 0, .int 0, .int 0])), (q1, .inl (cB, 150, .inl (fun _ => 0)))] H := hP
  have hD : va_D A [(h0, .inr (8, [.ref q1, .int 0, .int 0, .int 0, .int 0, .int 0])), (q1, .inl (cB, 150, .inl (fun _ => 0)))] := hD
  exact zretI (pc := 13) B hK hP hD hS ⟨q1, cB, rfl, rfl⟩ dX8_init_13

