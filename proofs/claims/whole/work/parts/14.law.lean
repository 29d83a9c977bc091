def R_law : String := "DarkSharesLaw"
def lw_P (b : Addr) (xs : List Int32) (args : Array Value) (s : State) : Prop := args = #[.ref b] ∧ s.IntsAt b xs ∧ xs.length ≤ 320 ∧ (Jvm.Cond.and given_1 narrow_1).before args s = true
def lw_Q (_ : Array Value) (s : State) (o : Outcome) (t : State) : Prop := o = .returned (some (.int 1)) ∧ Framed s o t [] 600000 7302250
def lw_Z (below : List Frame) (a : Array Value) (s : State) : State → Prop := fun t => ∃ o, t.status = .running ∧ Ended t below o ∧ lw_Q a s o t
/-- the law's own end, with 1 on the stack, nothing written that was there before, its room as the claim has it -/
theorem lw_ret {p : Program} {l : Launch} {e : Env} {s : State} {m : MethodId} {below : List Frame} {meth : Method} {c : Code} {b : Nat} (hx : p.tables.exec = Jvm.exec) (hb : c.code = code) (hr : meth.sig.returnType = ret) (hlocks : meth.locks = false) {pc : Nat} {H : Heap} {ls : Array Slot} (hdg : decode code pc = .ok (.ireturn, 1)) : W p l e room_1 s m #[Value.ref b] below meth c H [] 600000 7302250 (lw_Z below #[Value.ref b] s) (F0 m pc ls [.int 1]) := by
  intro T hT X
  obtain ⟨fs, hret, hrun, hended, hW, hframe⟩ := X.leave (v := some (.int 1)) (hlocks := hlocks) (fun h => by rw [hr] at h; cases h)
  have hmeth' : T.vm.method? m = some meth := X.method'
  refine ⟨T.setFrames fs, ?_, .returned (some (.int 1)), hrun, hended, rfl, ⟨_, rfl⟩, hW, hframe⟩
  jvm_step X.here [X.here.top, hx, hb, hdg, hmeth', hr, ret, narrow_b1]
  (try refine ⟨rfl, ?_⟩); (try refine ⟨rfl, ?_⟩)
  first | (intro acts; rw [hret _ acts rfl rfl rfl]) | rw [hret _ _ rfl rfl rfl]
  exact Steps.refl _
/-- what holds at the law's entry: the machine, the code, the tables' words (any of lw_tbl by 'hts w (by decide +kernel)'), the script of L ints xs at the cell b, what the Statement gives of the start (any of its parts by flat_of_before) -/
def lw_At (p : Program) (s : State) (m : MethodId) (meth : Method) (c : Code) (b L : Nat) (xs : Nat → Int32) : Prop :=
  p.tables.exec = Jvm.exec ∧ c.code = code ∧ meth.sig.returnType = ret ∧ c.maxLocals = 4 ∧ s.vm.findClass R_law = some m.cls ∧ (∀ w ∈ lw_tbl, w.before #[Value.ref b] s = true) ∧ va_X b L xs s s.heap ∧ b < s.heap.size ∧ meth.locks = false ∧ (Jvm.Cond.and given_1 narrow_1).before #[Value.ref b] s = true

/-! ===== what is owed of the two memories: a relation that every call keeps, with like answers ===== -/
def Sp_night (Rel : Mem → Mem → Prop) : Prop := ∀ (μC μM : Mem), Rel μC μM → ∃ (r : Int32) (μC' μM' : Mem), f_X9_night μC = some (r, μC') ∧ f_X10_night μM = some (r, μM') ∧ Rel μC' μM'
def Sp_boy (Rel : Mem → Mem → Prop) : Prop := ∀ (μC μM : Mem) (a1 a2 a3 : Int32), Rel μC μM → ∃ (r : Int32) (μC' μM' : Mem), f_X9_boy a1 a2 a3 μC = some (r, μC') ∧ f_X10_boy a1 a2 a3 μM = some (r, μM') ∧ Rel μC' μM'
def Sp_give (Rel : Mem → Mem → Prop) : Prop := ∀ (μC μM : Mem) (a1 a2 : Int32), Rel μC μM → ∃ (r : Int32) (μC' μM' : Mem), f_X9_give a1 a2 μC = some (r, μC') ∧ f_X10_give a1 a2 μM = some (r, μM') ∧ Rel μC' μM'
def Sp_type (Rel : Mem → Mem → Prop) : Prop := ∀ (μC μM : Mem) (a1 : Int32), Rel μC μM → ∃ (r : Int32) (μC' μM' : Mem), f_X9_type a1 μC = some (r, μC') ∧ f_X10_type a1 μM = some (r, μM') ∧ Rel μC' μM'
def Sp_clear (Rel : Mem → Mem → Prop) : Prop := ∀ (μC μM : Mem), Rel μC μM → ∃ (r : Int32) (μC' μM' : Mem), f_X9_clear μC = some (r, μC') ∧ f_X10_clear μM = some (r, μM') ∧ Rel μC' μM'
def Sp_read (Rel : Mem → Mem → Prop) : Prop := ∀ (μC μM : Mem), Rel μC μM → ∃ (r : Int32) (μC' μM' : Mem), f_X9_read μC = some (r, μC') ∧ f_X10_read μM = some (r, μM') ∧ Rel μC' μM'
def Sp_swap (Rel : Mem → Mem → Prop) : Prop := ∀ (μC μM : Mem) (a1 a2 : Int32), Rel μC μM → ∃ (r : Int32) (μC' μM' : Mem), f_X9_swap a1 a2 μC = some (r, μC') ∧ f_X10_swap a1 a2 μM = some (r, μM') ∧ Rel μC' μM'
def Sp_sell (Rel : Mem → Mem → Prop) : Prop := ∀ (μC μM : Mem) (a1 a2 a3 : Int32), Rel μC μM → ∃ (r : Int32) (μC' μM' : Mem), f_X9_sell a1 a2 a3 μC = some (r, μC') ∧ f_X10_sell a1 a2 a3 μM = some (r, μM') ∧ Rel μC' μM'
def Sp_undo (Rel : Mem → Mem → Prop) : Prop := ∀ (μC μM : Mem), Rel μC μM → ∃ (r : Int32) (μC' μM' : Mem), f_X9_undo μC = some (r, μC') ∧ f_X10_undo μM = some (r, μM') ∧ Rel μC' μM'
def Sp_of (Rel : Mem → Mem → Prop) : Prop := ∀ (μC μM : Mem) (a1 a2 : Int32), Rel μC μM → ∃ (r : Int32) (μC' μM' : Mem), f_X9_of a1 a2 μC = some (r, μC') ∧ f_X10_of a1 a2 μM = some (r, μM') ∧ Rel μC' μM'
def Sp_worth (Rel : Mem → Mem → Prop) : Prop := ∀ (μC μM : Mem) (a1 a2 : Int32), Rel μC μM → ∃ (r : Int32) (μC' μM' : Mem), f_X9_worth a1 a2 μC = some (r, μC') ∧ f_X10_worth a1 a2 μM = some (r, μM') ∧ Rel μC' μM'
def Sp_whose (Rel : Mem → Mem → Prop) : Prop := ∀ (μC μM : Mem) (a1 : Int32), Rel μC μM → ∃ (r : Int32) (μC' μM' : Mem), f_X9_whose a1 μC = some (r, μC') ∧ f_X10_whose a1 μM = some (r, μM') ∧ Rel μC' μM'
def Sp_enough (Rel : Mem → Mem → Prop) : Prop := ∀ (μC μM : Mem), Rel μC μM → ∃ (r : Int32) (μC' μM' : Mem), f_X9_enough μC = some (r, μC') ∧ f_X10_enough μM = some (r, μM') ∧ Rel μC' μM'
def Sp_envy (Rel : Mem → Mem → Prop) : Prop := ∀ (μC μM : Mem) (a1 : Int32), Rel μC μM → ∃ (r : Int32) (μC' μM' : Mem), f_X9_envy a1 μC = some (r, μC') ∧ f_X10_envy a1 μM = some (r, μM') ∧ Rel μC' μM'
def Sp_fair (Rel : Mem → Mem → Prop) : Prop := ∀ (μC μM : Mem) (a1 : Int32), Rel μC μM → ∃ (r : Int32) (μC' μM' : Mem), f_X9_fair a1 μC = some (r, μC') ∧ f_X10_fair a1 μM = some (r, μM') ∧ Rel μC' μM'
def Sp_pieces (Rel : Mem → Mem → Prop) : Prop := ∀ (μC μM : Mem) (a1 : Int32), Rel μC μM → ∃ (r : Int32) (μC' μM' : Mem), f_X9_pieces a1 μC = some (r, μC') ∧ f_X10_pieces a1 μM = some (r, μM') ∧ Rel μC' μM'
def Sp_swaps (Rel : Mem → Mem → Prop) : Prop := ∀ (μC μM : Mem) (a1 : Int32), Rel μC μM → ∃ (r : Int32) (μC' μM' : Mem), f_X9_swaps a1 μC = some (r, μC') ∧ f_X10_swaps a1 μM = some (r, μM') ∧ Rel μC' μM'
def Sp_steps (Rel : Mem → Mem → Prop) : Prop := ∀ (μC μM : Mem), Rel μC μM → ∃ (r : Int32) (μC' μM' : Mem), f_X9_steps μC = some (r, μC') ∧ f_X10_steps μM = some (r, μM') ∧ Rel μC' μM'
def Sp_sale (Rel : Mem → Mem → Prop) : Prop := ∀ (μC μM : Mem) (a1 a2 : Int32), Rel μC μM → ∃ (r : Int32) (μC' μM' : Mem), f_X9_sale a1 a2 μC = some (r, μC') ∧ f_X10_sale a1 a2 μM = some (r, μM') ∧ Rel μC' μM'
def Sp_longest (Rel : Mem → Mem → Prop) : Prop := ∀ (μC μM : Mem) (a1 : Int32), Rel μC μM → ∃ (r : Int32) (μC' μM' : Mem), f_X9_longest a1 μC = some (r, μC') ∧ f_X10_longest a1 μM = some (r, μM') ∧ Rel μC' μM'
def Sp_together (Rel : Mem → Mem → Prop) : Prop := ∀ (μC μM : Mem) (a1 a2 : Int32), Rel μC μM → ∃ (r : Int32) (μC' μM' : Mem), f_X9_together a1 a2 μC = some (r, μC') ∧ f_X10_together a1 a2 μM = some (r, μM') ∧ Rel μC' μM'
def Sp_note (Rel : Mem → Mem → Prop) : Prop := ∀ (μC μM : Mem) (a1 a2 a3 a4 : Int32), Rel μC μM → ∃ (r : Int32) (μC' μM' : Mem), f_X9_note a1 a2 a3 a4 μC = some (r, μC') ∧ f_X10_note a1 a2 a3 a4 μM = some (r, μM') ∧ Rel μC' μM'
def Sp_forget (Rel : Mem → Mem → Prop) : Prop := ∀ (μC μM : Mem), Rel μC μM → ∃ (r : Int32) (μC' μM' : Mem), f_X9_forget μC = some (r, μC') ∧ f_X10_forget μM = some (r, μM') ∧ Rel μC' μM'
def Sp_is (Rel : Mem → Mem → Prop) : Prop := ∀ (μC μM : Mem) (a1 : Int32), Rel μC μM → ∃ (r : Int32) (μC' μM' : Mem), f_X9_is a1 μC = some (r, μC') ∧ f_X10_is a1 μM = some (r, μM') ∧ Rel μC' μM'
def Sp_asks (Rel : Mem → Mem → Prop) : Prop := ∀ (μC μM : Mem) (a1 : Int32), Rel μC μM → ∃ (r : Int32) (μC' μM' : Mem), f_X9_asks a1 μC = some (r, μC') ∧ f_X10_asks a1 μM = some (r, μM') ∧ Rel μC' μM'
def Sp_took (Rel : Mem → Mem → Prop) : Prop := ∀ (μC μM : Mem) (a1 a2 : Int32), Rel μC μM → ∃ (r : Int32) (μC' μM' : Mem), f_X9_took a1 a2 μC = some (r, μC') ∧ f_X10_took a1 a2 μM = some (r, μM') ∧ Rel μC' μM'
def Sp_owls (Rel : Mem → Mem → Prop) : Prop := ∀ (μC μM : Mem) (a1 a2 : Int32), Rel μC μM → ∃ (r : Int32) (μC' μM' : Mem), f_X9_owls a1 a2 μC = some (r, μC') ∧ f_X10_owls a1 a2 μM = some (r, μM') ∧ Rel μC' μM'
def Sp_terms (Rel : Mem → Mem → Prop) : Prop := ∀ (μC μM : Mem) (a1 a2 : Int32), Rel μC μM → ∃ (r : Int32) (μC' μM' : Mem), f_X9_terms a1 a2 μC = some (r, μC') ∧ f_X10_terms a1 a2 μM = some (r, μM') ∧ Rel μC' μM'
def Sp_part (Rel : Mem → Mem → Prop) : Prop := ∀ (μC μM : Mem) (a1 : Int32), Rel μC μM → ∃ (r : Int64) (μC' μM' : Mem), f_X9_part a1 μC = some (r, μC') ∧ f_X10_part a1 μM = some (r, μM') ∧ Rel μC' μM'
def Sp_image (Rel : Mem → Mem → Prop) : Prop := ∀ (μC μM : Mem) (a1 : Int32), Rel μC μM → ∃ (r : Int32) (μC' μM' : Mem), f_X9_image a1 μC = some (r, μC') ∧ f_X10_image a1 μM = some (r, μM') ∧ Rel μC' μM'
def Sp_from (Rel : Mem → Mem → Prop) : Prop := ∀ (μC μM : Mem) (a1 : Int32), Rel μC μM → ∃ (r : Int32) (μC' μM' : Mem), f_X9_from a1 μC = some (r, μC') ∧ f_X10_from a1 μM = some (r, μM') ∧ Rel μC' μM'
def Sp_status (Rel : Mem → Mem → Prop) : Prop := ∀ (μC μM : Mem) (a1 : Int32), Rel μC μM → ∃ (r : Int32) (μC' μM' : Mem), f_X9_status a1 μC = some (r, μC') ∧ f_X10_status a1 μM = some (r, μM') ∧ Rel μC' μM'
def Sp_count (Rel : Mem → Mem → Prop) : Prop := ∀ (μC μM : Mem) (a1 : Int32), Rel μC μM → ∃ (r : Int32) (μC' μM' : Mem), f_X9_count a1 μC = some (r, μC') ∧ f_X10_count a1 μM = some (r, μM') ∧ Rel μC' μM'
def Sp_digest (Rel : Mem → Mem → Prop) : Prop := ∀ (μC μM : Mem), Rel μC μM → ∃ (r : Int64) (μC' μM' : Mem), f_X9_digest μC = some (r, μC') ∧ f_X10_digest μM = some (r, μM') ∧ Rel μC' μM'
def AllSteps (Rel : Mem → Mem → Prop) : Prop := Sp_night Rel ∧ Sp_boy Rel ∧ Sp_give Rel ∧ Sp_type Rel ∧ Sp_clear Rel ∧ Sp_read Rel ∧ Sp_swap Rel ∧ Sp_sell Rel ∧ Sp_undo Rel ∧ Sp_of Rel ∧ Sp_worth Rel ∧ Sp_whose Rel ∧ Sp_enough Rel ∧ Sp_envy Rel ∧ Sp_fair Rel ∧ Sp_pieces Rel ∧ Sp_swaps Rel ∧ Sp_steps Rel ∧ Sp_sale Rel ∧ Sp_longest Rel ∧ Sp_together Rel ∧ Sp_note Rel ∧ Sp_forget Rel ∧ Sp_is Rel ∧ Sp_asks Rel ∧ Sp_took Rel ∧ Sp_owls Rel ∧ Sp_terms Rel ∧ Sp_part Rel ∧ Sp_image Rel ∧ Sp_from Rel ∧ Sp_status Rel ∧ Sp_count Rel ∧ Sp_digest Rel
theorem zin_app {w1 w2 : va_W} {A : Nat → Prop} (h : va_D A (w1 ++ w2)) {i j : Nat} {x y : Nat × va_E} (hx : w1[i]? = some x) (hy : w2[j]? = some y) : x.1 ≠ y.1 := by
  intro e
  have hi := (List.getElem?_eq_some_iff.mp hx).1
  have h1 : (w1 ++ w2)[i]? = some x := by rw [List.getElem?_append_left hi]; exact hx
  have h2 : (w1 ++ w2)[w1.length + j]? = some y := by rw [List.getElem?_append_right (by omega)]; rw [show w1.length + j - w1.length = j by omega]; exact hy
  have := h.1 i (w1.length + j) x y h1 h2 e
  omega
theorem va_D.left {w1 w2 : va_W} {A : Nat → Prop} (h : va_D A (w1 ++ w2)) : va_D A w1 := by
  refine ⟨fun i j x y hi hj e => ?_, fun k q hk => ?_⟩
  · have a := (List.getElem?_eq_some_iff.mp hi).1
    have b := (List.getElem?_eq_some_iff.mp hj).1
    exact h.1 i j x y (by rw [List.getElem?_append_left a]; exact hi) (by rw [List.getElem?_append_left b]; exact hj) e
  · have a := (List.getElem?_eq_some_iff.mp hk).1
    exact h.2 k q (by rw [List.getElem?_append_left a]; exact hk)
theorem va_D.right {w1 w2 : va_W} {A : Nat → Prop} (h : va_D A (w1 ++ w2)) : va_D A w2 := by
  have key : ∀ {k : Nat} {q : Nat × va_E}, w2[k]? = some q → (w1 ++ w2)[w1.length + k]? = some q := by
    intro k q hk
    rw [List.getElem?_append_right (by omega), show w1.length + k - w1.length = k by omega]
    exact hk
  refine ⟨fun i j x y hi hj e => ?_, fun k q hk => h.2 _ q (key hk)⟩
  have := h.1 _ _ x y (key hi) (key hj) e
  omega
def A0 (s : State) : Nat → Prop := fun q => s.heap.size ≤ q
/-- what the law's walk stands on, behind the two constructors -/
def LX (GC GM : ZG) (p : Program) (s : State) (m : MethodId) (args : Array Value) (c : Code) (b L : Nat) (xs : Nat → Int32) : Prop :=
  p.tables.exec = Jvm.exec ∧ c.code = code ∧ c.maxLocals = 4 ∧ s.vm.findClass "DarkSharesLaw" = some m.cls ∧ (∀ w ∈ zTT, w.before args s = true) ∧ va_X b L xs s s.heap ∧ b < s.heap.size ∧ L ≤ 320 ∧
  (∀ (H : Heap) (locs : List Loc), va_S (A0 s) s.heap H locs → ∀ U : State, U.heap = H → s.WarmedH U.vm → zK ZC GC U) ∧ (∀ (H : Heap) (locs : List Loc), va_S (A0 s) s.heap H locs → ∀ U : State, U.heap = H → s.WarmedH U.vm → zK ZM GM U) ∧
  va_K GC.1 vwCl (zT ZC GC) s ∧ va_K GM.1 vwCl (zT ZM GM) s ∧ (∀ q, zAd ZC GC q → A0 s q) ∧ (∀ q, zAd ZM GM q → A0 s q) ∧ (∀ q, zAd ZC GC q → ¬ zAd ZM GM q)
/-- the heap holds both memories, and nothing old has changed -/
def LH (GC GM : ZG) (s : State) (H : Heap) (locs : List Loc) (μC μM : Mem) : Prop := va_P GC.1 vwCl (zws ZC GC μC) H ∧ va_P GM.1 vwCl (zws ZM GM μM) H ∧ va_S (A0 s) s.heap H locs
theorem zkeep {Z Z' : ZS} {G G' : ZG} {μ : Mem} {H H1 : Heap} (hP : va_P G.1 vwCl (zws Z G μ) H) (hk : ∀ q : Nat, q < H.size → ¬ zAd Z' G' q → H1[q]? = H[q]?) (hd : ∀ q, zAd Z G q → ¬ zAd Z' G' q) : va_P G.1 vwCl (zws Z G μ) H1 := by
  refine hP.kept (fun k q hq => hk q.1 (hP k q hq).lt (hd q.1 ?_))
  by_cases h : k < Z.1
  · rw [zws_at h] at hq
    cases hq
    exact ⟨k, h, rfl⟩
  · rw [zws_no h] at hq; cases hq
section LAW
variable {GC GM : ZG} {p : Program} {l : Launch} {e : Env} {s : State} {m : MethodId} {args : Array Value} {below : List Frame} {meth : Method} {c : Code} {H : Heap} {locs : List Loc} {cells slots : Nat} {Q : State → Prop}
variable {pc b L : Nat} {xs : Nat → Int32} {ls : Array Slot} {rest st0 : List Value} {μC μM μ' : Mem}
theorem lC {y : MethodName} {bytes : ByteArray} {maxL d index : Nat} {ret : Option FieldType} {As : List Value} {ov : Option Value} (X : LX GC GM p s m args c b L xs) (hH : LH GC GM s H locs μC μM) (hl : ls.size = 4) (hM : zC ZC GC l y bytes maxL ret d (.ref (zad GC 0) :: As) μC ov μ')
    (kl : Cond.methodLink "DarkSharesLaw" index y ∈ zTT) (ki : Cond.instanceMethod y ∈ zTT) (ks : Cond.selects "DarkShares" y y ∈ zTT) (kn : Cond.initialized y.cls ∈ zTT) (kc : Cond.code y bytes maxL ret ∈ zTT) (hy : y.cls ≠ "java/lang/invoke/MethodHandle" ∧ y.cls ≠ "java/lang/invoke/VarHandle" ∧ (parseMethodDescriptor y.desc).map (fun d => d.parameters.length) = some As.length)
    (hd : d ≤ 100) (hm : maxL ≤ 45) (hcs : cells ≤ room_1.cells ∧ slots ≤ room_1.slots) (hst : (rest.map fun v => v.category).sum ≤ 8) (hstack : st0 = As.reverse ++ .ref (zad GC 0) :: rest) (hdg : decode code pc = .ok (.invokevirtual index, 3))
    (kk : ∀ (H1 : Heap) (locs1 : List Loc), LH GC GM s H1 locs1 μ' μM → W p l e room_1 s m args below meth c H1 locs1 cells slots Q (F0 m (pc + 3) ls (ov.toList ++ rest))) : W p l e room_1 s m args below meth c H locs cells slots Q (F0 m pc ls st0) := by
  obtain ⟨hx, hb, hml, hown, hts, hX, hbl, hL, kC, kM, hKC, hKM, aC, aM, dis⟩ := X
  exact zcallVA (q := (RX9, TX9, 11)) (As := As) hx hb hml hown hts (kC H locs hH.2.2) hKC hH.1 hH.2.2 aC hl zO_0 rfl hM kl ki ks kn kc hy (by simp only [room_1]; omega) hcs hst hstack hdg (fun H1 locs1 hP1 _ hk1 hS1 => kk H1 locs1 ⟨hP1, zkeep hH.2.1 hk1 (fun q h1 h2 => dis q h2 h1), hS1⟩)
theorem lM {y : MethodName} {bytes : ByteArray} {maxL d index : Nat} {ret : Option FieldType} {As : List Value} {ov : Option Value} (X : LX GC GM p s m args c b L xs) (hH : LH GC GM s H locs μC μM) (hl : ls.size = 4) (hM : zC ZM GM l y bytes maxL ret d (.ref (zad GM 0) :: As) μM ov μ')
    (kl : Cond.methodLink "DarkSharesLaw" index y ∈ zTT) (ki : Cond.instanceMethod y ∈ zTT) (ks : Cond.selects "DarkSharesModel" y y ∈ zTT) (kn : Cond.initialized y.cls ∈ zTT) (kc : Cond.code y bytes maxL ret ∈ zTT) (hy : y.cls ≠ "java/lang/invoke/MethodHandle" ∧ y.cls ≠ "java/lang/invoke/VarHandle" ∧ (parseMethodDescriptor y.desc).map (fun d => d.parameters.length) = some As.length)
    (hd : d ≤ 100) (hm : maxL ≤ 45) (hcs : cells ≤ room_1.cells ∧ slots ≤ room_1.slots) (hst : (rest.map fun v => v.category).sum ≤ 8) (hstack : st0 = As.reverse ++ .ref (zad GM 0) :: rest) (hdg : decode code pc = .ok (.invokevirtual index, 3))
    (kk : ∀ (H1 : Heap) (locs1 : List Loc), LH GC GM s H1 locs1 μC μ' → W p l e room_1 s m args below meth c H1 locs1 cells slots Q (F0 m (pc + 3) ls (ov.toList ++ rest))) : W p l e room_1 s m args below meth c H locs cells slots Q (F0 m pc ls st0) := by
  obtain ⟨hx, hb, hml, hown, hts, hX, hbl, hL, kC, kM, hKC, hKM, aC, aM, dis⟩ := X
  exact zcallVA (q := (RX10, TX10, 28)) (As := As) hx hb hml hown hts (kM H locs hH.2.2) hKM hH.2.1 hH.2.2 aM hl zO_M rfl hM kl ki ks kn kc hy (by simp only [room_1]; omega) hcs hst hstack hdg (fun H1 locs1 hP1 _ hk1 hS1 => kk H1 locs1 ⟨zkeep hH.1 hk1 dis, hP1, hS1⟩)
theorem lsld {i : Int32} (X : LX GC GM p s m args c b L xs) (hH : LH GC GM s H locs μC μM) (hin : vp_in i L) (hdg : decode code pc = .ok (.iaload, 1)) (kk : W p l e room_1 s m args below meth c H locs cells slots Q (F0 m (pc + 1) ls (.int (xs i.toNatClampNeg) :: rest))) : W p l e room_1 s m args below meth c H locs cells slots Q (F0 m pc ls (.int i :: .ref b :: rest)) :=
  va_sld X.1 X.2.1 X.2.2.2.2.2.1 X.2.2.2.2.2.2.1 (Nat.not_le.mpr X.2.2.2.2.2.2.1) hH.2.2 hin hdg kk
theorem lg_self (r : Int64) : lg_cmp r r = 0 := by simp [lg_cmp]
theorem lin {j L k : Nat} {x k' : Int32} (hx : x = nI j) (hk : k' = nI k) (h : j + k < L) (hL : L ≤ 320) : vp_in (x + k') L := by
  rw [hx, hk, nI_add]
  exact vp_in_nI h (by omega)
theorem hy_X9_night : yX9_night.cls ≠ "java/lang/invoke/MethodHandle" ∧ yX9_night.cls ≠ "java/lang/invoke/VarHandle" ∧ (parseMethodDescriptor yX9_night.desc).map (fun d => d.parameters.length) = some 0 := ⟨by decide +kernel, by decide +kernel, by decide +kernel⟩
theorem hy_X10_night : yX10_night.cls ≠ "java/lang/invoke/MethodHandle" ∧ yX10_night.cls ≠ "java/lang/invoke/VarHandle" ∧ (parseMethodDescriptor yX10_night.desc).map (fun d => d.parameters.length) = some 0 := ⟨by decide +kernel, by decide +kernel, by decide +kernel⟩
theorem hy_X9_boy : yX9_boy.cls ≠ "java/lang/invoke/MethodHandle" ∧ yX9_boy.cls ≠ "java/lang/invoke/VarHandle" ∧ (parseMethodDescriptor yX9_boy.desc).map (fun d => d.parameters.length) = some 3 := ⟨by decide +kernel, by decide +kernel, by decide +kernel⟩
theorem hy_X10_boy : yX10_boy.cls ≠ "java/lang/invoke/MethodHandle" ∧ yX10_boy.cls ≠ "java/lang/invoke/VarHandle" ∧ (parseMethodDescriptor yX10_boy.desc).map (fun d => d.parameters.length) = some 3 := ⟨by decide +kernel, by decide +kernel, by decide +kernel⟩
theorem hy_X9_give : yX9_give.cls ≠ "java/lang/invoke/MethodHandle" ∧ yX9_give.cls ≠ "java/lang/invoke/VarHandle" ∧ (parseMethodDescriptor yX9_give.desc).map (fun d => d.parameters.length) = some 2 := ⟨by decide +kernel, by decide +kernel, by decide +kernel⟩
theorem hy_X10_give : yX10_give.cls ≠ "java/lang/invoke/MethodHandle" ∧ yX10_give.cls ≠ "java/lang/invoke/VarHandle" ∧ (parseMethodDescriptor yX10_give.desc).map (fun d => d.parameters.length) = some 2 := ⟨by decide +kernel, by decide +kernel, by decide +kernel⟩
theorem hy_X9_type : yX9_type.cls ≠ "java/lang/invoke/MethodHandle" ∧ yX9_type.cls ≠ "java/lang/invoke/VarHandle" ∧ (parseMethodDescriptor yX9_type.desc).map (fun d => d.parameters.length) = some 1 := ⟨by decide +kernel, by decide +kernel, by decide +kernel⟩
theorem hy_X10_type : yX10_type.cls ≠ "java/lang/invoke/MethodHandle" ∧ yX10_type.cls ≠ "java/lang/invoke/VarHandle" ∧ (parseMethodDescriptor yX10_type.desc).map (fun d => d.parameters.length) = some 1 := ⟨by decide +kernel, by decide +kernel, by decide +kernel⟩
theorem hy_X9_clear : yX9_clear.cls ≠ "java/lang/invoke/MethodHandle" ∧ yX9_clear.cls ≠ "java/lang/invoke/VarHandle" ∧ (parseMethodDescriptor yX9_clear.desc).map (fun d => d.parameters.length) = some 0 := ⟨by decide +kernel, by decide +kernel, by decide +kernel⟩
theorem hy_X10_clear : yX10_clear.cls ≠ "java/lang/invoke/MethodHandle" ∧ yX10_clear.cls ≠ "java/lang/invoke/VarHandle" ∧ (parseMethodDescriptor yX10_clear.desc).map (fun d => d.parameters.length) = some 0 := ⟨by decide +kernel, by decide +kernel, by decide +kernel⟩
theorem hy_X9_read : yX9_read.cls ≠ "java/lang/invoke/MethodHandle" ∧ yX9_read.cls ≠ "java/lang/invoke/VarHandle" ∧ (parseMethodDescriptor yX9_read.desc).map (fun d => d.parameters.length) = some 0 := ⟨by decide +kernel, by decide +kernel, by decide +kernel⟩
theorem hy_X10_read : yX10_read.cls ≠ "java/lang/invoke/MethodHandle" ∧ yX10_read.cls ≠ "java/lang/invoke/VarHandle" ∧ (parseMethodDescriptor yX10_read.desc).map (fun d => d.parameters.length) = some 0 := ⟨by decide +kernel, by decide +kernel, by decide +kernel⟩
theorem hy_X9_swap : yX9_swap.cls ≠ "java/lang/invoke/MethodHandle" ∧ yX9_swap.cls ≠ "java/lang/invoke/VarHandle" ∧ (parseMethodDescriptor yX9_swap.desc).map (fun d => d.parameters.length) = some 2 := ⟨by decide +kernel, by decide +kernel, by decide +kernel⟩
theorem hy_X10_swap : yX10_swap.cls ≠ "java/lang/invoke/MethodHandle" ∧ yX10_swap.cls ≠ "java/lang/invoke/VarHandle" ∧ (parseMethodDescriptor yX10_swap.desc).map (fun d => d.parameters.length) = some 2 := ⟨by decide +kernel, by decide +kernel, by decide +kernel⟩
theorem hy_X9_sell : yX9_sell.cls ≠ "java/lang/invoke/MethodHandle" ∧ yX9_sell.cls ≠ "java/lang/invoke/VarHandle" ∧ (parseMethodDescriptor yX9_sell.desc).map (fun d => d.parameters.length) = some 3 := ⟨by decide +kernel, by decide +kernel, by decide +kernel⟩
theorem hy_X10_sell : yX10_sell.cls ≠ "java/lang/invoke/MethodHandle" ∧ yX10_sell.cls ≠ "java/lang/invoke/VarHandle" ∧ (parseMethodDescriptor yX10_sell.desc).map (fun d => d.parameters.length) = some 3 := ⟨by decide +kernel, by decide +kernel, by decide +kernel⟩
theorem hy_X9_undo : yX9_undo.cls ≠ "java/lang/invoke/MethodHandle" ∧ yX9_undo.cls ≠ "java/lang/invoke/VarHandle" ∧ (parseMethodDescriptor yX9_undo.desc).map (fun d => d.parameters.length) = some 0 := ⟨by decide +kernel, by decide +kernel, by decide +kernel⟩
theorem hy_X10_undo : yX10_undo.cls ≠ "java/lang/invoke/MethodHandle" ∧ yX10_undo.cls ≠ "java/lang/invoke/VarHandle" ∧ (parseMethodDescriptor yX10_undo.desc).map (fun d => d.parameters.length) = some 0 := ⟨by decide +kernel, by decide +kernel, by decide +kernel⟩
theorem hy_X9_of : yX9_of.cls ≠ "java/lang/invoke/MethodHandle" ∧ yX9_of.cls ≠ "java/lang/invoke/VarHandle" ∧ (parseMethodDescriptor yX9_of.desc).map (fun d => d.parameters.length) = some 2 := ⟨by decide +kernel, by decide +kernel, by decide +kernel⟩
theorem hy_X10_of : yX10_of.cls ≠ "java/lang/invoke/MethodHandle" ∧ yX10_of.cls ≠ "java/lang/invoke/VarHandle" ∧ (parseMethodDescriptor yX10_of.desc).map (fun d => d.parameters.length) = some 2 := ⟨by decide +kernel, by decide +kernel, by decide +kernel⟩
theorem hy_X9_worth : yX9_worth.cls ≠ "java/lang/invoke/MethodHandle" ∧ yX9_worth.cls ≠ "java/lang/invoke/VarHandle" ∧ (parseMethodDescriptor yX9_worth.desc).map (fun d => d.parameters.length) = some 2 := ⟨by decide +kernel, by decide +kernel, by decide +kernel⟩
theorem hy_X10_worth : yX10_worth.cls ≠ "java/lang/invoke/MethodHandle" ∧ yX10_worth.cls ≠ "java/lang/invoke/VarHandle" ∧ (parseMethodDescriptor yX10_worth.desc).map (fun d => d.parameters.length) = some 2 := ⟨by decide +kernel, by decide +kernel, by decide +kernel⟩
theorem hy_X9_whose : yX9_whose.cls ≠ "java/lang/invoke/MethodHandle" ∧ yX9_whose.cls ≠ "java/lang/invoke/VarHandle" ∧ (parseMethodDescriptor yX9_whose.desc).map (fun d => d.parameters.length) = some 1 := ⟨by decide +kernel, by decide +kernel, by decide +kernel⟩
theorem hy_X10_whose : yX10_whose.cls ≠ "java/lang/invoke/MethodHandle" ∧ yX10_whose.cls ≠ "java/lang/invoke/VarHandle" ∧ (parseMethodDescriptor yX10_whose.desc).map (fun d => d.parameters.length) = some 1 := ⟨by decide +kernel, by decide +kernel, by decide +kernel⟩
theorem hy_X9_enough : yX9_enough.cls ≠ "java/lang/invoke/MethodHandle" ∧ yX9_enough.cls ≠ "java/lang/invoke/VarHandle" ∧ (parseMethodDescriptor yX9_enough.desc).map (fun d => d.parameters.length) = some 0 := ⟨by decide +kernel, by decide +kernel, by decide +kernel⟩
theorem hy_X9_envy : yX9_envy.cls ≠ "java/lang/invoke/MethodHandle" ∧ yX9_envy.cls ≠ "java/lang/invoke/VarHandle" ∧ (parseMethodDescriptor yX9_envy.desc).map (fun d => d.parameters.length) = some 1 := ⟨by decide +kernel, by decide +kernel, by decide +kernel⟩
theorem hy_X10_envy : yX10_envy.cls ≠ "java/lang/invoke/MethodHandle" ∧ yX10_envy.cls ≠ "java/lang/invoke/VarHandle" ∧ (parseMethodDescriptor yX10_envy.desc).map (fun d => d.parameters.length) = some 1 := ⟨by decide +kernel, by decide +kernel, by decide +kernel⟩
theorem hy_X9_fair : yX9_fair.cls ≠ "java/lang/invoke/MethodHandle" ∧ yX9_fair.cls ≠ "java/lang/invoke/VarHandle" ∧ (parseMethodDescriptor yX9_fair.desc).map (fun d => d.parameters.length) = some 1 := ⟨by decide +kernel, by decide +kernel, by decide +kernel⟩
theorem hy_X10_fair : yX10_fair.cls ≠ "java/lang/invoke/MethodHandle" ∧ yX10_fair.cls ≠ "java/lang/invoke/VarHandle" ∧ (parseMethodDescriptor yX10_fair.desc).map (fun d => d.parameters.length) = some 1 := ⟨by decide +kernel, by decide +kernel, by decide +kernel⟩
theorem hy_X9_pieces : yX9_pieces.cls ≠ "java/lang/invoke/MethodHandle" ∧ yX9_pieces.cls ≠ "java/lang/invoke/VarHandle" ∧ (parseMethodDescriptor yX9_pieces.desc).map (fun d => d.parameters.length) = some 1 := ⟨by decide +kernel, by decide +kernel, by decide +kernel⟩
theorem hy_X10_pieces : yX10_pieces.cls ≠ "java/lang/invoke/MethodHandle" ∧ yX10_pieces.cls ≠ "java/lang/invoke/VarHandle" ∧ (parseMethodDescriptor yX10_pieces.desc).map (fun d => d.parameters.length) = some 1 := ⟨by decide +kernel, by decide +kernel, by decide +kernel⟩
theorem hy_X9_swaps : yX9_swaps.cls ≠ "java/lang/invoke/MethodHandle" ∧ yX9_swaps.cls ≠ "java/lang/invoke/VarHandle" ∧ (parseMethodDescriptor yX9_swaps.desc).map (fun d => d.parameters.length) = some 1 := ⟨by decide +kernel, by decide +kernel, by decide +kernel⟩
theorem hy_X10_swaps : yX10_swaps.cls ≠ "java/lang/invoke/MethodHandle" ∧ yX10_swaps.cls ≠ "java/lang/invoke/VarHandle" ∧ (parseMethodDescriptor yX10_swaps.desc).map (fun d => d.parameters.length) = some 1 := ⟨by decide +kernel, by decide +kernel, by decide +kernel⟩
theorem hy_X9_steps : yX9_steps.cls ≠ "java/lang/invoke/MethodHandle" ∧ yX9_steps.cls ≠ "java/lang/invoke/VarHandle" ∧ (parseMethodDescriptor yX9_steps.desc).map (fun d => d.parameters.length) = some 0 := ⟨by decide +kernel, by decide +kernel, by decide +kernel⟩
theorem hy_X10_steps : yX10_steps.cls ≠ "java/lang/invoke/MethodHandle" ∧ yX10_steps.cls ≠ "java/lang/invoke/VarHandle" ∧ (parseMethodDescriptor yX10_steps.desc).map (fun d => d.parameters.length) = some 0 := ⟨by decide +kernel, by decide +kernel, by decide +kernel⟩
theorem hy_X9_sale : yX9_sale.cls ≠ "java/lang/invoke/MethodHandle" ∧ yX9_sale.cls ≠ "java/lang/invoke/VarHandle" ∧ (parseMethodDescriptor yX9_sale.desc).map (fun d => d.parameters.length) = some 2 := ⟨by decide +kernel, by decide +kernel, by decide +kernel⟩
theorem hy_X10_sale : yX10_sale.cls ≠ "java/lang/invoke/MethodHandle" ∧ yX10_sale.cls ≠ "java/lang/invoke/VarHandle" ∧ (parseMethodDescriptor yX10_sale.desc).map (fun d => d.parameters.length) = some 2 := ⟨by decide +kernel, by decide +kernel, by decide +kernel⟩
theorem hy_X9_longest : yX9_longest.cls ≠ "java/lang/invoke/MethodHandle" ∧ yX9_longest.cls ≠ "java/lang/invoke/VarHandle" ∧ (parseMethodDescriptor yX9_longest.desc).map (fun d => d.parameters.length) = some 1 := ⟨by decide +kernel, by decide +kernel, by decide +kernel⟩
theorem hy_X10_longest : yX10_longest.cls ≠ "java/lang/invoke/MethodHandle" ∧ yX10_longest.cls ≠ "java/lang/invoke/VarHandle" ∧ (parseMethodDescriptor yX10_longest.desc).map (fun d => d.parameters.length) = some 1 := ⟨by decide +kernel, by decide +kernel, by decide +kernel⟩
theorem hy_X9_together : yX9_together.cls ≠ "java/lang/invoke/MethodHandle" ∧ yX9_together.cls ≠ "java/lang/invoke/VarHandle" ∧ (parseMethodDescriptor yX9_together.desc).map (fun d => d.parameters.length) = some 2 := ⟨by decide +kernel, by decide +kernel, by decide +kernel⟩
theorem hy_X10_together : yX10_together.cls ≠ "java/lang/invoke/MethodHandle" ∧ yX10_together.cls ≠ "java/lang/invoke/VarHandle" ∧ (parseMethodDescriptor yX10_together.desc).map (fun d => d.parameters.length) = some 2 := ⟨by decide +kernel, by decide +kernel, by decide +kernel⟩
theorem hy_X9_note : yX9_note.cls ≠ "java/lang/invoke/MethodHandle" ∧ yX9_note.cls ≠ "java/lang/invoke/VarHandle" ∧ (parseMethodDescriptor yX9_note.desc).map (fun d => d.parameters.length) = some 4 := ⟨by decide +kernel, by decide +kernel, by decide +kernel⟩
theorem hy_X10_note : yX10_note.cls ≠ "java/lang/invoke/MethodHandle" ∧ yX10_note.cls ≠ "java/lang/invoke/VarHandle" ∧ (parseMethodDescriptor yX10_note.desc).map (fun d => d.parameters.length) = some 4 := ⟨by decide +kernel, by decide +kernel, by decide +kernel⟩
theorem hy_X9_forget : yX9_forget.cls ≠ "java/lang/invoke/MethodHandle" ∧ yX9_forget.cls ≠ "java/lang/invoke/VarHandle" ∧ (parseMethodDescriptor yX9_forget.desc).map (fun d => d.parameters.length) = some 0 := ⟨by decide +kernel, by decide +kernel, by decide +kernel⟩
theorem hy_X10_forget : yX10_forget.cls ≠ "java/lang/invoke/MethodHandle" ∧ yX10_forget.cls ≠ "java/lang/invoke/VarHandle" ∧ (parseMethodDescriptor yX10_forget.desc).map (fun d => d.parameters.length) = some 0 := ⟨by decide +kernel, by decide +kernel, by decide +kernel⟩
theorem hy_X9_is : yX9_is.cls ≠ "java/lang/invoke/MethodHandle" ∧ yX9_is.cls ≠ "java/lang/invoke/VarHandle" ∧ (parseMethodDescriptor yX9_is.desc).map (fun d => d.parameters.length) = some 1 := ⟨by decide +kernel, by decide +kernel, by decide +kernel⟩
theorem hy_X10_is : yX10_is.cls ≠ "java/lang/invoke/MethodHandle" ∧ yX10_is.cls ≠ "java/lang/invoke/VarHandle" ∧ (parseMethodDescriptor yX10_is.desc).map (fun d => d.parameters.length) = some 1 := ⟨by decide +kernel, by decide +kernel, by decide +kernel⟩
theorem hy_X9_asks : yX9_asks.cls ≠ "java/lang/invoke/MethodHandle" ∧ yX9_asks.cls ≠ "java/lang/invoke/VarHandle" ∧ (parseMethodDescriptor yX9_asks.desc).map (fun d => d.parameters.length) = some 1 := ⟨by decide +kernel, by decide +kernel, by decide +kernel⟩
theorem hy_X10_asks : yX10_asks.cls ≠ "java/lang/invoke/MethodHandle" ∧ yX10_asks.cls ≠ "java/lang/invoke/VarHandle" ∧ (parseMethodDescriptor yX10_asks.desc).map (fun d => d.parameters.length) = some 1 := ⟨by decide +kernel, by decide +kernel, by decide +kernel⟩
theorem hy_X9_took : yX9_took.cls ≠ "java/lang/invoke/MethodHandle" ∧ yX9_took.cls ≠ "java/lang/invoke/VarHandle" ∧ (parseMethodDescriptor yX9_took.desc).map (fun d => d.parameters.length) = some 2 := ⟨by decide +kernel, by decide +kernel, by decide +kernel⟩
theorem hy_X10_took : yX10_took.cls ≠ "java/lang/invoke/MethodHandle" ∧ yX10_took.cls ≠ "java/lang/invoke/VarHandle" ∧ (parseMethodDescriptor yX10_took.desc).map (fun d => d.parameters.length) = some 2 := ⟨by decide +kernel, by decide +kernel, by decide +kernel⟩
theorem hy_X9_owls : yX9_owls.cls ≠ "java/lang/invoke/MethodHandle" ∧ yX9_owls.cls ≠ "java/lang/invoke/VarHandle" ∧ (parseMethodDescriptor yX9_owls.desc).map (fun d => d.parameters.length) = some 2 := ⟨by decide +kernel, by decide +kernel, by decide +kernel⟩
theorem hy_X10_owls : yX10_owls.cls ≠ "java/lang/invoke/MethodHandle" ∧ yX10_owls.cls ≠ "java/lang/invoke/VarHandle" ∧ (parseMethodDescriptor yX10_owls.desc).map (fun d => d.parameters.length) = some 2 := ⟨by decide +kernel, by decide +kernel, by decide +kernel⟩
theorem hy_X9_terms : yX9_terms.cls ≠ "java/lang/invoke/MethodHandle" ∧ yX9_terms.cls ≠ "java/lang/invoke/VarHandle" ∧ (parseMethodDescriptor yX9_terms.desc).map (fun d => d.parameters.length) = some 2 := ⟨by decide +kernel, by decide +kernel, by decide +kernel⟩
theorem hy_X10_terms : yX10_terms.cls ≠ "java/lang/invoke/MethodHandle" ∧ yX10_terms.cls ≠ "java/lang/invoke/VarHandle" ∧ (parseMethodDescriptor yX10_terms.desc).map (fun d => d.parameters.length) = some 2 := ⟨by decide +kernel, by decide +kernel, by decide +kernel⟩
theorem hy_X9_part : yX9_part.cls ≠ "java/lang/invoke/MethodHandle" ∧ yX9_part.cls ≠ "java/lang/invoke/VarHandle" ∧ (parseMethodDescriptor yX9_part.desc).map (fun d => d.parameters.length) = some 1 := ⟨by decide +kernel, by decide +kernel, by decide +kernel⟩
theorem hy_X10_part : yX10_part.cls ≠ "java/lang/invoke/MethodHandle" ∧ yX10_part.cls ≠ "java/lang/invoke/VarHandle" ∧ (parseMethodDescriptor yX10_part.desc).map (fun d => d.parameters.length) = some 1 := ⟨by decide +kernel, by decide +kernel, by decide +kernel⟩
theorem hy_X9_image : yX9_image.cls ≠ "java/lang/invoke/MethodHandle" ∧ yX9_image.cls ≠ "java/lang/invoke/VarHandle" ∧ (parseMethodDescriptor yX9_image.desc).map (fun d => d.parameters.length) = some 1 := ⟨by decide +kernel, by decide +kernel, by decide +kernel⟩
theorem hy_X10_image : yX10_image.cls ≠ "java/lang/invoke/MethodHandle" ∧ yX10_image.cls ≠ "java/lang/invoke/VarHandle" ∧ (parseMethodDescriptor yX10_image.desc).map (fun d => d.parameters.length) = some 1 := ⟨by decide +kernel, by decide +kernel, by decide +kernel⟩
theorem hy_X9_from : yX9_from.cls ≠ "java/lang/invoke/MethodHandle" ∧ yX9_from.cls ≠ "java/lang/invoke/VarHandle" ∧ (parseMethodDescriptor yX9_from.desc).map (fun d => d.parameters.length) = some 1 := ⟨by decide +kernel, by decide +kernel, by decide +kernel⟩
theorem hy_X10_from : yX10_from.cls ≠ "java/lang/invoke/MethodHandle" ∧ yX10_from.cls ≠ "java/lang/invoke/VarHandle" ∧ (parseMethodDescriptor yX10_from.desc).map (fun d => d.parameters.length) = some 1 := ⟨by decide +kernel, by decide +kernel, by decide +kernel⟩
theorem hy_X9_status : yX9_status.cls ≠ "java/lang/invoke/MethodHandle" ∧ yX9_status.cls ≠ "java/lang/invoke/VarHandle" ∧ (parseMethodDescriptor yX9_status.desc).map (fun d => d.parameters.length) = some 1 := ⟨by decide +kernel, by decide +kernel, by decide +kernel⟩
theorem hy_X10_status : yX10_status.cls ≠ "java/lang/invoke/MethodHandle" ∧ yX10_status.cls ≠ "java/lang/invoke/VarHandle" ∧ (parseMethodDescriptor yX10_status.desc).map (fun d => d.parameters.length) = some 1 := ⟨by decide +kernel, by decide +kernel, by decide +kernel⟩
theorem hy_X10_count : yX10_count.cls ≠ "java/lang/invoke/MethodHandle" ∧ yX10_count.cls ≠ "java/lang/invoke/VarHandle" ∧ (parseMethodDescriptor yX10_count.desc).map (fun d => d.parameters.length) = some 1 := ⟨by decide +kernel, by decide +kernel, by decide +kernel⟩
theorem hy_X9_digest : yX9_digest.cls ≠ "java/lang/invoke/MethodHandle" ∧ yX9_digest.cls ≠ "java/lang/invoke/VarHandle" ∧ (parseMethodDescriptor yX9_digest.desc).map (fun d => d.parameters.length) = some 0 := ⟨by decide +kernel, by decide +kernel, by decide +kernel⟩
theorem hy_X10_digest : yX10_digest.cls ≠ "java/lang/invoke/MethodHandle" ∧ yX10_digest.cls ≠ "java/lang/invoke/VarHandle" ∧ (parseMethodDescriptor yX10_digest.desc).map (fun d => d.parameters.length) = some 0 := ⟨by decide +kernel, by decide +kernel, by decide +kernel⟩
set_option maxRecDepth 100000 in
theorem law_night (X : LX GC GM p s m args c b L xs) (hcs : cells ≤ room_1.cells ∧ slots ≤ room_1.slots) {Rel : Mem → Mem → Prop} (hSp : Sp_night Rel) {x3 : Int32} (hi : ∀ k : Nat, k < 5 → ∀ k' : Int32, k' = nI k → vp_in (x3 + k') L) (hl : lv_has ls 4 [(0, .ref b), (1, .ref (zad GC 0)), (2, .ref (zad GM 0)), (3, .int x3)]) (hH : LH GC GM s H locs μC μM) (hrel : Rel μC μM) (kk : ∀ (μC' μM' : Mem) (H1 : Heap) (locs1 : List Loc), LH GC GM s H1 locs1 μC' μM' → Rel μC' μM' → W p l e room_1 s m args below meth c H1 locs1 cells slots Q (F0 m 1048 ls [])) : W p l e room_1 s m args below meth c H locs cells slots Q (F0 m 184 ls []) := by
  have hx := X.1
  have hb := X.2.1
  obtain ⟨r, μC', μM', hc, hm, hr⟩ := hSp μC μM hrel
  refine lv_aload_n (pc := 184) hx hb dL_law_184 rfl (lv_at hl 1 rfl) ?_
  refine lC (pc := 185) (As := []) (ov := some (.int r)) (rest := []) X hH hl.1 (c_X9_night hc) kw262 kw263 kw264 kw60 kw265 hy_X9_night (by decide) (by decide) hcs (zle8 rfl) rfl dL_law_185 (fun H locs hH => ?_)
  refine W.eq (g2 := F0 m 188 ls [.int r]) rfl ?_
  refine lv_aload_n (pc := 188) hx hb dL_law_188 rfl (lv_at hl 2 rfl) ?_
  refine lM (pc := 189) (As := []) (ov := some (.int r)) (rest := [.int r]) X hH hl.1 (c_X10_night hm) kw841 kw842 kw843 kw71 kw844 hy_X10_night (by decide) (by decide) hcs (zle8 rfl) rfl dL_law_189 (fun H locs hH => ?_)
  refine W.eq (g2 := F0 m 192 ls [.int r, .int r]) rfl ?_
  exact lv_icmp_eq (pc := 192) (tgt := 1048) hx hb dL_law_192 (by decide) (fun _ => kk μC' μM' _ _ hH hr) (fun q => absurd rfl q)
set_option maxRecDepth 100000 in
theorem law_boy (X : LX GC GM p s m args c b L xs) (hcs : cells ≤ room_1.cells ∧ slots ≤ room_1.slots) {Rel : Mem → Mem → Prop} (hSp : Sp_boy Rel) {x3 : Int32} (hi : ∀ k : Nat, k < 5 → ∀ k' : Int32, k' = nI k → vp_in (x3 + k') L) (hl : lv_has ls 4 [(0, .ref b), (1, .ref (zad GC 0)), (2, .ref (zad GM 0)), (3, .int x3)]) (hH : LH GC GM s H locs μC μM) (hrel : Rel μC μM) (kk : ∀ (μC' μM' : Mem) (H1 : Heap) (locs1 : List Loc), LH GC GM s H1 locs1 μC' μM' → Rel μC' μM' → W p l e room_1 s m args below meth c H1 locs1 cells slots Q (F0 m 1048 ls [])) : W p l e room_1 s m args below meth c H locs cells slots Q (F0 m 197 ls []) := by
  have hx := X.1
  have hb := X.2.1
  obtain ⟨r, μC', μM', hc, hm, hr⟩ := hSp μC μM (xs (x3 + (1 : Int32)).toNatClampNeg) (xs (x3 + (2 : Int32)).toNatClampNeg) (xs (x3 + (3 : Int32)).toNatClampNeg) hrel
  refine lv_aload_n (pc := 197) hx hb dL_law_197 rfl (lv_at hl 1 rfl) ?_
  refine lv_aload_n (pc := 198) hx hb dL_law_198 rfl (lv_at hl 0 rfl) ?_
  refine lv_iload_n (pc := 199) hx hb dL_law_199 rfl (lv_at hl 3 rfl) ?_
  refine lv_iconst (pc := 200) (v := (1 : Int32)) hx hb dL_law_200 rfl ?_
  refine lv_iadd (pc := 201) hx hb dL_law_201 ?_
  refine lsld (pc := 202) X hH (hi 1 (by decide) _ rfl) dL_law_202 ?_
  refine lv_aload_n (pc := 203) hx hb dL_law_203 rfl (lv_at hl 0 rfl) ?_
  refine lv_iload_n (pc := 204) hx hb dL_law_204 rfl (lv_at hl 3 rfl) ?_
  refine lv_iconst (pc := 205) (v := (2 : Int32)) hx hb dL_law_205 rfl ?_
  refine lv_iadd (pc := 206) hx hb dL_law_206 ?_
  refine lsld (pc := 207) X hH (hi 2 (by decide) _ rfl) dL_law_207 ?_
  refine lv_aload_n (pc := 208) hx hb dL_law_208 rfl (lv_at hl 0 rfl) ?_
  refine lv_iload_n (pc := 209) hx hb dL_law_209 rfl (lv_at hl 3 rfl) ?_
  refine lv_iconst (pc := 210) (v := (3 : Int32)) hx hb dL_law_210 rfl ?_
  refine lv_iadd (pc := 211) hx hb dL_law_211 ?_
  refine lsld (pc := 212) X hH (hi 3 (by decide) _ rfl) dL_law_212 ?_
  refine lC (pc := 213) (As := [.int (xs (x3 + (1 : Int32)).toNatClampNeg), .int (xs (x3 + (2 : Int32)).toNatClampNeg), .int (xs (x3 + (3 : Int32)).toNatClampNeg)]) (ov := some (.int r)) (rest := []) X hH hl.1 (c_X9_boy hc) kw270 kw271 kw272 kw60 kw273 hy_X9_boy (by decide) (by decide) hcs (zle8 rfl) rfl dL_law_213 (fun H locs hH => ?_)
  refine W.eq (g2 := F0 m 216 ls [.int r]) rfl ?_
  refine lv_aload_n (pc := 216) hx hb dL_law_216 rfl (lv_at hl 2 rfl) ?_
  refine lv_aload_n (pc := 217) hx hb dL_law_217 rfl (lv_at hl 0 rfl) ?_
  refine lv_iload_n (pc := 218) hx hb dL_law_218 rfl (lv_at hl 3 rfl) ?_
  refine lv_iconst (pc := 219) (v := (1 : Int32)) hx hb dL_law_219 rfl ?_
  refine lv_iadd (pc := 220) hx hb dL_law_220 ?_
  refine lsld (pc := 221) X hH (hi 1 (by decide) _ rfl) dL_law_221 ?_
  refine lv_aload_n (pc := 222) hx hb dL_law_222 rfl (lv_at hl 0 rfl) ?_
  refine lv_iload_n (pc := 223) hx hb dL_law_223 rfl (lv_at hl 3 rfl) ?_
  refine lv_iconst (pc := 224) (v := (2 : Int32)) hx hb dL_law_224 rfl ?_
  refine lv_iadd (pc := 225) hx hb dL_law_225 ?_
  refine lsld (pc := 226) X hH (hi 2 (by decide) _ rfl) dL_law_226 ?_
  refine lv_aload_n (pc := 227) hx hb dL_law_227 rfl (lv_at hl 0 rfl) ?_
  refine lv_iload_n (pc := 228) hx hb dL_law_228 rfl (lv_at hl 3 rfl) ?_
  refine lv_iconst (pc := 229) (v := (3 : Int32)) hx hb dL_law_229 rfl ?_
  refine lv_iadd (pc := 230) hx hb dL_law_230 ?_
  refine lsld (pc := 231) X hH (hi 3 (by decide) _ rfl) dL_law_231 ?_
  refine lM (pc := 232) (As := [.int (xs (x3 + (1 : Int32)).toNatClampNeg), .int (xs (x3 + (2 : Int32)).toNatClampNeg), .int (xs (x3 + (3 : Int32)).toNatClampNeg)]) (ov := some (.int r)) (rest := [.int r]) X hH hl.1 (c_X10_boy hm) kw845 kw846 kw847 kw71 kw848 hy_X10_boy (by decide) (by decide) hcs (zle8 rfl) rfl dL_law_232 (fun H locs hH => ?_)
  refine W.eq (g2 := F0 m 235 ls [.int r, .int r]) rfl ?_
  exact lv_icmp_eq (pc := 235) (tgt := 1048) hx hb dL_law_235 (by decide) (fun _ => kk μC' μM' _ _ hH hr) (fun q => absurd rfl q)
set_option maxRecDepth 100000 in
theorem law_give (X : LX GC GM p s m args c b L xs) (hcs : cells ≤ room_1.cells ∧ slots ≤ room_1.slots) {Rel : Mem → Mem → Prop} (hSp : Sp_give Rel) {x3 : Int32} (hi : ∀ k : Nat, k < 5 → ∀ k' : Int32, k' = nI k → vp_in (x3 + k') L) (hl : lv_has ls 4 [(0, .ref b), (1, .ref (zad GC 0)), (2, .ref (zad GM 0)), (3, .int x3)]) (hH : LH GC GM s H locs μC μM) (hrel : Rel μC μM) (kk : ∀ (μC' μM' : Mem) (H1 : Heap) (locs1 : List Loc), LH GC GM s H1 locs1 μC' μM' → Rel μC' μM' → W p l e room_1 s m args below meth c H1 locs1 cells slots Q (F0 m 1048 ls [])) : W p l e room_1 s m args below meth c H locs cells slots Q (F0 m 240 ls []) := by
  have hx := X.1
  have hb := X.2.1
  obtain ⟨r, μC', μM', hc, hm, hr⟩ := hSp μC μM (xs (x3 + (1 : Int32)).toNatClampNeg) (xs (x3 + (2 : Int32)).toNatClampNeg) hrel
  refine lv_aload_n (pc := 240) hx hb dL_law_240 rfl (lv_at hl 1 rfl) ?_
  refine lv_aload_n (pc := 241) hx hb dL_law_241 rfl (lv_at hl 0 rfl) ?_
  refine lv_iload_n (pc := 242) hx hb dL_law_242 rfl (lv_at hl 3 rfl) ?_
  refine lv_iconst (pc := 243) (v := (1 : Int32)) hx hb dL_law_243 rfl ?_
  refine lv_iadd (pc := 244) hx hb dL_law_244 ?_
  refine lsld (pc := 245) X hH (hi 1 (by decide) _ rfl) dL_law_245 ?_
  refine lv_aload_n (pc := 246) hx hb dL_law_246 rfl (lv_at hl 0 rfl) ?_
  refine lv_iload_n (pc := 247) hx hb dL_law_247 rfl (lv_at hl 3 rfl) ?_
  refine lv_iconst (pc := 248) (v := (2 : Int32)) hx hb dL_law_248 rfl ?_
  refine lv_iadd (pc := 249) hx hb dL_law_249 ?_
  refine lsld (pc := 250) X hH (hi 2 (by decide) _ rfl) dL_law_250 ?_
  refine lC (pc := 251) (As := [.int (xs (x3 + (1 : Int32)).toNatClampNeg), .int (xs (x3 + (2 : Int32)).toNatClampNeg)]) (ov := some (.int r)) (rest := []) X hH hl.1 (c_X9_give hc) kw289 kw290 kw291 kw60 kw292 hy_X9_give (by decide) (by decide) hcs (zle8 rfl) rfl dL_law_251 (fun H locs hH => ?_)
  refine W.eq (g2 := F0 m 254 ls [.int r]) rfl ?_
  refine lv_aload_n (pc := 254) hx hb dL_law_254 rfl (lv_at hl 2 rfl) ?_
  refine lv_aload_n (pc := 255) hx hb dL_law_255 rfl (lv_at hl 0 rfl) ?_
  refine lv_iload_n (pc := 256) hx hb dL_law_256 rfl (lv_at hl 3 rfl) ?_
  refine lv_iconst (pc := 257) (v := (1 : Int32)) hx hb dL_law_257 rfl ?_
  refine lv_iadd (pc := 258) hx hb dL_law_258 ?_
  refine lsld (pc := 259) X hH (hi 1 (by decide) _ rfl) dL_law_259 ?_
  refine lv_aload_n (pc := 260) hx hb dL_law_260 rfl (lv_at hl 0 rfl) ?_
  refine lv_iload_n (pc := 261) hx hb dL_law_261 rfl (lv_at hl 3 rfl) ?_
  refine lv_iconst (pc := 262) (v := (2 : Int32)) hx hb dL_law_262 rfl ?_
  refine lv_iadd (pc := 263) hx hb dL_law_263 ?_
  refine lsld (pc := 264) X hH (hi 2 (by decide) _ rfl) dL_law_264 ?_
  refine lM (pc := 265) (As := [.int (xs (x3 + (1 : Int32)).toNatClampNeg), .int (xs (x3 + (2 : Int32)).toNatClampNeg)]) (ov := some (.int r)) (rest := [.int r]) X hH hl.1 (c_X10_give hm) kw926 kw927 kw928 kw71 kw929 hy_X10_give (by decide) (by decide) hcs (zle8 rfl) rfl dL_law_265 (fun H locs hH => ?_)
  refine W.eq (g2 := F0 m 268 ls [.int r, .int r]) rfl ?_
  exact lv_icmp_eq (pc := 268) (tgt := 1048) hx hb dL_law_268 (by decide) (fun _ => kk μC' μM' _ _ hH hr) (fun q => absurd rfl q)
set_option maxRecDepth 100000 in
theorem law_type (X : LX GC GM p s m args c b L xs) (hcs : cells ≤ room_1.cells ∧ slots ≤ room_1.slots) {Rel : Mem → Mem → Prop} (hSp : Sp_type Rel) {x3 : Int32} (hi : ∀ k : Nat, k < 5 → ∀ k' : Int32, k' = nI k → vp_in (x3 + k') L) (hl : lv_has ls 4 [(0, .ref b), (1, .ref (zad GC 0)), (2, .ref (zad GM 0)), (3, .int x3)]) (hH : LH GC GM s H locs μC μM) (hrel : Rel μC μM) (kk : ∀ (μC' μM' : Mem) (H1 : Heap) (locs1 : List Loc), LH GC GM s H1 locs1 μC' μM' → Rel μC' μM' → W p l e room_1 s m args below meth c H1 locs1 cells slots Q (F0 m 1048 ls [])) : W p l e room_1 s m args below meth c H locs cells slots Q (F0 m 273 ls []) := by
  have hx := X.1
  have hb := X.2.1
  obtain ⟨r, μC', μM', hc, hm, hr⟩ := hSp μC μM (xs (x3 + (1 : Int32)).toNatClampNeg) hrel
  refine lv_aload_n (pc := 273) hx hb dL_law_273 rfl (lv_at hl 1 rfl) ?_
  refine lv_aload_n (pc := 274) hx hb dL_law_274 rfl (lv_at hl 0 rfl) ?_
  refine lv_iload_n (pc := 275) hx hb dL_law_275 rfl (lv_at hl 3 rfl) ?_
  refine lv_iconst (pc := 276) (v := (1 : Int32)) hx hb dL_law_276 rfl ?_
  refine lv_iadd (pc := 277) hx hb dL_law_277 ?_
  refine lsld (pc := 278) X hH (hi 1 (by decide) _ rfl) dL_law_278 ?_
  refine lC (pc := 279) (As := [.int (xs (x3 + (1 : Int32)).toNatClampNeg)]) (ov := some (.int r)) (rest := []) X hH hl.1 (c_X9_type hc) kw311 kw312 kw313 kw60 kw314 hy_X9_type (by decide) (by decide) hcs (zle8 rfl) rfl dL_law_279 (fun H locs hH => ?_)
  refine W.eq (g2 := F0 m 282 ls [.int r]) rfl ?_
  refine lv_aload_n (pc := 282) hx hb dL_law_282 rfl (lv_at hl 2 rfl) ?_
  refine lv_aload_n (pc := 283) hx hb dL_law_283 rfl (lv_at hl 0 rfl) ?_
  refine lv_iload_n (pc := 284) hx hb dL_law_284 rfl (lv_at hl 3 rfl) ?_
  refine lv_iconst (pc := 285) (v := (1 : Int32)) hx hb dL_law_285 rfl ?_
  refine lv_iadd (pc := 286) hx hb dL_law_286 ?_
  refine lsld (pc := 287) X hH (hi 1 (by decide) _ rfl) dL_law_287 ?_
  refine lM (pc := 288) (As := [.int (xs (x3 + (1 : Int32)).toNatClampNeg)]) (ov := some (.int r)) (rest := [.int r]) X hH hl.1 (c_X10_type hm) kw864 kw865 kw866 kw71 kw867 hy_X10_type (by decide) (by decide) hcs (zle8 rfl) rfl dL_law_288 (fun H locs hH => ?_)
  refine W.eq (g2 := F0 m 291 ls [.int r, .int r]) rfl ?_
  exact lv_icmp_eq (pc := 291) (tgt := 1048) hx hb dL_law_291 (by decide) (fun _ => kk μC' μM' _ _ hH hr) (fun q => absurd rfl q)
set_option maxRecDepth 100000 in
theorem law_clear (X : LX GC GM p s m args c b L xs) (hcs : cells ≤ room_1.cells ∧ slots ≤ room_1.slots) {Rel : Mem → Mem → Prop} (hSp : Sp_clear Rel) {x3 : Int32} (hi : ∀ k : Nat, k < 5 → ∀ k' : Int32, k' = nI k → vp_in (x3 + k') L) (hl : lv_has ls 4 [(0, .ref b), (1, .ref (zad GC 0)), (2, .ref (zad GM 0)), (3, .int x3)]) (hH : LH GC GM s H locs μC μM) (hrel : Rel μC μM) (kk : ∀ (μC' μM' : Mem) (H1 : Heap) (locs1 : List Loc), LH GC GM s H1 locs1 μC' μM' → Rel μC' μM' → W p l e room_1 s m args below meth c H1 locs1 cells slots Q (F0 m 1048 ls [])) : W p l e room_1 s m args below meth c H locs cells slots Q (F0 m 296 ls []) := by
  have hx := X.1
  have hb := X.2.1
  obtain ⟨r, μC', μM', hc, hm, hr⟩ := hSp μC μM hrel
  refine lv_aload_n (pc := 296) hx hb dL_law_296 rfl (lv_at hl 1 rfl) ?_
  refine lC (pc := 297) (As := []) (ov := some (.int r)) (rest := []) X hH hl.1 (c_X9_clear hc) kw319 kw320 kw321 kw60 kw322 hy_X9_clear (by decide) (by decide) hcs (zle8 rfl) rfl dL_law_297 (fun H locs hH => ?_)
  refine W.eq (g2 := F0 m 300 ls [.int r]) rfl ?_
  refine lv_aload_n (pc := 300) hx hb dL_law_300 rfl (lv_at hl 2 rfl) ?_
  refine lM (pc := 301) (As := []) (ov := some (.int r)) (rest := [.int r]) X hH hl.1 (c_X10_clear hm) kw868 kw869 kw870 kw71 kw871 hy_X10_clear (by decide) (by decide) hcs (zle8 rfl) rfl dL_law_301 (fun H locs hH => ?_)
  refine W.eq (g2 := F0 m 304 ls [.int r, .int r]) rfl ?_
  exact lv_icmp_eq (pc := 304) (tgt := 1048) hx hb dL_law_304 (by decide) (fun _ => kk μC' μM' _ _ hH hr) (fun q => absurd rfl q)
set_option maxRecDepth 100000 in
theorem law_read (X : LX GC GM p s m args c b L xs) (hcs : cells ≤ room_1.cells ∧ slots ≤ room_1.slots) {Rel : Mem → Mem → Prop} (hSp : Sp_read Rel) {x3 : Int32} (hi : ∀ k : Nat, k < 5 → ∀ k' : Int32, k' = nI k → vp_in (x3 + k') L) (hl : lv_has ls 4 [(0, .ref b), (1, .ref (zad GC 0)), (2, .ref (zad GM 0)), (3, .int x3)]) (hH : LH GC GM s H locs μC μM) (hrel : Rel μC μM) (kk : ∀ (μC' μM' : Mem) (H1 : Heap) (locs1 : List Loc), LH GC GM s H1 locs1 μC' μM' → Rel μC' μM' → W p l e room_1 s m args below meth c H1 locs1 cells slots Q (F0 m 1048 ls [])) : W p l e room_1 s m args below meth c H locs cells slots Q (F0 m 309 ls []) := by
  have hx := X.1
  have hb := X.2.1
  obtain ⟨r, μC', μM', hc, hm, hr⟩ := hSp μC μM hrel
  refine lv_aload_n (pc := 309) hx hb dL_law_309 rfl (lv_at hl 1 rfl) ?_
  refine lC (pc := 310) (As := []) (ov := some (.int r)) (rest := []) X hH hl.1 (c_X9_read hc) kw323 kw324 kw325 kw60 kw326 hy_X9_read (by decide) (by decide) hcs (zle8 rfl) rfl dL_law_310 (fun H locs hH => ?_)
  refine W.eq (g2 := F0 m 313 ls [.int r]) rfl ?_
  refine lv_aload_n (pc := 313) hx hb dL_law_313 rfl (lv_at hl 2 rfl) ?_
  refine lM (pc := 314) (As := []) (ov := some (.int r)) (rest := [.int r]) X hH hl.1 (c_X10_read hm) kw872 kw873 kw874 kw71 kw875 hy_X10_read (by decide) (by decide) hcs (zle8 rfl) rfl dL_law_314 (fun H locs hH => ?_)
  refine W.eq (g2 := F0 m 317 ls [.int r, .int r]) rfl ?_
  exact lv_icmp_eq (pc := 317) (tgt := 1048) hx hb dL_law_317 (by decide) (fun _ => kk μC' μM' _ _ hH hr) (fun q => absurd rfl q)
set_option maxRecDepth 100000 in
theorem law_swap (X : LX GC GM p s m args c b L xs) (hcs : cells ≤ room_1.cells ∧ slots ≤ room_1.slots) {Rel : Mem → Mem → Prop} (hSp : Sp_swap Rel) {x3 : Int32} (hi : ∀ k : Nat, k < 5 → ∀ k' : Int32, k' = nI k → vp_in (x3 + k') L) (hl : lv_has ls 4 [(0, .ref b), (1, .ref (zad GC 0)), (2, .ref (zad GM 0)), (3, .int x3)]) (hH : LH GC GM s H locs μC μM) (hrel : Rel μC μM) (kk : ∀ (μC' μM' : Mem) (H1 : Heap) (locs1 : List Loc), LH GC GM s H1 locs1 μC' μM' → Rel μC' μM' → W p l e room_1 s m args below meth c H1 locs1 cells slots Q (F0 m 1048 ls [])) : W p l e room_1 s m args below meth c H locs cells slots Q (F0 m 322 ls []) := by
  have hx := X.1
  have hb := X.2.1
  obtain ⟨r, μC', μM', hc, hm, hr⟩ := hSp μC μM (xs (x3 + (1 : Int32)).toNatClampNeg) (xs (x3 + (2 : Int32)).toNatClampNeg) hrel
  refine lv_aload_n (pc := 322) hx hb dL_law_322 rfl (lv_at hl 1 rfl) ?_
  refine lv_aload_n (pc := 323) hx hb dL_law_323 rfl (lv_at hl 0 rfl) ?_
  refine lv_iload_n (pc := 324) hx hb dL_law_324 rfl (lv_at hl 3 rfl) ?_
  refine lv_iconst (pc := 325) (v := (1 : Int32)) hx hb dL_law_325 rfl ?_
  refine lv_iadd (pc := 326) hx hb dL_law_326 ?_
  refine lsld (pc := 327) X hH (hi 1 (by decide) _ rfl) dL_law_327 ?_
  refine lv_aload_n (pc := 328) hx hb dL_law_328 rfl (lv_at hl 0 rfl) ?_
  refine lv_iload_n (pc := 329) hx hb dL_law_329 rfl (lv_at hl 3 rfl) ?_
  refine lv_iconst (pc := 330) (v := (2 : Int32)) hx hb dL_law_330 rfl ?_
  refine lv_iadd (pc := 331) hx hb dL_law_331 ?_
  refine lsld (pc := 332) X hH (hi 2 (by decide) _ rfl) dL_law_332 ?_
  refine lC (pc := 333) (As := [.int (xs (x3 + (1 : Int32)).toNatClampNeg), .int (xs (x3 + (2 : Int32)).toNatClampNeg)]) (ov := some (.int r)) (rest := []) X hH hl.1 (c_X9_swap hc) kw426 kw427 kw428 kw60 kw429 hy_X9_swap (by decide) (by decide) hcs (zle8 rfl) rfl dL_law_333 (fun H locs hH => ?_)
  refine W.eq (g2 := F0 m 336 ls [.int r]) rfl ?_
  refine lv_aload_n (pc := 336) hx hb dL_law_336 rfl (lv_at hl 2 rfl) ?_
  refine lv_aload_n (pc := 337) hx hb dL_law_337 rfl (lv_at hl 0 rfl) ?_
  refine lv_iload_n (pc := 338) hx hb dL_law_338 rfl (lv_at hl 3 rfl) ?_
  refine lv_iconst (pc := 339) (v := (1 : Int32)) hx hb dL_law_339 rfl ?_
  refine lv_iadd (pc := 340) hx hb dL_law_340 ?_
  refine lsld (pc := 341) X hH (hi 1 (by decide) _ rfl) dL_law_341 ?_
  refine lv_aload_n (pc := 342) hx hb dL_law_342 rfl (lv_at hl 0 rfl) ?_
  refine lv_iload_n (pc := 343) hx hb dL_law_343 rfl (lv_at hl 3 rfl) ?_
  refine lv_iconst (pc := 344) (v := (2 : Int32)) hx hb dL_law_344 rfl ?_
  refine lv_iadd (pc := 345) hx hb dL_law_345 ?_
  refine lsld (pc := 346) X hH (hi 2 (by decide) _ rfl) dL_law_346 ?_
  refine lM (pc := 347) (As := [.int (xs (x3 + (1 : Int32)).toNatClampNeg), .int (xs (x3 + (2 : Int32)).toNatClampNeg)]) (ov := some (.int r)) (rest := [.int r]) X hH hl.1 (c_X10_swap hm) kw945 kw946 kw947 kw71 kw948 hy_X10_swap (by decide) (by decide) hcs (zle8 rfl) rfl dL_law_347 (fun H locs hH => ?_)
  refine W.eq (g2 := F0 m 350 ls [.int r, .int r]) rfl ?_
  exact lv_icmp_eq (pc := 350) (tgt := 1048) hx hb dL_law_350 (by decide) (fun _ => kk μC' μM' _ _ hH hr) (fun q => absurd rfl q)
set_option maxRecDepth 100000 in
theorem law_sell (X : LX GC GM p s m args c b L xs) (hcs : cells ≤ room_1.cells ∧ slots ≤ room_1.slots) {Rel : Mem → Mem → Prop} (hSp : Sp_sell Rel) {x3 : Int32} (hi : ∀ k : Nat, k < 5 → ∀ k' : Int32, k' = nI k → vp_in (x3 + k') L) (hl : lv_has ls 4 [(0, .ref b), (1, .ref (zad GC 0)), (2, .ref (zad GM 0)), (3, .int x3)]) (hH : LH GC GM s H locs μC μM) (hrel : Rel μC μM) (kk : ∀ (μC' μM' : Mem) (H1 : Heap) (locs1 : List Loc), LH GC GM s H1 locs1 μC' μM' → Rel μC' μM' → W p l e room_1 s m args below meth c H1 locs1 cells slots Q (F0 m 1048 ls [])) : W p l e room_1 s m args below meth c H locs cells slots Q (F0 m 355 ls []) := by
  have hx := X.1
  have hb := X.2.1
  obtain ⟨r, μC', μM', hc, hm, hr⟩ := hSp μC μM (xs (x3 + (1 : Int32)).toNatClampNeg) (xs (x3 + (2 : Int32)).toNatClampNeg) (xs (x3 + (3 : Int32)).toNatClampNeg) hrel
  refine lv_aload_n (pc := 355) hx hb dL_law_355 rfl (lv_at hl 1 rfl) ?_
  refine lv_aload_n (pc := 356) hx hb dL_law_356 rfl (lv_at hl 0 rfl) ?_
  refine lv_iload_n (pc := 357) hx hb dL_law_357 rfl (lv_at hl 3 rfl) ?_
  refine lv_iconst (pc := 358) (v := (1 : Int32)) hx hb dL_law_358 rfl ?_
  refine lv_iadd (pc := 359) hx hb dL_law_359 ?_
  refine lsld (pc := 360) X hH (hi 1 (by decide) _ rfl) dL_law_360 ?_
  refine lv_aload_n (pc := 361) hx hb dL_law_361 rfl (lv_at hl 0 rfl) ?_
  refine lv_iload_n (pc := 362) hx hb dL_law_362 rfl (lv_at hl 3 rfl) ?_
  refine lv_iconst (pc := 363) (v := (2 : Int32)) hx hb dL_law_363 rfl ?_
  refine lv_iadd (pc := 364) hx hb dL_law_364 ?_
  refine lsld (pc := 365) X hH (hi 2 (by decide) _ rfl) dL_law_365 ?_
  refine lv_aload_n (pc := 366) hx hb dL_law_366 rfl (lv_at hl 0 rfl) ?_
  refine lv_iload_n (pc := 367) hx hb dL_law_367 rfl (lv_at hl 3 rfl) ?_
  refine lv_iconst (pc := 368) (v := (3 : Int32)) hx hb dL_law_368 rfl ?_
  refine lv_iadd (pc := 369) hx hb dL_law_369 ?_
  refine lsld (pc := 370) X hH (hi 3 (by decide) _ rfl) dL_law_370 ?_
  refine lC (pc := 371) (As := [.int (xs (x3 + (1 : Int32)).toNatClampNeg), .int (xs (x3 + (2 : Int32)).toNatClampNeg), .int (xs (x3 + (3 : Int32)).toNatClampNeg)]) (ov := some (.int r)) (rest := []) X hH hl.1 (c_X9_sell hc) kw442 kw443 kw444 kw60 kw445 hy_X9_sell (by decide) (by decide) hcs (zle8 rfl) rfl dL_law_371 (fun H locs hH => ?_)
  refine W.eq (g2 := F0 m 374 ls [.int r]) rfl ?_
  refine lv_aload_n (pc := 374) hx hb dL_law_374 rfl (lv_at hl 2 rfl) ?_
  refine lv_aload_n (pc := 375) hx hb dL_law_375 rfl (lv_at hl 0 rfl) ?_
  refine lv_iload_n (pc := 376) hx hb dL_law_376 rfl (lv_at hl 3 rfl) ?_
  refine lv_iconst (pc := 377) (v := (1 : Int32)) hx hb dL_law_377 rfl ?_
  refine lv_iadd (pc := 378) hx hb dL_law_378 ?_
  refine lsld (pc := 379) X hH (hi 1 (by decide) _ rfl) dL_law_379 ?_
  refine lv_aload_n (pc := 380) hx hb dL_law_380 rfl (lv_at hl 0 rfl) ?_
  refine lv_iload_n (pc := 381) hx hb dL_law_381 rfl (lv_at hl 3 rfl) ?_
  refine lv_iconst (pc := 382) (v := (2 : Int32)) hx hb dL_law_382 rfl ?_
  refine lv_iadd (pc := 383) hx hb dL_law_383 ?_
  refine lsld (pc := 384) X hH (hi 2 (by decide) _ rfl) dL_law_384 ?_
  refine lv_aload_n (pc := 385) hx hb dL_law_385 rfl (lv_at hl 0 rfl) ?_
  refine lv_iload_n (pc := 386) hx hb dL_law_386 rfl (lv_at hl 3 rfl) ?_
  refine lv_iconst (pc := 387) (v := (3 : Int32)) hx hb dL_law_387 rfl ?_
  refine lv_iadd (pc := 388) hx hb dL_law_388 ?_
  refine lsld (pc := 389) X hH (hi 3 (by decide) _ rfl) dL_law_389 ?_
  refine lM (pc := 390) (As := [.int (xs (x3 + (1 : Int32)).toNatClampNeg), .int (xs (x3 + (2 : Int32)).toNatClampNeg), .int (xs (x3 + (3 : Int32)).toNatClampNeg)]) (ov := some (.int r)) (rest := [.int r]) X hH hl.1 (c_X10_sell hm) kw957 kw958 kw959 kw71 kw960 hy_X10_sell (by decide) (by decide) hcs (zle8 rfl) rfl dL_law_390 (fun H locs hH => ?_)
  refine W.eq (g2 := F0 m 393 ls [.int r, .int r]) rfl ?_
  exact lv_icmp_eq (pc := 393) (tgt := 1048) hx hb dL_law_393 (by decide) (fun _ => kk μC' μM' _ _ hH hr) (fun q => absurd rfl q)
set_option maxRecDepth 100000 in
theorem law_undo (X : LX GC GM p s m args c b L xs) (hcs : cells ≤ room_1.cells ∧ slots ≤ room_1.slots) {Rel : Mem → Mem → Prop} (hSp : Sp_undo Rel) {x3 : Int32} (hi : ∀ k : Nat, k < 5 → ∀ k' : Int32, k' = nI k → vp_in (x3 + k') L) (hl : lv_has ls 4 [(0, .ref b), (1, .ref (zad GC 0)), (2, .ref (zad GM 0)), (3, .int x3)]) (hH : LH GC GM s H locs μC μM) (hrel : Rel μC μM) (kk : ∀ (μC' μM' : Mem) (H1 : Heap) (locs1 : List Loc), LH GC GM s H1 locs1 μC' μM' → Rel μC' μM' → W p l e room_1 s m args below meth c H1 locs1 cells slots Q (F0 m 1048 ls [])) : W p l e room_1 s m args below meth c H locs cells slots Q (F0 m 398 ls []) := by
  have hx := X.1
  have hb := X.2.1
  obtain ⟨r, μC', μM', hc, hm, hr⟩ := hSp μC μM hrel
  refine lv_aload_n (pc := 398) hx hb dL_law_398 rfl (lv_at hl 1 rfl) ?_
  refine lC (pc := 399) (As := []) (ov := some (.int r)) (rest := []) X hH hl.1 (c_X9_undo hc) kw446 kw447 kw448 kw60 kw449 hy_X9_undo (by decide) (by decide) hcs (zle8 rfl) rfl dL_law_399 (fun H locs hH => ?_)
  refine W.eq (g2 := F0 m 402 ls [.int r]) rfl ?_
  refine lv_aload_n (pc := 402) hx hb dL_law_402 rfl (lv_at hl 2 rfl) ?_
  refine lM (pc := 403) (As := []) (ov := some (.int r)) (rest := [.int r]) X hH hl.1 (c_X10_undo hm) kw961 kw962 kw963 kw71 kw964 hy_X10_undo (by decide) (by decide) hcs (zle8 rfl) rfl dL_law_403 (fun H locs hH => ?_)
  refine W.eq (g2 := F0 m 406 ls [.int r, .int r]) rfl ?_
  exact lv_icmp_eq (pc := 406) (tgt := 1048) hx hb dL_law_406 (by decide) (fun _ => kk μC' μM' _ _ hH hr) (fun q => absurd rfl q)
set_option maxRecDepth 100000 in
theorem law_of (X : LX GC GM p s m args c b L xs) (hcs : cells ≤ room_1.cells ∧ slots ≤ room_1.slots) {Rel : Mem → Mem → Prop} (hSp : Sp_of Rel) {x3 : Int32} (hi : ∀ k : Nat, k < 5 → ∀ k' : Int32, k' = nI k → vp_in (x3 + k') L) (hl : lv_has ls 4 [(0, .ref b), (1, .ref (zad GC 0)), (2, .ref (zad GM 0)), (3, .int x3)]) (hH : LH GC GM s H locs μC μM) (hrel : Rel μC μM) (kk : ∀ (μC' μM' : Mem) (H1 : Heap) (locs1 : List Loc), LH GC GM s H1 locs1 μC' μM' → Rel μC' μM' → W p l e room_1 s m args below meth c H1 locs1 cells slots Q (F0 m 1048 ls [])) : W p l e room_1 s m args below meth c H locs cells slots Q (F0 m 411 ls []) := by
  have hx := X.1
  have hb := X.2.1
  obtain ⟨r, μC', μM', hc, hm, hr⟩ := hSp μC μM (xs (x3 + (1 : Int32)).toNatClampNeg) (xs (x3 + (2 : Int32)).toNatClampNeg) hrel
  refine lv_aload_n (pc := 411) hx hb dL_law_411 rfl (lv_at hl 1 rfl) ?_
  refine lv_aload_n (pc := 412) hx hb dL_law_412 rfl (lv_at hl 0 rfl) ?_
  refine lv_iload_n (pc := 413) hx hb dL_law_413 rfl (lv_at hl 3 rfl) ?_
  refine lv_iconst (pc := 414) (v := (1 : Int32)) hx hb dL_law_414 rfl ?_
  refine lv_iadd (pc := 415) hx hb dL_law_415 ?_
  refine lsld (pc := 416) X hH (hi 1 (by decide) _ rfl) dL_law_416 ?_
  refine lv_aload_n (pc := 417) hx hb dL_law_417 rfl (lv_at hl 0 rfl) ?_
  refine lv_iload_n (pc := 418) hx hb dL_law_418 rfl (lv_at hl 3 rfl) ?_
  refine lv_iconst (pc := 419) (v := (2 : Int32)) hx hb dL_law_419 rfl ?_
  refine lv_iadd (pc := 420) hx hb dL_law_420 ?_
  refine lsld (pc := 421) X hH (hi 2 (by decide) _ rfl) dL_law_421 ?_
  refine lC (pc := 422) (As := [.int (xs (x3 + (1 : Int32)).toNatClampNeg), .int (xs (x3 + (2 : Int32)).toNatClampNeg)]) (ov := some (.int r)) (rest := []) X hH hl.1 (c_X9_of hc) kw468 kw469 kw470 kw60 kw471 hy_X9_of (by decide) (by decide) hcs (zle8 rfl) rfl dL_law_422 (fun H locs hH => ?_)
  refine W.eq (g2 := F0 m 425 ls [.int r]) rfl ?_
  refine lv_aload_n (pc := 425) hx hb dL_law_425 rfl (lv_at hl 2 rfl) ?_
  refine lv_aload_n (pc := 426) hx hb dL_law_426 rfl (lv_at hl 0 rfl) ?_
  refine lv_iload_n (pc := 427) hx hb dL_law_427 rfl (lv_at hl 3 rfl) ?_
  refine lv_iconst (pc := 428) (v := (1 : Int32)) hx hb dL_law_428 rfl ?_
  refine lv_iadd (pc := 429) hx hb dL_law_429 ?_
  refine lsld (pc := 430) X hH (hi 1 (by decide) _ rfl) dL_law_430 ?_
  refine lv_aload_n (pc := 431) hx hb dL_law_431 rfl (lv_at hl 0 rfl) ?_
  refine lv_iload_n (pc := 432) hx hb dL_law_432 rfl (lv_at hl 3 rfl) ?_
  refine lv_iconst (pc := 433) (v := (2 : Int32)) hx hb dL_law_433 rfl ?_
  refine lv_iadd (pc := 434) hx hb dL_law_434 ?_
  refine lsld (pc := 435) X hH (hi 2 (by decide) _ rfl) dL_law_435 ?_
  refine lM (pc := 436) (As := [.int (xs (x3 + (1 : Int32)).toNatClampNeg), .int (xs (x3 + (2 : Int32)).toNatClampNeg)]) (ov := some (.int r)) (rest := [.int r]) X hH hl.1 (c_X10_of hm) kw976 kw977 kw978 kw71 kw979 hy_X10_of (by decide) (by decide) hcs (zle8 rfl) rfl dL_law_436 (fun H locs hH => ?_)
  refine W.eq (g2 := F0 m 439 ls [.int r, .int r]) rfl ?_
  exact lv_icmp_eq (pc := 439) (tgt := 1048) hx hb dL_law_439 (by decide) (fun _ => kk μC' μM' _ _ hH hr) (fun q => absurd rfl q)
set_option maxRecDepth 100000 in
theorem law_worth (X : LX GC GM p s m args c b L xs) (hcs : cells ≤ room_1.cells ∧ slots ≤ room_1.slots) {Rel : Mem → Mem → Prop} (hSp : Sp_worth Rel) {x3 : Int32} (hi : ∀ k : Nat, k < 5 → ∀ k' : Int32, k' = nI k → vp_in (x3 + k') L) (hl : lv_has ls 4 [(0, .ref b), (1, .ref (zad GC 0)), (2, .ref (zad GM 0)), (3, .int x3)]) (hH : LH GC GM s H locs μC μM) (hrel : Rel μC μM) (kk : ∀ (μC' μM' : Mem) (H1 : Heap) (locs1 : List Loc), LH GC GM s H1 locs1 μC' μM' → Rel μC' μM' → W p l e room_1 s m args below meth c H1 locs1 cells slots Q (F0 m 1048 ls [])) : W p l e room_1 s m args below meth c H locs cells slots Q (F0 m 444 ls []) := by
  have hx := X.1
  have hb := X.2.1
  obtain ⟨r, μC', μM', hc, hm, hr⟩ := hSp μC μM (xs (x3 + (1 : Int32)).toNatClampNeg) (xs (x3 + (2 : Int32)).toNatClampNeg) hrel
  refine lv_aload_n (pc := 444) hx hb dL_law_444 rfl (lv_at hl 1 rfl) ?_
  refine lv_aload_n (pc := 445) hx hb dL_law_445 rfl (lv_at hl 0 rfl) ?_
  refine lv_iload_n (pc := 446) hx hb dL_law_446 rfl (lv_at hl 3 rfl) ?_
  refine lv_iconst (pc := 447) (v := (1 : Int32)) hx hb dL_law_447 rfl ?_
  refine lv_iadd (pc := 448) hx hb dL_law_448 ?_
  refine lsld (pc := 449) X hH (hi 1 (by decide) _ rfl) dL_law_449 ?_
  refine lv_aload_n (pc := 450) hx hb dL_law_450 rfl (lv_at hl 0 rfl) ?_
  refine lv_iload_n (pc := 451) hx hb dL_law_451 rfl (lv_at hl 3 rfl) ?_
  refine lv_iconst (pc := 452) (v := (2 : Int32)) hx hb dL_law_452 rfl ?_
  refine lv_iadd (pc := 453) hx hb dL_law_453 ?_
  refine lsld (pc := 454) X hH (hi 2 (by decide) _ rfl) dL_law_454 ?_
  refine lC (pc := 455) (As := [.int (xs (x3 + (1 : Int32)).toNatClampNeg), .int (xs (x3 + (2 : Int32)).toNatClampNeg)]) (ov := some (.int r)) (rest := []) X hH hl.1 (c_X9_worth hc) kw517 kw518 kw519 kw60 kw520 hy_X9_worth (by decide) (by decide) hcs (zle8 rfl) rfl dL_law_455 (fun H locs hH => ?_)
  refine W.eq (g2 := F0 m 458 ls [.int r]) rfl ?_
  refine lv_aload_n (pc := 458) hx hb dL_law_458 rfl (lv_at hl 2 rfl) ?_
  refine lv_aload_n (pc := 459) hx hb dL_law_459 rfl (lv_at hl 0 rfl) ?_
  refine lv_iload_n (pc := 460) hx hb dL_law_460 rfl (lv_at hl 3 rfl) ?_
  refine lv_iconst (pc := 461) (v := (1 : Int32)) hx hb dL_law_461 rfl ?_
  refine lv_iadd (pc := 462) hx hb dL_law_462 ?_
  refine lsld (pc := 463) X hH (hi 1 (by decide) _ rfl) dL_law_463 ?_
  refine lv_aload_n (pc := 464) hx hb dL_law_464 rfl (lv_at hl 0 rfl) ?_
  refine lv_iload_n (pc := 465) hx hb dL_law_465 rfl (lv_at hl 3 rfl) ?_
  refine lv_iconst (pc := 466) (v := (2 : Int32)) hx hb dL_law_466 rfl ?_
  refine lv_iadd (pc := 467) hx hb dL_law_467 ?_
  refine lsld (pc := 468) X hH (hi 2 (by decide) _ rfl) dL_law_468 ?_
  refine lM (pc := 469) (As := [.int (xs (x3 + (1 : Int32)).toNatClampNeg), .int (xs (x3 + (2 : Int32)).toNatClampNeg)]) (ov := some (.int r)) (rest := [.int r]) X hH hl.1 (c_X10_worth hm) kw998 kw999 kw1000 kw71 kw1001 hy_X10_worth (by decide) (by decide) hcs (zle8 rfl) rfl dL_law_469 (fun H locs hH => ?_)
  refine W.eq (g2 := F0 m 472 ls [.int r, .int r]) rfl ?_
  exact lv_icmp_eq (pc := 472) (tgt := 1048) hx hb dL_law_472 (by decide) (fun _ => kk μC' μM' _ _ hH hr) (fun q => absurd rfl q)
set_option maxRecDepth 100000 in
theorem law_whose (X : LX GC GM p s m args c b L xs) (hcs : cells ≤ room_1.cells ∧ slots ≤ room_1.slots) {Rel : Mem → Mem → Prop} (hSp : Sp_whose Rel) {x3 : Int32} (hi : ∀ k : Nat, k < 5 → ∀ k' : Int32, k' = nI k → vp_in (x3 + k') L) (hl : lv_has ls 4 [(0, .ref b), (1, .ref (zad GC 0)), (2, .ref (zad GM 0)), (3, .int x3)]) (hH : LH GC GM s H locs μC μM) (hrel : Rel μC μM) (kk : ∀ (μC' μM' : Mem) (H1 : Heap) (locs1 : List Loc), LH GC GM s H1 locs1 μC' μM' → Rel μC' μM' → W p l e room_1 s m args below meth c H1 locs1 cells slots Q (F0 m 1048 ls [])) : W p l e room_1 s m args below meth c H locs cells slots Q (F0 m 477 ls []) := by
  have hx := X.1
  have hb := X.2.1
  obtain ⟨r, μC', μM', hc, hm, hr⟩ := hSp μC μM (xs (x3 + (1 : Int32)).toNatClampNeg) hrel
  refine lv_aload_n (pc := 477) hx hb dL_law_477 rfl (lv_at hl 1 rfl) ?_
  refine lv_aload_n (pc := 478) hx hb dL_law_478 rfl (lv_at hl 0 rfl) ?_
  refine lv_iload_n (pc := 479) hx hb dL_law_479 rfl (lv_at hl 3 rfl) ?_
  refine lv_iconst (pc := 480) (v := (1 : Int32)) hx hb dL_law_480 rfl ?_
  refine lv_iadd (pc := 481) hx hb dL_law_481 ?_
  refine lsld (pc := 482) X hH (hi 1 (by decide) _ rfl) dL_law_482 ?_
  refine lC (pc := 483) (As := [.int (xs (x3 + (1 : Int32)).toNatClampNeg)]) (ov := some (.int r)) (rest := []) X hH hl.1 (c_X9_whose hc) kw522 kw523 kw524 kw60 kw525 hy_X9_whose (by decide) (by decide) hcs (zle8 rfl) rfl dL_law_483 (fun H locs hH => ?_)
  refine W.eq (g2 := F0 m 486 ls [.int r]) rfl ?_
  refine lv_aload_n (pc := 486) hx hb dL_law_486 rfl (lv_at hl 2 rfl) ?_
  refine lv_aload_n (pc := 487) hx hb dL_law_487 rfl (lv_at hl 0 rfl) ?_
  refine lv_iload_n (pc := 488) hx hb dL_law_488 rfl (lv_at hl 3 rfl) ?_
  refine lv_iconst (pc := 489) (v := (1 : Int32)) hx hb dL_law_489 rfl ?_
  refine lv_iadd (pc := 490) hx hb dL_law_490 ?_
  refine lsld (pc := 491) X hH (hi 1 (by decide) _ rfl) dL_law_491 ?_
  refine lM (pc := 492) (As := [.int (xs (x3 + (1 : Int32)).toNatClampNeg)]) (ov := some (.int r)) (rest := [.int r]) X hH hl.1 (c_X10_whose hm) kw1002 kw1003 kw1004 kw71 kw1005 hy_X10_whose (by decide) (by decide) hcs (zle8 rfl) rfl dL_law_492 (fun H locs hH => ?_)
  refine W.eq (g2 := F0 m 495 ls [.int r, .int r]) rfl ?_
  exact lv_icmp_eq (pc := 495) (tgt := 1048) hx hb dL_law_495 (by decide) (fun _ => kk μC' μM' _ _ hH hr) (fun q => absurd rfl q)
set_option maxRecDepth 100000 in
theorem law_enough (X : LX GC GM p s m args c b L xs) (hcs : cells ≤ room_1.cells ∧ slots ≤ room_1.slots) {Rel : Mem → Mem → Prop} (hSp : Sp_enough Rel) {x3 : Int32} (hi : ∀ k : Nat, k < 5 → ∀ k' : Int32, k' = nI k → vp_in (x3 + k') L) (hl : lv_has ls 4 [(0, .ref b), (1, .ref (zad GC 0)), (2, .ref (zad GM 0)), (3, .int x3)]) (hH : LH GC GM s H locs μC μM) (hrel : Rel μC μM) (kk : ∀ (μC' μM' : Mem) (H1 : Heap) (locs1 : List Loc), LH GC GM s H1 locs1 μC' μM' → Rel μC' μM' → W p l e room_1 s m args below meth c H1 locs1 cells slots Q (F0 m 1048 ls [])) : W p l e room_1 s m args below meth c H locs cells slots Q (F0 m 500 ls []) := by
  have hx := X.1
  have hb := X.2.1
  obtain ⟨r, μC', μM', hc, hm, hr⟩ := hSp μC μM hrel
  refine lv_aload_n (pc := 500) hx hb dL_law_500 rfl (lv_at hl 1 rfl) ?_
  refine lC (pc := 501) (As := []) (ov := some (.int r)) (rest := []) X hH hl.1 (c_X9_enough hc) kw526 kw527 kw528 kw60 kw529 hy_X9_enough (by decide) (by decide) hcs (zle8 rfl) rfl dL_law_501 (fun H locs hH => ?_)
  refine W.eq (g2 := F0 m 504 ls [.int r]) rfl ?_
  refine lv_aload_n (pc := 504) hx hb dL_law_504 rfl (lv_at hl 2 rfl) ?_
  refine lM (pc := 505) (As := []) (ov := some (.int r)) (rest := [.int r]) X hH hl.1 (c_X10_enough hm) kw1006 kw1007 kw1008 kw71 kw1009 hy_X10_enough (by decide) (by decide) hcs (zle8 rfl) rfl dL_law_505 (fun H locs hH => ?_)
  refine W.eq (g2 := F0 m 508 ls [.int r, .int r]) rfl ?_
  exact lv_icmp_eq (pc := 508) (tgt := 1048) hx hb dL_law_508 (by decide) (fun _ => kk μC' μM' _ _ hH hr) (fun q => absurd rfl q)
set_option maxRecDepth 100000 in
theorem law_envy (X : LX GC GM p s m args c b L xs) (hcs : cells ≤ room_1.cells ∧ slots ≤ room_1.slots) {Rel : Mem → Mem → Prop} (hSp : Sp_envy Rel) {x3 : Int32} (hi : ∀ k : Nat, k < 5 → ∀ k' : Int32, k' = nI k → vp_in (x3 + k') L) (hl : lv_has ls 4 [(0, .ref b), (1, .ref (zad GC 0)), (2, .ref (zad GM 0)), (3, .int x3)]) (hH : LH GC GM s H locs μC μM) (hrel : Rel μC μM) (kk : ∀ (μC' μM' : Mem) (H1 : Heap) (locs1 : List Loc), LH GC GM s H1 locs1 μC' μM' → Rel μC' μM' → W p l e room_1 s m args below meth c H1 locs1 cells slots Q (F0 m 1048 ls [])) : W p l e room_1 s m args below meth c H locs cells slots Q (F0 m 513 ls []) := by
  have hx := X.1
  have hb := X.2.1
  obtain ⟨r, μC', μM', hc, hm, hr⟩ := hSp μC μM (xs (x3 + (1 : Int32)).toNatClampNeg) hrel
  refine lv_aload_n (pc := 513) hx hb dL_law_513 rfl (lv_at hl 1 rfl) ?_
  refine lv_aload_n (pc := 514) hx hb dL_law_514 rfl (lv_at hl 0 rfl) ?_
  refine lv_iload_n (pc := 515) hx hb dL_law_515 rfl (lv_at hl 3 rfl) ?_
  refine lv_iconst (pc := 516) (v := (1 : Int32)) hx hb dL_law_516 rfl ?_
  refine lv_iadd (pc := 517) hx hb dL_law_517 ?_
  refine lsld (pc := 518) X hH (hi 1 (by decide) _ rfl) dL_law_518 ?_
  refine lC (pc := 519) (As := [.int (xs (x3 + (1 : Int32)).toNatClampNeg)]) (ov := some (.int r)) (rest := []) X hH hl.1 (c_X9_envy hc) kw534 kw535 kw536 kw60 kw537 hy_X9_envy (by decide) (by decide) hcs (zle8 rfl) rfl dL_law_519 (fun H locs hH => ?_)
  refine W.eq (g2 := F0 m 522 ls [.int r]) rfl ?_
  refine lv_aload_n (pc := 522) hx hb dL_law_522 rfl (lv_at hl 2 rfl) ?_
  refine lv_aload_n (pc := 523) hx hb dL_law_523 rfl (lv_at hl 0 rfl) ?_
  refine lv_iload_n (pc := 524) hx hb dL_law_524 rfl (lv_at hl 3 rfl) ?_
  refine lv_iconst (pc := 525) (v := (1 : Int32)) hx hb dL_law_525 rfl ?_
  refine lv_iadd (pc := 526) hx hb dL_law_526 ?_
  refine lsld (pc := 527) X hH (hi 1 (by decide) _ rfl) dL_law_527 ?_
  refine lM (pc := 528) (As := [.int (xs (x3 + (1 : Int32)).toNatClampNeg)]) (ov := some (.int r)) (rest := [.int r]) X hH hl.1 (c_X10_envy hm) kw1010 kw1011 kw1012 kw71 kw1013 hy_X10_envy (by decide) (by decide) hcs (zle8 rfl) rfl dL_law_528 (fun H locs hH => ?_)
  refine W.eq (g2 := F0 m 531 ls [.int r, .int r]) rfl ?_
  exact lv_icmp_eq (pc := 531) (tgt := 1048) hx hb dL_law_531 (by decide) (fun _ => kk μC' μM' _ _ hH hr) (fun q => absurd rfl q)
set_option maxRecDepth 100000 in
theorem law_fair (X : LX GC GM p s m args c b L xs) (hcs : cells ≤ room_1.cells ∧ slots ≤ room_1.slots) {Rel : Mem → Mem → Prop} (hSp : Sp_fair Rel) {x3 : Int32} (hi : ∀ k : Nat, k < 5 → ∀ k' : Int32, k' = nI k → vp_in (x3 + k') L) (hl : lv_has ls 4 [(0, .ref b), (1, .ref (zad GC 0)), (2, .ref (zad GM 0)), (3, .int x3)]) (hH : LH GC GM s H locs μC μM) (hrel : Rel μC μM) (kk : ∀ (μC' μM' : Mem) (H1 : Heap) (locs1 : List Loc), LH GC GM s H1 locs1 μC' μM' → Rel μC' μM' → W p l e room_1 s m args below meth c H1 locs1 cells slots Q (F0 m 1048 ls [])) : W p l e room_1 s m args below meth c H locs cells slots Q (F0 m 536 ls []) := by
  have hx := X.1
  have hb := X.2.1
  obtain ⟨r, μC', μM', hc, hm, hr⟩ := hSp μC μM (xs (x3 + (1 : Int32)).toNatClampNeg) hrel
  refine lv_aload_n (pc := 536) hx hb dL_law_536 rfl (lv_at hl 1 rfl) ?_
  refine lv_aload_n (pc := 537) hx hb dL_law_537 rfl (lv_at hl 0 rfl) ?_
  refine lv_iload_n (pc := 538) hx hb dL_law_538 rfl (lv_at hl 3 rfl) ?_
  refine lv_iconst (pc := 539) (v := (1 : Int32)) hx hb dL_law_539 rfl ?_
  refine lv_iadd (pc := 540) hx hb dL_law_540 ?_
  refine lsld (pc := 541) X hH (hi 1 (by decide) _ rfl) dL_law_541 ?_
  refine lC (pc := 542) (As := [.int (xs (x3 + (1 : Int32)).toNatClampNeg)]) (ov := some (.int r)) (rest := []) X hH hl.1 (c_X9_fair hc) kw543 kw544 kw545 kw60 kw546 hy_X9_fair (by decide) (by decide) hcs (zle8 rfl) rfl dL_law_542 (fun H locs hH => ?_)
  refine W.eq (g2 := F0 m 545 ls [.int r]) rfl ?_
  refine lv_aload_n (pc := 545) hx hb dL_law_545 rfl (lv_at hl 2 rfl) ?_
  refine lv_aload_n (pc := 546) hx hb dL_law_546 rfl (lv_at hl 0 rfl) ?_
  refine lv_iload_n (pc := 547) hx hb dL_law_547 rfl (lv_at hl 3 rfl) ?_
  refine lv_iconst (pc := 548) (v := (1 : Int32)) hx hb dL_law_548 rfl ?_
  refine lv_iadd (pc := 549) hx hb dL_law_549 ?_
  refine lsld (pc := 550) X hH (hi 1 (by decide) _ rfl) dL_law_550 ?_
  refine lM (pc := 551) (As := [.int (xs (x3 + (1 : Int32)).toNatClampNeg)]) (ov := some (.int r)) (rest := [.int r]) X hH hl.1 (c_X10_fair hm) kw1014 kw1015 kw1016 kw71 kw1017 hy_X10_fair (by decide) (by decide) hcs (zle8 rfl) rfl dL_law_551 (fun H locs hH => ?_)
  refine W.eq (g2 := F0 m 554 ls [.int r, .int r]) rfl ?_
  exact lv_icmp_eq (pc := 554) (tgt := 1048) hx hb dL_law_554 (by decide) (fun _ => kk μC' μM' _ _ hH hr) (fun q => absurd rfl q)
set_option maxRecDepth 100000 in
theorem law_pieces (X : LX GC GM p s m args c b L xs) (hcs : cells ≤ room_1.cells ∧ slots ≤ room_1.slots) {Rel : Mem → Mem → Prop} (hSp : Sp_pieces Rel) {x3 : Int32} (hi : ∀ k : Nat, k < 5 → ∀ k' : Int32, k' = nI k → vp_in (x3 + k') L) (hl : lv_has ls 4 [(0, .ref b), (1, .ref (zad GC 0)), (2, .ref (zad GM 0)), (3, .int x3)]) (hH : LH GC GM s H locs μC μM) (hrel : Rel μC μM) (kk : ∀ (μC' μM' : Mem) (H1 : Heap) (locs1 : List Loc), LH GC GM s H1 locs1 μC' μM' → Rel μC' μM' → W p l e room_1 s m args below meth c H1 locs1 cells slots Q (F0 m 1048 ls [])) : W p l e room_1 s m args below meth c H locs cells slots Q (F0 m 559 ls []) := by
  have hx := X.1
  have hb := X.2.1
  obtain ⟨r, μC', μM', hc, hm, hr⟩ := hSp μC μM (xs (x3 + (1 : Int32)).toNatClampNeg) hrel
  refine lv_aload_n (pc := 559) hx hb dL_law_559 rfl (lv_at hl 1 rfl) ?_
  refine lv_aload_n (pc := 560) hx hb dL_law_560 rfl (lv_at hl 0 rfl) ?_
  refine lv_iload_n (pc := 561) hx hb dL_law_561 rfl (lv_at hl 3 rfl) ?_
  refine lv_iconst (pc := 562) (v := (1 : Int32)) hx hb dL_law_562 rfl ?_
  refine lv_iadd (pc := 563) hx hb dL_law_563 ?_
  refine lsld (pc := 564) X hH (hi 1 (by decide) _ rfl) dL_law_564 ?_
  refine lC (pc := 565) (As := [.int (xs (x3 + (1 : Int32)).toNatClampNeg)]) (ov := some (.int r)) (rest := []) X hH hl.1 (c_X9_pieces hc) kw551 kw552 kw553 kw60 kw554 hy_X9_pieces (by decide) (by decide) hcs (zle8 rfl) rfl dL_law_565 (fun H locs hH => ?_)
  refine W.eq (g2 := F0 m 568 ls [.int r]) rfl ?_
  refine lv_aload_n (pc := 568) hx hb dL_law_568 rfl (lv_at hl 2 rfl) ?_
  refine lv_aload_n (pc := 569) hx hb dL_law_569 rfl (lv_at hl 0 rfl) ?_
  refine lv_iload_n (pc := 570) hx hb dL_law_570 rfl (lv_at hl 3 rfl) ?_
  refine lv_iconst (pc := 571) (v := (1 : Int32)) hx hb dL_law_571 rfl ?_
  refine lv_iadd (pc := 572) hx hb dL_law_572 ?_
  refine lsld (pc := 573) X hH (hi 1 (by decide) _ rfl) dL_law_573 ?_
  refine lM (pc := 574) (As := [.int (xs (x3 + (1 : Int32)).toNatClampNeg)]) (ov := some (.int r)) (rest := [.int r]) X hH hl.1 (c_X10_pieces hm) kw1022 kw1023 kw1024 kw71 kw1025 hy_X10_pieces (by decide) (by decide) hcs (zle8 rfl) rfl dL_law_574 (fun H locs hH => ?_)
  refine W.eq (g2 := F0 m 577 ls [.int r, .int r]) rfl ?_
  exact lv_icmp_eq (pc := 577) (tgt := 1048) hx hb dL_law_577 (by decide) (fun _ => kk μC' μM' _ _ hH hr) (fun q => absurd rfl q)
set_option maxRecDepth 100000 in
theorem law_swaps (X : LX GC GM p s m args c b L xs) (hcs : cells ≤ room_1.cells ∧ slots ≤ room_1.slots) {Rel : Mem → Mem → Prop} (hSp : Sp_swaps Rel) {x3 : Int32} (hi : ∀ k : Nat, k < 5 → ∀ k' : Int32, k' = nI k → vp_in (x3 + k') L) (hl : lv_has ls 4 [(0, .ref b), (1, .ref (zad GC 0)), (2, .ref (zad GM 0)), (3, .int x3)]) (hH : LH GC GM s H locs μC μM) (hrel : Rel μC μM) (kk : ∀ (μC' μM' : Mem) (H1 : Heap) (locs1 : List Loc), LH GC GM s H1 locs1 μC' μM' → Rel μC' μM' → W p l e room_1 s m args below meth c H1 locs1 cells slots Q (F0 m 1048 ls [])) : W p l e room_1 s m args below meth c H locs cells slots Q (F0 m 582 ls []) := by
  have hx := X.1
  have hb := X.2.1
  obtain ⟨r, μC', μM', hc, hm, hr⟩ := hSp μC μM (xs (x3 + (1 : Int32)).toNatClampNeg) hrel
  refine lv_aload_n (pc := 582) hx hb dL_law_582 rfl (lv_at hl 1 rfl) ?_
  refine lv_aload_n (pc := 583) hx hb dL_law_583 rfl (lv_at hl 0 rfl) ?_
  refine lv_iload_n (pc := 584) hx hb dL_law_584 rfl (lv_at hl 3 rfl) ?_
  refine lv_iconst (pc := 585) (v := (1 : Int32)) hx hb dL_law_585 rfl ?_
  refine lv_iadd (pc := 586) hx hb dL_law_586 ?_
  refine lsld (pc := 587) X hH (hi 1 (by decide) _ rfl) dL_law_587 ?_
  refine lC (pc := 588) (As := [.int (xs (x3 + (1 : Int32)).toNatClampNeg)]) (ov := some (.int r)) (rest := []) X hH hl.1 (c_X9_swaps hc) kw569 kw570 kw571 kw60 kw572 hy_X9_swaps (by decide) (by decide) hcs (zle8 rfl) rfl dL_law_588 (fun H locs hH => ?_)
  refine W.eq (g2 := F0 m 591 ls [.int r]) rfl ?_
  refine lv_aload_n (pc := 591) hx hb dL_law_591 rfl (lv_at hl 2 rfl) ?_
  refine lv_aload_n (pc := 592) hx hb dL_law_592 rfl (lv_at hl 0 rfl) ?_
  refine lv_iload_n (pc := 593) hx hb dL_law_593 rfl (lv_at hl 3 rfl) ?_
  refine lv_iconst (pc := 594) (v := (1 : Int32)) hx hb dL_law_594 rfl ?_
  refine lv_iadd (pc := 595) hx hb dL_law_595 ?_
  refine lsld (pc := 596) X hH (hi 1 (by decide) _ rfl) dL_law_596 ?_
  refine lM (pc := 597) (As := [.int (xs (x3 + (1 : Int32)).toNatClampNeg)]) (ov := some (.int r)) (rest := [.int r]) X hH hl.1 (c_X10_swaps hm) kw1038 kw1039 kw1040 kw71 kw1041 hy_X10_swaps (by decide) (by decide) hcs (zle8 rfl) rfl dL_law_597 (fun H locs hH => ?_)
  refine W.eq (g2 := F0 m 600 ls [.int r, .int r]) rfl ?_
  exact lv_icmp_eq (pc := 600) (tgt := 1048) hx hb dL_law_600 (by decide) (fun _ => kk μC' μM' _ _ hH hr) (fun q => absurd rfl q)
set_option maxRecDepth 100000 in
theorem law_steps (X : LX GC GM p s m args c b L xs) (hcs : cells ≤ room_1.cells ∧ slots ≤ room_1.slots) {Rel : Mem → Mem → Prop} (hSp : Sp_steps Rel) {x3 : Int32} (hi : ∀ k : Nat, k < 5 → ∀ k' : Int32, k' = nI k → vp_in (x3 + k') L) (hl : lv_has ls 4 [(0, .ref b), (1, .ref (zad GC 0)), (2, .ref (zad GM 0)), (3, .int x3)]) (hH : LH GC GM s H locs μC μM) (hrel : Rel μC μM) (kk : ∀ (μC' μM' : Mem) (H1 : Heap) (locs1 : List Loc), LH GC GM s H1 locs1 μC' μM' → Rel μC' μM' → W p l e room_1 s m args below meth c H1 locs1 cells slots Q (F0 m 1048 ls [])) : W p l e room_1 s m args below meth c H locs cells slots Q (F0 m 605 ls []) := by
  have hx := X.1
  have hb := X.2.1
  obtain ⟨r, μC', μM', hc, hm, hr⟩ := hSp μC μM hrel
  refine lv_aload_n (pc := 605) hx hb dL_law_605 rfl (lv_at hl 1 rfl) ?_
  refine lC (pc := 606) (As := []) (ov := some (.int r)) (rest := []) X hH hl.1 (c_X9_steps hc) kw590 kw591 kw592 kw60 kw593 hy_X9_steps (by decide) (by decide) hcs (zle8 rfl) rfl dL_law_606 (fun H locs hH => ?_)
  refine W.eq (g2 := F0 m 609 ls [.int r]) rfl ?_
  refine lv_aload_n (pc := 609) hx hb dL_law_609 rfl (lv_at hl 2 rfl) ?_
  refine lM (pc := 610) (As := []) (ov := some (.int r)) (rest := [.int r]) X hH hl.1 (c_X10_steps hm) kw1046 kw1047 kw1048 kw71 kw1049 hy_X10_steps (by decide) (by decide) hcs (zle8 rfl) rfl dL_law_610 (fun H locs hH => ?_)
  refine W.eq (g2 := F0 m 613 ls [.int r, .int r]) rfl ?_
  exact lv_icmp_eq (pc := 613) (tgt := 1048) hx hb dL_law_613 (by decide) (fun _ => kk μC' μM' _ _ hH hr) (fun q => absurd rfl q)
set_option maxRecDepth 100000 in
theorem law_sale (X : LX GC GM p s m args c b L xs) (hcs : cells ≤ room_1.cells ∧ slots ≤ room_1.slots) {Rel : Mem → Mem → Prop} (hSp : Sp_sale Rel) {x3 : Int32} (hi : ∀ k : Nat, k < 5 → ∀ k' : Int32, k' = nI k → vp_in (x3 + k') L) (hl : lv_has ls 4 [(0, .ref b), (1, .ref (zad GC 0)), (2, .ref (zad GM 0)), (3, .int x3)]) (hH : LH GC GM s H locs μC μM) (hrel : Rel μC μM) (kk : ∀ (μC' μM' : Mem) (H1 : Heap) (locs1 : List Loc), LH GC GM s H1 locs1 μC' μM' → Rel μC' μM' → W p l e room_1 s m args below meth c H1 locs1 cells slots Q (F0 m 1048 ls [])) : W p l e room_1 s m args below meth c H locs cells slots Q (F0 m 618 ls []) := by
  have hx := X.1
  have hb := X.2.1
  obtain ⟨r, μC', μM', hc, hm, hr⟩ := hSp μC μM (xs (x3 + (1 : Int32)).toNatClampNeg) (xs (x3 + (2 : Int32)).toNatClampNeg) hrel
  refine lv_aload_n (pc := 618) hx hb dL_law_618 rfl (lv_at hl 1 rfl) ?_
  refine lv_aload_n (pc := 619) hx hb dL_law_619 rfl (lv_at hl 0 rfl) ?_
  refine lv_iload_n (pc := 620) hx hb dL_law_620 rfl (lv_at hl 3 rfl) ?_
  refine lv_iconst (pc := 621) (v := (1 : Int32)) hx hb dL_law_621 rfl ?_
  refine lv_iadd (pc := 622) hx hb dL_law_622 ?_
  refine lsld (pc := 623) X hH (hi 1 (by decide) _ rfl) dL_law_623 ?_
  refine lv_aload_n (pc := 624) hx hb dL_law_624 rfl (lv_at hl 0 rfl) ?_
  refine lv_iload_n (pc := 625) hx hb dL_law_625 rfl (lv_at hl 3 rfl) ?_
  refine lv_iconst (pc := 626) (v := (2 : Int32)) hx hb dL_law_626 rfl ?_
  refine lv_iadd (pc := 627) hx hb dL_law_627 ?_
  refine lsld (pc := 628) X hH (hi 2 (by decide) _ rfl) dL_law_628 ?_
  refine lC (pc := 629) (As := [.int (xs (x3 + (1 : Int32)).toNatClampNeg), .int (xs (x3 + (2 : Int32)).toNatClampNeg)]) (ov := some (.int r)) (rest := []) X hH hl.1 (c_X9_sale hc) kw594 kw595 kw596 kw60 kw597 hy_X9_sale (by decide) (by decide) hcs (zle8 rfl) rfl dL_law_629 (fun H locs hH => ?_)
  refine W.eq (g2 := F0 m 632 ls [.int r]) rfl ?_
  refine lv_aload_n (pc := 632) hx hb dL_law_632 rfl (lv_at hl 2 rfl) ?_
  refine lv_aload_n (pc := 633) hx hb dL_law_633 rfl (lv_at hl 0 rfl) ?_
  refine lv_iload_n (pc := 634) hx hb dL_law_634 rfl (lv_at hl 3 rfl) ?_
  refine lv_iconst (pc := 635) (v := (1 : Int32)) hx hb dL_law_635 rfl ?_
  refine lv_iadd (pc := 636) hx hb dL_law_636 ?_
  refine lsld (pc := 637) X hH (hi 1 (by decide) _ rfl) dL_law_637 ?_
  refine lv_aload_n (pc := 638) hx hb dL_law_638 rfl (lv_at hl 0 rfl) ?_
  refine lv_iload_n (pc := 639) hx hb dL_law_639 rfl (lv_at hl 3 rfl) ?_
  refine lv_iconst (pc := 640) (v := (2 : Int32)) hx hb dL_law_640 rfl ?_
  refine lv_iadd (pc := 641) hx hb dL_law_641 ?_
  refine lsld (pc := 642) X hH (hi 2 (by decide) _ rfl) dL_law_642 ?_
  refine lM (pc := 643) (As := [.int (xs (x3 + (1 : Int32)).toNatClampNeg), .int (xs (x3 + (2 : Int32)).toNatClampNeg)]) (ov := some (.int r)) (rest := [.int r]) X hH hl.1 (c_X10_sale hm) kw1062 kw1063 kw1064 kw71 kw1065 hy_X10_sale (by decide) (by decide) hcs (zle8 rfl) rfl dL_law_643 (fun H locs hH => ?_)
  refine W.eq (g2 := F0 m 646 ls [.int r, .int r]) rfl ?_
  exact lv_icmp_eq (pc := 646) (tgt := 1048) hx hb dL_law_646 (by decide) (fun _ => kk μC' μM' _ _ hH hr) (fun q => absurd rfl q)
set_option maxRecDepth 100000 in
theorem law_longest (X : LX GC GM p s m args c b L xs) (hcs : cells ≤ room_1.cells ∧ slots ≤ room_1.slots) {Rel : Mem → Mem → Prop} (hSp : Sp_longest Rel) {x3 : Int32} (hi : ∀ k : Nat, k < 5 → ∀ k' : Int32, k' = nI k → vp_in (x3 + k') L) (hl : lv_has ls 4 [(0, .ref b), (1, .ref (zad GC 0)), (2, .ref (zad GM 0)), (3, .int x3)]) (hH : LH GC GM s H locs μC μM) (hrel : Rel μC μM) (kk : ∀ (μC' μM' : Mem) (H1 : Heap) (locs1 : List Loc), LH GC GM s H1 locs1 μC' μM' → Rel μC' μM' → W p l e room_1 s m args below meth c H1 locs1 cells slots Q (F0 m 1048 ls [])) : W p l e room_1 s m args below meth c H locs cells slots Q (F0 m 651 ls []) := by
  have hx := X.1
  have hb := X.2.1
  obtain ⟨r, μC', μM', hc, hm, hr⟩ := hSp μC μM (xs (x3 + (1 : Int32)).toNatClampNeg) hrel
  refine lv_aload_n (pc := 651) hx hb dL_law_651 rfl (lv_at hl 1 rfl) ?_
  refine lv_aload_n (pc := 652) hx hb dL_law_652 rfl (lv_at hl 0 rfl) ?_
  refine lv_iload_n (pc := 653) hx hb dL_law_653 rfl (lv_at hl 3 rfl) ?_
  refine lv_iconst (pc := 654) (v := (1 : Int32)) hx hb dL_law_654 rfl ?_
  refine lv_iadd (pc := 655) hx hb dL_law_655 ?_
  refine lsld (pc := 656) X hH (hi 1 (by decide) _ rfl) dL_law_656 ?_
  refine lC (pc := 657) (As := [.int (xs (x3 + (1 : Int32)).toNatClampNeg)]) (ov := some (.int r)) (rest := []) X hH hl.1 (c_X9_longest hc) kw611 kw612 kw613 kw60 kw614 hy_X9_longest (by decide) (by decide) hcs (zle8 rfl) rfl dL_law_657 (fun H locs hH => ?_)
  refine W.eq (g2 := F0 m 660 ls [.int r]) rfl ?_
  refine lv_aload_n (pc := 660) hx hb dL_law_660 rfl (lv_at hl 2 rfl) ?_
  refine lv_aload_n (pc := 661) hx hb dL_law_661 rfl (lv_at hl 0 rfl) ?_
  refine lv_iload_n (pc := 662) hx hb dL_law_662 rfl (lv_at hl 3 rfl) ?_
  refine lv_iconst (pc := 663) (v := (1 : Int32)) hx hb dL_law_663 rfl ?_
  refine lv_iadd (pc := 664) hx hb dL_law_664 ?_
  refine lsld (pc := 665) X hH (hi 1 (by decide) _ rfl) dL_law_665 ?_
  refine lM (pc := 666) (As := [.int (xs (x3 + (1 : Int32)).toNatClampNeg)]) (ov := some (.int r)) (rest := [.int r]) X hH hl.1 (c_X10_longest hm) kw1066 kw1067 kw1068 kw71 kw1069 hy_X10_longest (by decide) (by decide) hcs (zle8 rfl) rfl dL_law_666 (fun H locs hH => ?_)
  refine W.eq (g2 := F0 m 669 ls [.int r, .int r]) rfl ?_
  exact lv_icmp_eq (pc := 669) (tgt := 1048) hx hb dL_law_669 (by decide) (fun _ => kk μC' μM' _ _ hH hr) (fun q => absurd rfl q)
set_option maxRecDepth 100000 in
theorem law_together (X : LX GC GM p s m args c b L xs) (hcs : cells ≤ room_1.cells ∧ slots ≤ room_1.slots) {Rel : Mem → Mem → Prop} (hSp : Sp_together Rel) {x3 : Int32} (hi : ∀ k : Nat, k < 5 → ∀ k' : Int32, k' = nI k → vp_in (x3 + k') L) (hl : lv_has ls 4 [(0, .ref b), (1, .ref (zad GC 0)), (2, .ref (zad GM 0)), (3, .int x3)]) (hH : LH GC GM s H locs μC μM) (hrel : Rel μC μM) (kk : ∀ (μC' μM' : Mem) (H1 : Heap) (locs1 : List Loc), LH GC GM s H1 locs1 μC' μM' → Rel μC' μM' → W p l e room_1 s m args below meth c H1 locs1 cells slots Q (F0 m 1048 ls [])) : W p l e room_1 s m args below meth c H locs cells slots Q (F0 m 674 ls []) := by
  have hx := X.1
  have hb := X.2.1
  obtain ⟨r, μC', μM', hc, hm, hr⟩ := hSp μC μM (xs (x3 + (1 : Int32)).toNatClampNeg) (xs (x3 + (2 : Int32)).toNatClampNeg) hrel
  refine lv_aload_n (pc := 674) hx hb dL_law_674 rfl (lv_at hl 1 rfl) ?_
  refine lv_aload_n (pc := 675) hx hb dL_law_675 rfl (lv_at hl 0 rfl) ?_
  refine lv_iload_n (pc := 676) hx hb dL_law_676 rfl (lv_at hl 3 rfl) ?_
  refine lv_iconst (pc := 677) (v := (1 : Int32)) hx hb dL_law_677 rfl ?_
  refine lv_iadd (pc := 678) hx hb dL_law_678 ?_
  refine lsld (pc := 679) X hH (hi 1 (by decide) _ rfl) dL_law_679 ?_
  refine lv_aload_n (pc := 680) hx hb dL_law_680 rfl (lv_at hl 0 rfl) ?_
  refine lv_iload_n (pc := 681) hx hb dL_law_681 rfl (lv_at hl 3 rfl) ?_
  refine lv_iconst (pc := 682) (v := (2 : Int32)) hx hb dL_law_682 rfl ?_
  refine lv_iadd (pc := 683) hx hb dL_law_683 ?_
  refine lsld (pc := 684) X hH (hi 2 (by decide) _ rfl) dL_law_684 ?_
  refine lC (pc := 685) (As := [.int (xs (x3 + (1 : Int32)).toNatClampNeg), .int (xs (x3 + (2 : Int32)).toNatClampNeg)]) (ov := some (.int r)) (rest := []) X hH hl.1 (c_X9_together hc) kw619 kw620 kw621 kw60 kw622 hy_X9_together (by decide) (by decide) hcs (zle8 rfl) rfl dL_law_685 (fun H locs hH => ?_)
  refine W.eq (g2 := F0 m 688 ls [.int r]) rfl ?_
  refine lv_aload_n (pc := 688) hx hb dL_law_688 rfl (lv_at hl 2 rfl) ?_
  refine lv_aload_n (pc := 689) hx hb dL_law_689 rfl (lv_at hl 0 rfl) ?_
  refine lv_iload_n (pc := 690) hx hb dL_law_690 rfl (lv_at hl 3 rfl) ?_
  refine lv_iconst (pc := 691) (v := (1 : Int32)) hx hb dL_law_691 rfl ?_
  refine lv_iadd (pc := 692) hx hb dL_law_692 ?_
  refine lsld (pc := 693) X hH (hi 1 (by decide) _ rfl) dL_law_693 ?_
  refine lv_aload_n (pc := 694) hx hb dL_law_694 rfl (lv_at hl 0 rfl) ?_
  refine lv_iload_n (pc := 695) hx hb dL_law_695 rfl (lv_at hl 3 rfl) ?_
  refine lv_iconst (pc := 696) (v := (2 : Int32)) hx hb dL_law_696 rfl ?_
  refine lv_iadd (pc := 697) hx hb dL_law_697 ?_
  refine lsld (pc := 698) X hH (hi 2 (by decide) _ rfl) dL_law_698 ?_
  refine lM (pc := 699) (As := [.int (xs (x3 + (1 : Int32)).toNatClampNeg), .int (xs (x3 + (2 : Int32)).toNatClampNeg)]) (ov := some (.int r)) (rest := [.int r]) X hH hl.1 (c_X10_together hm) kw1070 kw1071 kw1072 kw71 kw1073 hy_X10_together (by decide) (by decide) hcs (zle8 rfl) rfl dL_law_699 (fun H locs hH => ?_)
  refine W.eq (g2 := F0 m 702 ls [.int r, .int r]) rfl ?_
  exact lv_icmp_eq (pc := 702) (tgt := 1048) hx hb dL_law_702 (by decide) (fun _ => kk μC' μM' _ _ hH hr) (fun q => absurd rfl q)
set_option maxRecDepth 100000 in
theorem law_note (X : LX GC GM p s m args c b L xs) (hcs : cells ≤ room_1.cells ∧ slots ≤ room_1.slots) {Rel : Mem → Mem → Prop} (hSp : Sp_note Rel) {x3 : Int32} (hi : ∀ k : Nat, k < 5 → ∀ k' : Int32, k' = nI k → vp_in (x3 + k') L) (hl : lv_has ls 4 [(0, .ref b), (1, .ref (zad GC 0)), (2, .ref (zad GM 0)), (3, .int x3)]) (hH : LH GC GM s H locs μC μM) (hrel : Rel μC μM) (kk : ∀ (μC' μM' : Mem) (H1 : Heap) (locs1 : List Loc), LH GC GM s H1 locs1 μC' μM' → Rel μC' μM' → W p l e room_1 s m args below meth c H1 locs1 cells slots Q (F0 m 1048 ls [])) : W p l e room_1 s m args below meth c H locs cells slots Q (F0 m 707 ls []) := by
  have hx := X.1
  have hb := X.2.1
  obtain ⟨r, μC', μM', hc, hm, hr⟩ := hSp μC μM (xs (x3 + (1 : Int32)).toNatClampNeg) (xs (x3 + (2 : Int32)).toNatClampNeg) (xs (x3 + (3 : Int32)).toNatClampNeg) (xs (x3 + (4 : Int32)).toNatClampNeg) hrel
  refine lv_aload_n (pc := 707) hx hb dL_law_707 rfl (lv_at hl 1 rfl) ?_
  refine lv_aload_n (pc := 708) hx hb dL_law_708 rfl (lv_at hl 0 rfl) ?_
  refine lv_iload_n (pc := 709) hx hb dL_law_709 rfl (lv_at hl 3 rfl) ?_
  refine lv_iconst (pc := 710) (v := (1 : Int32)) hx hb dL_law_710 rfl ?_
  refine lv_iadd (pc := 711) hx hb dL_law_711 ?_
  refine lsld (pc := 712) X hH (hi 1 (by decide) _ rfl) dL_law_712 ?_
  refine lv_aload_n (pc := 713) hx hb dL_law_713 rfl (lv_at hl 0 rfl) ?_
  refine lv_iload_n (pc := 714) hx hb dL_law_714 rfl (lv_at hl 3 rfl) ?_
  refine lv_iconst (pc := 715) (v := (2 : Int32)) hx hb dL_law_715 rfl ?_
  refine lv_iadd (pc := 716) hx hb dL_law_716 ?_
  refine lsld (pc := 717) X hH (hi 2 (by decide) _ rfl) dL_law_717 ?_
  refine lv_aload_n (pc := 718) hx hb dL_law_718 rfl (lv_at hl 0 rfl) ?_
  refine lv_iload_n (pc := 719) hx hb dL_law_719 rfl (lv_at hl 3 rfl) ?_
  refine lv_iconst (pc := 720) (v := (3 : Int32)) hx hb dL_law_720 rfl ?_
  refine lv_iadd (pc := 721) hx hb dL_law_721 ?_
  refine lsld (pc := 722) X hH (hi 3 (by decide) _ rfl) dL_law_722 ?_
  refine lv_aload_n (pc := 723) hx hb dL_law_723 rfl (lv_at hl 0 rfl) ?_
  refine lv_iload_n (pc := 724) hx hb dL_law_724 rfl (lv_at hl 3 rfl) ?_
  refine lv_iconst (pc := 725) (v := (4 : Int32)) hx hb dL_law_725 rfl ?_
  refine lv_iadd (pc := 726) hx hb dL_law_726 ?_
  refine lsld (pc := 727) X hH (hi 4 (by decide) _ rfl) dL_law_727 ?_
  refine lC (pc := 728) (As := [.int (xs (x3 + (1 : Int32)).toNatClampNeg), .int (xs (x3 + (2 : Int32)).toNatClampNeg), .int (xs (x3 + (3 : Int32)).toNatClampNeg), .int (xs (x3 + (4 : Int32)).toNatClampNeg)]) (ov := some (.int r)) (rest := []) X hH hl.1 (c_X9_note hc) kw627 kw628 kw629 kw60 kw630 hy_X9_note (by decide) (by decide) hcs (zle8 rfl) rfl dL_law_728 (fun H locs hH => ?_)
  refine W.eq (g2 := F0 m 731 ls [.int r]) rfl ?_
  refine lv_aload_n (pc := 731) hx hb dL_law_731 rfl (lv_at hl 2 rfl) ?_
  refine lv_aload_n (pc := 732) hx hb dL_law_732 rfl (lv_at hl 0 rfl) ?_
  refine lv_iload_n (pc := 733) hx hb dL_law_733 rfl (lv_at hl 3 rfl) ?_
  refine lv_iconst (pc := 734) (v := (1 : Int32)) hx hb dL_law_734 rfl ?_
  refine lv_iadd (pc := 735) hx hb dL_law_735 ?_
  refine lsld (pc := 736) X hH (hi 1 (by decide) _ rfl) dL_law_736 ?_
  refine lv_aload_n (pc := 737) hx hb dL_law_737 rfl (lv_at hl 0 rfl) ?_
  refine lv_iload_n (pc := 738) hx hb dL_law_738 rfl (lv_at hl 3 rfl) ?_
  refine lv_iconst (pc := 739) (v := (2 : Int32)) hx hb dL_law_739 rfl ?_
  refine lv_iadd (pc := 740) hx hb dL_law_740 ?_
  refine lsld (pc := 741) X hH (hi 2 (by decide) _ rfl) dL_law_741 ?_
  refine lv_aload_n (pc := 742) hx hb dL_law_742 rfl (lv_at hl 0 rfl) ?_
  refine lv_iload_n (pc := 743) hx hb dL_law_743 rfl (lv_at hl 3 rfl) ?_
  refine lv_iconst (pc := 744) (v := (3 : Int32)) hx hb dL_law_744 rfl ?_
  refine lv_iadd (pc := 745) hx hb dL_law_745 ?_
  refine lsld (pc := 746) X hH (hi 3 (by decide) _ rfl) dL_law_746 ?_
  refine lv_aload_n (pc := 747) hx hb dL_law_747 rfl (lv_at hl 0 rfl) ?_
  refine lv_iload_n (pc := 748) hx hb dL_law_748 rfl (lv_at hl 3 rfl) ?_
  refine lv_iconst (pc := 749) (v := (4 : Int32)) hx hb dL_law_749 rfl ?_
  refine lv_iadd (pc := 750) hx hb dL_law_750 ?_
  refine lsld (pc := 751) X hH (hi 4 (by decide) _ rfl) dL_law_751 ?_
  refine lM (pc := 752) (As := [.int (xs (x3 + (1 : Int32)).toNatClampNeg), .int (xs (x3 + (2 : Int32)).toNatClampNeg), .int (xs (x3 + (3 : Int32)).toNatClampNeg), .int (xs (x3 + (4 : Int32)).toNatClampNeg)]) (ov := some (.int r)) (rest := [.int r]) X hH hl.1 (c_X10_note hm) kw1074 kw1075 kw1076 kw71 kw1077 hy_X10_note (by decide) (by decide) hcs (zle8 rfl) rfl dL_law_752 (fun H locs hH => ?_)
  refine W.eq (g2 := F0 m 755 ls [.int r, .int r]) rfl ?_
  exact lv_icmp_eq (pc := 755) (tgt := 1048) hx hb dL_law_755 (by decide) (fun _ => kk μC' μM' _ _ hH hr) (fun q => absurd rfl q)
set_option maxRecDepth 100000 in
theorem law_forget (X : LX GC GM p s m args c b L xs) (hcs : cells ≤ room_1.cells ∧ slots ≤ room_1.slots) {Rel : Mem → Mem → Prop} (hSp : Sp_forget Rel) {x3 : Int32} (hi : ∀ k : Nat, k < 5 → ∀ k' : Int32, k' = nI k → vp_in (x3 + k') L) (hl : lv_has ls 4 [(0, .ref b), (1, .ref (zad GC 0)), (2, .ref (zad GM 0)), (3, .int x3)]) (hH : LH GC GM s H locs μC μM) (hrel : Rel μC μM) (kk : ∀ (μC' μM' : Mem) (H1 : Heap) (locs1 : List Loc), LH GC GM s H1 locs1 μC' μM' → Rel μC' μM' → W p l e room_1 s m args below meth c H1 locs1 cells slots Q (F0 m 1048 ls [])) : W p l e room_1 s m args below meth c H locs cells slots Q (F0 m 760 ls []) := by
  have hx := X.1
  have hb := X.2.1
  obtain ⟨r, μC', μM', hc, hm, hr⟩ := hSp μC μM hrel
  refine lv_aload_n (pc := 760) hx hb dL_law_760 rfl (lv_at hl 1 rfl) ?_
  refine lC (pc := 761) (As := []) (ov := some (.int r)) (rest := []) X hH hl.1 (c_X9_forget hc) kw635 kw636 kw637 kw60 kw638 hy_X9_forget (by decide) (by decide) hcs (zle8 rfl) rfl dL_law_761 (fun H locs hH => ?_)
  refine W.eq (g2 := F0 m 764 ls [.int r]) rfl ?_
  refine lv_aload_n (pc := 764) hx hb dL_law_764 rfl (lv_at hl 2 rfl) ?_
  refine lM (pc := 765) (As := []) (ov := some (.int r)) (rest := [.int r]) X hH hl.1 (c_X10_forget hm) kw1078 kw1079 kw1080 kw71 kw1081 hy_X10_forget (by decide) (by decide) hcs (zle8 rfl) rfl dL_law_765 (fun H locs hH => ?_)
  refine W.eq (g2 := F0 m 768 ls [.int r, .int r]) rfl ?_
  exact lv_icmp_eq (pc := 768) (tgt := 1048) hx hb dL_law_768 (by decide) (fun _ => kk μC' μM' _ _ hH hr) (fun q => absurd rfl q)
set_option maxRecDepth 100000 in
theorem law_is (X : LX GC GM p s m args c b L xs) (hcs : cells ≤ room_1.cells ∧ slots ≤ room_1.slots) {Rel : Mem → Mem → Prop} (hSp : Sp_is Rel) {x3 : Int32} (hi : ∀ k : Nat, k < 5 → ∀ k' : Int32, k' = nI k → vp_in (x3 + k') L) (hl : lv_has ls 4 [(0, .ref b), (1, .ref (zad GC 0)), (2, .ref (zad GM 0)), (3, .int x3)]) (hH : LH GC GM s H locs μC μM) (hrel : Rel μC μM) (kk : ∀ (μC' μM' : Mem) (H1 : Heap) (locs1 : List Loc), LH GC GM s H1 locs1 μC' μM' → Rel μC' μM' → W p l e room_1 s m args below meth c H1 locs1 cells slots Q (F0 m 1048 ls [])) : W p l e room_1 s m args below meth c H locs cells slots Q (F0 m 773 ls []) := by
  have hx := X.1
  have hb := X.2.1
  obtain ⟨r, μC', μM', hc, hm, hr⟩ := hSp μC μM (xs (x3 + (1 : Int32)).toNatClampNeg) hrel
  refine lv_aload_n (pc := 773) hx hb dL_law_773 rfl (lv_at hl 1 rfl) ?_
  refine lv_aload_n (pc := 774) hx hb dL_law_774 rfl (lv_at hl 0 rfl) ?_
  refine lv_iload_n (pc := 775) hx hb dL_law_775 rfl (lv_at hl 3 rfl) ?_
  refine lv_iconst (pc := 776) (v := (1 : Int32)) hx hb dL_law_776 rfl ?_
  refine lv_iadd (pc := 777) hx hb dL_law_777 ?_
  refine lsld (pc := 778) X hH (hi 1 (by decide) _ rfl) dL_law_778 ?_
  refine lC (pc := 779) (As := [.int (xs (x3 + (1 : Int32)).toNatClampNeg)]) (ov := some (.int r)) (rest := []) X hH hl.1 (c_X9_is hc) kw639 kw640 kw641 kw60 kw642 hy_X9_is (by decide) (by decide) hcs (zle8 rfl) rfl dL_law_779 (fun H locs hH => ?_)
  refine W.eq (g2 := F0 m 782 ls [.int r]) rfl ?_
  refine lv_aload_n (pc := 782) hx hb dL_law_782 rfl (lv_at hl 2 rfl) ?_
  refine lv_aload_n (pc := 783) hx hb dL_law_783 rfl (lv_at hl 0 rfl) ?_
  refine lv_iload_n (pc := 784) hx hb dL_law_784 rfl (lv_at hl 3 rfl) ?_
  refine lv_iconst (pc := 785) (v := (1 : Int32)) hx hb dL_law_785 rfl ?_
  refine lv_iadd (pc := 786) hx hb dL_law_786 ?_
  refine lsld (pc := 787) X hH (hi 1 (by decide) _ rfl) dL_law_787 ?_
  refine lM (pc := 788) (As := [.int (xs (x3 + (1 : Int32)).toNatClampNeg)]) (ov := some (.int r)) (rest := [.int r]) X hH hl.1 (c_X10_is hm) kw1082 kw1083 kw1084 kw71 kw1085 hy_X10_is (by decide) (by decide) hcs (zle8 rfl) rfl dL_law_788 (fun H locs hH => ?_)
  refine W.eq (g2 := F0 m 791 ls [.int r, .int r]) rfl ?_
  exact lv_icmp_eq (pc := 791) (tgt := 1048) hx hb dL_law_791 (by decide) (fun _ => kk μC' μM' _ _ hH hr) (fun q => absurd rfl q)
set_option maxRecDepth 100000 in
theorem law_asks (X : LX GC GM p s m args c b L xs) (hcs : cells ≤ room_1.cells ∧ slots ≤ room_1.slots) {Rel : Mem → Mem → Prop} (hSp : Sp_asks Rel) {x3 : Int32} (hi : ∀ k : Nat, k < 5 → ∀ k' : Int32, k' = nI k → vp_in (x3 + k') L) (hl : lv_has ls 4 [(0, .ref b), (1, .ref (zad GC 0)), (2, .ref (zad GM 0)), (3, .int x3)]) (hH : LH GC GM s H locs μC μM) (hrel : Rel μC μM) (kk : ∀ (μC' μM' : Mem) (H1 : Heap) (locs1 : List Loc), LH GC GM s H1 locs1 μC' μM' → Rel μC' μM' → W p l e room_1 s m args below meth c H1 locs1 cells slots Q (F0 m 1048 ls [])) : W p l e room_1 s m args below meth c H locs cells slots Q (F0 m 796 ls []) := by
  have hx := X.1
  have hb := X.2.1
  obtain ⟨r, μC', μM', hc, hm, hr⟩ := hSp μC μM (xs (x3 + (1 : Int32)).toNatClampNeg) hrel
  refine lv_aload_n (pc := 796) hx hb dL_law_796 rfl (lv_at hl 1 rfl) ?_
  refine lv_aload_n (pc := 797) hx hb dL_law_797 rfl (lv_at hl 0 rfl) ?_
  refine lv_iload_n (pc := 798) hx hb dL_law_798 rfl (lv_at hl 3 rfl) ?_
  refine lv_iconst (pc := 799) (v := (1 : Int32)) hx hb dL_law_799 rfl ?_
  refine lv_iadd (pc := 800) hx hb dL_law_800 ?_
  refine lsld (pc := 801) X hH (hi 1 (by decide) _ rfl) dL_law_801 ?_
  refine lC (pc := 802) (As := [.int (xs (x3 + (1 : Int32)).toNatClampNeg)]) (ov := some (.int r)) (rest := []) X hH hl.1 (c_X9_asks hc) kw651 kw652 kw653 kw60 kw654 hy_X9_asks (by decide) (by decide) hcs (zle8 rfl) rfl dL_law_802 (fun H locs hH => ?_)
  refine W.eq (g2 := F0 m 805 ls [.int r]) rfl ?_
  refine lv_aload_n (pc := 805) hx hb dL_law_805 rfl (lv_at hl 2 rfl) ?_
  refine lv_aload_n (pc := 806) hx hb dL_law_806 rfl (lv_at hl 0 rfl) ?_
  refine lv_iload_n (pc := 807) hx hb dL_law_807 rfl (lv_at hl 3 rfl) ?_
  refine lv_iconst (pc := 808) (v := (1 : Int32)) hx hb dL_law_808 rfl ?_
  refine lv_iadd (pc := 809) hx hb dL_law_809 ?_
  refine lsld (pc := 810) X hH (hi 1 (by decide) _ rfl) dL_law_810 ?_
  refine lM (pc := 811) (As := [.int (xs (x3 + (1 : Int32)).toNatClampNeg)]) (ov := some (.int r)) (rest := [.int r]) X hH hl.1 (c_X10_asks hm) kw1090 kw1091 kw1092 kw71 kw1093 hy_X10_asks (by decide) (by decide) hcs (zle8 rfl) rfl dL_law_811 (fun H locs hH => ?_)
  refine W.eq (g2 := F0 m 814 ls [.int r, .int r]) rfl ?_
  exact lv_icmp_eq (pc := 814) (tgt := 1048) hx hb dL_law_814 (by decide) (fun _ => kk μC' μM' _ _ hH hr) (fun q => absurd rfl q)
set_option maxRecDepth 100000 in
theorem law_took (X : LX GC GM p s m args c b L xs) (hcs : cells ≤ room_1.cells ∧ slots ≤ room_1.slots) {Rel : Mem → Mem → Prop} (hSp : Sp_took Rel) {x3 : Int32} (hi : ∀ k : Nat, k < 5 → ∀ k' : Int32, k' = nI k → vp_in (x3 + k') L) (hl : lv_has ls 4 [(0, .ref b), (1, .ref (zad GC 0)), (2, .ref (zad GM 0)), (3, .int x3)]) (hH : LH GC GM s H locs μC μM) (hrel : Rel μC μM) (kk : ∀ (μC' μM' : Mem) (H1 : Heap) (locs1 : List Loc), LH GC GM s H1 locs1 μC' μM' → Rel μC' μM' → W p l e room_1 s m args below meth c H1 locs1 cells slots Q (F0 m 1048 ls [])) : W p l e room_1 s m args below meth c H locs cells slots Q (F0 m 819 ls []) := by
  have hx := X.1
  have hb := X.2.1
  obtain ⟨r, μC', μM', hc, hm, hr⟩ := hSp μC μM (xs (x3 + (1 : Int32)).toNatClampNeg) (xs (x3 + (2 : Int32)).toNatClampNeg) hrel
  refine lv_aload_n (pc := 819) hx hb dL_law_819 rfl (lv_at hl 1 rfl) ?_
  refine lv_aload_n (pc := 820) hx hb dL_law_820 rfl (lv_at hl 0 rfl) ?_
  refine lv_iload_n (pc := 821) hx hb dL_law_821 rfl (lv_at hl 3 rfl) ?_
  refine lv_iconst (pc := 822) (v := (1 : Int32)) hx hb dL_law_822 rfl ?_
  refine lv_iadd (pc := 823) hx hb dL_law_823 ?_
  refine lsld (pc := 824) X hH (hi 1 (by decide) _ rfl) dL_law_824 ?_
  refine lv_aload_n (pc := 825) hx hb dL_law_825 rfl (lv_at hl 0 rfl) ?_
  refine lv_iload_n (pc := 826) hx hb dL_law_826 rfl (lv_at hl 3 rfl) ?_
  refine lv_iconst (pc := 827) (v := (2 : Int32)) hx hb dL_law_827 rfl ?_
  refine lv_iadd (pc := 828) hx hb dL_law_828 ?_
  refine lsld (pc := 829) X hH (hi 2 (by decide) _ rfl) dL_law_829 ?_
  refine lC (pc := 830) (As := [.int (xs (x3 + (1 : Int32)).toNatClampNeg), .int (xs (x3 + (2 : Int32)).toNatClampNeg)]) (ov := some (.int r)) (rest := []) X hH hl.1 (c_X9_took hc) kw668 kw669 kw670 kw60 kw671 hy_X9_took (by decide) (by decide) hcs (zle8 rfl) rfl dL_law_830 (fun H locs hH => ?_)
  refine W.eq (g2 := F0 m 833 ls [.int r]) rfl ?_
  refine lv_aload_n (pc := 833) hx hb dL_law_833 rfl (lv_at hl 2 rfl) ?_
  refine lv_aload_n (pc := 834) hx hb dL_law_834 rfl (lv_at hl 0 rfl) ?_
  refine lv_iload_n (pc := 835) hx hb dL_law_835 rfl (lv_at hl 3 rfl) ?_
  refine lv_iconst (pc := 836) (v := (1 : Int32)) hx hb dL_law_836 rfl ?_
  refine lv_iadd (pc := 837) hx hb dL_law_837 ?_
  refine lsld (pc := 838) X hH (hi 1 (by decide) _ rfl) dL_law_838 ?_
  refine lv_aload_n (pc := 839) hx hb dL_law_839 rfl (lv_at hl 0 rfl) ?_
  refine lv_iload_n (pc := 840) hx hb dL_law_840 rfl (lv_at hl 3 rfl) ?_
  refine lv_iconst (pc := 841) (v := (2 : Int32)) hx hb dL_law_841 rfl ?_
  refine lv_iadd (pc := 842) hx hb dL_law_842 ?_
  refine lsld (pc := 843) X hH (hi 2 (by decide) _ rfl) dL_law_843 ?_
  refine lM (pc := 844) (As := [.int (xs (x3 + (1 : Int32)).toNatClampNeg), .int (xs (x3 + (2 : Int32)).toNatClampNeg)]) (ov := some (.int r)) (rest := [.int r]) X hH hl.1 (c_X10_took hm) kw1097 kw1098 kw1099 kw71 kw1100 hy_X10_took (by decide) (by decide) hcs (zle8 rfl) rfl dL_law_844 (fun H locs hH => ?_)
  refine W.eq (g2 := F0 m 847 ls [.int r, .int r]) rfl ?_
  exact lv_icmp_eq (pc := 847) (tgt := 1048) hx hb dL_law_847 (by decide) (fun _ => kk μC' μM' _ _ hH hr) (fun q => absurd rfl q)
set_option maxRecDepth 100000 in
theorem law_owls (X : LX GC GM p s m args c b L xs) (hcs : cells ≤ room_1.cells ∧ slots ≤ room_1.slots) {Rel : Mem → Mem → Prop} (hSp : Sp_owls Rel) {x3 : Int32} (hi : ∀ k : Nat, k < 5 → ∀ k' : Int32, k' = nI k → vp_in (x3 + k') L) (hl : lv_has ls 4 [(0, .ref b), (1, .ref (zad GC 0)), (2, .ref (zad GM 0)), (3, .int x3)]) (hH : LH GC GM s H locs μC μM) (hrel : Rel μC μM) (kk : ∀ (μC' μM' : Mem) (H1 : Heap) (locs1 : List Loc), LH GC GM s H1 locs1 μC' μM' → Rel μC' μM' → W p l e room_1 s m args below meth c H1 locs1 cells slots Q (F0 m 1048 ls [])) : W p l e room_1 s m args below meth c H locs cells slots Q (F0 m 852 ls []) := by
  have hx := X.1
  have hb := X.2.1
  obtain ⟨r, μC', μM', hc, hm, hr⟩ := hSp μC μM (xs (x3 + (1 : Int32)).toNatClampNeg) (xs (x3 + (2 : Int32)).toNatClampNeg) hrel
  refine lv_aload_n (pc := 852) hx hb dL_law_852 rfl (lv_at hl 1 rfl) ?_
  refine lv_aload_n (pc := 853) hx hb dL_law_853 rfl (lv_at hl 0 rfl) ?_
  refine lv_iload_n (pc := 854) hx hb dL_law_854 rfl (lv_at hl 3 rfl) ?_
  refine lv_iconst (pc := 855) (v := (1 : Int32)) hx hb dL_law_855 rfl ?_
  refine lv_iadd (pc := 856) hx hb dL_law_856 ?_
  refine lsld (pc := 857) X hH (hi 1 (by decide) _ rfl) dL_law_857 ?_
  refine lv_aload_n (pc := 858) hx hb dL_law_858 rfl (lv_at hl 0 rfl) ?_
  refine lv_iload_n (pc := 859) hx hb dL_law_859 rfl (lv_at hl 3 rfl) ?_
  refine lv_iconst (pc := 860) (v := (2 : Int32)) hx hb dL_law_860 rfl ?_
  refine lv_iadd (pc := 861) hx hb dL_law_861 ?_
  refine lsld (pc := 862) X hH (hi 2 (by decide) _ rfl) dL_law_862 ?_
  refine lC (pc := 863) (As := [.int (xs (x3 + (1 : Int32)).toNatClampNeg), .int (xs (x3 + (2 : Int32)).toNatClampNeg)]) (ov := some (.int r)) (rest := []) X hH hl.1 (c_X9_owls hc) kw676 kw677 kw678 kw60 kw679 hy_X9_owls (by decide) (by decide) hcs (zle8 rfl) rfl dL_law_863 (fun H locs hH => ?_)
  refine W.eq (g2 := F0 m 866 ls [.int r]) rfl ?_
  refine lv_aload_n (pc := 866) hx hb dL_law_866 rfl (lv_at hl 2 rfl) ?_
  refine lv_aload_n (pc := 867) hx hb dL_law_867 rfl (lv_at hl 0 rfl) ?_
  refine lv_iload_n (pc := 868) hx hb dL_law_868 rfl (lv_at hl 3 rfl) ?_
  refine lv_iconst (pc := 869) (v := (1 : Int32)) hx hb dL_law_869 rfl ?_
  refine lv_iadd (pc := 870) hx hb dL_law_870 ?_
  refine lsld (pc := 871) X hH (hi 1 (by decide) _ rfl) dL_law_871 ?_
  refine lv_aload_n (pc := 872) hx hb dL_law_872 rfl (lv_at hl 0 rfl) ?_
  refine lv_iload_n (pc := 873) hx hb dL_law_873 rfl (lv_at hl 3 rfl) ?_
  refine lv_iconst (pc := 874) (v := (2 : Int32)) hx hb dL_law_874 rfl ?_
  refine lv_iadd (pc := 875) hx hb dL_law_875 ?_
  refine lsld (pc := 876) X hH (hi 2 (by decide) _ rfl) dL_law_876 ?_
  refine lM (pc := 877) (As := [.int (xs (x3 + (1 : Int32)).toNatClampNeg), .int (xs (x3 + (2 : Int32)).toNatClampNeg)]) (ov := some (.int r)) (rest := [.int r]) X hH hl.1 (c_X10_owls hm) kw1101 kw1102 kw1103 kw71 kw1104 hy_X10_owls (by decide) (by decide) hcs (zle8 rfl) rfl dL_law_877 (fun H locs hH => ?_)
  refine W.eq (g2 := F0 m 880 ls [.int r, .int r]) rfl ?_
  exact lv_icmp_eq (pc := 880) (tgt := 1048) hx hb dL_law_880 (by decide) (fun _ => kk μC' μM' _ _ hH hr) (fun q => absurd rfl q)
set_option maxRecDepth 100000 in
theorem law_terms (X : LX GC GM p s m args c b L xs) (hcs : cells ≤ room_1.cells ∧ slots ≤ room_1.slots) {Rel : Mem → Mem → Prop} (hSp : Sp_terms Rel) {x3 : Int32} (hi : ∀ k : Nat, k < 5 → ∀ k' : Int32, k' = nI k → vp_in (x3 + k') L) (hl : lv_has ls 4 [(0, .ref b), (1, .ref (zad GC 0)), (2, .ref (zad GM 0)), (3, .int x3)]) (hH : LH GC GM s H locs μC μM) (hrel : Rel μC μM) (kk : ∀ (μC' μM' : Mem) (H1 : Heap) (locs1 : List Loc), LH GC GM s H1 locs1 μC' μM' → Rel μC' μM' → W p l e room_1 s m args below meth c H1 locs1 cells slots Q (F0 m 1048 ls [])) : W p l e room_1 s m args below meth c H locs cells slots Q (F0 m 885 ls []) := by
  have hx := X.1
  have hb := X.2.1
  obtain ⟨r, μC', μM', hc, hm, hr⟩ := hSp μC μM (xs (x3 + (1 : Int32)).toNatClampNeg) (xs (x3 + (2 : Int32)).toNatClampNeg) hrel
  refine lv_aload_n (pc := 885) hx hb dL_law_885 rfl (lv_at hl 1 rfl) ?_
  refine lv_aload_n (pc := 886) hx hb dL_law_886 rfl (lv_at hl 0 rfl) ?_
  refine lv_iload_n (pc := 887) hx hb dL_law_887 rfl (lv_at hl 3 rfl) ?_
  refine lv_iconst (pc := 888) (v := (1 : Int32)) hx hb dL_law_888 rfl ?_
  refine lv_iadd (pc := 889) hx hb dL_law_889 ?_
  refine lsld (pc := 890) X hH (hi 1 (by decide) _ rfl) dL_law_890 ?_
  refine lv_aload_n (pc := 891) hx hb dL_law_891 rfl (lv_at hl 0 rfl) ?_
  refine lv_iload_n (pc := 892) hx hb dL_law_892 rfl (lv_at hl 3 rfl) ?_
  refine lv_iconst (pc := 893) (v := (2 : Int32)) hx hb dL_law_893 rfl ?_
  refine lv_iadd (pc := 894) hx hb dL_law_894 ?_
  refine lsld (pc := 895) X hH (hi 2 (by decide) _ rfl) dL_law_895 ?_
  refine lC (pc := 896) (As := [.int (xs (x3 + (1 : Int32)).toNatClampNeg), .int (xs (x3 + (2 : Int32)).toNatClampNeg)]) (ov := some (.int r)) (rest := []) X hH hl.1 (c_X9_terms hc) kw692 kw693 kw694 kw60 kw695 hy_X9_terms (by decide) (by decide) hcs (zle8 rfl) rfl dL_law_896 (fun H locs hH => ?_)
  refine W.eq (g2 := F0 m 899 ls [.int r]) rfl ?_
  refine lv_aload_n (pc := 899) hx hb dL_law_899 rfl (lv_at hl 2 rfl) ?_
  refine lv_aload_n (pc := 900) hx hb dL_law_900 rfl (lv_at hl 0 rfl) ?_
  refine lv_iload_n (pc := 901) hx hb dL_law_901 rfl (lv_at hl 3 rfl) ?_
  refine lv_iconst (pc := 902) (v := (1 : Int32)) hx hb dL_law_902 rfl ?_
  refine lv_iadd (pc := 903) hx hb dL_law_903 ?_
  refine lsld (pc := 904) X hH (hi 1 (by decide) _ rfl) dL_law_904 ?_
  refine lv_aload_n (pc := 905) hx hb dL_law_905 rfl (lv_at hl 0 rfl) ?_
  refine lv_iload_n (pc := 906) hx hb dL_law_906 rfl (lv_at hl 3 rfl) ?_
  refine lv_iconst (pc := 907) (v := (2 : Int32)) hx hb dL_law_907 rfl ?_
  refine lv_iadd (pc := 908) hx hb dL_law_908 ?_
  refine lsld (pc := 909) X hH (hi 2 (by decide) _ rfl) dL_law_909 ?_
  refine lM (pc := 910) (As := [.int (xs (x3 + (1 : Int32)).toNatClampNeg), .int (xs (x3 + (2 : Int32)).toNatClampNeg)]) (ov := some (.int r)) (rest := [.int r]) X hH hl.1 (c_X10_terms hm) kw1110 kw1111 kw1112 kw71 kw1113 hy_X10_terms (by decide) (by decide) hcs (zle8 rfl) rfl dL_law_910 (fun H locs hH => ?_)
  refine W.eq (g2 := F0 m 913 ls [.int r, .int r]) rfl ?_
  exact lv_icmp_eq (pc := 913) (tgt := 1048) hx hb dL_law_913 (by decide) (fun _ => kk μC' μM' _ _ hH hr) (fun q => absurd rfl q)
set_option maxRecDepth 100000 in
theorem law_part (X : LX GC GM p s m args c b L xs) (hcs : cells ≤ room_1.cells ∧ slots ≤ room_1.slots) {Rel : Mem → Mem → Prop} (hSp : Sp_part Rel) {x3 : Int32} (hi : ∀ k : Nat, k < 5 → ∀ k' : Int32, k' = nI k → vp_in (x3 + k') L) (hl : lv_has ls 4 [(0, .ref b), (1, .ref (zad GC 0)), (2, .ref (zad GM 0)), (3, .int x3)]) (hH : LH GC GM s H locs μC μM) (hrel : Rel μC μM) (kk : ∀ (μC' μM' : Mem) (H1 : Heap) (locs1 : List Loc), LH GC GM s H1 locs1 μC' μM' → Rel μC' μM' → W p l e room_1 s m args below meth c H1 locs1 cells slots Q (F0 m 1048 ls [])) : W p l e room_1 s m args below meth c H locs cells slots Q (F0 m 918 ls []) := by
  have hx := X.1
  have hb := X.2.1
  obtain ⟨r, μC', μM', hc, hm, hr⟩ := hSp μC μM (xs (x3 + (1 : Int32)).toNatClampNeg) hrel
  refine lv_aload_n (pc := 918) hx hb dL_law_918 rfl (lv_at hl 1 rfl) ?_
  refine lv_aload_n (pc := 919) hx hb dL_law_919 rfl (lv_at hl 0 rfl) ?_
  refine lv_iload_n (pc := 920) hx hb dL_law_920 rfl (lv_at hl 3 rfl) ?_
  refine lv_iconst (pc := 921) (v := (1 : Int32)) hx hb dL_law_921 rfl ?_
  refine lv_iadd (pc := 922) hx hb dL_law_922 ?_
  refine lsld (pc := 923) X hH (hi 1 (by decide) _ rfl) dL_law_923 ?_
  refine lC (pc := 924) (As := [.int (xs (x3 + (1 : Int32)).toNatClampNeg)]) (ov := some (.long r)) (rest := []) X hH hl.1 (c_X9_part hc) kw709 kw710 kw711 kw60 kw712 hy_X9_part (by decide) (by decide) hcs (zle8 rfl) rfl dL_law_924 (fun H locs hH => ?_)
  refine W.eq (g2 := F0 m 927 ls [.long r]) rfl ?_
  refine lv_aload_n (pc := 927) hx hb dL_law_927 rfl (lv_at hl 2 rfl) ?_
  refine lv_aload_n (pc := 928) hx hb dL_law_928 rfl (lv_at hl 0 rfl) ?_
  refine lv_iload_n (pc := 929) hx hb dL_law_929 rfl (lv_at hl 3 rfl) ?_
  refine lv_iconst (pc := 930) (v := (1 : Int32)) hx hb dL_law_930 rfl ?_
  refine lv_iadd (pc := 931) hx hb dL_law_931 ?_
  refine lsld (pc := 932) X hH (hi 1 (by decide) _ rfl) dL_law_932 ?_
  refine lM (pc := 933) (As := [.int (xs (x3 + (1 : Int32)).toNatClampNeg)]) (ov := some (.long r)) (rest := [.long r]) X hH hl.1 (c_X10_part hm) kw1120 kw1121 kw1122 kw71 kw1123 hy_X10_part (by decide) (by decide) hcs (zle8 rfl) rfl dL_law_933 (fun H locs hH => ?_)
  refine W.eq (g2 := F0 m 936 ls [.long r, .long r]) rfl ?_
  refine W.lcmp (pc := 936) hx hb dL_law_936 ?_
  exact lv_if_eq (pc := 937) (tgt := 1048) hx hb dL_law_937 (by decide) (fun _ => kk μC' μM' _ _ hH hr) (fun q => absurd (lg_self r) q)
set_option maxRecDepth 100000 in
theorem law_image (X : LX GC GM p s m args c b L xs) (hcs : cells ≤ room_1.cells ∧ slots ≤ room_1.slots) {Rel : Mem → Mem → Prop} (hSp : Sp_image Rel) {x3 : Int32} (hi : ∀ k : Nat, k < 5 → ∀ k' : Int32, k' = nI k → vp_in (x3 + k') L) (hl : lv_has ls 4 [(0, .ref b), (1, .ref (zad GC 0)), (2, .ref (zad GM 0)), (3, .int x3)]) (hH : LH GC GM s H locs μC μM) (hrel : Rel μC μM) (kk : ∀ (μC' μM' : Mem) (H1 : Heap) (locs1 : List Loc), LH GC GM s H1 locs1 μC' μM' → Rel μC' μM' → W p l e room_1 s m args below meth c H1 locs1 cells slots Q (F0 m 1048 ls [])) : W p l e room_1 s m args below meth c H locs cells slots Q (F0 m 942 ls []) := by
  have hx := X.1
  have hb := X.2.1
  obtain ⟨r, μC', μM', hc, hm, hr⟩ := hSp μC μM (xs (x3 + (1 : Int32)).toNatClampNeg) hrel
  refine lv_aload_n (pc := 942) hx hb dL_law_942 rfl (lv_at hl 1 rfl) ?_
  refine lv_aload_n (pc := 943) hx hb dL_law_943 rfl (lv_at hl 0 rfl) ?_
  refine lv_iload_n (pc := 944) hx hb dL_law_944 rfl (lv_at hl 3 rfl) ?_
  refine lv_iconst (pc := 945) (v := (1 : Int32)) hx hb dL_law_945 rfl ?_
  refine lv_iadd (pc := 946) hx hb dL_law_946 ?_
  refine lsld (pc := 947) X hH (hi 1 (by decide) _ rfl) dL_law_947 ?_
  refine lC (pc := 948) (As := [.int (xs (x3 + (1 : Int32)).toNatClampNeg)]) (ov := some (.int r)) (rest := []) X hH hl.1 (c_X9_image hc) kw713 kw714 kw715 kw60 kw716 hy_X9_image (by decide) (by decide) hcs (zle8 rfl) rfl dL_law_948 (fun H locs hH => ?_)
  refine W.eq (g2 := F0 m 951 ls [.int r]) rfl ?_
  refine lv_aload_n (pc := 951) hx hb dL_law_951 rfl (lv_at hl 2 rfl) ?_
  refine lv_aload_n (pc := 952) hx hb dL_law_952 rfl (lv_at hl 0 rfl) ?_
  refine lv_iload_n (pc := 953) hx hb dL_law_953 rfl (lv_at hl 3 rfl) ?_
  refine lv_iconst (pc := 954) (v := (1 : Int32)) hx hb dL_law_954 rfl ?_
  refine lv_iadd (pc := 955) hx hb dL_law_955 ?_
  refine lsld (pc := 956) X hH (hi 1 (by decide) _ rfl) dL_law_956 ?_
  refine lM (pc := 957) (As := [.int (xs (x3 + (1 : Int32)).toNatClampNeg)]) (ov := some (.int r)) (rest := [.int r]) X hH hl.1 (c_X10_image hm) kw1124 kw1125 kw1126 kw71 kw1127 hy_X10_image (by decide) (by decide) hcs (zle8 rfl) rfl dL_law_957 (fun H locs hH => ?_)
  refine W.eq (g2 := F0 m 960 ls [.int r, .int r]) rfl ?_
  exact lv_icmp_eq (pc := 960) (tgt := 1048) hx hb dL_law_960 (by decide) (fun _ => kk μC' μM' _ _ hH hr) (fun q => absurd rfl q)
set_option maxRecDepth 100000 in
theorem law_from (X : LX GC GM p s m args c b L xs) (hcs : cells ≤ room_1.cells ∧ slots ≤ room_1.slots) {Rel : Mem → Mem → Prop} (hSp : Sp_from Rel) {x3 : Int32} (hi : ∀ k : Nat, k < 5 → ∀ k' : Int32, k' = nI k → vp_in (x3 + k') L) (hl : lv_has ls 4 [(0, .ref b), (1, .ref (zad GC 0)), (2, .ref (zad GM 0)), (3, .int x3)]) (hH : LH GC GM s H locs μC μM) (hrel : Rel μC μM) (kk : ∀ (μC' μM' : Mem) (H1 : Heap) (locs1 : List Loc), LH GC GM s H1 locs1 μC' μM' → Rel μC' μM' → W p l e room_1 s m args below meth c H1 locs1 cells slots Q (F0 m 1048 ls [])) : W p l e room_1 s m args below meth c H locs cells slots Q (F0 m 965 ls []) := by
  have hx := X.1
  have hb := X.2.1
  obtain ⟨r, μC', μM', hc, hm, hr⟩ := hSp μC μM (xs (x3 + (1 : Int32)).toNatClampNeg) hrel
  refine lv_aload_n (pc := 965) hx hb dL_law_965 rfl (lv_at hl 1 rfl) ?_
  refine lv_aload_n (pc := 966) hx hb dL_law_966 rfl (lv_at hl 0 rfl) ?_
  refine lv_iload_n (pc := 967) hx hb dL_law_967 rfl (lv_at hl 3 rfl) ?_
  refine lv_iconst (pc := 968) (v := (1 : Int32)) hx hb dL_law_968 rfl ?_
  refine lv_iadd (pc := 969) hx hb dL_law_969 ?_
  refine lsld (pc := 970) X hH (hi 1 (by decide) _ rfl) dL_law_970 ?_
  refine lC (pc := 971) (As := [.int (xs (x3 + (1 : Int32)).toNatClampNeg)]) (ov := some (.int r)) (rest := []) X hH hl.1 (c_X9_from hc) kw717 kw718 kw719 kw60 kw720 hy_X9_from (by decide) (by decide) hcs (zle8 rfl) rfl dL_law_971 (fun H locs hH => ?_)
  refine W.eq (g2 := F0 m 974 ls [.int r]) rfl ?_
  refine lv_aload_n (pc := 974) hx hb dL_law_974 rfl (lv_at hl 2 rfl) ?_
  refine lv_aload_n (pc := 975) hx hb dL_law_975 rfl (lv_at hl 0 rfl) ?_
  refine lv_iload_n (pc := 976) hx hb dL_law_976 rfl (lv_at hl 3 rfl) ?_
  refine lv_iconst (pc := 977) (v := (1 : Int32)) hx hb dL_law_977 rfl ?_
  refine lv_iadd (pc := 978) hx hb dL_law_978 ?_
  refine lsld (pc := 979) X hH (hi 1 (by decide) _ rfl) dL_law_979 ?_
  refine lM (pc := 980) (As := [.int (xs (x3 + (1 : Int32)).toNatClampNeg)]) (ov := some (.int r)) (rest := [.int r]) X hH hl.1 (c_X10_from hm) kw1128 kw1129 kw1130 kw71 kw1131 hy_X10_from (by decide) (by decide) hcs (zle8 rfl) rfl dL_law_980 (fun H locs hH => ?_)
  refine W.eq (g2 := F0 m 983 ls [.int r, .int r]) rfl ?_
  exact lv_icmp_eq (pc := 983) (tgt := 1048) hx hb dL_law_983 (by decide) (fun _ => kk μC' μM' _ _ hH hr) (fun q => absurd rfl q)
set_option maxRecDepth 100000 in
theorem law_status (X : LX GC GM p s m args c b L xs) (hcs : cells ≤ room_1.cells ∧ slots ≤ room_1.slots) {Rel : Mem → Mem → Prop} (hSp : Sp_status Rel) {x3 : Int32} (hi : ∀ k : Nat, k < 5 → ∀ k' : Int32, k' = nI k → vp_in (x3 + k') L) (hl : lv_has ls 4 [(0, .ref b), (1, .ref (zad GC 0)), (2, .ref (zad GM 0)), (3, .int x3)]) (hH : LH GC GM s H locs μC μM) (hrel : Rel μC μM) (kk : ∀ (μC' μM' : Mem) (H1 : Heap) (locs1 : List Loc), LH GC GM s H1 locs1 μC' μM' → Rel μC' μM' → W p l e room_1 s m args below meth c H1 locs1 cells slots Q (F0 m 1048 ls [])) : W p l e room_1 s m args below meth c H locs cells slots Q (F0 m 988 ls []) := by
  have hx := X.1
  have hb := X.2.1
  obtain ⟨r, μC', μM', hc, hm, hr⟩ := hSp μC μM (xs (x3 + (1 : Int32)).toNatClampNeg) hrel
  refine lv_aload_n (pc := 988) hx hb dL_law_988 rfl (lv_at hl 1 rfl) ?_
  refine lv_aload_n (pc := 989) hx hb dL_law_989 rfl (lv_at hl 0 rfl) ?_
  refine lv_iload_n (pc := 990) hx hb dL_law_990 rfl (lv_at hl 3 rfl) ?_
  refine lv_iconst (pc := 991) (v := (1 : Int32)) hx hb dL_law_991 rfl ?_
  refine lv_iadd (pc := 992) hx hb dL_law_992 ?_
  refine lsld (pc := 993) X hH (hi 1 (by decide) _ rfl) dL_law_993 ?_
  refine lC (pc := 994) (As := [.int (xs (x3 + (1 : Int32)).toNatClampNeg)]) (ov := some (.int r)) (rest := []) X hH hl.1 (c_X9_status hc) kw721 kw722 kw723 kw60 kw724 hy_X9_status (by decide) (by decide) hcs (zle8 rfl) rfl dL_law_994 (fun H locs hH => ?_)
  refine W.eq (g2 := F0 m 997 ls [.int r]) rfl ?_
  refine lv_aload_n (pc := 997) hx hb dL_law_997 rfl (lv_at hl 2 rfl) ?_
  refine lv_aload_n (pc := 998) hx hb dL_law_998 rfl (lv_at hl 0 rfl) ?_
  refine lv_iload_n (pc := 999) hx hb dL_law_999 rfl (lv_at hl 3 rfl) ?_
  refine lv_iconst (pc := 1000) (v := (1 : Int32)) hx hb dL_law_1000 rfl ?_
  refine lv_iadd (pc := 1001) hx hb dL_law_1001 ?_
  refine lsld (pc := 1002) X hH (hi 1 (by decide) _ rfl) dL_law_1002 ?_
  refine lM (pc := 1003) (As := [.int (xs (x3 + (1 : Int32)).toNatClampNeg)]) (ov := some (.int r)) (rest := [.int r]) X hH hl.1 (c_X10_status hm) kw1132 kw1133 kw1134 kw71 kw1135 hy_X10_status (by decide) (by decide) hcs (zle8 rfl) rfl dL_law_1003 (fun H locs hH => ?_)
  refine W.eq (g2 := F0 m 1006 ls [.int r, .int r]) rfl ?_
  exact lv_icmp_eq (pc := 1006) (tgt := 1048) hx hb dL_law_1006 (by decide) (fun _ => kk μC' μM' _ _ hH hr) (fun q => absurd rfl q)
set_option maxRecDepth 100000 in
theorem law_count (X : LX GC GM p s m args c b L xs) (hcs : cells ≤ room_1.cells ∧ slots ≤ room_1.slots) {Rel : Mem → Mem → Prop} (hSp : Sp_count Rel) {x3 : Int32} (hi : ∀ k : Nat, k < 5 → ∀ k' : Int32, k' = nI k → vp_in (x3 + k') L) (hl : lv_has ls 4 [(0, .ref b), (1, .ref (zad GC 0)), (2, .ref (zad GM 0)), (3, .int x3)]) (hH : LH GC GM s H locs μC μM) (hrel : Rel μC μM) (kk : ∀ (μC' μM' : Mem) (H1 : Heap) (locs1 : List Loc), LH GC GM s H1 locs1 μC' μM' → Rel μC' μM' → W p l e room_1 s m args below meth c H1 locs1 cells slots Q (F0 m 1048 ls [])) : W p l e room_1 s m args below meth c H locs cells slots Q (F0 m 1011 ls []) := by
  have hx := X.1
  have hb := X.2.1
  obtain ⟨r, μC', μM', hc, hm, hr⟩ := hSp μC μM (xs (x3 + (1 : Int32)).toNatClampNeg) hrel
  refine lv_aload_n (pc := 1011) hx hb dL_law_1011 rfl (lv_at hl 1 rfl) ?_
  refine lv_aload_n (pc := 1012) hx hb dL_law_1012 rfl (lv_at hl 0 rfl) ?_
  refine lv_iload_n (pc := 1013) hx hb dL_law_1013 rfl (lv_at hl 3 rfl) ?_
  refine lv_iconst (pc := 1014) (v := (1 : Int32)) hx hb dL_law_1014 rfl ?_
  refine lv_iadd (pc := 1015) hx hb dL_law_1015 ?_
  refine lsld (pc := 1016) X hH (hi 1 (by decide) _ rfl) dL_law_1016 ?_
  refine lC (pc := 1017) (As := [.int (xs (x3 + (1 : Int32)).toNatClampNeg)]) (ov := some (.int r)) (rest := []) X hH hl.1 (c_X9_count hc) kw725 kw726 kw727 kw60 kw728 hy_X9_count (by decide) (by decide) hcs (zle8 rfl) rfl dL_law_1017 (fun H locs hH => ?_)
  refine W.eq (g2 := F0 m 1020 ls [.int r]) rfl ?_
  refine lv_aload_n (pc := 1020) hx hb dL_law_1020 rfl (lv_at hl 2 rfl) ?_
  refine lv_aload_n (pc := 1021) hx hb dL_law_1021 rfl (lv_at hl 0 rfl) ?_
  refine lv_iload_n (pc := 1022) hx hb dL_law_1022 rfl (lv_at hl 3 rfl) ?_
  refine lv_iconst (pc := 1023) (v := (1 : Int32)) hx hb dL_law_1023 rfl ?_
  refine lv_iadd (pc := 1024) hx hb dL_law_1024 ?_
  refine lsld (pc := 1025) X hH (hi 1 (by decide) _ rfl) dL_law_1025 ?_
  refine lM (pc := 1026) (As := [.int (xs (x3 + (1 : Int32)).toNatClampNeg)]) (ov := some (.int r)) (rest := [.int r]) X hH hl.1 (c_X10_count hm) kw1136 kw1137 kw1138 kw71 kw1139 hy_X10_count (by decide) (by decide) hcs (zle8 rfl) rfl dL_law_1026 (fun H locs hH => ?_)
  refine W.eq (g2 := F0 m 1029 ls [.int r, .int r]) rfl ?_
  exact lv_icmp_eq (pc := 1029) (tgt := 1048) hx hb dL_law_1029 (by decide) (fun _ => kk μC' μM' _ _ hH hr) (fun q => absurd rfl q)
set_option maxRecDepth 100000 in
theorem law_digest (X : LX GC GM p s m args c b L xs) (hcs : cells ≤ room_1.cells ∧ slots ≤ room_1.slots) {Rel : Mem → Mem → Prop} (hSp : Sp_digest Rel) {x3 : Int32} (hi : ∀ k : Nat, k < 5 → ∀ k' : Int32, k' = nI k → vp_in (x3 + k') L) (hl : lv_has ls 4 [(0, .ref b), (1, .ref (zad GC 0)), (2, .ref (zad GM 0)), (3, .int x3)]) (hH : LH GC GM s H locs μC μM) (hrel : Rel μC μM) (kk : ∀ (μC' μM' : Mem) (H1 : Heap) (locs1 : List Loc), LH GC GM s H1 locs1 μC' μM' → Rel μC' μM' → W p l e room_1 s m args below meth c H1 locs1 cells slots Q (F0 m 1048 ls [])) : W p l e room_1 s m args below meth c H locs cells slots Q (F0 m 1034 ls []) := by
  have hx := X.1
  have hb := X.2.1
  obtain ⟨r, μC', μM', hc, hm, hr⟩ := hSp μC μM hrel
  refine lv_aload_n (pc := 1034) hx hb dL_law_1034 rfl (lv_at hl 1 rfl) ?_
  refine lC (pc := 1035) (As := []) (ov := some (.long r)) (rest := []) X hH hl.1 (c_X9_digest hc) kw734 kw735 kw736 kw60 kw737 hy_X9_digest (by decide) (by decide) hcs (zle8 rfl) rfl dL_law_1035 (fun H locs hH => ?_)
  refine W.eq (g2 := F0 m 1038 ls [.long r]) rfl ?_
  refine lv_aload_n (pc := 1038) hx hb dL_law_1038 rfl (lv_at hl 2 rfl) ?_
  refine lM (pc := 1039) (As := []) (ov := some (.long r)) (rest := [.long r]) X hH hl.1 (c_X10_digest hm) kw1149 kw1150 kw1151 kw71 kw1152 hy_X10_digest (by decide) (by decide) hcs (zle8 rfl) rfl dL_law_1039 (fun H locs hH => ?_)
  refine W.eq (g2 := F0 m 1042 ls [.long r, .long r]) rfl ?_
  refine W.lcmp (pc := 1042) hx hb dL_law_1042 ?_
  exact lv_if_eq (pc := 1043) (tgt := 1048) hx hb dL_law_1043 (by decide) (fun _ => kk μC' μM' _ _ hH hr) (fun q => absurd (lg_self r) q)
set_option maxRecDepth 100000 in
theorem law_loop (hr : meth.sig.returnType = ret) (hlocks : meth.locks = false) (X : LX GC GM p s m #[Value.ref b] c b L xs) (hcs : cells ≤ room_1.cells ∧ slots ≤ room_1.slots) {Rel : Mem → Mem → Prop} (hAll : AllSteps Rel) : ∀ (n j : Nat) {x3 : Int32} {μC μM : Mem} {H : Heap} {locs : List Loc} {ls : Array Slot}, L + 5 - j < n → j ≤ L + 5 → x3 = nI j → lv_has ls 4 [(0, .ref b), (1, .ref (zad GC 0)), (2, .ref (zad GM 0)), (3, .int x3)] → LH GC GM s H locs μC μM → Rel μC μM → W p l e room_1 s m #[Value.ref b] below meth c H locs cells slots (lw_Z below #[Value.ref b] s) (F0 m 18 ls []) := by
  have hx := X.1
  have hb := X.2.1
  have hL := X.2.2.2.2.2.2.2.1
  intro n
  induction n with
  | zero => intro j _ _ _ _ _ _ h; omega
  | succ n ih =>
    intro j x3 μC μM H locs ls hn hj hx3 hl hH hrel
    refine lv_iload_n (pc := 18) hx hb dL_law_18 rfl (lv_at hl 3 rfl) ?_
    refine lv_aload_n (pc := 19) hx hb dL_law_19 rfl (lv_at hl 0 rfl) ?_
    refine va_slen (pc := 20) hx hb X.2.2.2.2.2.1 X.2.2.2.2.2.2.1 (Nat.not_le.mpr X.2.2.2.2.2.2.1) hH.2.2 dL_law_20 ?_
    refine lv_iconst (pc := 21) (v := (5 : Int32)) hx hb dL_law_21 rfl ?_
    refine lv_isub (pc := 22) hx hb dL_law_22 ?_
    refine lv_icmp_gt (pc := 23) (tgt := 1054) hx hb dL_law_23 (by decide) (fun _ => ?_) (fun q => ?_)
    · refine lv_iconst (pc := 1054) (v := (1 : Int32)) hx hb dL_law_1054 rfl ?_
      refine va_forget (fun q hq => hH.2.2.2.2 q hq) ?_
      refine W.widen (k := 600000) (n := 7302250) hcs.1 hcs.2 ?_
      exact lw_ret hx hb hr hlocks dL_law_1055
    · have hj5 : j + 5 ≤ L := by
        rcases Nat.lt_or_ge L (j + 5) with h | h
        · exfalso
          apply q
          rw [hx3, show Int32.ofNat L = nI L from rfl, show (5 : Int32) = nI 5 from rfl]
          rw [Int32.lt_iff_toInt_lt, pk_sub_toInt (by omega) (by omega), nI_toInt (by omega)]
          omega
        · exact h
      have hi : ∀ k : Nat, k < 5 → ∀ k' : Int32, k' = nI k → vp_in (x3 + k') L := fun k hk k' e => lin hx3 e (by omega) hL
      have K : ∀ (μC' μM' : Mem) (H1 : Heap) (locs1 : List Loc), LH GC GM s H1 locs1 μC' μM' → Rel μC' μM' → W p l e room_1 s m #[Value.ref b] below meth c H1 locs1 cells slots (lw_Z below #[Value.ref b] s) (F0 m 1048 ls []) := by
        intro μC' μM' H1 locs1 hH hrel
        refine lv_iinc (pc := 1048) (v := (x3 + (5 : Int32))) (lv' := [(3, .int (x3 + (5 : Int32))), (0, .ref b), (1, .ref (zad GC 0)), (2, .ref (zad GM 0))]) hx hb dL_law_1048 hl (k := 3) rfl rfl (by decide) rfl (fun ls hl => ?_)
        refine lv_goto (pc := 1051) (tgt := 18) hx hb dL_law_1051 (by decide) ?_
        exact ih (j + 5) (by omega) (by omega) (by rw [hx3]; exact nI_add j 5) (lv_sub hl [1, 2, 3, 0] rfl) hH hrel
      refine lv_aload_n (pc := 26) hx hb dL_law_26 rfl (lv_at hl 0 rfl) ?_
      refine lv_iload_n (pc := 27) hx hb dL_law_27 rfl (lv_at hl 3 rfl) ?_
      refine lsld (pc := 28) X hH (by rw [hx3]; exact vp_in_nI (by omega) (by omega)) dL_law_28 ?_
      refine lv_bipush (pc := 29) (v := (63 : Int32)) hx hb dL_law_29 rfl ?_
      refine lv_iand (pc := 31) hx hb dL_law_31 ?_
      obtain ⟨S0, S1, S2, S3, S4, S5, S6, S7, S8, S9, S10, S11, S12, S13, S14, S15, S16, S17, S18, S19, S20, S21, S22, S23, S24, S25, S26, S27, S28, S29, S30, S31, S32, S33⟩ := hAll
      generalize (xs x3.toNatClampNeg &&& (63 : Int32)) = x
      by_cases c0 : x = (0 : Int32)
      · exact lv_tableIn (pc := 32) (tgt := 184) hx hb dL_law_32 (by rw [c0]; decide) (by rw [c0]; decide) (by rw [c0]; rfl) (by decide) (law_night X hcs S0 hi hl hH hrel K)
      by_cases c1 : x = (1 : Int32)
      · exact lv_tableIn (pc := 32) (tgt := 197) hx hb dL_law_32 (by rw [c1]; decide) (by rw [c1]; decide) (by rw [c1]; rfl) (by decide) (law_boy X hcs S1 hi hl hH hrel K)
      by_cases c2 : x = (2 : Int32)
      · exact lv_tableIn (pc := 32) (tgt := 240) hx hb dL_law_32 (by rw [c2]; decide) (by rw [c2]; decide) (by rw [c2]; rfl) (by decide) (law_give X hcs S2 hi hl hH hrel K)
      by_cases c3 : x = (3 : Int32)
      · exact lv_tableIn (pc := 32) (tgt := 273) hx hb dL_law_32 (by rw [c3]; decide) (by rw [c3]; decide) (by rw [c3]; rfl) (by decide) (law_type X hcs S3 hi hl hH hrel K)
      by_cases c4 : x = (4 : Int32)
      · exact lv_tableIn (pc := 32) (tgt := 296) hx hb dL_law_32 (by rw [c4]; decide) (by rw [c4]; decide) (by rw [c4]; rfl) (by decide) (law_clear X hcs S4 hi hl hH hrel K)
      by_cases c5 : x = (5 : Int32)
      · exact lv_tableIn (pc := 32) (tgt := 309) hx hb dL_law_32 (by rw [c5]; decide) (by rw [c5]; decide) (by rw [c5]; rfl) (by decide) (law_read X hcs S5 hi hl hH hrel K)
      by_cases c6 : x = (6 : Int32)
      · exact lv_tableIn (pc := 32) (tgt := 322) hx hb dL_law_32 (by rw [c6]; decide) (by rw [c6]; decide) (by rw [c6]; rfl) (by decide) (law_swap X hcs S6 hi hl hH hrel K)
      by_cases c7 : x = (7 : Int32)
      · exact lv_tableIn (pc := 32) (tgt := 355) hx hb dL_law_32 (by rw [c7]; decide) (by rw [c7]; decide) (by rw [c7]; rfl) (by decide) (law_sell X hcs S7 hi hl hH hrel K)
      by_cases c8 : x = (8 : Int32)
      · exact lv_tableIn (pc := 32) (tgt := 398) hx hb dL_law_32 (by rw [c8]; decide) (by rw [c8]; decide) (by rw [c8]; rfl) (by decide) (law_undo X hcs S8 hi hl hH hrel K)
      by_cases c9 : x = (9 : Int32)
      · exact lv_tableIn (pc := 32) (tgt := 411) hx hb dL_law_32 (by rw [c9]; decide) (by rw [c9]; decide) (by rw [c9]; rfl) (by decide) (law_of X hcs S9 hi hl hH hrel K)
      by_cases c10 : x = (10 : Int32)
      · exact lv_tableIn (pc := 32) (tgt := 444) hx hb dL_law_32 (by rw [c10]; decide) (by rw [c10]; decide) (by rw [c10]; rfl) (by decide) (law_worth X hcs S10 hi hl hH hrel K)
      by_cases c11 : x = (11 : Int32)
      · exact lv_tableIn (pc := 32) (tgt := 477) hx hb dL_law_32 (by rw [c11]; decide) (by rw [c11]; decide) (by rw [c11]; rfl) (by decide) (law_whose X hcs S11 hi hl hH hrel K)
      by_cases c12 : x = (12 : Int32)
      · exact lv_tableIn (pc := 32) (tgt := 500) hx hb dL_law_32 (by rw [c12]; decide) (by rw [c12]; decide) (by rw [c12]; rfl) (by decide) (law_enough X hcs S12 hi hl hH hrel K)
      by_cases c13 : x = (13 : Int32)
      · exact lv_tableIn (pc := 32) (tgt := 513) hx hb dL_law_32 (by rw [c13]; decide) (by rw [c13]; decide) (by rw [c13]; rfl) (by decide) (law_envy X hcs S13 hi hl hH hrel K)
      by_cases c14 : x = (14 : Int32)
      · exact lv_tableIn (pc := 32) (tgt := 536) hx hb dL_law_32 (by rw [c14]; decide) (by rw [c14]; decide) (by rw [c14]; rfl) (by decide) (law_fair X hcs S14 hi hl hH hrel K)
      by_cases c15 : x = (15 : Int32)
      · exact lv_tableIn (pc := 32) (tgt := 559) hx hb dL_law_32 (by rw [c15]; decide) (by rw [c15]; decide) (by rw [c15]; rfl) (by decide) (law_pieces X hcs S15 hi hl hH hrel K)
      by_cases c16 : x = (16 : Int32)
      · exact lv_tableIn (pc := 32) (tgt := 582) hx hb dL_law_32 (by rw [c16]; decide) (by rw [c16]; decide) (by rw [c16]; rfl) (by decide) (law_swaps X hcs S16 hi hl hH hrel K)
      by_cases c17 : x = (17 : Int32)
      · exact lv_tableIn (pc := 32) (tgt := 605) hx hb dL_law_32 (by rw [c17]; decide) (by rw [c17]; decide) (by rw [c17]; rfl) (by decide) (law_steps X hcs S17 hi hl hH hrel K)
      by_cases c18 : x = (18 : Int32)
      · exact lv_tableIn (pc := 32) (tgt := 618) hx hb dL_law_32 (by rw [c18]; decide) (by rw [c18]; decide) (by rw [c18]; rfl) (by decide) (law_sale X hcs S18 hi hl hH hrel K)
      by_cases c19 : x = (19 : Int32)
      · exact lv_tableIn (pc := 32) (tgt := 651) hx hb dL_law_32 (by rw [c19]; decide) (by rw [c19]; decide) (by rw [c19]; rfl) (by decide) (law_longest X hcs S19 hi hl hH hrel K)
      by_cases c20 : x = (20 : Int32)
      · exact lv_tableIn (pc := 32) (tgt := 674) hx hb dL_law_32 (by rw [c20]; decide) (by rw [c20]; decide) (by rw [c20]; rfl) (by decide) (law_together X hcs S20 hi hl hH hrel K)
      by_cases c21 : x = (21 : Int32)
      · exact lv_tableIn (pc := 32) (tgt := 707) hx hb dL_law_32 (by rw [c21]; decide) (by rw [c21]; decide) (by rw [c21]; rfl) (by decide) (law_note X hcs S21 hi hl hH hrel K)
      by_cases c22 : x = (22 : Int32)
      · exact lv_tableIn (pc := 32) (tgt := 760) hx hb dL_law_32 (by rw [c22]; decide) (by rw [c22]; decide) (by rw [c22]; rfl) (by decide) (law_forget X hcs S22 hi hl hH hrel K)
      by_cases c23 : x = (23 : Int32)
      · exact lv_tableIn (pc := 32) (tgt := 773) hx hb dL_law_32 (by rw [c23]; decide) (by rw [c23]; decide) (by rw [c23]; rfl) (by decide) (law_is X hcs S23 hi hl hH hrel K)
      by_cases c24 : x = (24 : Int32)
      · exact lv_tableIn (pc := 32) (tgt := 796) hx hb dL_law_32 (by rw [c24]; decide) (by rw [c24]; decide) (by rw [c24]; rfl) (by decide) (law_asks X hcs S24 hi hl hH hrel K)
      by_cases c25 : x = (25 : Int32)
      · exact lv_tableIn (pc := 32) (tgt := 819) hx hb dL_law_32 (by rw [c25]; decide) (by rw [c25]; decide) (by rw [c25]; rfl) (by decide) (law_took X hcs S25 hi hl hH hrel K)
      by_cases c26 : x = (26 : Int32)
      · exact lv_tableIn (pc := 32) (tgt := 852) hx hb dL_law_32 (by rw [c26]; decide) (by rw [c26]; decide) (by rw [c26]; rfl) (by decide) (law_owls X hcs S26 hi hl hH hrel K)
      by_cases c27 : x = (27 : Int32)
      · exact lv_tableIn (pc := 32) (tgt := 885) hx hb dL_law_32 (by rw [c27]; decide) (by rw [c27]; decide) (by rw [c27]; rfl) (by decide) (law_terms X hcs S27 hi hl hH hrel K)
      by_cases c28 : x = (28 : Int32)
      · exact lv_tableIn (pc := 32) (tgt := 918) hx hb dL_law_32 (by rw [c28]; decide) (by rw [c28]; decide) (by rw [c28]; rfl) (by decide) (law_part X hcs S28 hi hl hH hrel K)
      by_cases c29 : x = (29 : Int32)
      · exact lv_tableIn (pc := 32) (tgt := 942) hx hb dL_law_32 (by rw [c29]; decide) (by rw [c29]; decide) (by rw [c29]; rfl) (by decide) (law_image X hcs S29 hi hl hH hrel K)
      by_cases c30 : x = (30 : Int32)
      · exact lv_tableIn (pc := 32) (tgt := 965) hx hb dL_law_32 (by rw [c30]; decide) (by rw [c30]; decide) (by rw [c30]; rfl) (by decide) (law_from X hcs S30 hi hl hH hrel K)
      by_cases c31 : x = (31 : Int32)
      · exact lv_tableIn (pc := 32) (tgt := 988) hx hb dL_law_32 (by rw [c31]; decide) (by rw [c31]; decide) (by rw [c31]; rfl) (by decide) (law_status X hcs S31 hi hl hH hrel K)
      by_cases c32 : x = (32 : Int32)
      · exact lv_tableIn (pc := 32) (tgt := 1011) hx hb dL_law_32 (by rw [c32]; decide) (by rw [c32]; decide) (by rw [c32]; rfl) (by decide) (law_count X hcs S32 hi hl hH hrel K)
      by_cases c33 : x = (33 : Int32)
      · exact lv_tableIn (pc := 32) (tgt := 1034) hx hb dL_law_32 (by rw [c33]; decide) (by rw [c33]; decide) (by rw [c33]; rfl) (by decide) (law_digest X hcs S33 hi hl hH hrel K)
      have e0 := zne c0 (show ((0 : Int32)).toInt = 0 from by decide)
      have e1 := zne c1 (show ((1 : Int32)).toInt = 1 from by decide)
      have e2 := zne c2 (show ((2 : Int32)).toInt = 2 from by decide)
      have e3 := zne c3 (show ((3 : Int32)).toInt = 3 from by decide)
      have e4 := zne c4 (show ((4 : Int32)).toInt = 4 from by decide)
      have e5 := zne c5 (show ((5 : Int32)).toInt = 5 from by decide)
      have e6 := zne c6 (show ((6 : Int32)).toInt = 6 from by decide)
      have e7 := zne c7 (show ((7 : Int32)).toInt = 7 from by decide)
      have e8 := zne c8 (show ((8 : Int32)).toInt = 8 from by decide)
      have e9 := zne c9 (show ((9 : Int32)).toInt = 9 from by decide)
      have e10 := zne c10 (show ((10 : Int32)).toInt = 10 from by decide)
      have e11 := zne c11 (show ((11 : Int32)).toInt = 11 from by decide)
      have e12 := zne c12 (show ((12 : Int32)).toInt = 12 from by decide)
      have e13 := zne c13 (show ((13 : Int32)).toInt = 13 from by decide)
      have e14 := zne c14 (show ((14 : Int32)).toInt = 14 from by decide)
      have e15 := zne c15 (show ((15 : Int32)).toInt = 15 from by decide)
      have e16 := zne c16 (show ((16 : Int32)).toInt = 16 from by decide)
      have e17 := zne c17 (show ((17 : Int32)).toInt = 17 from by decide)
      have e18 := zne c18 (show ((18 : Int32)).toInt = 18 from by decide)
      have e19 := zne c19 (show ((19 : Int32)).toInt = 19 from by decide)
      have e20 := zne c20 (show ((20 : Int32)).toInt = 20 from by decide)
      have e21 := zne c21 (show ((21 : Int32)).toInt = 21 from by decide)
      have e22 := zne c22 (show ((22 : Int32)).toInt = 22 from by decide)
      have e23 := zne c23 (show ((23 : Int32)).toInt = 23 from by decide)
      have e24 := zne c24 (show ((24 : Int32)).toInt = 24 from by decide)
      have e25 := zne c25 (show ((25 : Int32)).toInt = 25 from by decide)
      have e26 := zne c26 (show ((26 : Int32)).toInt = 26 from by decide)
      have e27 := zne c27 (show ((27 : Int32)).toInt = 27 from by decide)
      have e28 := zne c28 (show ((28 : Int32)).toInt = 28 from by decide)
      have e29 := zne c29 (show ((29 : Int32)).toInt = 29 from by decide)
      have e30 := zne c30 (show ((30 : Int32)).toInt = 30 from by decide)
      have e31 := zne c31 (show ((31 : Int32)).toInt = 31 from by decide)
      have e32 := zne c32 (show ((32 : Int32)).toInt = 32 from by decide)
      have e33 := zne c33 (show ((33 : Int32)).toInt = 33 from by decide)
      exact lv_tableOut (pc := 32) (tgt := 1048) hx hb dL_law_32 (by omega) (by decide) (K μC μM H locs hH hrel)
end LAW
theorem zNF_in : ∀ q ∈ zNF, Cond.fieldLinkNest q.1 q.2.1 q.2.2.1 q.2.2.2.1 q.2.2.2.2.1 q.2.2.2.2.2 ∈ lw_tbl := by decide +kernel
theorem zNM_in : ∀ q ∈ zNM, Cond.methodLinkNest q.1 q.2.1 q.2.2.1 q.2.2.2 ∈ lw_tbl := by decide +kernel
theorem zNC_in : ∀ q ∈ zNC, Cond.castable q.1 q.2 ∈ lw_tbl := by decide +kernel
theorem zNest_of {args : Array Value} {s : State} (hts : ∀ w ∈ lw_tbl, w.before args s = true) : zNest s := by
  refine ⟨fun q hq => va_Nw.of rfl (hts _ (zNF_in q hq)), fun q hq => va_Nw.of rfl (hts _ (zNM_in q hq)), fun q hq => va_Nw.of rfl (hts _ (zNC_in q hq)), va_AO.of (hts _ (List.mem_of_getElem? (i := 88) (show lw_tbl[88]? = some (Cond.arrayOver (.object "DarkShares$Plain")) from by decide +kernel))), va_AO.of (hts _ (List.mem_of_getElem? (i := 181) (show lw_tbl[181]? = some (Cond.arrayOver (.object "DarkShares$Night")) from by decide +kernel)))⟩
set_option maxRecDepth 100000 in
theorem zStr_of {b : Nat} {s : State} (hts : ∀ w ∈ lw_tbl, w.before #[Value.ref b] s = true) (hgv : (Jvm.Cond.and given_1 narrow_1).before #[Value.ref b] s = true) : ∃ ak av : Nat → Nat, vk_S 3 zSl zSb ak av (A0 s) s s.heap ∧ (∀ i, i < 3 → vk_R RX8 (zSt.getD i (0, "")).1 (zSt.getD i (0, "")).2 (ak i) s) ∧ va_Z "java/lang/String" "COMPACT_STRINGS" "Z" (.int 1) (A0 s) s s.heap ∧ va_Zq "jdk/internal/util/Preconditions" "SIOOBE_FORMATTER" "Ljava/util/function/BiFunction;" (A0 s) s s.heap := by
  have hs := flat_of_before _ hgv
  have hA : ∀ a : Nat, a < s.heap.size → ¬ A0 s a := fun a h q => absurd q (Nat.not_le.mpr h)
  obtain ⟨ak, av, h1, h2⟩ := vk_Sof (args := #[Value.ref b]) (s := s) (N := 3) (tm := (fun i => Term.string "DarkShares$Text" (zSt.getD i (0, "")).1)) (len := zSl) (byt := zSb) (A := A0 s) (by decide) (by
    intro i hi
    rcases (show i = 0 ∨ i = 1 ∨ i = 2 by omega) with rfl | rfl | rfl <;>  exact hs _ (by decide +kernel)) (by
    intro i hi
    rcases (show i = 0 ∨ i = 1 ∨ i = 2 by omega) with rfl | rfl | rfl <;>  exact hs _ (by decide +kernel)) (by
    intro i hi
    rcases (show i = 0 ∨ i = 1 ∨ i = 2 by omega) with rfl | rfl | rfl <;>  exact hs _ (by decide +kernel)) (by
    intro i hi
    rcases (show i = 0 ∨ i = 1 ∨ i = 2 by omega) with rfl | rfl | rfl <;>  exact hs _ (by decide +kernel)) (by
    intro i hi j hj
    rcases (show i = 0 ∨ i = 1 ∨ i = 2 by omega) with rfl | rfl | rfl
    · have hj : j < 5 := hj
      rcases (show j = 0 ∨ j = 1 ∨ j = 2 ∨ j = 3 ∨ j = 4 by omega) with rfl | rfl | rfl | rfl | rfl <;> exact hs _ (by decide +kernel)
    · have hj : j < 3 := hj
      rcases (show j = 0 ∨ j = 1 ∨ j = 2 by omega) with rfl | rfl | rfl <;> exact hs _ (by decide +kernel)
    · have hj : j < 5 := hj
      rcases (show j = 0 ∨ j = 1 ∨ j = 2 ∨ j = 3 ∨ j = 4 by omega) with rfl | rfl | rfl | rfl | rfl <;> exact hs _ (by decide +kernel)) (by
    intro i j hi hj hij
    rcases (show i = 0 ∨ i = 1 ∨ i = 2 by omega) with rfl | rfl | rfl <;> rcases (show j = 0 ∨ j = 1 ∨ j = 2 by omega) with rfl | rfl | rfl <;> first | exact absurd rfl hij | exact Or.inl (hs _ (by decide +kernel)) | exact Or.inr (hs _ (by decide +kernel))) hA
  refine ⟨ak, av, h1, ?_, va_Zof (hts _ (List.mem_of_getElem? (i := 364) (show lw_tbl[364]? = some (Cond.laysStatic "java/lang/String" "COMPACT_STRINGS" "Z") from by decide +kernel))) (hts _ (List.mem_of_getElem? (i := 73) (show lw_tbl[73]? = some (Cond.initialized "java/lang/String") from by decide +kernel))) (va_eqt (hs (Jvm.Cond.eq (Jvm.Term.static "java/lang/String" "COMPACT_STRINGS" "Z") (Jvm.Term.int 1)) (by decide +kernel))) hA, va_Zqof (hts _ (List.mem_of_getElem? (i := 380) (show lw_tbl[380]? = some (Cond.laysStatic "jdk/internal/util/Preconditions" "SIOOBE_FORMATTER" "Ljava/util/function/BiFunction;") from by decide +kernel))) (hts _ (List.mem_of_getElem? (i := 75) (show lw_tbl[75]? = some (Cond.initialized "jdk/internal/util/Preconditions") from by decide +kernel))) (hs _ (by decide +kernel)) hA⟩
  intro i hi
  refine vk_R.of (A := #[Value.ref b]) (hts _ ?_) (h2 i hi)
  rcases (show i = 0 ∨ i = 1 ∨ i = 2 by omega) with rfl | rfl | rfl
  · exact (List.mem_of_getElem? (i := 350) (show lw_tbl[350]? = some (Cond.stringRef "DarkShares$Text" 43 "night") from by decide +kernel))
  · exact (List.mem_of_getElem? (i := 407) (show lw_tbl[407]? = some (Cond.stringRef "DarkShares$Text" 53 "boy") from by decide +kernel))
  · exact (List.mem_of_getElem? (i := 417) (show lw_tbl[417]? = some (Cond.stringRef "DarkShares$Text" 58 "cells") from by decide +kernel))
theorem zrange (ws : va_W) (x : Nat × va_E) : (List.range ws.length).map (fun i => (ws ++ [x])[i]?) = ws.map some := by
  apply List.ext_getElem?
  intro i
  by_cases h : i < ws.length
  · simp [h, List.getElem?_range h, List.getElem?_append_left h]
  · rw [List.getElem?_eq_none (by simp; omega), List.getElem?_eq_none (by simp; omega)]
set_option maxHeartbeats 4000000 in
set_option maxRecDepth 100000 in
theorem law_start {p : Program} {e : Env} {s : State} {m : MethodId} {below : List Frame} {meth : Method} {c : Code} (l : Launch) {b L : Nat} {xs : Nat → Int32} (hL : L ≤ 320) (C0 : lw_At p s m meth c b L xs) {Rel : Mem → Mem → Prop} (hRel : ∀ μC μM, InitC μC → InitM μM → Rel μC μM) (hAll : AllSteps Rel) : W p l e room_1 s m #[Value.ref b] below meth c s.heap [] 0 0 (lw_Z below #[Value.ref b] s) (entryFrame m ([Value.ref b] : List Value).toArray 4) := by
  obtain ⟨hx, hb, hr, hml, hown, hts, hX, hbl, hlocks, hgv⟩ := id C0
  have hown : s.vm.findClass "DarkSharesLaw" = some m.cls := hown
  have htt : ∀ w ∈ zTT, w.before #[Value.ref b] s = true := fun w h => hts w (zTT_in h)
  have hN : zNest s := zNest_of hts
  obtain ⟨ak, av, hs1, hs2, hs3, hs4⟩ := zStr_of hts hgv
  have hA : ∀ q : Nat, s.heap.size ≤ q → A0 s q := fun _ h => h
  obtain ⟨k0, i0, hn0⟩ := u_known (C := RX0) (T := TX0) (N := 0) (n := 0) htt zin0 (htt _ kw117)
  obtain ⟨k1, i1, hn1⟩ := u_known (C := RX1) (T := TX1) (N := 10) (n := 10) htt zin1 (htt _ kw131)
  obtain ⟨k2, i2, hn2⟩ := u_known (C := RX2) (T := TX2) (N := 3) (n := 3) htt zin2 (htt _ kw183)
  obtain ⟨k3, i3, hn3⟩ := u_known (C := RX3) (T := TX3) (N := 0) (n := 0) htt zin3 (htt _ kw89)
  obtain ⟨k4, i4, hn4⟩ := u_known (C := RX4) (T := TX4) (N := 0) (n := 0) htt zin4 (htt _ kw103)
  obtain ⟨k5, i5, hn5⟩ := u_known (C := RX5) (T := TX5) (N := 0) (n := 0) htt zin5 (htt _ kw124)
  obtain ⟨k6, i6, hn6⟩ := u_known (C := RX6) (T := TX6) (N := 0) (n := 0) htt zin6 (htt _ kw110)
  obtain ⟨k7, i7, hn7⟩ := u_known (C := RX7) (T := TX7) (N := 0) (n := 0) htt zin7 (htt _ kw96)
  obtain ⟨k8, i8, hn8⟩ := u_known (C := RX8) (T := TX8) (N := 6) (n := 6) htt zin8 (htt _ kw202)
  obtain ⟨k9, i9, hn9⟩ := u_known (C := RX9) (T := TX9) (N := 11) (n := 11) htt zin9 (htt _ kw80)
  obtain ⟨k10, i10, hn10⟩ := u_known (C := RX10) (T := TX10) (N := 28) (n := 28) htt zin10 (htt _ kw747)
  obtain ⟨D, hKc⟩ : ∃ D : va_G, ∀ (k : Nat) (q : vw_C), vwCl[k]? = some q → u_Kn s q.1 q.2.1 q.2.2 (D.1 k) (D.2 k) := by
    refine ⟨(fun k => if k = 0 then k0 else if k = 1 then k1 else if k = 2 then k2 else if k = 3 then k3 else if k = 4 then k4 else if k = 5 then k5 else if k = 6 then k6 else if k = 7 then k7 else if k = 8 then k8 else if k = 9 then k9 else k10, fun k => if k = 0 then i0 else if k = 1 then i1 else if k = 2 then i2 else if k = 3 then i3 else if k = 4 then i4 else if k = 5 then i5 else if k = 6 then i6 else if k = 7 then i7 else if k = 8 then i8 else if k = 9 then i9 else i10), ?_⟩
    intro k q hq
    match k, hq with
    | 0, hq => cases hq; exact hn0
    | 1, hq => cases hq; exact hn1
    | 2, hq => cases hq; exact hn2
    | 3, hq => cases hq; exact hn3
    | 4, hq => cases hq; exact hn4
    | 5, hq => cases hq; exact hn5
    | 6, hq => cases hq; exact hn6
    | 7, hq => cases hq; exact hn7
    | 8, hq => cases hq; exact hn8
    | 9, hq => cases hq; exact hn9
    | 10, hq => cases hq; exact hn10
    | k + 11, hq => simp [vwCl] at hq
  have hS : va_S (A0 s) s.heap s.heap [] := va_S.rf
  have hK : va_K D vwCl [] s := ⟨hKc, fun k q h => by simp at h⟩
  have hP : va_P D vwCl [] s.heap := fun k q h => by simp at h
  have hD : va_D (A0 s) [] := ⟨fun i j p q h => by simp at h, fun k q h => by simp at h⟩
  have hl := lv_entry ([.ref b]) (n := 4) (Nat.le_of_ble_eq_true rfl)
  rw [lg_entry_eq]
  generalize (lg_sl ([.ref b]) ++ List.replicate (4 - (lg_sl ([.ref b])).length) Slot.unset).toArray = ls at hl ⊢
  have hl : lv_has ls 4 [(0, .ref b)] := hl
  refine va_new (pc := 0) (ci := 9) (fs := [.null, .null, .null, .null, .null, .null, .long 0, .long 0, .int 0, .int 0, .int 0]) (C := RX9) (T := TX9) (N := 11) hx hb htt zin9 tyX9 tyX9_ok hown (htt _ kw79) (htt _ kw80) (htt _ kw60) hK hP hD hS hA rfl (fun j hj => by rcases (show j = 0 ∨ j = 1 ∨ j = 2 ∨ j = 3 ∨ j = 4 ∨ j = 5 ∨ j = 6 ∨ j = 7 ∨ j = 8 ∨ j = 9 ∨ j = 10 by omega) with rfl | rfl | rfl | rfl | rfl | rfl | rfl | rfl | rfl | rfl | rfl <;> rfl) (Nat.le_of_ble_eq_true rfl) (Nat.le_of_ble_eq_true rfl) dL_law_0 (fun q0 H hP hD hS => ?_)
  have hP : va_P D vwCl [(q0, .inr (9, [.null, .null, .null, .null, .null, .null, .long 0, .long 0, .int 0, .int 0, .int 0]))] H := hP
  have hD : va_D (A0 s) [(q0, .inr (9, [.null, .null, .null, .null, .null, .null, .long 0, .long 0, .int 0, .int 0, .int 0]))] := hD
  refine lv_dup (pc := 3) hx hb dL_law_3 rfl ?_
  refine zinitP (pc := 4) (As := []) (rest := [.ref q0]) hx hb hml hown htt hN hl.1 c_X9_init kw81 kw82 kw60 kw83 hy_X9_init rfl ⟨Nat.le_of_ble_eq_true rfl, Nat.le_of_ble_eq_true rfl⟩ ⟨Nat.le_of_ble_eq_true rfl, Nat.le_of_ble_eq_true rfl⟩ (zle8 rfl) rfl dL_law_4 hK hP hD hS hA 0 rfl [] (wr := []) rfl (by decide) (by decide) (fun w1 t1 H locs hpost hK hP hD hS => ?_)
  obtain ⟨ad, ca, μC, had, hiC, hw⟩ := hpost
  obtain ⟨e1, e2⟩ := hw ak av
  subst e1
  subst e2
  have hP : va_P D vwCl (zws ZC (D, ad, ca, ak, av) μC) H := hP
  have hD : va_D (A0 s) (zws ZC (D, ad, ca, ak, av) μC) := hD
  have hKC : va_K D vwCl (zT ZC (D, ad, ca, ak, av)) s := hK
  have hK := hKC
  refine lv_astore_n (pc := 7) (lv' := [(1, .ref q0), (0, .ref b)]) hx hb dL_law_7 rfl hl (by decide) rfl (fun ls hl => ?_)
  refine va_new (pc := 8) (ci := 10) (fs := [.null, .int 0, .int 0, .null, .null, .null, .null, .null, .null, .null, .null, .null, .int 0, .int 0, .int 0, .null, .null, .int 0, .null, .int 0, .null, .null, .null, .long 0, .long 0, .null, .null, .long 0]) (C := RX10) (T := TX10) (N := 28) hx hb htt zin10 tyX10 tyX10_ok hown (htt _ kw746) (htt _ kw747) (htt _ kw71) hK hP hD hS hA rfl (fun j hj => by rcases (show j = 0 ∨ j = 1 ∨ j = 2 ∨ j = 3 ∨ j = 4 ∨ j = 5 ∨ j = 6 ∨ j = 7 ∨ j = 8 ∨ j = 9 ∨ j = 10 ∨ j = 11 ∨ j = 12 ∨ j = 13 ∨ j = 14 ∨ j = 15 ∨ j = 16 ∨ j = 17 ∨ j = 18 ∨ j = 19 ∨ j = 20 ∨ j = 21 ∨ j = 22 ∨ j = 23 ∨ j = 24 ∨ j = 25 ∨ j = 26 ∨ j = 27 by omega) with rfl | rfl | rfl | rfl | rfl | rfl | rfl | rfl | rfl | rfl | rfl | rfl | rfl | rfl | rfl | rfl | rfl | rfl | rfl | rfl | rfl | rfl | rfl | rfl | rfl | rfl | rfl | rfl <;> rfl) (Nat.le_of_ble_eq_true rfl) (Nat.le_of_ble_eq_true rfl) dL_law_8 (fun q1 H hP hD hS => ?_)
  refine lv_dup (pc := 11) hx hb dL_law_11 rfl ?_
  have h43 : (zws ZC (D, ad, ca, ak, av) μC).length = 43 := zws_len
  refine zinitP (pc := 12) (As := []) (rest := [.ref q1]) hx hb hml hown htt hN hl.1 c_X10_init kw748 kw749 kw71 kw750 hy_X10_init rfl ⟨Nat.le_of_ble_eq_true rfl, Nat.le_of_ble_eq_true rfl⟩ ⟨Nat.le_of_ble_eq_true rfl, Nat.le_of_ble_eq_true rfl⟩ (zle8 rfl) rfl dL_law_12 hK hP hD hS hA 43 (by rw [List.getElem?_append_right (by rw [h43]; exact Nat.le_refl _), h43]; rfl) (List.range 43) (wr := zws ZC (D, ad, ca, ak, av) μC) (by rw [← h43]; exact zrange _ _) (by decide) (by decide) (fun w1 t1 H locs hpost hK hP hD hS => ?_)
  obtain ⟨am, cm, μM, ham, hiM, hw⟩ := hpost
  obtain ⟨e1, e2⟩ := hw ak av
  subst e1
  subst e2
  have hKM : va_K D vwCl (zT ZM (D, am, cm, ak, av)) s := by
    have := hK.sub (tys' := zT ZM (D, am, cm, ak, av)) [5] rfl
    exact this
  refine lv_astore_n (pc := 15) (lv' := [(2, .ref q1), (1, .ref q0), (0, .ref b)]) hx hb dL_law_15 rfl hl (by decide) rfl (fun ls hl => ?_)
  refine lv_iconst (pc := 16) (v := (0 : Int32)) hx hb dL_law_16 rfl ?_
  refine lv_istore_n (pc := 17) (lv' := [(3, .int (0 : Int32)), (2, .ref q1), (1, .ref q0), (0, .ref b)]) hx hb dL_law_17 rfl hl (by decide) rfl (fun ls hl => ?_)
  have hPl : va_P D vwCl (zws ZC (D, ad, ca, ak, av) μC) H := fun k q hk => hP k q (by rw [List.getElem?_append_left (List.getElem?_eq_some_iff.mp hk).1]; exact hk)
  have hPr : va_P D vwCl (zws ZM (D, am, cm, ak, av) μM) H := fun k q hk => hP (43 + k) q (by rw [List.getElem?_append_right (by rw [zws_len]; show 43 ≤ 43 + k; omega), zws_len]; rw [show 43 + k - ZC.1 = k from by show 43 + k - 43 = k; omega]; exact hk)
  have aC : ∀ q, zAd ZC (D, ad, ca, ak, av) q → A0 s q := by
    rintro q ⟨a, ha, rfl⟩
    exact hD.left.2 a _ (zws_at ha)
  have aM : ∀ q, zAd ZM (D, am, cm, ak, av) q → A0 s q := by
    rintro q ⟨a, ha, rfl⟩
    exact hD.right.2 a _ (zws_at ha)
  have dis : ∀ q, zAd ZC (D, ad, ca, ak, av) q → ¬ zAd ZM (D, am, cm, ak, av) q := by
    rintro q ⟨a, ha, rfl⟩ ⟨a', ha', e⟩
    exact zin_app hD (zws_at ha) (zws_at ha') e.symm
  have X : LX (D, ad, ca, ak, av) (D, am, cm, ak, av) p s m #[Value.ref b] c b L xs := by
    refine ⟨hx, hb, hml, hown, htt, hX, hbl, hL, fun H locs hS U hU hw => ⟨hKC.moved hw.alike, fun i j hi hj e => hD.left.1 i j _ _ (zws_at hi) (zws_at hj) e, fun _ => ⟨hN.warm hw, ?_, fun i hi => vk_R.warm hw (hs2 i hi), ?_, ?_⟩⟩, fun H locs hS U hU hw => ⟨hKM.moved hw.alike, fun i j hi hj e => hD.right.1 i j _ _ (zws_at hi) (zws_at hj) e, fun h => by cases h⟩, hKC, hKM, aC, aM, dis⟩
    · rw [hU]; exact ((hs1.moved hw.alike).kept hS.2.1).narrow aC
    · rw [hU]; exact ((hs3.moved hw.alike).kept hS.2.1).narrow aC
    · rw [hU]; exact ((hs4.moved hw.alike).kept hS.2.1).narrow aC
  have had : zad ((D, ad, ca, ak, av) : ZG) 0 = q0 := had
  have ham : zad ((D, am, cm, ak, av) : ZG) 0 = q1 := ham
  have hl2 : lv_has ls 4 [(0, .ref b), (1, .ref (zad ((D, ad, ca, ak, av) : ZG) 0)), (2, .ref (zad ((D, am, cm, ak, av) : ZG) 0)), (3, .int (0 : Int32))] := by
    rw [had, ham]
    exact lv_sub hl [3, 2, 1, 0] rfl
  exact law_loop hr hlocks X ⟨Nat.le_of_ble_eq_true rfl, Nat.le_of_ble_eq_true rfl⟩ hAll (L + 6) 0 (by omega) (by omega) nI_0.symm hl2 ⟨hPl, hPr, hS⟩ (hRel μC μM hiC hiM)
