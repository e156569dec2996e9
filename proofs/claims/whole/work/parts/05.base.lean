/-! THE BASE: one judgement 'fw_At' for a method of a system whose cells are fixed, its ints a memory; a row an instruction -/
abbrev Mem : Type := Nat → Nat → Int32
def setc (σ : Mem) (c : Nat) (f : Nat → Int32) : Mem := fun k => if k = c then f else σ k
def up2 (σ : Mem) (c i : Nat) (v : Int32) : Mem := setc σ c (upd (σ c) i v)
/-- a system's world: classes' numbers, array classes, how many cells, their addresses, what each holds by its ints, what else holds of the tables and the rest of the heap -/
abbrev Gw : Type := va_G × List (ClassId × FieldType) × Nat × (Nat → Nat) × (Nat → (Nat → Int32) → va_E) × (State → Prop) × (Nat → Nat) × (Nat → Nat)
def gD (G : Gw) : va_G := G.1
def gT (G : Gw) : List (ClassId × FieldType) := G.2.1
def gN (G : Gw) : Nat := G.2.2.1
def gad (G : Gw) : Nat → Nat := G.2.2.2.1
def gsh (G : Gw) : Nat → (Nat → Int32) → va_E := G.2.2.2.2.1
def gkb (G : Gw) : State → Prop := G.2.2.2.2.2.1
/-- String constants: their addresses, those of their byte arrays -/
def gK (G : Gw) : Nat → Nat := G.2.2.2.2.2.2.1
def gV (G : Gw) : Nat → Nat := G.2.2.2.2.2.2.2
def gw (G : Gw) (σ : Mem) : va_W := (List.range (gN G)).map fun k => (gad G k, gsh G k (σ k))
def gA (G : Gw) : Nat → Prop := fun q => ∃ k, k < gN G ∧ q = gad G k
theorem gw_at (G : Gw) (σ : Mem) {k : Nat} (h : k < gN G) : (gw G σ)[k]? = some (gad G k, gsh G k (σ k)) := by
  simp [gw, h]
theorem gw_lt {G : Gw} {σ : Mem} {k : Nat} {q : Nat × va_E} (h : (gw G σ)[k]? = some q) : k < gN G ∧ q = (gad G k, gsh G k (σ k)) := by
  have hk : k < gN G := by
    have := (List.getElem?_eq_some_iff.mp h).1
    simpa [gw] using this
  rw [gw_at G σ hk] at h
  exact ⟨hk, (Option.some.inj h).symm⟩
theorem gw_set (G : Gw) (σ : Mem) {k : Nat} (h : k < gN G) (f : Nat → Int32) : (gw G σ).set k (gad G k, gsh G k f) = gw G (setc σ k f) := by
  apply List.ext_getElem?
  intro j
  by_cases hj : j < gN G
  · rw [gw_at G _ hj]
    by_cases e : k = j
    · subst e
      rw [List.getElem?_set_self (by simpa [gw] using h)]
      simp [setc]
    · rw [List.getElem?_set_ne e, gw_at G σ hj]
      have e2 : ¬ j = k := fun q => e q.symm
      simp [setc, e2]
  · rw [List.getElem?_eq_none (by simp [gw]; omega), List.getElem?_eq_none (by simp [gw]; omega)]
/-- what is needed of a world: addresses apart; what else holds goes with the machine -/
def fw_Gok (G : Gw) : Prop := (∀ i j, i < gN G → j < gN G → gad G i = gad G j → i = j) ∧ (∀ s U : State, gkb G s → s.WarmedH U.vm → s.heap.size ≤ U.heap.size → (∀ q : Nat, q < s.heap.size → ¬ gA G q → U.heap[q]? = s.heap[q]?) → gkb G U) ∧ (∀ s U : State, gkb G s → U.vm = s.vm → U.heap = s.heap → gkb G U)
theorem gw_D {G : Gw} (hG : fw_Gok G) (σ : Mem) : va_D (gA G) (gw G σ) := by
  refine ⟨fun i j p q hi hj e => ?_, fun k q hk => ?_⟩
  · obtain ⟨h1, rfl⟩ := gw_lt hi
    obtain ⟨h2, rfl⟩ := gw_lt hj
    exact hG.1 i j h1 h2 e
  · obtain ⟨h1, rfl⟩ := gw_lt hk
    exact ⟨k, h1, rfl⟩
abbrev Cx : Type := Program × Launch × Env × Room × State × MethodId × Array Value × List Frame × Method × Code
def fw_rm (fr lo : Nat) : Room := { frames := fr, cells := 0, slots := 0, locals := lo }
/-- from pc, with these locals, this stack, this memory, the machine comes to Q -/
def fw_At (X : Cx) (G : Gw) (nL : Nat) (Q : State → Prop) (pc : Nat) (lv : List (Nat × Value)) (st : List Value) (σ : Mem) : Prop :=
  ∀ (H : Heap) (locs : List Loc) (ls : Array Slot), va_P (gD G) vwCl (gw G σ) H → va_S (gA G) X.2.2.2.2.1.heap H locs → lv_has ls nL lv → W X.1 X.2.1 X.2.2.1 X.2.2.2.1 X.2.2.2.2.1 X.2.2.2.2.2.1 X.2.2.2.2.2.2.1 X.2.2.2.2.2.2.2.1 X.2.2.2.2.2.2.2.2.1 X.2.2.2.2.2.2.2.2.2 H locs 0 0 Q (F0 X.2.2.2.2.2.1 pc ls st)
/-- what holds all through a method -/
def fw_Ok (X : Cx) (G : Gw) (cc : ByteArray) (nL : Nat) (own : String) (fr lo : Nat) (ret : Option FieldType) : Prop :=
  CallFix X.1 X.2.2.2.2.2.1 X.2.2.2.2.2.2.2.2.2 cc nL X.2.2.2.2.1 X.2.2.2.2.2.2.1 TT own ∧ va_K (gD G) vwCl (gT G) X.2.2.2.2.1 ∧ gkb G X.2.2.2.2.1 ∧ X.2.2.2.1 = fw_rm fr lo ∧ X.2.2.2.2.2.2.2.2.1.sig.returnType = ret ∧ X.2.2.2.2.2.2.2.2.1.locks = false ∧ fw_Gok G
/-- the world at a call and at a return -/
def fw_WB (G : Gw) (σ : Mem) (U : State) : Prop := va_P (gD G) vwCl (gw G σ) U.heap ∧ va_K (gD G) vwCl (gT G) U ∧ gkb G U
theorem fw_WB.blind {G : Gw} (hG : fw_Gok G) (σ : Mem) (As : List Value) : FrameBlind (va_Pc As (fw_WB G σ)) := by
  intro a U g mk q
  obtain ⟨q0, qP, qK, qb⟩ := q
  exact ⟨q0, qP, va_K.moved (u := U) (U := U.calling g mk a) (Vm.Alike.refl U.vm) qK, hG.2.2 U _ qb rfl rfl⟩
def fw_CI (l : Launch) (G : Gw) (y : MethodName) (cc : ByteArray) (nL : Nat) (ret : FieldType) (fr lo : Nat) (As : List Value) (σ : Mem) (post : Int32 → Mem → Prop) : Prop := Met l y (fw_wd y cc nL (some ret)) (fw_rm fr lo) (va_Pc As (fw_WB G σ)) (va_Qi post (fw_WB G) (gA G)) 0 0 (gA G)
def fw_CL (l : Launch) (G : Gw) (y : MethodName) (cc : ByteArray) (nL : Nat) (fr lo : Nat) (As : List Value) (σ : Mem) (post : Int64 → Mem → Prop) : Prop := Met l y (fw_wd y cc nL (some .long)) (fw_rm fr lo) (va_Pc As (fw_WB G σ)) (va_Ql post (fw_WB G) (gA G)) 0 0 (gA G)
def fw_CV (l : Launch) (G : Gw) (y : MethodName) (cc : ByteArray) (nL : Nat) (fr lo : Nat) (As : List Value) (σ : Mem) (post : Mem → Prop) : Prop := Met l y (fw_wd y cc nL none) (fw_rm fr lo) (va_Pc As (fw_WB G σ)) (va_Qv post (fw_WB G) (gA G)) 0 0 (gA G)
def fw_QI (X : Cx) (G : Gw) (post : Int32 → Mem → Prop) : State → Prop := MQ X.2.2.2.2.2.2.2.1 (va_Qi post (fw_WB G) (gA G)) X.2.2.2.2.2.2.1 X.2.2.2.2.1 0 0 (gA G)
def fw_QL (X : Cx) (G : Gw) (post : Int64 → Mem → Prop) : State → Prop := MQ X.2.2.2.2.2.2.2.1 (va_Ql post (fw_WB G) (gA G)) X.2.2.2.2.2.2.1 X.2.2.2.2.1 0 0 (gA G)
def fw_QV (X : Cx) (G : Gw) (post : Mem → Prop) : State → Prop := MQ X.2.2.2.2.2.2.2.1 (va_Qv post (fw_WB G) (gA G)) X.2.2.2.2.2.2.1 X.2.2.2.2.1 0 0 (gA G)
section OF
variable {l : Launch} {G : Gw} {y : MethodName} {cc : ByteArray} {nL fr lo : Nat} {ret : FieldType} {As : List Value} {σ : Mem}
theorem fw_ofI {post : Int32 → Mem → Prop} (hG : fw_Gok G) (hy : plainName y.cls = true) (hlen : (lg_sl As).length ≤ nL) (body : ∀ X : Cx, fw_Ok X G cc nL y.cls fr lo (some ret) → fw_At X G nL (fw_QI X G post) 0 (lv_args 0 As) [] σ) : fw_CI l G y cc nL ret fr lo As σ post := by
  refine Met.ofW (cc := cc) (maxL := nL) (ret := some ret) hy rfl ?_
  intro p e s m args below meth c s₁ B hml hv
  obtain ⟨rfl, hP, hK, hkb⟩ := hv
  have hts := atoms_spec (ws := fw_wd y cc nL (some ret)) B.pre
  rw [lg_entry_eq]
  exact body (p, l, e, fw_rm fr lo, s, m, As.toArray, below, meth, c) ⟨⟨B.exec, B.bytes, hml, findClass_of_methodNamed B.named, fun w h => hts w (List.mem_cons_of_mem _ h)⟩, hK, hkb, rfl, B.returns, B.notSynchronized, hG⟩ s.heap [] _ hP va_S.rf (lv_entry As hlen)
theorem fw_ofL {post : Int64 → Mem → Prop} (hG : fw_Gok G) (hy : plainName y.cls = true) (hlen : (lg_sl As).length ≤ nL) (body : ∀ X : Cx, fw_Ok X G cc nL y.cls fr lo (some .long) → fw_At X G nL (fw_QL X G post) 0 (lv_args 0 As) [] σ) : fw_CL l G y cc nL fr lo As σ post := by
  refine Met.ofW (cc := cc) (maxL := nL) (ret := some .long) hy rfl ?_
  intro p e s m args below meth c s₁ B hml hv
  obtain ⟨rfl, hP, hK, hkb⟩ := hv
  have hts := atoms_spec (ws := fw_wd y cc nL (some .long)) B.pre
  rw [lg_entry_eq]
  exact body (p, l, e, fw_rm fr lo, s, m, As.toArray, below, meth, c) ⟨⟨B.exec, B.bytes, hml, findClass_of_methodNamed B.named, fun w h => hts w (List.mem_cons_of_mem _ h)⟩, hK, hkb, rfl, B.returns, B.notSynchronized, hG⟩ s.heap [] _ hP va_S.rf (lv_entry As hlen)
theorem fw_ofV {post : Mem → Prop} (hG : fw_Gok G) (hy : plainName y.cls = true) (hlen : (lg_sl As).length ≤ nL) (body : ∀ X : Cx, fw_Ok X G cc nL y.cls fr lo none → fw_At X G nL (fw_QV X G post) 0 (lv_args 0 As) [] σ) : fw_CV l G y cc nL fr lo As σ post := by
  refine Met.ofW (cc := cc) (maxL := nL) (ret := none) hy rfl ?_
  intro p e s m args below meth c s₁ B hml hv
  obtain ⟨rfl, hP, hK, hkb⟩ := hv
  have hts := atoms_spec (ws := fw_wd y cc nL none) B.pre
  rw [lg_entry_eq]
  exact body (p, l, e, fw_rm fr lo, s, m, As.toArray, below, meth, c) ⟨⟨B.exec, B.bytes, hml, findClass_of_methodNamed B.named, fun w h => hts w (List.mem_cons_of_mem _ h)⟩, hK, hkb, rfl, B.returns, B.notSynchronized, hG⟩ s.heap [] _ hP va_S.rf (lv_entry As hlen)
end OF
/-- a boolean that is one -/
def isB (v : Int32) : Prop := v = 0 ∨ v = 1
theorem isB_0 : isB 0 := Or.inl rfl
theorem isB_1 : isB 1 := Or.inr rfl
theorem isB.nar {v : Int32} (h : isB v) : narrow .boolean (.int v) = .int v := by rcases h with rfl | rfl <;> decide
theorem isB.fit {v : Int32} (h : isB v) : fits .boolean (.int v) = true := by rcases h with rfl | rfl <;> decide
section ROWS
variable {X : Cx} {G : Gw} {cc : ByteArray} {nL : Nat} {own : String} {fr lo : Nat} {ret : Option FieldType} {Q : State → Prop} {pc : Nat} {lv lv' : List (Nat × Value)} {st : List Value} {σ : Mem}
theorem fw_sub (ks : List Nat) (h : lv_pick lv ks = lv') (kk : fw_At X G nL Q pc lv' st σ) : fw_At X G nL Q pc lv st σ := fun H locs ls hP hS hl => kk H locs ls hP hS (lv_sub hl ks h)
theorem fw_pc {pc' : Nat} (h : pc = pc') (kk : fw_At X G nL Q pc' lv st σ) : fw_At X G nL Q pc lv st σ := h ▸ kk
theorem fr_iconst (O : fw_Ok X G cc nL own fr lo ret) {n : Int} {v : Int32} (hdg : decode cc pc = .ok (.iconst n, 1)) (hv : Int32.ofInt n = v) (kk : fw_At X G nL Q (pc + 1) lv (.int v :: st) σ) : fw_At X G nL Q pc lv st σ := fun H locs ls hP hS hl => lv_iconst O.1.1 O.1.2.1 hdg hv (kk H locs ls hP hS hl)
theorem fr_bipush (O : fw_Ok X G cc nL own fr lo ret) {n : Int} {v : Int32} (hdg : decode cc pc = .ok (.bipush n, 2)) (hv : (Int8.ofInt n).toInt32 = v) (kk : fw_At X G nL Q (pc + 2) lv (.int v :: st) σ) : fw_At X G nL Q pc lv st σ := fun H locs ls hP hS hl => lv_bipush O.1.1 O.1.2.1 hdg hv (kk H locs ls hP hS hl)
theorem fr_sipush (O : fw_Ok X G cc nL own fr lo ret) {n : Int} {v : Int32} (hdg : decode cc pc = .ok (.sipush n, 3)) (hv : (Int16.ofInt n).toInt32 = v) (kk : fw_At X G nL Q (pc + 3) lv (.int v :: st) σ) : fw_At X G nL Q pc lv st σ := fun H locs ls hP hS hl => lv_sipush O.1.1 O.1.2.1 hdg hv (kk H locs ls hP hS hl)
theorem fr_lconst (O : fw_Ok X G cc nL own fr lo ret) {n : Fin 2} {v : Int64} (hdg : decode cc pc = .ok (.lconst n, 1)) (hv : Int64.ofNat (n : Nat) = v) (kk : fw_At X G nL Q (pc + 1) lv (.long v :: st) σ) : fw_At X G nL Q pc lv st σ := fun H locs ls hP hS hl => lv_lconst O.1.1 O.1.2.1 hdg hv (kk H locs ls hP hS hl)
theorem fr_ldc (O : fw_Ok X G cc nL own fr lo ret) {index : Nat} {v : Int32} (hm : Cond.constant own index v ∈ TT) (hdg : decode cc pc = .ok (.ldc index, 2)) (kk : fw_At X G nL Q (pc + 2) lv (.int v :: st) σ) : fw_At X G nL Q pc lv st σ := fun H locs ls hP hS hl => lv_ldc O.1.1 O.1.2.1 O.1.2.2.2.1 (O.1.2.2.2.2 _ hm) hdg (kk H locs ls hP hS hl)
theorem fr_ldcw (O : fw_Ok X G cc nL own fr lo ret) {index : Nat} {v : Int32} (hm : Cond.constant own index v ∈ TT) (hdg : decode cc pc = .ok (.ldc_w index, 3)) (kk : fw_At X G nL Q (pc + 3) lv (.int v :: st) σ) : fw_At X G nL Q pc lv st σ := fun H locs ls hP hS hl => lv_ldcw O.1.1 O.1.2.1 O.1.2.2.2.1 (O.1.2.2.2.2 _ hm) hdg (kk H locs ls hP hS hl)
theorem fr_ldc2 (O : fw_Ok X G cc nL own fr lo ret) {index : Nat} {v : Int64} (hm : Cond.constantLong own index v ∈ TT) (hdg : decode cc pc = .ok (.ldc2_w index, 3)) (kk : fw_At X G nL Q (pc + 3) lv (.long v :: st) σ) : fw_At X G nL Q pc lv st σ := fun H locs ls hP hS hl => lv_ldc2 O.1.1 O.1.2.1 O.1.2.2.2.1 (O.1.2.2.2.2 _ hm) hdg (kk H locs ls hP hS hl)
theorem fr_iload_n (O : fw_Ok X G cc nL own fr lo ret) (q : Nat) {k : Fin 4} {i : Nat} {x : Int32} (hdg : decode cc pc = .ok (.iload_n k, 1)) (hi : (k : Nat) = i) (hk : lv[q]? = some (i, .int x)) (kk : fw_At X G nL Q (pc + 1) lv (.int x :: st) σ) : fw_At X G nL Q pc lv st σ := fun H locs ls hP hS hl => lv_iload_n O.1.1 O.1.2.1 hdg hi (lv_at hl q hk) (kk H locs ls hP hS hl)
theorem fr_iload (O : fw_Ok X G cc nL own fr lo ret) (q : Nat) {i : Nat} {x : Int32} (hdg : decode cc pc = .ok (.iload i, 2)) (hk : lv[q]? = some (i, .int x)) (kk : fw_At X G nL Q (pc + 2) lv (.int x :: st) σ) : fw_At X G nL Q pc lv st σ := fun H locs ls hP hS hl => lv_iload O.1.1 O.1.2.1 hdg (lv_at hl q hk) (kk H locs ls hP hS hl)
theorem fr_lload_n (O : fw_Ok X G cc nL own fr lo ret) (q : Nat) {k : Fin 4} {i : Nat} {x : Int64} (hdg : decode cc pc = .ok (.lload_n k, 1)) (hi : (k : Nat) = i) (hk : lv[q]? = some (i, .long x)) (kk : fw_At X G nL Q (pc + 1) lv (.long x :: st) σ) : fw_At X G nL Q pc lv st σ := fun H locs ls hP hS hl => lv_lload_n O.1.1 O.1.2.1 hdg hi (lv_at hl q hk) (kk H locs ls hP hS hl)
theorem fr_lload (O : fw_Ok X G cc nL own fr lo ret) (q : Nat) {i : Nat} {x : Int64} (hdg : decode cc pc = .ok (.lload i, 2)) (hk : lv[q]? = some (i, .long x)) (kk : fw_At X G nL Q (pc + 2) lv (.long x :: st) σ) : fw_At X G nL Q pc lv st σ := fun H locs ls hP hS hl => lv_lload O.1.1 O.1.2.1 hdg (lv_at hl q hk) (kk H locs ls hP hS hl)
theorem fr_aload_n (O : fw_Ok X G cc nL own fr lo ret) (q : Nat) {k : Fin 4} {i : Nat} {x : Nat} (hdg : decode cc pc = .ok (.aload_n k, 1)) (hi : (k : Nat) = i) (hk : lv[q]? = some (i, .ref x)) (kk : fw_At X G nL Q (pc + 1) lv (.ref x :: st) σ) : fw_At X G nL Q pc lv st σ := fun H locs ls hP hS hl => lv_aload_n O.1.1 O.1.2.1 hdg hi (lv_at hl q hk) (kk H locs ls hP hS hl)
theorem fr_aload (O : fw_Ok X G cc nL own fr lo ret) (q : Nat) {i : Nat} {x : Nat} (hdg : decode cc pc = .ok (.aload i, 2)) (hk : lv[q]? = some (i, .ref x)) (kk : fw_At X G nL Q (pc + 2) lv (.ref x :: st) σ) : fw_At X G nL Q pc lv st σ := fun H locs ls hP hS hl => lv_aload O.1.1 O.1.2.1 hdg (lv_at hl q hk) (kk H locs ls hP hS hl)

theorem fr_iadd (O : fw_Ok X G cc nL own fr lo ret) {x y : Int32} (hdg : decode cc pc = .ok (.iadd, 1)) (kk : fw_At X G nL Q (pc + 1) lv (.int (x + y) :: st) σ) : fw_At X G nL Q pc lv (.int y :: .int x :: st) σ := fun H locs ls hP hS hl => lv_iadd O.1.1 O.1.2.1 hdg (kk H locs ls hP hS hl)
theorem fr_isub (O : fw_Ok X G cc nL own fr lo ret) {x y : Int32} (hdg : decode cc pc = .ok (.isub, 1)) (kk : fw_At X G nL Q (pc + 1) lv (.int (x - y) :: st) σ) : fw_At X G nL Q pc lv (.int y :: .int x :: st) σ := fun H locs ls hP hS hl => lv_isub O.1.1 O.1.2.1 hdg (kk H locs ls hP hS hl)
theorem fr_imul (O : fw_Ok X G cc nL own fr lo ret) {x y : Int32} (hdg : decode cc pc = .ok (.imul, 1)) (kk : fw_At X G nL Q (pc + 1) lv (.int (x * y) :: st) σ) : fw_At X G nL Q pc lv (.int y :: .int x :: st) σ := fun H locs ls hP hS hl => lv_imul O.1.1 O.1.2.1 hdg (kk H locs ls hP hS hl)
theorem fr_iand (O : fw_Ok X G cc nL own fr lo ret) {x y : Int32} (hdg : decode cc pc = .ok (.iand, 1)) (kk : fw_At X G nL Q (pc + 1) lv (.int (x &&& y) :: st) σ) : fw_At X G nL Q pc lv (.int y :: .int x :: st) σ := fun H locs ls hP hS hl => lv_iand O.1.1 O.1.2.1 hdg (kk H locs ls hP hS hl)
theorem fr_ior (O : fw_Ok X G cc nL own fr lo ret) {x y : Int32} (hdg : decode cc pc = .ok (.ior, 1)) (kk : fw_At X G nL Q (pc + 1) lv (.int (x ||| y) :: st) σ) : fw_At X G nL Q pc lv (.int y :: .int x :: st) σ := fun H locs ls hP hS hl => lv_ior O.1.1 O.1.2.1 hdg (kk H locs ls hP hS hl)
theorem fr_ixor (O : fw_Ok X G cc nL own fr lo ret) {x y : Int32} (hdg : decode cc pc = .ok (.ixor, 1)) (kk : fw_At X G nL Q (pc + 1) lv (.int (x ^^^ y) :: st) σ) : fw_At X G nL Q pc lv (.int y :: .int x :: st) σ := fun H locs ls hP hS hl => lv_ixor O.1.1 O.1.2.1 hdg (kk H locs ls hP hS hl)
theorem fr_ishl (O : fw_Ok X G cc nL own fr lo ret) {x y : Int32} (hdg : decode cc pc = .ok (.ishl, 1)) (kk : fw_At X G nL Q (pc + 1) lv (.int (x <<< (y &&& 31)) :: st) σ) : fw_At X G nL Q pc lv (.int y :: .int x :: st) σ := fun H locs ls hP hS hl => lv_ishl O.1.1 O.1.2.1 hdg (kk H locs ls hP hS hl)
theorem fr_ishr (O : fw_Ok X G cc nL own fr lo ret) {x y : Int32} (hdg : decode cc pc = .ok (.ishr, 1)) (kk : fw_At X G nL Q (pc + 1) lv (.int (x >>> (y &&& 31)) :: st) σ) : fw_At X G nL Q pc lv (.int y :: .int x :: st) σ := fun H locs ls hP hS hl => lv_ishr O.1.1 O.1.2.1 hdg (kk H locs ls hP hS hl)
theorem fr_idiv (O : fw_Ok X G cc nL own fr lo ret) {x y : Int32} (hne : ¬ y = 0) (hdg : decode cc pc = .ok (.idiv, 1)) (kk : fw_At X G nL Q (pc + 1) lv (.int (x / y) :: st) σ) : fw_At X G nL Q pc lv (.int y :: .int x :: st) σ := fun H locs ls hP hS hl => lv_idiv O.1.1 O.1.2.1 hdg hne (kk H locs ls hP hS hl)
theorem fr_irem (O : fw_Ok X G cc nL own fr lo ret) {x y : Int32} (hne : ¬ y = 0) (hdg : decode cc pc = .ok (.irem, 1)) (kk : fw_At X G nL Q (pc + 1) lv (.int (x - x / y * y) :: st) σ) : fw_At X G nL Q pc lv (.int y :: .int x :: st) σ := fun H locs ls hP hS hl => lv_irem O.1.1 O.1.2.1 hdg hne (kk H locs ls hP hS hl)
theorem fr_iushr (O : fw_Ok X G cc nL own fr lo ret) {x y : Int32} (hdg : decode cc pc = .ok (.iushr, 1)) (kk : fw_At X G nL Q (pc + 1) lv (.int (x.toUInt32 >>> (y.toUInt32 &&& Int32.toUInt32 31)).toInt32 :: st) σ) : fw_At X G nL Q pc lv (.int y :: .int x :: st) σ := fun H locs ls hP hS hl => lv_iushr O.1.1 O.1.2.1 hdg rfl (kk H locs ls hP hS hl)
theorem fr_ladd (O : fw_Ok X G cc nL own fr lo ret) {x y : Int64} (hdg : decode cc pc = .ok (.ladd, 1)) (kk : fw_At X G nL Q (pc + 1) lv (.long (x + y) :: st) σ) : fw_At X G nL Q pc lv (.long y :: .long x :: st) σ := fun H locs ls hP hS hl => lv_ladd O.1.1 O.1.2.1 hdg (kk H locs ls hP hS hl)
theorem fr_lsub (O : fw_Ok X G cc nL own fr lo ret) {x y : Int64} (hdg : decode cc pc = .ok (.lsub, 1)) (kk : fw_At X G nL Q (pc + 1) lv (.long (x - y) :: st) σ) : fw_At X G nL Q pc lv (.long y :: .long x :: st) σ := fun H locs ls hP hS hl => lv_lsub O.1.1 O.1.2.1 hdg (kk H locs ls hP hS hl)
theorem fr_lmul (O : fw_Ok X G cc nL own fr lo ret) {x y : Int64} (hdg : decode cc pc = .ok (.lmul, 1)) (kk : fw_At X G nL Q (pc + 1) lv (.long (x * y) :: st) σ) : fw_At X G nL Q pc lv (.long y :: .long x :: st) σ := fun H locs ls hP hS hl => lv_lmul O.1.1 O.1.2.1 hdg (kk H locs ls hP hS hl)
theorem fr_ldiv (O : fw_Ok X G cc nL own fr lo ret) {x y : Int64} (hne : ¬ y = 0) (hdg : decode cc pc = .ok (.ldiv, 1)) (kk : fw_At X G nL Q (pc + 1) lv (.long (x / y) :: st) σ) : fw_At X G nL Q pc lv (.long y :: .long x :: st) σ := fun H locs ls hP hS hl => lv_ldiv O.1.1 O.1.2.1 hdg hne (kk H locs ls hP hS hl)
theorem fr_lrem (O : fw_Ok X G cc nL own fr lo ret) {x y : Int64} (hne : ¬ y = 0) (hdg : decode cc pc = .ok (.lrem, 1)) (kk : fw_At X G nL Q (pc + 1) lv (.long (x - x / y * y) :: st) σ) : fw_At X G nL Q pc lv (.long y :: .long x :: st) σ := fun H locs ls hP hS hl => lv_lrem O.1.1 O.1.2.1 hdg hne (kk H locs ls hP hS hl)
theorem fr_lcmp (O : fw_Ok X G cc nL own fr lo ret) {x y : Int64} (hdg : decode cc pc = .ok (.lcmp, 1)) (kk : fw_At X G nL Q (pc + 1) lv (.int (lg_cmp x y) :: st) σ) : fw_At X G nL Q pc lv (.long y :: .long x :: st) σ := fun H locs ls hP hS hl => W.lcmp O.1.1 O.1.2.1 hdg (kk H locs ls hP hS hl)
theorem fr_i2l (O : fw_Ok X G cc nL own fr lo ret) {x : Int32} (hdg : decode cc pc = .ok (.i2l, 1)) (kk : fw_At X G nL Q (pc + 1) lv (.long x.toInt64 :: st) σ) : fw_At X G nL Q pc lv (.int x :: st) σ := fun H locs ls hP hS hl => lv_i2l O.1.1 O.1.2.1 hdg rfl (kk H locs ls hP hS hl)
theorem fr_i2b (O : fw_Ok X G cc nL own fr lo ret) {x : Int32} (hdg : decode cc pc = .ok (.i2b, 1)) (kk : fw_At X G nL Q (pc + 1) lv (.int x.toInt8.toInt32 :: st) σ) : fw_At X G nL Q pc lv (.int x :: st) σ := fun H locs ls hP hS hl => lv_i2b O.1.1 O.1.2.1 hdg rfl (kk H locs ls hP hS hl)
theorem fr_i2s (O : fw_Ok X G cc nL own fr lo ret) {x : Int32} (hdg : decode cc pc = .ok (.i2s, 1)) (kk : fw_At X G nL Q (pc + 1) lv (.int x.toInt16.toInt32 :: st) σ) : fw_At X G nL Q pc lv (.int x :: st) σ := fun H locs ls hP hS hl => lv_i2s O.1.1 O.1.2.1 hdg rfl (kk H locs ls hP hS hl)
theorem fr_dup (O : fw_Ok X G cc nL own fr lo ret) {va : Value} (hdg : decode cc pc = .ok (.dup, 1)) (hva : va.category = 1) (kk : fw_At X G nL Q (pc + 1) lv (va :: va :: st) σ) : fw_At X G nL Q pc lv (va :: st) σ := fun H locs ls hP hS hl => lv_dup O.1.1 O.1.2.1 hdg hva (kk H locs ls hP hS hl)
theorem fr_pop (O : fw_Ok X G cc nL own fr lo ret) {va : Value} (hdg : decode cc pc = .ok (.pop, 1)) (hva : va.category = 1) (kk : fw_At X G nL Q (pc + 1) lv st σ) : fw_At X G nL Q pc lv (va :: st) σ := fun H locs ls hP hS hl => lv_pop O.1.1 O.1.2.1 hdg hva (kk H locs ls hP hS hl)
theorem fr_dup2 (O : fw_Ok X G cc nL own fr lo ret) {va vb : Value} (hdg : decode cc pc = .ok (.dup2, 1)) (hva : va.category = 1) (hvb : vb.category = 1) (kk : fw_At X G nL Q (pc + 1) lv (va :: vb :: va :: vb :: st) σ) : fw_At X G nL Q pc lv (va :: vb :: st) σ := fun H locs ls hP hS hl => lv_dup2_11 O.1.1 O.1.2.1 hdg hva hvb (kk H locs ls hP hS hl)
theorem fr_nm {x : Int32} (kk : ∀ y : Int32, y = x → fw_At X G nL Q pc lv (.int y :: st) σ) : fw_At X G nL Q pc lv (.int x :: st) σ := kk x rfl
theorem fr_nml {x : Int64} (kk : ∀ y : Int64, y = x → fw_At X G nL Q pc lv (.long y :: st) σ) : fw_At X G nL Q pc lv (.long x :: st) σ := kk x rfl
theorem fr_istore_n (O : fw_Ok X G cc nL own fr lo ret) (ks : List Nat) {k : Fin 4} {i : Nat} {x : Int32} (hdg : decode cc pc = .ok (.istore_n k, 1)) (hi : (k : Nat) = i) (hn : i < nL) (hp : lv_pick ((i, Value.int x) :: lv.filter (fun q => !(q.1 == i) && !(q.1 + 1 == i && q.2.category == 2))) ks = lv') (kk : fw_At X G nL Q (pc + 1) lv' st σ) : fw_At X G nL Q pc lv (.int x :: st) σ := fun H locs ls hP hS hl => lv_istore_n O.1.1 O.1.2.1 hdg hi hl hn rfl (fun ls' hl' => kk H locs ls' hP hS (lv_sub hl' ks hp))
theorem fr_istore (O : fw_Ok X G cc nL own fr lo ret) (ks : List Nat) {i : Nat} {x : Int32} (hdg : decode cc pc = .ok (.istore i, 2)) (hn : i < nL) (hp : lv_pick ((i, Value.int x) :: lv.filter (fun q => !(q.1 == i) && !(q.1 + 1 == i && q.2.category == 2))) ks = lv') (kk : fw_At X G nL Q (pc + 2) lv' st σ) : fw_At X G nL Q pc lv (.int x :: st) σ := fun H locs ls hP hS hl => lv_istore O.1.1 O.1.2.1 hdg hl hn rfl (fun ls' hl' => kk H locs ls' hP hS (lv_sub hl' ks hp))
theorem fr_lstore_n (O : fw_Ok X G cc nL own fr lo ret) (ks : List Nat) {k : Fin 4} {i : Nat} {x : Int64} (hdg : decode cc pc = .ok (.lstore_n k, 1)) (hi : (k : Nat) = i) (hn : i + 1 < nL) (hp : lv_pick ((i, Value.long x) :: lv.filter (fun q => !(q.1 == i) && (!(q.1 == i + 1) && !(q.1 + 1 == i && q.2.category == 2)))) ks = lv') (kk : fw_At X G nL Q (pc + 1) lv' st σ) : fw_At X G nL Q pc lv (.long x :: st) σ := fun H locs ls hP hS hl => lv_lstore_n O.1.1 O.1.2.1 hdg hi hl hn rfl (fun ls' hl' => kk H locs ls' hP hS (lv_sub hl' ks hp))
theorem fr_lstore (O : fw_Ok X G cc nL own fr lo ret) (ks : List Nat) {i : Nat} {x : Int64} (hdg : decode cc pc = .ok (.lstore i, 2)) (hn : i + 1 < nL) (hp : lv_pick ((i, Value.long x) :: lv.filter (fun q => !(q.1 == i) && (!(q.1 == i + 1) && !(q.1 + 1 == i && q.2.category == 2)))) ks = lv') (kk : fw_At X G nL Q (pc + 2) lv' st σ) : fw_At X G nL Q pc lv (.long x :: st) σ := fun H locs ls hP hS hl => lv_lstore O.1.1 O.1.2.1 hdg hl hn rfl (fun ls' hl' => kk H locs ls' hP hS (lv_sub hl' ks hp))
theorem fr_astore_n (O : fw_Ok X G cc nL own fr lo ret) (ks : List Nat) {k : Fin 4} {i : Nat} {x : Nat} (hdg : decode cc pc = .ok (.astore_n k, 1)) (hi : (k : Nat) = i) (hn : i < nL) (hp : lv_pick ((i, Value.ref x) :: lv.filter (fun q => !(q.1 == i) && !(q.1 + 1 == i && q.2.category == 2))) ks = lv') (kk : fw_At X G nL Q (pc + 1) lv' st σ) : fw_At X G nL Q pc lv (.ref x :: st) σ := fun H locs ls hP hS hl => lv_astore_n O.1.1 O.1.2.1 hdg hi hl hn rfl (fun ls' hl' => kk H locs ls' hP hS (lv_sub hl' ks hp))
theorem fr_astore (O : fw_Ok X G cc nL own fr lo ret) (ks : List Nat) {i : Nat} {x : Nat} (hdg : decode cc pc = .ok (.astore i, 2)) (hn : i < nL) (hp : lv_pick ((i, Value.ref x) :: lv.filter (fun q => !(q.1 == i) && !(q.1 + 1 == i && q.2.category == 2))) ks = lv') (kk : fw_At X G nL Q (pc + 2) lv' st σ) : fw_At X G nL Q pc lv (.ref x :: st) σ := fun H locs ls hP hS hl => lv_astore O.1.1 O.1.2.1 hdg hl hn rfl (fun ls' hl' => kk H locs ls' hP hS (lv_sub hl' ks hp))
theorem fr_iinc (O : fw_Ok X G cc nL own fr lo ret) (q : Nat) (ks : List Nat) {i : Nat} {n : Int} {x w : Int32} {lvF : Int32 → List (Nat × Value)} (hdg : decode cc pc = .ok (.iinc i n, 3)) (hk : lv[q]? = some (i, .int x)) (hw : Int32.ofInt n = w) (hn : i < nL) (hp : ∀ v : Int32, lv_pick ((i, Value.int v) :: lv.filter (fun q => !(q.1 == i) && !(q.1 + 1 == i && q.2.category == 2))) ks = lvF v) (kk : ∀ v : Int32, v = x + w → fw_At X G nL Q (pc + 3) (lvF v) st σ) : fw_At X G nL Q pc lv st σ := fun H locs ls hP hS hl => lv_iinc (v := x + w) O.1.1 O.1.2.1 hdg hl hk (by rw [hw]) hn rfl (fun ls' hl' => kk (x + w) rfl H locs ls' hP hS (lv_sub hl' ks (hp _)))
theorem fr_icmp_eq (O : fw_Ok X G cc nL own fr lo ret) {x y : Int32} {off : Int} {tgt : Nat} (hdg : decode cc pc = .ok (.if_icmp .eq off, 3)) (ht : (pc : Int) + off = (tgt : Int)) (kt : x = y → fw_At X G nL Q tgt lv st σ) (kf : ¬ x = y → fw_At X G nL Q (pc + 3) lv st σ) : fw_At X G nL Q pc lv (.int y :: .int x :: st) σ := fun H locs ls hP hS hl => lv_icmp_eq O.1.1 O.1.2.1 hdg ht (fun z => kt z H locs ls hP hS hl) (fun z => kf z H locs ls hP hS hl)
theorem fr_if_eq (O : fw_Ok X G cc nL own fr lo ret) {x : Int32} {off : Int} {tgt : Nat} (hdg : decode cc pc = .ok (.ifCond .eq off, 3)) (ht : (pc : Int) + off = (tgt : Int)) (kt : x = 0 → fw_At X G nL Q tgt lv st σ) (kf : ¬ x = 0 → fw_At X G nL Q (pc + 3) lv st σ) : fw_At X G nL Q pc lv (.int x :: st) σ := fun H locs ls hP hS hl => lv_if_eq O.1.1 O.1.2.1 hdg ht (fun z => kt z H locs ls hP hS hl) (fun z => kf z H locs ls hP hS hl)
theorem fr_icmp_ne (O : fw_Ok X G cc nL own fr lo ret) {x y : Int32} {off : Int} {tgt : Nat} (hdg : decode cc pc = .ok (.if_icmp .ne off, 3)) (ht : (pc : Int) + off = (tgt : Int)) (kt : ¬ x = y → fw_At X G nL Q tgt lv st σ) (kf : x = y → fw_At X G nL Q (pc + 3) lv st σ) : fw_At X G nL Q pc lv (.int y :: .int x :: st) σ := fun H locs ls hP hS hl => lv_icmp_ne O.1.1 O.1.2.1 hdg ht (fun z => kt z H locs ls hP hS hl) (fun z => kf z H locs ls hP hS hl)
theorem fr_if_ne (O : fw_Ok X G cc nL own fr lo ret) {x : Int32} {off : Int} {tgt : Nat} (hdg : decode cc pc = .ok (.ifCond .ne off, 3)) (ht : (pc : Int) + off = (tgt : Int)) (kt : ¬ x = 0 → fw_At X G nL Q tgt lv st σ) (kf : x = 0 → fw_At X G nL Q (pc + 3) lv st σ) : fw_At X G nL Q pc lv (.int x :: st) σ := fun H locs ls hP hS hl => lv_if_ne O.1.1 O.1.2.1 hdg ht (fun z => kt z H locs ls hP hS hl) (fun z => kf z H locs ls hP hS hl)
theorem fr_icmp_lt (O : fw_Ok X G cc nL own fr lo ret) {x y : Int32} {off : Int} {tgt : Nat} (hdg : decode cc pc = .ok (.if_icmp .lt off, 3)) (ht : (pc : Int) + off = (tgt : Int)) (kt : x < y → fw_At X G nL Q tgt lv st σ) (kf : ¬ x < y → fw_At X G nL Q (pc + 3) lv st σ) : fw_At X G nL Q pc lv (.int y :: .int x :: st) σ := fun H locs ls hP hS hl => lv_icmp_lt O.1.1 O.1.2.1 hdg ht (fun z => kt z H locs ls hP hS hl) (fun z => kf z H locs ls hP hS hl)
theorem fr_if_lt (O : fw_Ok X G cc nL own fr lo ret) {x : Int32} {off : Int} {tgt : Nat} (hdg : decode cc pc = .ok (.ifCond .lt off, 3)) (ht : (pc : Int) + off = (tgt : Int)) (kt : x < 0 → fw_At X G nL Q tgt lv st σ) (kf : ¬ x < 0 → fw_At X G nL Q (pc + 3) lv st σ) : fw_At X G nL Q pc lv (.int x :: st) σ := fun H locs ls hP hS hl => lv_if_lt O.1.1 O.1.2.1 hdg ht (fun z => kt z H locs ls hP hS hl) (fun z => kf z H locs ls hP hS hl)
theorem fr_icmp_ge (O : fw_Ok X G cc nL own fr lo ret) {x y : Int32} {off : Int} {tgt : Nat} (hdg : decode cc pc = .ok (.if_icmp .ge off, 3)) (ht : (pc : Int) + off = (tgt : Int)) (kt : y ≤ x → fw_At X G nL Q tgt lv st σ) (kf : ¬ y ≤ x → fw_At X G nL Q (pc + 3) lv st σ) : fw_At X G nL Q pc lv (.int y :: .int x :: st) σ := fun H locs ls hP hS hl => lv_icmp_ge O.1.1 O.1.2.1 hdg ht (fun z => kt z H locs ls hP hS hl) (fun z => kf z H locs ls hP hS hl)
theorem fr_if_ge (O : fw_Ok X G cc nL own fr lo ret) {x : Int32} {off : Int} {tgt : Nat} (hdg : decode cc pc = .ok (.ifCond .ge off, 3)) (ht : (pc : Int) + off = (tgt : Int)) (kt : 0 ≤ x → fw_At X G nL Q tgt lv st σ) (kf : ¬ 0 ≤ x → fw_At X G nL Q (pc + 3) lv st σ) : fw_At X G nL Q pc lv (.int x :: st) σ := fun H locs ls hP hS hl => lv_if_ge O.1.1 O.1.2.1 hdg ht (fun z => kt z H locs ls hP hS hl) (fun z => kf z H locs ls hP hS hl)
theorem fr_icmp_gt (O : fw_Ok X G cc nL own fr lo ret) {x y : Int32} {off : Int} {tgt : Nat} (hdg : decode cc pc = .ok (.if_icmp .gt off, 3)) (ht : (pc : Int) + off = (tgt : Int)) (kt : y < x → fw_At X G nL Q tgt lv st σ) (kf : ¬ y < x → fw_At X G nL Q (pc + 3) lv st σ) : fw_At X G nL Q pc lv (.int y :: .int x :: st) σ := fun H locs ls hP hS hl => lv_icmp_gt O.1.1 O.1.2.1 hdg ht (fun z => kt z H locs ls hP hS hl) (fun z => kf z H locs ls hP hS hl)
theorem fr_if_gt (O : fw_Ok X G cc nL own fr lo ret) {x : Int32} {off : Int} {tgt : Nat} (hdg : decode cc pc = .ok (.ifCond .gt off, 3)) (ht : (pc : Int) + off = (tgt : Int)) (kt : 0 < x → fw_At X G nL Q tgt lv st σ) (kf : ¬ 0 < x → fw_At X G nL Q (pc + 3) lv st σ) : fw_At X G nL Q pc lv (.int x :: st) σ := fun H locs ls hP hS hl => lv_if_gt O.1.1 O.1.2.1 hdg ht (fun z => kt z H locs ls hP hS hl) (fun z => kf z H locs ls hP hS hl)
theorem fr_icmp_le (O : fw_Ok X G cc nL own fr lo ret) {x y : Int32} {off : Int} {tgt : Nat} (hdg : decode cc pc = .ok (.if_icmp .le off, 3)) (ht : (pc : Int) + off = (tgt : Int)) (kt : x ≤ y → fw_At X G nL Q tgt lv st σ) (kf : ¬ x ≤ y → fw_At X G nL Q (pc + 3) lv st σ) : fw_At X G nL Q pc lv (.int y :: .int x :: st) σ := fun H locs ls hP hS hl => lv_icmp_le O.1.1 O.1.2.1 hdg ht (fun z => kt z H locs ls hP hS hl) (fun z => kf z H locs ls hP hS hl)
theorem fr_if_le (O : fw_Ok X G cc nL own fr lo ret) {x : Int32} {off : Int} {tgt : Nat} (hdg : decode cc pc = .ok (.ifCond .le off, 3)) (ht : (pc : Int) + off = (tgt : Int)) (kt : x ≤ 0 → fw_At X G nL Q tgt lv st σ) (kf : ¬ x ≤ 0 → fw_At X G nL Q (pc + 3) lv st σ) : fw_At X G nL Q pc lv (.int x :: st) σ := fun H locs ls hP hS hl => lv_if_le O.1.1 O.1.2.1 hdg ht (fun z => kt z H locs ls hP hS hl) (fun z => kf z H locs ls hP hS hl)
theorem fr_goto (O : fw_Ok X G cc nL own fr lo ret) {off : Int} {tgt : Nat} (hdg : decode cc pc = .ok (.goto off, 3)) (ht : (pc : Int) + off = (tgt : Int)) (kk : fw_At X G nL Q tgt lv st σ) : fw_At X G nL Q pc lv st σ := fun H locs ls hP hS hl => lv_goto O.1.1 O.1.2.1 hdg ht (kk H locs ls hP hS hl)
theorem fr_tabIn (O : fw_Ok X G cc nL own fr lo ret) {dflt lo1 hi1 : Int} {offs : Array Int} {len : Nat} {x : Int32} {off : Int} {tgt : Nat} (hdg : decode cc pc = .ok (.tableswitch dflt lo1 hi1 offs, len)) (h : ¬ x.toInt < lo1 ∧ ¬ hi1 < x.toInt ∧ offs[(x.toInt - lo1).toNat]? = some off ∧ (pc : Int) + off = (tgt : Int)) (kk : fw_At X G nL Q tgt lv st σ) : fw_At X G nL Q pc lv (.int x :: st) σ := fun H locs ls hP hS hl => lv_tableIn O.1.1 O.1.2.1 hdg h.1 h.2.1 h.2.2.1 h.2.2.2 (kk H locs ls hP hS hl)
theorem fr_tabOut (O : fw_Ok X G cc nL own fr lo ret) {dflt lo1 hi1 : Int} {offs : Array Int} {len : Nat} {x : Int32} {tgt : Nat} (hdg : decode cc pc = .ok (.tableswitch dflt lo1 hi1 offs, len)) (h : x.toInt < lo1 ∨ hi1 < x.toInt) (ht : (pc : Int) + dflt = (tgt : Int)) (kk : fw_At X G nL Q tgt lv st σ) : fw_At X G nL Q pc lv (.int x :: st) σ := fun H locs ls hP hS hl => lv_tableOut O.1.1 O.1.2.1 hdg h ht (kk H locs ls hP hS hl)
theorem fr_look (O : fw_Ok X G cc nL own fr lo ret) {dflt : Int} {ps : Array (Int × Int)} {len : Nat} {x : Int32} {off : Int} {tgt : Nat} (hdg : decode cc pc = .ok (.lookupswitch dflt ps, len)) (hp : (ps.toList.zip (ps.toList.drop 1)).all (fun (a, next) => a.1 < next.1) = true) (ho : Op.lookupswitch.offset ps.toList dflt x.toInt = off) (ht : (pc : Int) + off = (tgt : Int)) (kk : fw_At X G nL Q tgt lv st σ) : fw_At X G nL Q pc lv (.int x :: st) σ := fun H locs ls hP hS hl => lv_lookup O.1.1 O.1.2.1 hdg hp ho ht (kk H locs ls hP hS hl)
theorem fr_iret (O : fw_Ok X G cc nL own fr lo (some .int)) {v : Int32} {post : Int32 → Mem → Prop} (hdg : decode cc pc = .ok (.ireturn, 1)) (h : post v σ) : fw_At X G nL (fw_QI X G post) pc lv [.int v] σ := fun H locs ls hP hS hl => W.iret (v := v) O.1.1 O.1.2.1 O.2.2.2.2.1 (fun t ht hW => ⟨⟨v, σ, rfl, h, by rw [ht]; exact hP, va_K.moved hW.alike O.2.1, O.2.2.2.2.2.2.2.1 _ _ O.2.2.1 hW (by rw [ht]; exact hS.1) (fun q h1 h2 => by rw [ht]; exact hS.2.1 q h1 h2)⟩, hS.F ht⟩) hS.2.2 hdg O.2.2.2.2.2.1
theorem fr_zret (O : fw_Ok X G cc nL own fr lo (some .boolean)) {v : Int32} {post : Int32 → Mem → Prop} (hdg : decode cc pc = .ok (.ireturn, 1)) (hb : isB v) (h : post v σ) : fw_At X G nL (fw_QI X G post) pc lv [.int v] σ := fun H locs ls hP hS hl => W.zret (v := v) O.1.1 O.1.2.1 O.2.2.2.2.1 hb.nar (fun t ht hW => ⟨⟨v, σ, rfl, h, by rw [ht]; exact hP, va_K.moved hW.alike O.2.1, O.2.2.2.2.2.2.2.1 _ _ O.2.2.1 hW (by rw [ht]; exact hS.1) (fun q h1 h2 => by rw [ht]; exact hS.2.1 q h1 h2)⟩, hS.F ht⟩) hS.2.2 hdg O.2.2.2.2.2.1
theorem fr_lret (O : fw_Ok X G cc nL own fr lo (some .long)) {v : Int64} {post : Int64 → Mem → Prop} (hdg : decode cc pc = .ok (.lreturn, 1)) (h : post v σ) : fw_At X G nL (fw_QL X G post) pc lv [.long v] σ := fun H locs ls hP hS hl => W.lret (v := v) O.1.1 O.1.2.1 O.2.2.2.2.1 (fun t ht hW => ⟨⟨v, σ, rfl, h, by rw [ht]; exact hP, va_K.moved hW.alike O.2.1, O.2.2.2.2.2.2.2.1 _ _ O.2.2.1 hW (by rw [ht]; exact hS.1) (fun q h1 h2 => by rw [ht]; exact hS.2.1 q h1 h2)⟩, hS.F ht⟩) hS.2.2 hdg O.2.2.2.2.2.1
theorem fr_vret (O : fw_Ok X G cc nL own fr lo none) {post : Mem → Prop} (hdg : decode cc pc = .ok (.return_, 1)) (h : post σ) : fw_At X G nL (fw_QV X G post) pc lv [] σ := fun H locs ls hP hS hl => W.vret O.1.1 O.1.2.1 O.2.2.2.2.1 (fun t ht hW => ⟨⟨σ, rfl, h, by rw [ht]; exact hP, va_K.moved hW.alike O.2.1, O.2.2.2.2.2.2.2.1 _ _ O.2.2.1 hW (by rw [ht]; exact hS.1) (fun q h1 h2 => by rw [ht]; exact hS.2.1 q h1 h2)⟩, hS.F ht⟩) hS.2.2 hdg O.2.2.2.2.2.1
/-- cell c is an object -/
def fw_Ob (G : Gw) (c ci : Nat) (fs : (Nat → Int32) → List Value) : Prop := c < gN G ∧ gsh G c = fun f => .inr (ci, fs f)
/-- cell c is an array of ints (t = .int) or booleans -/
def fw_Ar (G : Gw) (t : FieldType) (c n : Nat) : Prop := c < gN G ∧ ∃ (cA : ClassId) (t0 : Nat), (gT G)[t0]? = some (cA, t) ∧ gsh G c = fun f => .inl (cA, n, .inl f)
/-- cell c is an array of references to cells -/
def fw_Rf (G : Gw) (C : String) (c n : Nat) (g : Nat → Nat) : Prop := c < gN G ∧ ∃ (cA : ClassId) (t0 : Nat) (r : Nat → Option Nat), (gT G)[t0]? = some (cA, .object C) ∧ (gsh G c = fun _ => .inl (cA, n, .inr (.inr (.inr (.inr r))))) ∧ ∀ i, i < n → r i = some (gad G (g i))
theorem fr_get (O : fw_Ok X G cc nL own fr lo ret) {c ci k idx N : Nat} {C : String} {T : u_T} {ty : Nat → FieldType} {fs : (Nat → Int32) → List Value} {v : Value} (hc : fw_Cl ci C T N ty) (hl : Cond.fieldLink own idx C (T k).2.1 (T k).2.2.1 ∈ TT) (ho : fw_Ob G c ci fs) (hk : k < N) (hC : (T k).1 = C) (hv : (fs (σ c))[k]? = some v) (hdg : decode cc pc = .ok (.getfield idx, 3)) (kk : fw_At X G nL Q (pc + 3) lv (v :: st) σ) : fw_At X G nL Q pc lv (.ref (gad G c) :: st) σ := by
  intro H locs ls hP hS hlv
  refine va_get O.1.1 O.1.2.1 O.1.2.2.2.2 hc.2.1 O.1.2.2.2.1 O.2.1 hP c (fs := fs (σ c)) (ci := ci) (by rw [gw_at G σ ho.1, ho.2]) hc.1 k hk (O.1.2.2.2.2 _ hl) (fun x h => by rw [hC] at h; exact h) hv hdg (kk H locs ls hP hS hlv)
theorem fr_put (O : fw_Ok X G cc nL own fr lo ret) {c ci k idx N : Nat} {C : String} {T : u_T} {ty : Nat → FieldType} {fs : (Nat → Int32) → List Value} {v : Int32} (hc : fw_Cl ci C T N ty) (hl : Cond.fieldLink own idx C (T k).2.1 (T k).2.2.1 ∈ TT) (ho : fw_Ob G c ci fs) (hk : k < N) (hC : (T k).1 = C) (hfin : (T k).2.2.2 = false) (hn : narrow (ty k) (.int v) = .int v) (hfit : fits (ty k) (.int v) = true) (hlen : ∀ f, k < (fs f).length) (hset : ∀ f, (fs f).set k (.int v) = fs (upd f k v)) (hdg : decode cc pc = .ok (.putfield idx, 3)) (kk : ∀ σ' : Mem, σ' = up2 σ c k v → fw_At X G nL Q (pc + 3) lv st σ') : fw_At X G nL Q pc lv (.int v :: .ref (gad G c) :: st) σ := by
  intro H locs ls hP hS hlv
  have hG := O.2.2.2.2.2.2
  have he : (gw G σ)[c]? = some (gad G c, .inr (ci, fs (σ c))) := by rw [gw_at G σ ho.1, ho.2]
  refine va_put (v := .int v) O.1.1 O.1.2.1 O.1.2.2.2.2 hc.2.1 ty hc.2.2.1 hc.2.2.2 O.1.2.2.2.1 O.2.1 hP (gw_D hG σ) hS c he hc.1 k hk (O.1.2.2.2.2 _ hl) (fun x h => by rw [hC] at h; exact h) hfin (hc.2.2.1 k hk) hn hfit (hlen _) hdg (fun H1 locs1 hP1 hD1 hS1 => ?_)
  have e : (gw G σ).set c (gad G c, .inr (ci, (fs (σ c)).set k (.int v))) = gw G (up2 σ c k v) := by
    rw [hset, up2, ← gw_set G σ ho.1, ho.2]
  rw [e] at hP1
  exact kk _ rfl H1 locs1 ls hP1 hS1 hlv
theorem fr_iald (O : fw_Ok X G cc nL own fr lo ret) {c n : Nat} {i : Int32} (ha : fw_Ar G .int c n) (hin : vp_in i n) (hdg : decode cc pc = .ok (.iaload, 1)) (kk : fw_At X G nL Q (pc + 1) lv (.int (σ c i.toNatClampNeg) :: st) σ) : fw_At X G nL Q pc lv (.int i :: .ref (gad G c) :: st) σ := by
  intro H locs ls hP hS hlv
  obtain ⟨hc, cA, t0, ht, hs⟩ := ha
  exact va_iald O.1.1 O.1.2.1 O.2.1 hP c t0 (f := σ c) (by rw [gw_at G σ hc, hs]) ht hin hdg (kk H locs ls hP hS hlv)
theorem fr_zald (O : fw_Ok X G cc nL own fr lo ret) {c n : Nat} {i : Int32} (ha : fw_Ar G .boolean c n) (hin : vp_in i n) (hdg : decode cc pc = .ok (.baload, 1)) (kk : fw_At X G nL Q (pc + 1) lv (.int (σ c i.toNatClampNeg) :: st) σ) : fw_At X G nL Q pc lv (.int i :: .ref (gad G c) :: st) σ := by
  intro H locs ls hP hS hlv
  obtain ⟨hc, cA, t0, ht, hs⟩ := ha
  exact va_zald O.1.1 O.1.2.1 O.2.1 hP c t0 (f := σ c) (by rw [gw_at G σ hc, hs]) ht hin hdg (kk H locs ls hP hS hlv)
theorem fr_iast (O : fw_Ok X G cc nL own fr lo ret) {c n : Nat} {i v : Int32} (ha : fw_Ar G .int c n) (hin : vp_in i n) (hdg : decode cc pc = .ok (.iastore, 1)) (kk : ∀ σ' : Mem, σ' = up2 σ c i.toNatClampNeg v → fw_At X G nL Q (pc + 1) lv st σ') : fw_At X G nL Q pc lv (.int v :: .int i :: .ref (gad G c) :: st) σ := by
  intro H locs ls hP hS hlv
  have hG := O.2.2.2.2.2.2
  obtain ⟨hc, cA, t0, ht, hs⟩ := ha
  refine va_iast O.1.1 O.1.2.1 O.2.1 hP (gw_D hG σ) hS c t0 (f := σ c) (by rw [gw_at G σ hc, hs]) ht hin hdg (fun H1 locs1 hP1 hD1 hS1 => ?_)
  have e : (gw G σ).set c (gad G c, .inl (cA, n, .inl (upd (σ c) i.toNatClampNeg v))) = gw G (up2 σ c i.toNatClampNeg v) := by
    rw [up2, ← gw_set G σ hc, hs]
  rw [e] at hP1
  exact kk _ rfl H1 locs1 ls hP1 hS1 hlv
theorem fr_zast (O : fw_Ok X G cc nL own fr lo ret) {c n : Nat} {i v : Int32} (ha : fw_Ar G .boolean c n) (hin : vp_in i n) (hv : isB v) (hdg : decode cc pc = .ok (.bastore, 1)) (kk : ∀ σ' : Mem, σ' = up2 σ c i.toNatClampNeg v → fw_At X G nL Q (pc + 1) lv st σ') : fw_At X G nL Q pc lv (.int v :: .int i :: .ref (gad G c) :: st) σ := by
  intro H locs ls hP hS hlv
  have hG := O.2.2.2.2.2.2
  obtain ⟨hc, cA, t0, ht, hs⟩ := ha
  have hv2 : vp_nar .boolean v = v := by unfold vp_nar; rw [show narrow .boolean (.int v) = .int v from hv.nar]
  refine va_zast O.1.1 O.1.2.1 O.2.1 hP (gw_D hG σ) hS c t0 (f := σ c) (by rw [gw_at G σ hc, hs]) ht hin hdg (fun H1 locs1 hP1 hD1 hS1 => ?_)
  have e : (gw G σ).set c (gad G c, .inl (cA, n, .inl (upd (σ c) i.toNatClampNeg (vp_nar .boolean v)))) = gw G (up2 σ c i.toNatClampNeg v) := by
    rw [hv2, up2, ← gw_set G σ hc, hs]
  rw [e] at hP1
  exact kk _ rfl H1 locs1 ls hP1 hS1 hlv
theorem fr_aald (O : fw_Ok X G cc nL own fr lo ret) {c n : Nat} {C : String} {g : Nat → Nat} {i : Int32} (ha : fw_Rf G C c n g) (hin : vp_in i n) (hdg : decode cc pc = .ok (.aaload, 1)) (kk : fw_At X G nL Q (pc + 1) lv (.ref (gad G (g i.toNatClampNeg)) :: st) σ) : fw_At X G nL Q pc lv (.int i :: .ref (gad G c) :: st) σ := by
  intro H locs ls hP hS hlv
  obtain ⟨hc, cA, t0, r, ht, hs, hr⟩ := ha
  have hlt : i.toNatClampNeg < n := Nat.not_le.mp fun q => hin (Or.inr q)
  refine va_aldq O.1.1 O.1.2.1 O.2.1 hP c t0 (f := r) (n := n) (cA := cA) (by rw [gw_at G σ hc, hs]) ht hin hdg ?_
  rw [hr _ hlt]
  exact kk H locs ls hP hS hlv
theorem fw_callB (O : fw_Ok X G cc nL own fr lo ret) {y : MethodName} {bytes : ByteArray} {mL n fr' lo' idx : Nat} {ret' : Option FieldType} (hm : fw_Mt y bytes mL ret' n) (hl : Cond.methodLink own idx y ∈ TT) (hR : fr' + 1 ≤ fr ∧ 8 + (mL + 11) + lo' ≤ lo) : CallB X.2.2.2.1 X.2.2.2.2.1 X.2.2.2.2.2.2.1 own idx y bytes mL ret' (fw_wd y bytes mL ret') (fw_rm fr' lo') 0 0 n :=
  callB_of n O.1.2.2.2.2 (fw_wd_good hm.1) rfl rfl rfl (O.1.2.2.2.2 _ hm.2.1) (O.1.2.2.2.2 _ hl) hm.2.2 (by rw [O.2.2.2.1]; exact hR)
theorem fw_pre (O : fw_Ok X G cc nL own fr lo ret) (As : List Value) {H : Heap} {locs : List Loc} (hP : va_P (gD G) vwCl (gw G σ) H) (hS : va_S (gA G) X.2.2.2.2.1.heap H locs) : PreS X.2.2.2.2.1 H (va_Pc As (fw_WB G σ)) As :=
  ⟨fw_WB.blind O.2.2.2.2.2.2 σ As, fun U hU hW => ⟨rfl, by rw [hU]; exact hP, va_K.moved hW.alike O.2.1, O.2.2.2.2.2.2.2.1 _ _ O.2.2.1 hW (by rw [hU]; exact hS.1) (fun q h1 h2 => by rw [hU]; exact hS.2.1 q h1 h2)⟩⟩
theorem fw_preV (O : fw_Ok X G cc nL own fr lo ret) {c ci N : Nat} {C : String} {T : u_T} {ty : Nat → FieldType} {fs : (Nat → Int32) → List Value} (hc : fw_Cl ci C T N ty) (ho : fw_Ob G c ci fs) (As : List Value) {H : Heap} {locs : List Loc} (hP : va_P (gD G) vwCl (gw G σ) H) (hS : va_S (gA G) X.2.2.2.2.1.heap H locs) : PreV X.2.2.2.2.1 H C (gad G c) (va_Pc (.ref (gad G c) :: As) (fw_WB G σ)) As :=
  ⟨(fw_pre O _ hP hS).1, va_recv (q := (C, T, N)) O.2.1 hP (ci := ci) (q0 := c) (fs := fs (σ c)) hc.1 (by rw [gw_at G σ ho.1, ho.2]), (fw_pre O _ hP hS).2⟩
theorem fr_callVI (O : fw_Ok X G cc nL own fr lo ret) {y : MethodName} {bytes : ByteArray} {mL n fr' lo' idx c ci N : Nat} {C : String} {T : u_T} {ty : Nat → FieldType} {fs : (Nat → Int32) → List Value} {rt : FieldType} {As st1 : List Value} {post : Int32 → Mem → Prop} (hM : fw_CI X.2.1 G y bytes mL rt fr' lo' (.ref (gad G c) :: As) σ post) (hm : fw_Mt y bytes mL (some rt) n) (hv : fw_Vt y) (hl : Cond.methodLink own idx y ∈ TT) (hc : fw_Cl ci C T N ty) (hyc : y.cls = C) (ho : fw_Ob G c ci fs) (hn : As.length = n) (hR : fr' + 1 ≤ fr ∧ 8 + (mL + 11) + lo' ≤ lo) (hst : st1 = As.reverse ++ .ref (gad G c) :: st) (hcat : (st.map fun v => v.category).sum ≤ 8) (hdg : decode cc pc = .ok (.invokevirtual idx, 3)) (kk : ∀ (r : Int32) (σ' : Mem), post r σ' → fw_At X G nL Q (pc + 3) lv (.int r :: st) σ') : fw_At X G nL Q pc lv st1 σ := by
  intro H locs ls hP hS hlv
  subst hst
  refine va_calli (A0 := gA G) (va_runV (C := C) O.1 hM ⟨fw_callB O hm hl hR, O.1.2.2.2.2 _ hv.1, O.1.2.2.2.2 _ (by rw [← hyc]; exact hv.2)⟩ (fw_preV O hc ho As hP hS) rfl hn hlv.1 rfl (lv_room hcat) hdg ⟨Nat.zero_le _, Nat.zero_le _⟩) hS (fun q _ h => h) (fun q h => h) (fun r u t H1 locs1 ht hvm hw hB hz1 hk1 hS1 => kk r u hw H1 locs1 ls (by rw [← ht]; exact hB.1) hS1 hlv)
theorem fr_callSI (O : fw_Ok X G cc nL own fr lo ret) {y : MethodName} {bytes : ByteArray} {mL n fr' lo' idx : Nat} {rt : FieldType} {As st1 : List Value} {post : Int32 → Mem → Prop} (hM : fw_CI X.2.1 G y bytes mL rt fr' lo' As σ post) (hm : fw_Mt y bytes mL (some rt) n) (hv : Cond.static y ∈ TT) (hl : Cond.methodLink own idx y ∈ TT) (hn : As.length = n) (hR : fr' + 1 ≤ fr ∧ 8 + (mL + 11) + lo' ≤ lo) (hst : st1 = As.reverse ++ st) (hcat : (st.map fun v => v.category).sum ≤ 8) (hdg : decode cc pc = .ok (.invokestatic idx, 3)) (kk : ∀ (r : Int32) (σ' : Mem), post r σ' → fw_At X G nL Q (pc + 3) lv (.int r :: st) σ') : fw_At X G nL Q pc lv st1 σ := by
  intro H locs ls hP hS hlv
  subst hst
  refine va_calli (A0 := gA G) (va_runS O.1 hM ⟨fw_callB O hm hl hR, O.1.2.2.2.2 _ hv⟩ (fw_pre O As hP hS) rfl hn hlv.1 rfl (lv_room hcat) hdg ⟨Nat.zero_le _, Nat.zero_le _⟩) hS (fun q _ h => h) (fun q h => h) (fun r u t H1 locs1 ht hvm hw hB hz1 hk1 hS1 => kk r u hw H1 locs1 ls (by rw [← ht]; exact hB.1) hS1 hlv)
theorem fr_callNI (O : fw_Ok X G cc nL own fr lo ret) {y : MethodName} {bytes : ByteArray} {mL n fr' lo' idx : Nat} {host : String} {rt : FieldType} {As st1 : List Value} {post : Int32 → Mem → Prop} (hM : fw_CI X.2.1 G y bytes mL rt fr' lo' As σ post) (hm : fw_Mt y bytes mL (some rt) n) (hv : Cond.static y ∈ TT) (hl : va_Nw (.methodLinkNest own idx y host) X.2.2.2.2.1) (hn : As.length = n) (hR : fr' + 1 ≤ fr ∧ 8 + (mL + 11) + lo' ≤ lo) (hst : st1 = As.reverse ++ st) (hcat : (st.map fun v => v.category).sum ≤ 8) (hdg : decode cc pc = .ok (.invokestatic idx, 3)) (kk : ∀ (r : Int32) (σ' : Mem), post r σ' → fw_At X G nL Q (pc + 3) lv (.int r :: st) σ') : fw_At X G nL Q pc lv st1 σ := by
  intro H locs ls hP hS hlv
  subst hst
  refine va_calli (A0 := gA G) (va_runSN O.1 hM ⟨va_cnB n O.1.2.2.2.2 (fw_wd_good hm.1) rfl rfl rfl hl (O.1.2.2.2.2 _ hm.2.1) hm.2.2 (by rw [O.2.2.2.1]; exact hR), O.1.2.2.2.2 _ hv, trivial⟩ (fw_pre O As hP hS) rfl hn hlv.1 rfl (lv_room hcat) hdg ⟨Nat.zero_le _, Nat.zero_le _⟩) hS (fun q _ h => h) (fun q h => h) (fun r u t H1 locs1 ht hvm hw hB hz1 hk1 hS1 => kk r u hw H1 locs1 ls (by rw [← ht]; exact hB.1) hS1 hlv)
theorem fr_callVL (O : fw_Ok X G cc nL own fr lo ret) {y : MethodName} {bytes : ByteArray} {mL n fr' lo' idx c ci N : Nat} {C : String} {T : u_T} {ty : Nat → FieldType} {fs : (Nat → Int32) → List Value}  {As st1 : List Value} {post : Int64 → Mem → Prop} (hM : fw_CL X.2.1 G y bytes mL fr' lo' (.ref (gad G c) :: As) σ post) (hm : fw_Mt y bytes mL (some .long) n) (hv : fw_Vt y) (hl : Cond.methodLink own idx y ∈ TT) (hc : fw_Cl ci C T N ty) (hyc : y.cls = C) (ho : fw_Ob G c ci fs) (hn : As.length = n) (hR : fr' + 1 ≤ fr ∧ 8 + (mL + 11) + lo' ≤ lo) (hst : st1 = As.reverse ++ .ref (gad G c) :: st) (hcat : (st.map fun v => v.category).sum ≤ 8) (hdg : decode cc pc = .ok (.invokevirtual idx, 3)) (kk : ∀ (r : Int64) (σ' : Mem), post r σ' → fw_At X G nL Q (pc + 3) lv (.long r :: st) σ') : fw_At X G nL Q pc lv st1 σ := by
  intro H locs ls hP hS hlv
  subst hst
  refine va_calll (A0 := gA G) (va_runV (C := C) O.1 hM ⟨fw_callB O hm hl hR, O.1.2.2.2.2 _ hv.1, O.1.2.2.2.2 _ (by rw [← hyc]; exact hv.2)⟩ (fw_preV O hc ho As hP hS) rfl hn hlv.1 rfl (lv_room hcat) hdg ⟨Nat.zero_le _, Nat.zero_le _⟩) hS (fun q _ h => h) (fun q h => h) (fun r u t H1 locs1 ht hvm hw hB hz1 hk1 hS1 => kk r u hw H1 locs1 ls (by rw [← ht]; exact hB.1) hS1 hlv)
theorem fr_callSL (O : fw_Ok X G cc nL own fr lo ret) {y : MethodName} {bytes : ByteArray} {mL n fr' lo' idx : Nat}  {As st1 : List Value} {post : Int64 → Mem → Prop} (hM : fw_CL X.2.1 G y bytes mL fr' lo' As σ post) (hm : fw_Mt y bytes mL (some .long) n) (hv : Cond.static y ∈ TT) (hl : Cond.methodLink own idx y ∈ TT) (hn : As.length = n) (hR : fr' + 1 ≤ fr ∧ 8 + (mL + 11) + lo' ≤ lo) (hst : st1 = As.reverse ++ st) (hcat : (st.map fun v => v.category).sum ≤ 8) (hdg : decode cc pc = .ok (.invokestatic idx, 3)) (kk : ∀ (r : Int64) (σ' : Mem), post r σ' → fw_At X G nL Q (pc + 3) lv (.long r :: st) σ') : fw_At X G nL Q pc lv st1 σ := by
  intro H locs ls hP hS hlv
  subst hst
  refine va_calll (A0 := gA G) (va_runS O.1 hM ⟨fw_callB O hm hl hR, O.1.2.2.2.2 _ hv⟩ (fw_pre O As hP hS) rfl hn hlv.1 rfl (lv_room hcat) hdg ⟨Nat.zero_le _, Nat.zero_le _⟩) hS (fun q _ h => h) (fun q h => h) (fun r u t H1 locs1 ht hvm hw hB hz1 hk1 hS1 => kk r u hw H1 locs1 ls (by rw [← ht]; exact hB.1) hS1 hlv)
theorem fr_callNL (O : fw_Ok X G cc nL own fr lo ret) {y : MethodName} {bytes : ByteArray} {mL n fr' lo' idx : Nat} {host : String}  {As st1 : List Value} {post : Int64 → Mem → Prop} (hM : fw_CL X.2.1 G y bytes mL fr' lo' As σ post) (hm : fw_Mt y bytes mL (some .long) n) (hv : Cond.static y ∈ TT) (hl : va_Nw (.methodLinkNest own idx y host) X.2.2.2.2.1) (hn : As.length = n) (hR : fr' + 1 ≤ fr ∧ 8 + (mL + 11) + lo' ≤ lo) (hst : st1 = As.reverse ++ st) (hcat : (st.map fun v => v.category).sum ≤ 8) (hdg : decode cc pc = .ok (.invokestatic idx, 3)) (kk : ∀ (r : Int64) (σ' : Mem), post r σ' → fw_At X G nL Q (pc + 3) lv (.long r :: st) σ') : fw_At X G nL Q pc lv st1 σ := by
  intro H locs ls hP hS hlv
  subst hst
  refine va_calll (A0 := gA G) (va_runSN O.1 hM ⟨va_cnB n O.1.2.2.2.2 (fw_wd_good hm.1) rfl rfl rfl hl (O.1.2.2.2.2 _ hm.2.1) hm.2.2 (by rw [O.2.2.2.1]; exact hR), O.1.2.2.2.2 _ hv, trivial⟩ (fw_pre O As hP hS) rfl hn hlv.1 rfl (lv_room hcat) hdg ⟨Nat.zero_le _, Nat.zero_le _⟩) hS (fun q _ h => h) (fun q h => h) (fun r u t H1 locs1 ht hvm hw hB hz1 hk1 hS1 => kk r u hw H1 locs1 ls (by rw [← ht]; exact hB.1) hS1 hlv)
theorem fr_callVV (O : fw_Ok X G cc nL own fr lo ret) {y : MethodName} {bytes : ByteArray} {mL n fr' lo' idx c ci N : Nat} {C : String} {T : u_T} {ty : Nat → FieldType} {fs : (Nat → Int32) → List Value}  {As st1 : List Value} {post : Mem → Prop} (hM : fw_CV X.2.1 G y bytes mL fr' lo' (.ref (gad G c) :: As) σ post) (hm : fw_Mt y bytes mL none n) (hv : fw_Vt y) (hl : Cond.methodLink own idx y ∈ TT) (hc : fw_Cl ci C T N ty) (hyc : y.cls = C) (ho : fw_Ob G c ci fs) (hn : As.length = n) (hR : fr' + 1 ≤ fr ∧ 8 + (mL + 11) + lo' ≤ lo) (hst : st1 = As.reverse ++ .ref (gad G c) :: st) (hcat : (st.map fun v => v.category).sum ≤ 8) (hdg : decode cc pc = .ok (.invokevirtual idx, 3)) (kk : ∀ (σ' : Mem), post σ' → fw_At X G nL Q (pc + 3) lv st σ') : fw_At X G nL Q pc lv st1 σ := by
  intro H locs ls hP hS hlv
  subst hst
  refine va_callv (A0 := gA G) (va_runV (C := C) O.1 hM ⟨fw_callB O hm hl hR, O.1.2.2.2.2 _ hv.1, O.1.2.2.2.2 _ (by rw [← hyc]; exact hv.2)⟩ (fw_preV O hc ho As hP hS) rfl hn hlv.1 rfl (lv_room hcat) hdg ⟨Nat.zero_le _, Nat.zero_le _⟩) hS (fun q _ h => h) (fun q h => h) (fun u t H1 locs1 ht hvm hw hB hz1 hk1 hS1 => kk u hw H1 locs1 ls (by rw [← ht]; exact hB.1) hS1 hlv)
theorem fr_callSV (O : fw_Ok X G cc nL own fr lo ret) {y : MethodName} {bytes : ByteArray} {mL n fr' lo' idx : Nat}  {As st1 : List Value} {post : Mem → Prop} (hM : fw_CV X.2.1 G y bytes mL fr' lo' As σ post) (hm : fw_Mt y bytes mL none n) (hv : Cond.static y ∈ TT) (hl : Cond.methodLink own idx y ∈ TT) (hn : As.length = n) (hR : fr' + 1 ≤ fr ∧ 8 + (mL + 11) + lo' ≤ lo) (hst : st1 = As.reverse ++ st) (hcat : (st.map fun v => v.category).sum ≤ 8) (hdg : decode cc pc = .ok (.invokestatic idx, 3)) (kk : ∀ (σ' : Mem), post σ' → fw_At X G nL Q (pc + 3) lv st σ') : fw_At X G nL Q pc lv st1 σ := by
  intro H locs ls hP hS hlv
  subst hst
  refine va_callv (A0 := gA G) (va_runS O.1 hM ⟨fw_callB O hm hl hR, O.1.2.2.2.2 _ hv⟩ (fw_pre O As hP hS) rfl hn hlv.1 rfl (lv_room hcat) hdg ⟨Nat.zero_le _, Nat.zero_le _⟩) hS (fun q _ h => h) (fun q h => h) (fun u t H1 locs1 ht hvm hw hB hz1 hk1 hS1 => kk u hw H1 locs1 ls (by rw [← ht]; exact hB.1) hS1 hlv)
theorem fr_callNV (O : fw_Ok X G cc nL own fr lo ret) {y : MethodName} {bytes : ByteArray} {mL n fr' lo' idx : Nat} {host : String}  {As st1 : List Value} {post : Mem → Prop} (hM : fw_CV X.2.1 G y bytes mL fr' lo' As σ post) (hm : fw_Mt y bytes mL none n) (hv : Cond.static y ∈ TT) (hl : va_Nw (.methodLinkNest own idx y host) X.2.2.2.2.1) (hn : As.length = n) (hR : fr' + 1 ≤ fr ∧ 8 + (mL + 11) + lo' ≤ lo) (hst : st1 = As.reverse ++ st) (hcat : (st.map fun v => v.category).sum ≤ 8) (hdg : decode cc pc = .ok (.invokestatic idx, 3)) (kk : ∀ (σ' : Mem), post σ' → fw_At X G nL Q (pc + 3) lv st σ') : fw_At X G nL Q pc lv st1 σ := by
  intro H locs ls hP hS hlv
  subst hst
  refine va_callv (A0 := gA G) (va_runSN O.1 hM ⟨va_cnB n O.1.2.2.2.2 (fw_wd_good hm.1) rfl rfl rfl hl (O.1.2.2.2.2 _ hm.2.1) hm.2.2 (by rw [O.2.2.2.1]; exact hR), O.1.2.2.2.2 _ hv, trivial⟩ (fw_pre O As hP hS) rfl hn hlv.1 rfl (lv_room hcat) hdg ⟨Nat.zero_le _, Nat.zero_le _⟩) hS (fun q _ h => h) (fun q h => h) (fun u t H1 locs1 ht hvm hw hB hz1 hk1 hS1 => kk u hw H1 locs1 ls (by rw [← ht]; exact hB.1) hS1 hlv)
theorem fr_mmax (O : fw_Ok X G cc nL own fr lo ret) {idx : Nat} {x y : Int32} (hl : Cond.methodLink own idx Lib.Math.max.name ∈ TT) (hv : Cond.static Lib.Math.max.name ∈ TT) (hi : Cond.initialized "java/lang/Math" ∈ TT) (hc : Cond.code Lib.Math.max.name Lib.Math.max.code 2 (some .int) ∈ TT) (hR : 1 ≤ fr ∧ (st.map fun v => v.category).sum + 13 ≤ lo) (hdg : decode cc pc = .ok (.invokestatic idx, 3)) (kk : fw_At X G nL Q (pc + 3) lv (.int (if x < y then y else x) :: st) σ) : fw_At X G nL Q pc lv (.int y :: .int x :: st) σ := by
  intro H locs ls hP hS hlv
  exact va_mmax O.1.1 O.1.2.1 (by rw [O.1.2.2.1]; exact hlv.1.symm) O.1.2.2.2.1 (O.1.2.2.2.2 _ hl) (O.1.2.2.2.2 _ hv) (O.1.2.2.2.2 _ hi) (O.1.2.2.2.2 _ hc) (by rw [O.2.2.2.1]; exact hR.1) (by rw [O.2.2.2.1]; exact hR.2) (Nat.zero_le _) (Nat.zero_le _) hdg (kk H locs ls hP hS hlv)
theorem fr_mmin (O : fw_Ok X G cc nL own fr lo ret) {idx : Nat} {x y : Int32} (hl : Cond.methodLink own idx Lib.Math.min.name ∈ TT) (hv : Cond.static Lib.Math.min.name ∈ TT) (hi : Cond.initialized "java/lang/Math" ∈ TT) (hc : Cond.code Lib.Math.min.name Lib.Math.min.code 2 (some .int) ∈ TT) (hR : 1 ≤ fr ∧ (st.map fun v => v.category).sum + 13 ≤ lo) (hdg : decode cc pc = .ok (.invokestatic idx, 3)) (kk : fw_At X G nL Q (pc + 3) lv (.int (if y < x then y else x) :: st) σ) : fw_At X G nL Q pc lv (.int y :: .int x :: st) σ := by
  intro H locs ls hP hS hlv
  exact va_mmin O.1.1 O.1.2.1 (by rw [O.1.2.2.1]; exact hlv.1.symm) O.1.2.2.2.1 (O.1.2.2.2.2 _ hl) (O.1.2.2.2.2 _ hv) (O.1.2.2.2.2 _ hi) (O.1.2.2.2.2 _ hc) (by rw [O.2.2.2.1]; exact hR.1) (by rw [O.2.2.2.1]; exact hR.2) (Nat.zero_le _) (Nat.zero_le _) hdg (kk H locs ls hP hS hlv)
end ROWS
/-! loops: a step by step predicate, its walk and its rule of proof -/
def it0 (F : (Mem → Prop) → Mem → Prop) : Nat → Mem → Prop
  | 0 => fun _ => False
  | n + 1 => F (it0 F n)
theorem it0_walk {F : (Mem → Prop) → Mem → Prop} {T : Mem → Prop} (hs : ∀ k : Mem → Prop, (∀ (σ : Mem), k  σ → T  σ) → ∀ (σ : Mem), F k  σ → T  σ) : ∀ (n : Nat) (σ : Mem), it0 F n  σ → T  σ
  | 0, _ => fun h => absurd h id
  | n + 1, σ => hs (it0 F n) (it0_walk hs n)  σ
theorem it0_ind {F : (Mem → Prop) → Mem → Prop} (I : Mem → Prop) (μ : Mem → Nat) (hs : ∀ (k : Mem → Prop) (σ : Mem), I  σ → (∀ (σ' : Mem), I  σ' → μ  σ' < μ  σ → k  σ') → F k  σ) (σ : Mem) (h : I  σ) : ∃ n, it0 F n  σ := by
  have key : ∀ (n : Nat) (σ : Mem), I  σ → μ  σ < n → it0 F n  σ := by
    intro n
    induction n with
    | zero => intro  σ _ h; exact absurd h (Nat.not_lt_zero _)
    | succ n ih =>
      intro  σ hI hm
      exact hs (it0 F n)  σ hI (fun  σ' h1 h2 => ih  σ' h1 (by omega))
  exact ⟨_, key (μ  σ + 1)  σ h (Nat.lt_succ_self _)⟩
def it1 {A1 : Type} (F : (A1 → Mem → Prop) → A1 → Mem → Prop) : Nat → A1 → Mem → Prop
  | 0 => fun _ _ => False
  | n + 1 => F (it1 F n)
theorem it1_walk {A1 : Type} {F : (A1 → Mem → Prop) → A1 → Mem → Prop} {T : A1 → Mem → Prop} (hs : ∀ k : A1 → Mem → Prop, (∀ (a1 : A1) (σ : Mem), k a1 σ → T a1 σ) → ∀ (a1 : A1) (σ : Mem), F k a1 σ → T a1 σ) : ∀ (n : Nat) (a1 : A1) (σ : Mem), it1 F n a1 σ → T a1 σ
  | 0, _, _ => fun h => absurd h id
  | n + 1, a1, σ => hs (it1 F n) (it1_walk hs n) a1 σ
theorem it1_ind {A1 : Type} {F : (A1 → Mem → Prop) → A1 → Mem → Prop} (I : A1 → Mem → Prop) (μ : A1 → Mem → Nat) (hs : ∀ (k : A1 → Mem → Prop) (a1 : A1) (σ : Mem), I a1 σ → (∀ (b1 : A1) (σ' : Mem), I b1 σ' → μ b1 σ' < μ a1 σ → k b1 σ') → F k a1 σ) (a1 : A1) (σ : Mem) (h : I a1 σ) : ∃ n, it1 F n a1 σ := by
  have key : ∀ (n : Nat) (a1 : A1) (σ : Mem), I a1 σ → μ a1 σ < n → it1 F n a1 σ := by
    intro n
    induction n with
    | zero => intro a1 σ _ h; exact absurd h (Nat.not_lt_zero _)
    | succ n ih =>
      intro a1 σ hI hm
      exact hs (it1 F n) a1 σ hI (fun b1 σ' h1 h2 => ih b1 σ' h1 (by omega))
  exact ⟨_, key (μ a1 σ + 1) a1 σ h (Nat.lt_succ_self _)⟩
def it2 {A1 A2 : Type} (F : (A1 → A2 → Mem → Prop) → A1 → A2 → Mem → Prop) : Nat → A1 → A2 → Mem → Prop
  | 0 => fun _ _ _ => False
  | n + 1 => F (it2 F n)
theorem it2_walk {A1 A2 : Type} {F : (A1 → A2 → Mem → Prop) → A1 → A2 → Mem → Prop} {T : A1 → A2 → Mem → Prop} (hs : ∀ k : A1 → A2 → Mem → Prop, (∀ (a1 : A1) (a2 : A2) (σ : Mem), k a1 a2 σ → T a1 a2 σ) → ∀ (a1 : A1) (a2 : A2) (σ : Mem), F k a1 a2 σ → T a1 a2 σ) : ∀ (n : Nat) (a1 : A1) (a2 : A2) (σ : Mem), it2 F n a1 a2 σ → T a1 a2 σ
  | 0, _, _, _ => fun h => absurd h id
  | n + 1, a1, a2, σ => hs (it2 F n) (it2_walk hs n) a1 a2 σ
theorem it2_ind {A1 A2 : Type} {F : (A1 → A2 → Mem → Prop) → A1 → A2 → Mem → Prop} (I : A1 → A2 → Mem → Prop) (μ : A1 → A2 → Mem → Nat) (hs : ∀ (k : A1 → A2 → Mem → Prop) (a1 : A1) (a2 : A2) (σ : Mem), I a1 a2 σ → (∀ (b1 : A1) (b2 : A2) (σ' : Mem), I b1 b2 σ' → μ b1 b2 σ' < μ a1 a2 σ → k b1 b2 σ') → F k a1 a2 σ) (a1 : A1) (a2 : A2) (σ : Mem) (h : I a1 a2 σ) : ∃ n, it2 F n a1 a2 σ := by
  have key : ∀ (n : Nat) (a1 : A1) (a2 : A2) (σ : Mem), I a1 a2 σ → μ a1 a2 σ < n → it2 F n a1 a2 σ := by
    intro n
    induction n with
    | zero => intro a1 a2 σ _ h; exact absurd h (Nat.not_lt_zero _)
    | succ n ih =>
      intro a1 a2 σ hI hm
      exact hs (it2 F n) a1 a2 σ hI (fun b1 b2 σ' h1 h2 => ih b1 b2 σ' h1 (by omega))
  exact ⟨_, key (μ a1 a2 σ + 1) a1 a2 σ h (Nat.lt_succ_self _)⟩
def it3 {A1 A2 A3 : Type} (F : (A1 → A2 → A3 → Mem → Prop) → A1 → A2 → A3 → Mem → Prop) : Nat → A1 → A2 → A3 → Mem → Prop
  | 0 => fun _ _ _ _ => False
  | n + 1 => F (it3 F n)
theorem it3_walk {A1 A2 A3 : Type} {F : (A1 → A2 → A3 → Mem → Prop) → A1 → A2 → A3 → Mem → Prop} {T : A1 → A2 → A3 → Mem → Prop} (hs : ∀ k : A1 → A2 → A3 → Mem → Prop, (∀ (a1 : A1) (a2 : A2) (a3 : A3) (σ : Mem), k a1 a2 a3 σ → T a1 a2 a3 σ) → ∀ (a1 : A1) (a2 : A2) (a3 : A3) (σ : Mem), F k a1 a2 a3 σ → T a1 a2 a3 σ) : ∀ (n : Nat) (a1 : A1) (a2 : A2) (a3 : A3) (σ : Mem), it3 F n a1 a2 a3 σ → T a1 a2 a3 σ
  | 0, _, _, _, _ => fun h => absurd h id
  | n + 1, a1, a2, a3, σ => hs (it3 F n) (it3_walk hs n) a1 a2 a3 σ
theorem it3_ind {A1 A2 A3 : Type} {F : (A1 → A2 → A3 → Mem → Prop) → A1 → A2 → A3 → Mem → Prop} (I : A1 → A2 → A3 → Mem → Prop) (μ : A1 → A2 → A3 → Mem → Nat) (hs : ∀ (k : A1 → A2 → A3 → Mem → Prop) (a1 : A1) (a2 : A2) (a3 : A3) (σ : Mem), I a1 a2 a3 σ → (∀ (b1 : A1) (b2 : A2) (b3 : A3) (σ' : Mem), I b1 b2 b3 σ' → μ b1 b2 b3 σ' < μ a1 a2 a3 σ → k b1 b2 b3 σ') → F k a1 a2 a3 σ) (a1 : A1) (a2 : A2) (a3 : A3) (σ : Mem) (h : I a1 a2 a3 σ) : ∃ n, it3 F n a1 a2 a3 σ := by
  have key : ∀ (n : Nat) (a1 : A1) (a2 : A2) (a3 : A3) (σ : Mem), I a1 a2 a3 σ → μ a1 a2 a3 σ < n → it3 F n a1 a2 a3 σ := by
    intro n
    induction n with
    | zero => intro a1 a2 a3 σ _ h; exact absurd h (Nat.not_lt_zero _)
    | succ n ih =>
      intro a1 a2 a3 σ hI hm
      exact hs (it3 F n) a1 a2 a3 σ hI (fun b1 b2 b3 σ' h1 h2 => ih b1 b2 b3 σ' h1 (by omega))
  exact ⟨_, key (μ a1 a2 a3 σ + 1) a1 a2 a3 σ h (Nat.lt_succ_self _)⟩
def it4 {A1 A2 A3 A4 : Type} (F : (A1 → A2 → A3 → A4 → Mem → Prop) → A1 → A2 → A3 → A4 → Mem → Prop) : Nat → A1 → A2 → A3 → A4 → Mem → Prop
  | 0 => fun _ _ _ _ _ => False
  | n + 1 => F (it4 F n)
theorem it4_walk {A1 A2 A3 A4 : Type} {F : (A1 → A2 → A3 → A4 → Mem → Prop) → A1 → A2 → A3 → A4 → Mem → Prop} {T : A1 → A2 → A3 → A4 → Mem → Prop} (hs : ∀ k : A1 → A2 → A3 → A4 → Mem → Prop, (∀ (a1 : A1) (a2 : A2) (a3 : A3) (a4 : A4) (σ : Mem), k a1 a2 a3 a4 σ → T a1 a2 a3 a4 σ) → ∀ (a1 : A1) (a2 : A2) (a3 : A3) (a4 : A4) (σ : Mem), F k a1 a2 a3 a4 σ → T a1 a2 a3 a4 σ) : ∀ (n : Nat) (a1 : A1) (a2 : A2) (a3 : A3) (a4 : A4) (σ : Mem), it4 F n a1 a2 a3 a4 σ → T a1 a2 a3 a4 σ
  | 0, _, _, _, _, _ => fun h => absurd h id
  | n + 1, a1, a2, a3, a4, σ => hs (it4 F n) (it4_walk hs n) a1 a2 a3 a4 σ
theorem it4_ind {A1 A2 A3 A4 : Type} {F : (A1 → A2 → A3 → A4 → Mem → Prop) → A1 → A2 → A3 → A4 → Mem → Prop} (I : A1 → A2 → A3 → A4 → Mem → Prop) (μ : A1 → A2 → A3 → A4 → Mem → Nat) (hs : ∀ (k : A1 → A2 → A3 → A4 → Mem → Prop) (a1 : A1) (a2 : A2) (a3 : A3) (a4 : A4) (σ : Mem), I a1 a2 a3 a4 σ → (∀ (b1 : A1) (b2 : A2) (b3 : A3) (b4 : A4) (σ' : Mem), I b1 b2 b3 b4 σ' → μ b1 b2 b3 b4 σ' < μ a1 a2 a3 a4 σ → k b1 b2 b3 b4 σ') → F k a1 a2 a3 a4 σ) (a1 : A1) (a2 : A2) (a3 : A3) (a4 : A4) (σ : Mem) (h : I a1 a2 a3 a4 σ) : ∃ n, it4 F n a1 a2 a3 a4 σ := by
  have key : ∀ (n : Nat) (a1 : A1) (a2 : A2) (a3 : A3) (a4 : A4) (σ : Mem), I a1 a2 a3 a4 σ → μ a1 a2 a3 a4 σ < n → it4 F n a1 a2 a3 a4 σ := by
    intro n
    induction n with
    | zero => intro a1 a2 a3 a4 σ _ h; exact absurd h (Nat.not_lt_zero _)
    | succ n ih =>
      intro a1 a2 a3 a4 σ hI hm
      exact hs (it4 F n) a1 a2 a3 a4 σ hI (fun b1 b2 b3 b4 σ' h1 h2 => ih b1 b2 b3 b4 σ' h1 (by omega))
  exact ⟨_, key (μ a1 a2 a3 a4 σ + 1) a1 a2 a3 a4 σ h (Nat.lt_succ_self _)⟩
def it5 {A1 A2 A3 A4 A5 : Type} (F : (A1 → A2 → A3 → A4 → A5 → Mem → Prop) → A1 → A2 → A3 → A4 → A5 → Mem → Prop) : Nat → A1 → A2 → A3 → A4 → A5 → Mem → Prop
  | 0 => fun _ _ _ _ _ _ => False
  | n + 1 => F (it5 F n)
theorem it5_walk {A1 A2 A3 A4 A5 : Type} {F : (A1 → A2 → A3 → A4 → A5 → Mem → Prop) → A1 → A2 → A3 → A4 → A5 → Mem → Prop} {T : A1 → A2 → A3 → A4 → A5 → Mem → Prop} (hs : ∀ k : A1 → A2 → A3 → A4 → A5 → Mem → Prop, (∀ (a1 : A1) (a2 : A2) (a3 : A3) (a4 : A4) (a5 : A5) (σ : Mem), k a1 a2 a3 a4 a5 σ → T a1 a2 a3 a4 a5 σ) → ∀ (a1 : A1) (a2 : A2) (a3 : A3) (a4 : A4) (a5 : A5) (σ : Mem), F k a1 a2 a3 a4 a5 σ → T a1 a2 a3 a4 a5 σ) : ∀ (n : Nat) (a1 : A1) (a2 : A2) (a3 : A3) (a4 : A4) (a5 : A5) (σ : Mem), it5 F n a1 a2 a3 a4 a5 σ → T a1 a2 a3 a4 a5 σ
  | 0, _, _, _, _, _, _ => fun h => absurd h id
  | n + 1, a1, a2, a3, a4, a5, σ => hs (it5 F n) (it5_walk hs n) a1 a2 a3 a4 a5 σ
theorem it5_ind {A1 A2 A3 A4 A5 : Type} {F : (A1 → A2 → A3 → A4 → A5 → Mem → Prop) → A1 → A2 → A3 → A4 → A5 → Mem → Prop} (I : A1 → A2 → A3 → A4 → A5 → Mem → Prop) (μ : A1 → A2 → A3 → A4 → A5 → Mem → Nat) (hs : ∀ (k : A1 → A2 → A3 → A4 → A5 → Mem → Prop) (a1 : A1) (a2 : A2) (a3 : A3) (a4 : A4) (a5 : A5) (σ : Mem), I a1 a2 a3 a4 a5 σ → (∀ (b1 : A1) (b2 : A2) (b3 : A3) (b4 : A4) (b5 : A5) (σ' : Mem), I b1 b2 b3 b4 b5 σ' → μ b1 b2 b3 b4 b5 σ' < μ a1 a2 a3 a4 a5 σ → k b1 b2 b3 b4 b5 σ') → F k a1 a2 a3 a4 a5 σ) (a1 : A1) (a2 : A2) (a3 : A3) (a4 : A4) (a5 : A5) (σ : Mem) (h : I a1 a2 a3 a4 a5 σ) : ∃ n, it5 F n a1 a2 a3 a4 a5 σ := by
  have key : ∀ (n : Nat) (a1 : A1) (a2 : A2) (a3 : A3) (a4 : A4) (a5 : A5) (σ : Mem), I a1 a2 a3 a4 a5 σ → μ a1 a2 a3 a4 a5 σ < n → it5 F n a1 a2 a3 a4 a5 σ := by
    intro n
    induction n with
    | zero => intro a1 a2 a3 a4 a5 σ _ h; exact absurd h (Nat.not_lt_zero _)
    | succ n ih =>
      intro a1 a2 a3 a4 a5 σ hI hm
      exact hs (it5 F n) a1 a2 a3 a4 a5 σ hI (fun b1 b2 b3 b4 b5 σ' h1 h2 => ih b1 b2 b3 b4 b5 σ' h1 (by omega))
  exact ⟨_, key (μ a1 a2 a3 a4 a5 σ + 1) a1 a2 a3 a4 a5 σ h (Nat.lt_succ_self _)⟩
def it6 {A1 A2 A3 A4 A5 A6 : Type} (F : (A1 → A2 → A3 → A4 → A5 → A6 → Mem → Prop) → A1 → A2 → A3 → A4 → A5 → A6 → Mem → Prop) : Nat → A1 → A2 → A3 → A4 → A5 → A6 → Mem → Prop
  | 0 => fun _ _ _ _ _ _ _ => False
  | n + 1 => F (it6 F n)
theorem it6_walk {A1 A2 A3 A4 A5 A6 : Type} {F : (A1 → A2 → A3 → A4 → A5 → A6 → Mem → Prop) → A1 → A2 → A3 → A4 → A5 → A6 → Mem → Prop} {T : A1 → A2 → A3 → A4 → A5 → A6 → Mem → Prop} (hs : ∀ k : A1 → A2 → A3 → A4 → A5 → A6 → Mem → Prop, (∀ (a1 : A1) (a2 : A2) (a3 : A3) (a4 : A4) (a5 : A5) (a6 : A6) (σ : Mem), k a1 a2 a3 a4 a5 a6 σ → T a1 a2 a3 a4 a5 a6 σ) → ∀ (a1 : A1) (a2 : A2) (a3 : A3) (a4 : A4) (a5 : A5) (a6 : A6) (σ : Mem), F k a1 a2 a3 a4 a5 a6 σ → T a1 a2 a3 a4 a5 a6 σ) : ∀ (n : Nat) (a1 : A1) (a2 : A2) (a3 : A3) (a4 : A4) (a5 : A5) (a6 : A6) (σ : Mem), it6 F n a1 a2 a3 a4 a5 a6 σ → T a1 a2 a3 a4 a5 a6 σ
  | 0, _, _, _, _, _, _, _ => fun h => absurd h id
  | n + 1, a1, a2, a3, a4, a5, a6, σ => hs (it6 F n) (it6_walk hs n) a1 a2 a3 a4 a5 a6 σ
theorem it6_ind {A1 A2 A3 A4 A5 A6 : Type} {F : (A1 → A2 → A3 → A4 → A5 → A6 → Mem → Prop) → A1 → A2 → A3 → A4 → A5 → A6 → Mem → Prop} (I : A1 → A2 → A3 → A4 → A5 → A6 → Mem → Prop) (μ : A1 → A2 → A3 → A4 → A5 → A6 → Mem → Nat) (hs : ∀ (k : A1 → A2 → A3 → A4 → A5 → A6 → Mem → Prop) (a1 : A1) (a2 : A2) (a3 : A3) (a4 : A4) (a5 : A5) (a6 : A6) (σ : Mem), I a1 a2 a3 a4 a5 a6 σ → (∀ (b1 : A1) (b2 : A2) (b3 : A3) (b4 : A4) (b5 : A5) (b6 : A6) (σ' : Mem), I b1 b2 b3 b4 b5 b6 σ' → μ b1 b2 b3 b4 b5 b6 σ' < μ a1 a2 a3 a4 a5 a6 σ → k b1 b2 b3 b4 b5 b6 σ') → F k a1 a2 a3 a4 a5 a6 σ) (a1 : A1) (a2 : A2) (a3 : A3) (a4 : A4) (a5 : A5) (a6 : A6) (σ : Mem) (h : I a1 a2 a3 a4 a5 a6 σ) : ∃ n, it6 F n a1 a2 a3 a4 a5 a6 σ := by
  have key : ∀ (n : Nat) (a1 : A1) (a2 : A2) (a3 : A3) (a4 : A4) (a5 : A5) (a6 : A6) (σ : Mem), I a1 a2 a3 a4 a5 a6 σ → μ a1 a2 a3 a4 a5 a6 σ < n → it6 F n a1 a2 a3 a4 a5 a6 σ := by
    intro n
    induction n with
    | zero => intro a1 a2 a3 a4 a5 a6 σ _ h; exact absurd h (Nat.not_lt_zero _)
    | succ n ih =>
      intro a1 a2 a3 a4 a5 a6 σ hI hm
      exact hs (it6 F n) a1 a2 a3 a4 a5 a6 σ hI (fun b1 b2 b3 b4 b5 b6 σ' h1 h2 => ih b1 b2 b3 b4 b5 b6 σ' h1 (by omega))
  exact ⟨_, key (μ a1 a2 a3 a4 a5 a6 σ + 1) a1 a2 a3 a4 a5 a6 σ h (Nat.lt_succ_self _)⟩
def it7 {A1 A2 A3 A4 A5 A6 A7 : Type} (F : (A1 → A2 → A3 → A4 → A5 → A6 → A7 → Mem → Prop) → A1 → A2 → A3 → A4 → A5 → A6 → A7 → Mem → Prop) : Nat → A1 → A2 → A3 → A4 → A5 → A6 → A7 → Mem → Prop
  | 0 => fun _ _ _ _ _ _ _ _ => False
  | n + 1 => F (it7 F n)
theorem it7_walk {A1 A2 A3 A4 A5 A6 A7 : Type} {F : (A1 → A2 → A3 → A4 → A5 → A6 → A7 → Mem → Prop) → A1 → A2 → A3 → A4 → A5 → A6 → A7 → Mem → Prop} {T : A1 → A2 → A3 → A4 → A5 → A6 → A7 → Mem → Prop} (hs : ∀ k : A1 → A2 → A3 → A4 → A5 → A6 → A7 → Mem → Prop, (∀ (a1 : A1) (a2 : A2) (a3 : A3) (a4 : A4) (a5 : A5) (a6 : A6) (a7 : A7) (σ : Mem), k a1 a2 a3 a4 a5 a6 a7 σ → T a1 a2 a3 a4 a5 a6 a7 σ) → ∀ (a1 : A1) (a2 : A2) (a3 : A3) (a4 : A4) (a5 : A5) (a6 : A6) (a7 : A7) (σ : Mem), F k a1 a2 a3 a4 a5 a6 a7 σ → T a1 a2 a3 a4 a5 a6 a7 σ) : ∀ (n : Nat) (a1 : A1) (a2 : A2) (a3 : A3) (a4 : A4) (a5 : A5) (a6 : A6) (a7 : A7) (σ : Mem), it7 F n a1 a2 a3 a4 a5 a6 a7 σ → T a1 a2 a3 a4 a5 a6 a7 σ
  | 0, _, _, _, _, _, _, _, _ => fun h => absurd h id
  | n + 1, a1, a2, a3, a4, a5, a6, a7, σ => hs (it7 F n) (it7_walk hs n) a1 a2 a3 a4 a5 a6 a7 σ
theorem it7_ind {A1 A2 A3 A4 A5 A6 A7 : Type} {F : (A1 → A2 → A3 → A4 → A5 → A6 → A7 → Mem → Prop) → A1 → A2 → A3 → A4 → A5 → A6 → A7 → Mem → Prop} (I : A1 → A2 → A3 → A4 → A5 → A6 → A7 → Mem → Prop) (μ : A1 → A2 → A3 → A4 → A5 → A6 → A7 → Mem → Nat) (hs : ∀ (k : A1 → A2 → A3 → A4 → A5 → A6 → A7 → Mem → Prop) (a1 : A1) (a2 : A2) (a3 : A3) (a4 : A4) (a5 : A5) (a6 : A6) (a7 : A7) (σ : Mem), I a1 a2 a3 a4 a5 a6 a7 σ → (∀ (b1 : A1) (b2 : A2) (b3 : A3) (b4 : A4) (b5 : A5) (b6 : A6) (b7 : A7) (σ' : Mem), I b1 b2 b3 b4 b5 b6 b7 σ' → μ b1 b2 b3 b4 b5 b6 b7 σ' < μ a1 a2 a3 a4 a5 a6 a7 σ → k b1 b2 b3 b4 b5 b6 b7 σ') → F k a1 a2 a3 a4 a5 a6 a7 σ) (a1 : A1) (a2 : A2) (a3 : A3) (a4 : A4) (a5 : A5) (a6 : A6) (a7 : A7) (σ : Mem) (h : I a1 a2 a3 a4 a5 a6 a7 σ) : ∃ n, it7 F n a1 a2 a3 a4 a5 a6 a7 σ := by
  have key : ∀ (n : Nat) (a1 : A1) (a2 : A2) (a3 : A3) (a4 : A4) (a5 : A5) (a6 : A6) (a7 : A7) (σ : Mem), I a1 a2 a3 a4 a5 a6 a7 σ → μ a1 a2 a3 a4 a5 a6 a7 σ < n → it7 F n a1 a2 a3 a4 a5 a6 a7 σ := by
    intro n
    induction n with
    | zero => intro a1 a2 a3 a4 a5 a6 a7 σ _ h; exact absurd h (Nat.not_lt_zero _)
    | succ n ih =>
      intro a1 a2 a3 a4 a5 a6 a7 σ hI hm
      exact hs (it7 F n) a1 a2 a3 a4 a5 a6 a7 σ hI (fun b1 b2 b3 b4 b5 b6 b7 σ' h1 h2 => ih b1 b2 b3 b4 b5 b6 b7 σ' h1 (by omega))
  exact ⟨_, key (μ a1 a2 a3 a4 a5 a6 a7 σ + 1) a1 a2 a3 a4 a5 a6 a7 σ h (Nat.lt_succ_self _)⟩
def it8 {A1 A2 A3 A4 A5 A6 A7 A8 : Type} (F : (A1 → A2 → A3 → A4 → A5 → A6 → A7 → A8 → Mem → Prop) → A1 → A2 → A3 → A4 → A5 → A6 → A7 → A8 → Mem → Prop) : Nat → A1 → A2 → A3 → A4 → A5 → A6 → A7 → A8 → Mem → Prop
  | 0 => fun _ _ _ _ _ _ _ _ _ => False
  | n + 1 => F (it8 F n)
theorem it8_walk {A1 A2 A3 A4 A5 A6 A7 A8 : Type} {F : (A1 → A2 → A3 → A4 → A5 → A6 → A7 → A8 → Mem → Prop) → A1 → A2 → A3 → A4 → A5 → A6 → A7 → A8 → Mem → Prop} {T : A1 → A2 → A3 → A4 → A5 → A6 → A7 → A8 → Mem → Prop} (hs : ∀ k : A1 → A2 → A3 → A4 → A5 → A6 → A7 → A8 → Mem → Prop, (∀ (a1 : A1) (a2 : A2) (a3 : A3) (a4 : A4) (a5 : A5) (a6 : A6) (a7 : A7) (a8 : A8) (σ : Mem), k a1 a2 a3 a4 a5 a6 a7 a8 σ → T a1 a2 a3 a4 a5 a6 a7 a8 σ) → ∀ (a1 : A1) (a2 : A2) (a3 : A3) (a4 : A4) (a5 : A5) (a6 : A6) (a7 : A7) (a8 : A8) (σ : Mem), F k a1 a2 a3 a4 a5 a6 a7 a8 σ → T a1 a2 a3 a4 a5 a6 a7 a8 σ) : ∀ (n : Nat) (a1 : A1) (a2 : A2) (a3 : A3) (a4 : A4) (a5 : A5) (a6 : A6) (a7 : A7) (a8 : A8) (σ : Mem), it8 F n a1 a2 a3 a4 a5 a6 a7 a8 σ → T a1 a2 a3 a4 a5 a6 a7 a8 σ
  | 0, _, _, _, _, _, _, _, _, _ => fun h => absurd h id
  | n + 1, a1, a2, a3, a4, a5, a6, a7, a8, σ => hs (it8 F n) (it8_walk hs n) a1 a2 a3 a4 a5 a6 a7 a8 σ
theorem it8_ind {A1 A2 A3 A4 A5 A6 A7 A8 : Type} {F : (A1 → A2 → A3 → A4 → A5 → A6 → A7 → A8 → Mem → Prop) → A1 → A2 → A3 → A4 → A5 → A6 → A7 → A8 → Mem → Prop} (I : A1 → A2 → A3 → A4 → A5 → A6 → A7 → A8 → Mem → Prop) (μ : A1 → A2 → A3 → A4 → A5 → A6 → A7 → A8 → Mem → Nat) (hs : ∀ (k : A1 → A2 → A3 → A4 → A5 → A6 → A7 → A8 → Mem → Prop) (a1 : A1) (a2 : A2) (a3 : A3) (a4 : A4) (a5 : A5) (a6 : A6) (a7 : A7) (a8 : A8) (σ : Mem), I a1 a2 a3 a4 a5 a6 a7 a8 σ → (∀ (b1 : A1) (b2 : A2) (b3 : A3) (b4 : A4) (b5 : A5) (b6 : A6) (b7 : A7) (b8 : A8) (σ' : Mem), I b1 b2 b3 b4 b5 b6 b7 b8 σ' → μ b1 b2 b3 b4 b5 b6 b7 b8 σ' < μ a1 a2 a3 a4 a5 a6 a7 a8 σ → k b1 b2 b3 b4 b5 b6 b7 b8 σ') → F k a1 a2 a3 a4 a5 a6 a7 a8 σ) (a1 : A1) (a2 : A2) (a3 : A3) (a4 : A4) (a5 : A5) (a6 : A6) (a7 : A7) (a8 : A8) (σ : Mem) (h : I a1 a2 a3 a4 a5 a6 a7 a8 σ) : ∃ n, it8 F n a1 a2 a3 a4 a5 a6 a7 a8 σ := by
  have key : ∀ (n : Nat) (a1 : A1) (a2 : A2) (a3 : A3) (a4 : A4) (a5 : A5) (a6 : A6) (a7 : A7) (a8 : A8) (σ : Mem), I a1 a2 a3 a4 a5 a6 a7 a8 σ → μ a1 a2 a3 a4 a5 a6 a7 a8 σ < n → it8 F n a1 a2 a3 a4 a5 a6 a7 a8 σ := by
    intro n
    induction n with
    | zero => intro a1 a2 a3 a4 a5 a6 a7 a8 σ _ h; exact absurd h (Nat.not_lt_zero _)
    | succ n ih =>
      intro a1 a2 a3 a4 a5 a6 a7 a8 σ hI hm
      exact hs (it8 F n) a1 a2 a3 a4 a5 a6 a7 a8 σ hI (fun b1 b2 b3 b4 b5 b6 b7 b8 σ' h1 h2 => ih b1 b2 b3 b4 b5 b6 b7 b8 σ' h1 (by omega))
  exact ⟨_, key (μ a1 a2 a3 a4 a5 a6 a7 a8 σ + 1) a1 a2 a3 a4 a5 a6 a7 a8 σ h (Nat.lt_succ_self _)⟩
def it9 {A1 A2 A3 A4 A5 A6 A7 A8 A9 : Type} (F : (A1 → A2 → A3 → A4 → A5 → A6 → A7 → A8 → A9 → Mem → Prop) → A1 → A2 → A3 → A4 → A5 → A6 → A7 → A8 → A9 → Mem → Prop) : Nat → A1 → A2 → A3 → A4 → A5 → A6 → A7 → A8 → A9 → Mem → Prop
  | 0 => fun _ _ _ _ _ _ _ _ _ _ => False
  | n + 1 => F (it9 F n)
theorem it9_walk {A1 A2 A3 A4 A5 A6 A7 A8 A9 : Type} {F : (A1 → A2 → A3 → A4 → A5 → A6 → A7 → A8 → A9 → Mem → Prop) → A1 → A2 → A3 → A4 → A5 → A6 → A7 → A8 → A9 → Mem → Prop} {T : A1 → A2 → A3 → A4 → A5 → A6 → A7 → A8 → A9 → Mem → Prop} (hs : ∀ k : A1 → A2 → A3 → A4 → A5 → A6 → A7 → A8 → A9 → Mem → Prop, (∀ (a1 : A1) (a2 : A2) (a3 : A3) (a4 : A4) (a5 : A5) (a6 : A6) (a7 : A7) (a8 : A8) (a9 : A9) (σ : Mem), k a1 a2 a3 a4 a5 a6 a7 a8 a9 σ → T a1 a2 a3 a4 a5 a6 a7 a8 a9 σ) → ∀ (a1 : A1) (a2 : A2) (a3 : A3) (a4 : A4) (a5 : A5) (a6 : A6) (a7 : A7) (a8 : A8) (a9 : A9) (σ : Mem), F k a1 a2 a3 a4 a5 a6 a7 a8 a9 σ → T a1 a2 a3 a4 a5 a6 a7 a8 a9 σ) : ∀ (n : Nat) (a1 : A1) (a2 : A2) (a3 : A3) (a4 : A4) (a5 : A5) (a6 : A6) (a7 : A7) (a8 : A8) (a9 : A9) (σ : Mem), it9 F n a1 a2 a3 a4 a5 a6 a7 a8 a9 σ → T a1 a2 a3 a4 a5 a6 a7 a8 a9 σ
  | 0, _, _, _, _, _, _, _, _, _, _ => fun h => absurd h id
  | n + 1, a1, a2, a3, a4, a5, a6, a7, a8, a9, σ => hs (it9 F n) (it9_walk hs n) a1 a2 a3 a4 a5 a6 a7 a8 a9 σ
theorem it9_ind {A1 A2 A3 A4 A5 A6 A7 A8 A9 : Type} {F : (A1 → A2 → A3 → A4 → A5 → A6 → A7 → A8 → A9 → Mem → Prop) → A1 → A2 → A3 → A4 → A5 → A6 → A7 → A8 → A9 → Mem → Prop} (I : A1 → A2 → A3 → A4 → A5 → A6 → A7 → A8 → A9 → Mem → Prop) (μ : A1 → A2 → A3 → A4 → A5 → A6 → A7 → A8 → A9 → Mem → Nat) (hs : ∀ (k : A1 → A2 → A3 → A4 → A5 → A6 → A7 → A8 → A9 → Mem → Prop) (a1 : A1) (a2 : A2) (a3 : A3) (a4 : A4) (a5 : A5) (a6 : A6) (a7 : A7) (a8 : A8) (a9 : A9) (σ : Mem), I a1 a2 a3 a4 a5 a6 a7 a8 a9 σ → (∀ (b1 : A1) (b2 : A2) (b3 : A3) (b4 : A4) (b5 : A5) (b6 : A6) (b7 : A7) (b8 : A8) (b9 : A9) (σ' : Mem), I b1 b2 b3 b4 b5 b6 b7 b8 b9 σ' → μ b1 b2 b3 b4 b5 b6 b7 b8 b9 σ' < μ a1 a2 a3 a4 a5 a6 a7 a8 a9 σ → k b1 b2 b3 b4 b5 b6 b7 b8 b9 σ') → F k a1 a2 a3 a4 a5 a6 a7 a8 a9 σ) (a1 : A1) (a2 : A2) (a3 : A3) (a4 : A4) (a5 : A5) (a6 : A6) (a7 : A7) (a8 : A8) (a9 : A9) (σ : Mem) (h : I a1 a2 a3 a4 a5 a6 a7 a8 a9 σ) : ∃ n, it9 F n a1 a2 a3 a4 a5 a6 a7 a8 a9 σ := by
  have key : ∀ (n : Nat) (a1 : A1) (a2 : A2) (a3 : A3) (a4 : A4) (a5 : A5) (a6 : A6) (a7 : A7) (a8 : A8) (a9 : A9) (σ : Mem), I a1 a2 a3 a4 a5 a6 a7 a8 a9 σ → μ a1 a2 a3 a4 a5 a6 a7 a8 a9 σ < n → it9 F n a1 a2 a3 a4 a5 a6 a7 a8 a9 σ := by
    intro n
    induction n with
    | zero => intro a1 a2 a3 a4 a5 a6 a7 a8 a9 σ _ h; exact absurd h (Nat.not_lt_zero _)
    | succ n ih =>
      intro a1 a2 a3 a4 a5 a6 a7 a8 a9 σ hI hm
      exact hs (it9 F n) a1 a2 a3 a4 a5 a6 a7 a8 a9 σ hI (fun b1 b2 b3 b4 b5 b6 b7 b8 b9 σ' h1 h2 => ih b1 b2 b3 b4 b5 b6 b7 b8 b9 σ' h1 (by omega))
  exact ⟨_, key (μ a1 a2 a3 a4 a5 a6 a7 a8 a9 σ + 1) a1 a2 a3 a4 a5 a6 a7 a8 a9 σ h (Nat.lt_succ_self _)⟩
def it10 {A1 A2 A3 A4 A5 A6 A7 A8 A9 A10 : Type} (F : (A1 → A2 → A3 → A4 → A5 → A6 → A7 → A8 → A9 → A10 → Mem → Prop) → A1 → A2 → A3 → A4 → A5 → A6 → A7 → A8 → A9 → A10 → Mem → Prop) : Nat → A1 → A2 → A3 → A4 → A5 → A6 → A7 → A8 → A9 → A10 → Mem → Prop
  | 0 => fun _ _ _ _ _ _ _ _ _ _ _ => False
  | n + 1 => F (it10 F n)
theorem it10_walk {A1 A2 A3 A4 A5 A6 A7 A8 A9 A10 : Type} {F : (A1 → A2 → A3 → A4 → A5 → A6 → A7 → A8 → A9 → A10 → Mem → Prop) → A1 → A2 → A3 → A4 → A5 → A6 → A7 → A8 → A9 → A10 → Mem → Prop} {T : A1 → A2 → A3 → A4 → A5 → A6 → A7 → A8 → A9 → A10 → Mem → Prop} (hs : ∀ k : A1 → A2 → A3 → A4 → A5 → A6 → A7 → A8 → A9 → A10 → Mem → Prop, (∀ (a1 : A1) (a2 : A2) (a3 : A3) (a4 : A4) (a5 : A5) (a6 : A6) (a7 : A7) (a8 : A8) (a9 : A9) (a10 : A10) (σ : Mem), k a1 a2 a3 a4 a5 a6 a7 a8 a9 a10 σ → T a1 a2 a3 a4 a5 a6 a7 a8 a9 a10 σ) → ∀ (a1 : A1) (a2 : A2) (a3 : A3) (a4 : A4) (a5 : A5) (a6 : A6) (a7 : A7) (a8 : A8) (a9 : A9) (a10 : A10) (σ : Mem), F k a1 a2 a3 a4 a5 a6 a7 a8 a9 a10 σ → T a1 a2 a3 a4 a5 a6 a7 a8 a9 a10 σ) : ∀ (n : Nat) (a1 : A1) (a2 : A2) (a3 : A3) (a4 : A4) (a5 : A5) (a6 : A6) (a7 : A7) (a8 : A8) (a9 : A9) (a10 : A10) (σ : Mem), it10 F n a1 a2 a3 a4 a5 a6 a7 a8 a9 a10 σ → T a1 a2 a3 a4 a5 a6 a7 a8 a9 a10 σ
  | 0, _, _, _, _, _, _, _, _, _, _, _ => fun h => absurd h id
  | n + 1, a1, a2, a3, a4, a5, a6, a7, a8, a9, a10, σ => hs (it10 F n) (it10_walk hs n) a1 a2 a3 a4 a5 a6 a7 a8 a9 a10 σ
theorem it10_ind {A1 A2 A3 A4 A5 A6 A7 A8 A9 A10 : Type} {F : (A1 → A2 → A3 → A4 → A5 → A6 → A7 → A8 → A9 → A10 → Mem → Prop) → A1 → A2 → A3 → A4 → A5 → A6 → A7 → A8 → A9 → A10 → Mem → Prop} (I : A1 → A2 → A3 → A4 → A5 → A6 → A7 → A8 → A9 → A10 → Mem → Prop) (μ : A1 → A2 → A3 → A4 → A5 → A6 → A7 → A8 → A9 → A10 → Mem → Nat) (hs : ∀ (k : A1 → A2 → A3 → A4 → A5 → A6 → A7 → A8 → A9 → A10 → Mem → Prop) (a1 : A1) (a2 : A2) (a3 : A3) (a4 : A4) (a5 : A5) (a6 : A6) (a7 : A7) (a8 : A8) (a9 : A9) (a10 : A10) (σ : Mem), I a1 a2 a3 a4 a5 a6 a7 a8 a9 a10 σ → (∀ (b1 : A1) (b2 : A2) (b3 : A3) (b4 : A4) (b5 : A5) (b6 : A6) (b7 : A7) (b8 : A8) (b9 : A9) (b10 : A10) (σ' : Mem), I b1 b2 b3 b4 b5 b6 b7 b8 b9 b10 σ' → μ b1 b2 b3 b4 b5 b6 b7 b8 b9 b10 σ' < μ a1 a2 a3 a4 a5 a6 a7 a8 a9 a10 σ → k b1 b2 b3 b4 b5 b6 b7 b8 b9 b10 σ') → F k a1 a2 a3 a4 a5 a6 a7 a8 a9 a10 σ) (a1 : A1) (a2 : A2) (a3 : A3) (a4 : A4) (a5 : A5) (a6 : A6) (a7 : A7) (a8 : A8) (a9 : A9) (a10 : A10) (σ : Mem) (h : I a1 a2 a3 a4 a5 a6 a7 a8 a9 a10 σ) : ∃ n, it10 F n a1 a2 a3 a4 a5 a6 a7 a8 a9 a10 σ := by
  have key : ∀ (n : Nat) (a1 : A1) (a2 : A2) (a3 : A3) (a4 : A4) (a5 : A5) (a6 : A6) (a7 : A7) (a8 : A8) (a9 : A9) (a10 : A10) (σ : Mem), I a1 a2 a3 a4 a5 a6 a7 a8 a9 a10 σ → μ a1 a2 a3 a4 a5 a6 a7 a8 a9 a10 σ < n → it10 F n a1 a2 a3 a4 a5 a6 a7 a8 a9 a10 σ := by
    intro n
    induction n with
    | zero => intro a1 a2 a3 a4 a5 a6 a7 a8 a9 a10 σ _ h; exact absurd h (Nat.not_lt_zero _)
    | succ n ih =>
      intro a1 a2 a3 a4 a5 a6 a7 a8 a9 a10 σ hI hm
      exact hs (it10 F n) a1 a2 a3 a4 a5 a6 a7 a8 a9 a10 σ hI (fun b1 b2 b3 b4 b5 b6 b7 b8 b9 b10 σ' h1 h2 => ih b1 b2 b3 b4 b5 b6 b7 b8 b9 b10 σ' h1 (by omega))
  exact ⟨_, key (μ a1 a2 a3 a4 a5 a6 a7 a8 a9 a10 σ + 1) a1 a2 a3 a4 a5 a6 a7 a8 a9 a10 σ h (Nat.lt_succ_self _)⟩
