/-! THE CLAIM OUT OF ONE WALK OF THE LAW'S BODY. Your part is whole_start (and what it stands on); all else here is the same for every law, but numbers. -/
def R_law : String := "FlyWheelsLaw"
def lw_P (b : Addr) (xs : List Int32) (args : Array Value) (s : State) : Prop := args = #[.ref b] ∧ s.IntsAt b xs ∧ xs.length ≤ 2560 ∧ (Jvm.Cond.and given_1 narrow_1).before args s = true
def lw_Q (_ : Array Value) (s : State) (o : Outcome) (t : State) : Prop := o = .returned (some (.int 1)) ∧ Framed s o t [] 600000 7302249
def lw_Z (below : List Frame) (a : Array Value) (s : State) : State → Prop := fun t => ∃ o, t.status = .running ∧ Ended t below o ∧ lw_Q a s o t
/-- the law's own end, with 1 on the stack, nothing written that was there before, its room as the claim has it -/
theorem lw_ret {p : Program} {l : Launch} {e : Env} {s : State} {m : MethodId} {below : List Frame} {meth : Method} {c : Code} {b : Nat} (hx : p.tables.exec = Jvm.exec) (hb : c.code = code) (hr : meth.sig.returnType = ret) (hlocks : meth.locks = false) {pc : Nat} {H : Heap} {ls : Array Slot} (hdg : decode code pc = .ok (.ireturn, 1)) : W p l e room_1 s m #[Value.ref b] below meth c H [] 600000 7302249 (lw_Z below #[Value.ref b] s) (F0 m pc ls [.int 1]) := by
  intro T hT X
  obtain ⟨fs, hret, hrun, hended, hW, hframe⟩ := X.leave (v := some (.int 1)) (hlocks := hlocks) (fun h => by rw [hr] at h; cases h)
  have hmeth' : T.vm.method? m = some meth := X.method'
  refine ⟨T.setFrames fs, ?_, .returned (some (.int 1)), hrun, hended, rfl, ⟨_, rfl⟩, hW, hframe⟩
  jvm_step X.here [X.here.top, hx, hb, hdg, hmeth', hr, ret, narrow_b1]
  (try refine ⟨rfl, ?_⟩); (try refine ⟨rfl, ?_⟩)
  first | (intro acts; rw [hret _ acts rfl rfl rfl]) | rw [hret _ _ rfl rfl rfl]
  exact Steps.refl _
/-- what holds at the law's entry: the machine, the code, the tables' words (any of lw_tbl by 'hts w (by decide +kernel)'), the script of L ints xs at the cell b, what the Statement gives of the start (any of its parts by flat_of_before) -/
def lw_At (p : Program) (s : State) (m : MethodId) (meth : Method) (c : Code) (b L : Nat) (xs : Nat → Int32) : Prop :=
  p.tables.exec = Jvm.exec ∧ c.code = code ∧ meth.sig.returnType = ret ∧ c.maxLocals = 4 ∧ s.vm.findClass R_law = some m.cls ∧ (∀ w ∈ lw_tbl, w.before #[Value.ref b] s = true) ∧ va_X b L xs s s.heap ∧ b < s.heap.size ∧ meth.locks = false ∧ (Jvm.Cond.and given_1 narrow_1).before #[Value.ref b] s = true

/-! from the entry to the loop's head -/
def kbC0 (aK aV : Nat → Nat) (A : Nat → Prop) (U : State) : Prop := va_Nw (.methodLinkNest RX0 59 yX3_quotient RX3) U ∧ va_Nw (.methodLinkNest RX2 104 yX3_within RX3) U ∧ vk_S 8 sb_len sb_byt aK aV A U U.heap ∧ va_Z RJ0 "COMPACT_STRINGS" "Z" (.int 1) A U U.heap ∧ va_Zq RJ3 "SIOOBE_FORMATTER" "Ljava/util/function/BiFunction;" A U U.heap ∧ ∀ i, i < 8 → vk_R RX2 (sb_txt.getD i (0, "")).1 (sb_txt.getD i (0, "")).2 (aK i) U
theorem kbC0_warm {aK aV : Nat → Nat} {A : Nat → Prop} {s U : State} (h : kbC0 aK aV A s) (hW : s.WarmedH U.vm) (hq : ∀ q : Nat, q < s.heap.size → ¬ A q → U.heap[q]? = s.heap[q]?) : kbC0 aK aV A U :=
  ⟨va_Nw.warmM hW h.1, va_Nw.warmM hW h.2.1, (vk_S.moved hW.alike h.2.2.1).kept hq, (va_Z.moved hW.alike h.2.2.2.1).kept hq, (va_Zq.moved hW.alike h.2.2.2.2.1).kept hq, fun i hi => (h.2.2.2.2.2 i hi).warm hW⟩
theorem kbC0_same {aK aV : Nat → Nat} {A : Nat → Prop} {s U : State} (h : kbC0 aK aV A s) (hv : U.vm = s.vm) (hh : U.heap = s.heap) : kbC0 aK aV A U := by
  have hal : s.vm.Alike U.vm := by rw [hv]; exact Vm.Alike.refl _
  refine ⟨va_Nw.same rfl hv.symm h.1, va_Nw.same rfl hv.symm h.2.1, ?_, ?_, ?_, fun i hi => (h.2.2.2.2.2 i hi).same hv⟩
  · rw [hh]; exact vk_S.moved hal h.2.2.1
  · rw [hh]; exact va_Z.moved hal h.2.2.2.1
  · rw [hh]; exact va_Zq.moved hal h.2.2.2.2.1
theorem isC_of {D : va_G} {h0 : Nat} {u : (Nat → Nat) × (Nat → ClassId)} {aK aV : Nat → Nat} (hinj : ∀ i j, i < 48 → j < 48 → adC h0 u i = adC h0 u j → i = j) : fw_IsC (GC D h0 u (kbC0 aK aV (fun q => ∃ k, k < 48 ∧ q = adC h0 u k)) aK aV) := by
  refine ⟨⟨hinj, fun s U h hW _ hq => kbC0_warm h hW hq, fun s U h hv hh => kbC0_same h hv hh⟩, fun U h => h, ⟨Nat.le_of_ble_eq_true rfl, rfl⟩, ?_, ?_, ?_, ⟨Nat.le_of_ble_eq_true rfl, rfl⟩, ?_, ?_, ?_, ?_, ?_, ?_, ?_⟩
  · intro b hb
    rcases hb with rfl | rfl | rfl | rfl | rfl
    · exact ⟨⟨Nat.le_of_ble_eq_true rfl, rfl⟩, ⟨Nat.le_of_ble_eq_true rfl, u.2 2, 0, rfl, rfl⟩, ⟨Nat.le_of_ble_eq_true rfl, u.2 3, 1, rfl, rfl⟩, ⟨Nat.le_of_ble_eq_true rfl, u.2 4, 2, rfl, rfl⟩, ⟨Nat.le_of_ble_eq_true rfl, u.2 5, 3, rfl, rfl⟩, ⟨Nat.le_of_ble_eq_true rfl, u.2 6, 4, rfl, rfl⟩⟩
    · exact ⟨⟨Nat.le_of_ble_eq_true rfl, rfl⟩, ⟨Nat.le_of_ble_eq_true rfl, u.2 8, 5, rfl, rfl⟩, ⟨Nat.le_of_ble_eq_true rfl, u.2 9, 6, rfl, rfl⟩, ⟨Nat.le_of_ble_eq_true rfl, u.2 10, 7, rfl, rfl⟩, ⟨Nat.le_of_ble_eq_true rfl, u.2 11, 8, rfl, rfl⟩, ⟨Nat.le_of_ble_eq_true rfl, u.2 12, 9, rfl, rfl⟩⟩
    · exact ⟨⟨Nat.le_of_ble_eq_true rfl, rfl⟩, ⟨Nat.le_of_ble_eq_true rfl, u.2 14, 10, rfl, rfl⟩, ⟨Nat.le_of_ble_eq_true rfl, u.2 15, 11, rfl, rfl⟩, ⟨Nat.le_of_ble_eq_true rfl, u.2 16, 12, rfl, rfl⟩, ⟨Nat.le_of_ble_eq_true rfl, u.2 17, 13, rfl, rfl⟩, ⟨Nat.le_of_ble_eq_true rfl, u.2 18, 14, rfl, rfl⟩⟩
    · exact ⟨⟨Nat.le_of_ble_eq_true rfl, rfl⟩, ⟨Nat.le_of_ble_eq_true rfl, u.2 20, 15, rfl, rfl⟩, ⟨Nat.le_of_ble_eq_true rfl, u.2 21, 16, rfl, rfl⟩, ⟨Nat.le_of_ble_eq_true rfl, u.2 22, 17, rfl, rfl⟩, ⟨Nat.le_of_ble_eq_true rfl, u.2 23, 18, rfl, rfl⟩, ⟨Nat.le_of_ble_eq_true rfl, u.2 24, 19, rfl, rfl⟩⟩
    · exact ⟨⟨Nat.le_of_ble_eq_true rfl, rfl⟩, ⟨Nat.le_of_ble_eq_true rfl, u.2 26, 20, rfl, rfl⟩, ⟨Nat.le_of_ble_eq_true rfl, u.2 27, 21, rfl, rfl⟩, ⟨Nat.le_of_ble_eq_true rfl, u.2 28, 22, rfl, rfl⟩, ⟨Nat.le_of_ble_eq_true rfl, u.2 29, 23, rfl, rfl⟩, ⟨Nat.le_of_ble_eq_true rfl, u.2 30, 24, rfl, rfl⟩⟩
  · exact ⟨Nat.le_of_ble_eq_true rfl, u.2 31, 25, _, rfl, rfl, fun i hi => by rcases (show i = 0 ∨ i = 1 by omega) with rfl | rfl <;> rfl⟩
  · exact ⟨Nat.le_of_ble_eq_true rfl, u.2 32, 26, rfl, rfl⟩
  · exact ⟨Nat.le_of_ble_eq_true rfl, u.2 34, 27, rfl, rfl⟩
  · exact ⟨Nat.le_of_ble_eq_true rfl, u.2 35, 28, _, rfl, rfl, fun i hi => by rcases (show i = 0 ∨ i = 1 ∨ i = 2 ∨ i = 3 by omega) with rfl | rfl | rfl | rfl <;> rfl⟩
  · intro b hb
    rcases hb with rfl | rfl | rfl | rfl
    · exact ⟨⟨Nat.le_of_ble_eq_true rfl, rfl⟩, ⟨Nat.le_of_ble_eq_true rfl, u.2 37, 29, rfl, rfl⟩⟩
    · exact ⟨⟨Nat.le_of_ble_eq_true rfl, rfl⟩, ⟨Nat.le_of_ble_eq_true rfl, u.2 39, 30, rfl, rfl⟩⟩
    · exact ⟨⟨Nat.le_of_ble_eq_true rfl, rfl⟩, ⟨Nat.le_of_ble_eq_true rfl, u.2 41, 31, rfl, rfl⟩⟩
    · exact ⟨⟨Nat.le_of_ble_eq_true rfl, rfl⟩, ⟨Nat.le_of_ble_eq_true rfl, u.2 43, 32, rfl, rfl⟩⟩
  · exact ⟨Nat.le_of_ble_eq_true rfl, u.2 44, 33, rfl, rfl⟩
  · exact ⟨Nat.le_of_ble_eq_true rfl, u.2 45, 34, rfl, rfl⟩
  · exact ⟨Nat.le_of_ble_eq_true rfl, u.2 46, 35, rfl, rfl⟩
  · exact ⟨Nat.le_of_ble_eq_true rfl, u.2 47, 36, rfl, rfl⟩
theorem isM_of {D : va_G} {h0 : Nat} {u : (Nat → Nat) × (Nat → ClassId)} (hinj : ∀ i j, i < 12 → j < 12 → adC h0 u i = adC h0 u j → i = j) : fw_IsM (GM D h0 u (fun _ => True)) := by
  refine ⟨⟨hinj, fun s U h hW _ hq => trivial, fun s U h hv hh => trivial⟩, ⟨Nat.le_of_ble_eq_true rfl, rfl⟩, ⟨Nat.le_of_ble_eq_true rfl, u.2 1, 0, rfl, rfl⟩, ⟨Nat.le_of_ble_eq_true rfl, u.2 2, 1, rfl, rfl⟩, ⟨Nat.le_of_ble_eq_true rfl, u.2 3, 2, rfl, rfl⟩, ⟨Nat.le_of_ble_eq_true rfl, u.2 4, 3, rfl, rfl⟩, ⟨Nat.le_of_ble_eq_true rfl, u.2 5, 4, rfl, rfl⟩, ⟨Nat.le_of_ble_eq_true rfl, u.2 6, 5, rfl, rfl⟩, ⟨Nat.le_of_ble_eq_true rfl, u.2 7, 6, rfl, rfl⟩, ⟨Nat.le_of_ble_eq_true rfl, u.2 8, 7, rfl, rfl⟩, ⟨Nat.le_of_ble_eq_true rfl, u.2 9, 8, rfl, rfl⟩, ⟨Nat.le_of_ble_eq_true rfl, u.2 10, 9, rfl, rfl⟩, ⟨Nat.le_of_ble_eq_true rfl, u.2 11, 10, rfl, rfl⟩⟩
theorem va_P_left {D : va_G} {cl : List vw_C} {a b : va_W} {H : Heap} (h : va_P D cl (a ++ b) H) : va_P D cl a H := fun k q hk => h k q (by rw [List.getElem?_append_left (List.getElem?_eq_some_iff.mp hk).1]; exact hk)
theorem va_P_right {D : va_G} {cl : List vw_C} {a b : va_W} {H : Heap} (h : va_P D cl (a ++ b) H) : va_P D cl b H := fun k q hk => h (a.length + k) q (by rw [List.getElem?_append_right (by omega)]; simpa using hk)
theorem range_get {α : Type} (l r : List α) : (List.range l.length).map (fun i => (l ++ r)[i]?) = l.map some := by
  apply List.ext_getElem?
  intro i
  by_cases hi : i < l.length
  · simp [hi, List.getElem?_append_left hi]
  · rw [List.getElem?_eq_none (by simpa using hi), List.getElem?_eq_none (by simpa using hi)]
theorem gw_len (G : Gw) (σ : Mem) : (gw G σ).length = gN G := by simp [gw]
theorem mem_flat {args : Array Value} {s : State} (hgv : (Jvm.Cond.and given_1 narrow_1).before args s = true) {w : Cond} (h : w ∈ flatC (Jvm.Cond.and given_1 narrow_1)) : w.before args s = true := flat_of_before _ hgv w h
abbrev sb_tm (i : Nat) : Term := Term.string RX2 (sb_txt.getD i (0, "")).1
set_option maxHeartbeats 4000000 in
set_option maxRecDepth 100000 in
/-- the String constants, out of the Statement's words -/
theorem strs_of {s : State} {b : Nat} (hts : ∀ w ∈ lw_tbl, w.before #[Value.ref b] s = true) (hgv : (Jvm.Cond.and given_1 narrow_1).before #[Value.ref b] s = true) : ∃ aK aV : Nat → Nat, vk_S 8 sb_len sb_byt aK aV (fun q => s.heap.size ≤ q) s s.heap ∧ ∀ i, i < 8 → vk_R RX2 (sb_txt.getD i (0, "")).1 (sb_txt.getD i (0, "")).2 (aK i) s := by
  have f1 : ∀ i, i < 8 → Cond.exactly (sb_tm i) "java/lang/String" ∈ flatC (Jvm.Cond.and given_1 narrow_1) := by decide +kernel
  have f2 : ∀ i, i < 8 → Cond.eq (.field (sb_tm i) "java/lang/String" "coder" "B") (.int 0) ∈ flatC (Jvm.Cond.and given_1 narrow_1) := by decide +kernel
  have f3 : ∀ i, i < 8 → Cond.arrayOf (.field (sb_tm i) "java/lang/String" "value" "[B") .byte ∈ flatC (Jvm.Cond.and given_1 narrow_1) := by decide +kernel
  have f4 : ∀ i, i < 8 → Cond.eq (.length (.field (sb_tm i) "java/lang/String" "value" "[B")) (.int (Int32.ofNat (sb_len.getD i 0))) ∈ flatC (Jvm.Cond.and given_1 narrow_1) := by decide +kernel
  have f5 : ∀ i, i < 8 → ∀ j, j < sb_len.getD i 0 → Cond.eq (.elem (.field (sb_tm i) "java/lang/String" "value" "[B") (.int (Int32.ofNat j))) (.int ((sb_byt.getD i []).getD j 0)) ∈ flatC (Jvm.Cond.and given_1 narrow_1) := by decide +kernel
  have f6 : ∀ i, i < 8 → ∀ j, j < 8 → i ≠ j → (Cond.not (Cond.eq (sb_tm i) (sb_tm j)) ∈ flatC (Jvm.Cond.and given_1 narrow_1) ∨ Cond.not (Cond.eq (sb_tm j) (sb_tm i)) ∈ flatC (Jvm.Cond.and given_1 narrow_1)) := by decide +kernel
  have f7 : ∀ i, i < 8 → Cond.stringRef RX2 (sb_txt.getD i (0, "")).1 (sb_txt.getD i (0, "")).2 ∈ lw_tbl := by decide +kernel
  obtain ⟨aK, aV, h1, h2⟩ := vk_Sof (N := 8) (tm := sb_tm) (len := sb_len) (byt := sb_byt) (A := fun q => s.heap.size ≤ q) (by decide) (fun i hi => mem_flat hgv (f1 i hi)) (fun i hi => mem_flat hgv (f2 i hi)) (fun i hi => mem_flat hgv (f3 i hi)) (fun i hi => mem_flat hgv (f4 i hi)) (fun i hi j hj => mem_flat hgv (f5 i hi j hj)) (fun i j hi hj hij => (f6 i hi j hj hij).elim (fun z => Or.inl (mem_flat hgv z)) (fun z => Or.inr (mem_flat hgv z))) (fun a ha => Nat.not_le.mpr ha)
  exact ⟨aK, aV, h1, fun i hi => vk_R.of (hts _ (f7 i hi)) (h2 i hi)⟩
set_option maxHeartbeats 4000000 in
set_option maxRecDepth 100000 in
theorem whole_open {Rel : Nat → Mem → Mem → Prop} (HP : fl_P Rel) (HR : Rel 0 s0C s0M) {p : Program} {e : Env} {s : State} {m : MethodId} {below : List Frame} {meth : Method} {c : Code} (l : Launch) {b L : Nat} {xs : Nat → Int32} (hL : L ≤ 2560) (C0 : lw_At p s m meth c b L xs) : W p l e room_1 s m #[Value.ref b] below meth c s.heap [] 0 0 (lw_Z below #[Value.ref b] s) (entryFrame m ([Value.ref b] : List Value).toArray 4) := by
  obtain ⟨hx, hb, hr, hml, hown, hts, hX, hbl, hlocks, hgv⟩ := id C0
  have hT : ∀ w ∈ TT, w.before #[Value.ref b] s = true := fun w h => hts w (List.mem_filter.mp h).1
  have hown : s.vm.findClass RL = some m.cls := hown
  have hA : ∀ q : Nat, s.heap.size ≤ q → (fun q : Nat => s.heap.size ≤ q) q := fun _ h => h
  obtain ⟨c0, iS0, hK0⟩ := u_known (C := RX0) (T := TX0) (N := 13) (n := 13) hT mi_X0 (hT _ m_69)
  obtain ⟨c1, iS1, hK1⟩ := u_known (C := RX1) (T := TX1) (N := 4) (n := 4) hT mi_X1 (hT _ m_168)
  obtain ⟨c2, iS2, hK2⟩ := u_known (C := RX2) (T := TX2) (N := 8) (n := 8) hT mi_X2 (hT _ m_133)
  obtain ⟨c3, iS3, hK3⟩ := u_known (C := RX3) (T := TX3) (N := 14) (n := 14) hT mi_X3 (hT _ m_61)
  obtain ⟨c4, iS4, hK4⟩ := u_known (C := RX4) (T := TX4) (N := 26) (n := 26) hT mi_X4 (hT _ m_708)
  obtain ⟨D, hKc⟩ : ∃ D : va_G, ∀ (k : Nat) (q : vw_C), vwCl[k]? = some q → u_Kn s q.1 q.2.1 q.2.2 (D.1 k) (D.2 k) := by
    refine ⟨(fun k => if k = 0 then c0 else if k = 1 then c1 else if k = 2 then c2 else if k = 3 then c3 else c4, fun k => if k = 0 then iS0 else if k = 1 then iS1 else if k = 2 then iS2 else if k = 3 then iS3 else iS4), ?_⟩
    intro k q hq
    match k, hq with
    | 0, hq => cases hq; exact hK0
    | 1, hq => cases hq; exact hK1
    | 2, hq => cases hq; exact hK2
    | 3, hq => cases hq; exact hK3
    | 4, hq => cases hq; exact hK4
    | k + 5, hq => simp [vwCl] at hq
  have hS : va_S (fun q : Nat => s.heap.size ≤ q) s.heap s.heap [] := va_S.rf
  have hK : va_K D vwCl [] s := ⟨hKc, fun k q h => by simp at h⟩
  have hP : va_P D vwCl [] s.heap := fun k q h => by simp at h
  have hD : va_D (fun q : Nat => s.heap.size ≤ q) [] := ⟨fun i j p q h => by simp at h, fun k q h => by simp at h⟩
  have hnb : nbC s := ⟨va_Nw.of rfl (hts _ (List.mem_of_getElem? (i := 70) (by decide +kernel))), va_Nw.of rfl (hts _ (List.mem_of_getElem? (i := 134) (by decide +kernel))), va_Nw.of rfl (hts _ (List.mem_of_getElem? (i := 169) (by decide +kernel))), va_AO.of (hts _ (List.mem_of_getElem? (i := 131) (by decide +kernel))), va_AO.of (hts _ (List.mem_of_getElem? (i := 167) (by decide +kernel)))⟩
  obtain ⟨aK, aV, hVS, hVR⟩ := strs_of hts hgv
  have hkb0 : kbC0 aK aV (fun q => s.heap.size ≤ q) s := ⟨va_Nw.of rfl (hts _ (List.mem_of_getElem? (i := 402) (by decide +kernel))), va_Nw.of rfl (hts _ (List.mem_of_getElem? (i := 361) (by decide +kernel))), hVS, va_Zof (hts (.laysStatic RJ0 "COMPACT_STRINGS" "Z") (List.mem_of_getElem? (i := 314) (by decide +kernel))) (hts (.initialized RJ0) (by decide +kernel)) (va_eqi (mem_flat hgv (by decide +kernel))) (fun a ha => Nat.not_le.mpr ha), va_Zqof (hts (.laysStatic RJ3 "SIOOBE_FORMATTER" "Ljava/util/function/BiFunction;") (List.mem_of_getElem? (i := 330) (by decide +kernel))) (hts (.initialized RJ3) (by decide +kernel)) (mem_flat hgv (by decide +kernel)) (fun a ha => Nat.not_le.mpr ha), hVR⟩
  have hl := lv_entry ([.ref b]) (n := 4) (Nat.le_of_ble_eq_true rfl)
  rw [lg_entry_eq]
  generalize (lg_sl ([.ref b]) ++ List.replicate (4 - (lg_sl ([.ref b])).length) Slot.unset).toArray = ls at hl ⊢
  have hl : lv_has ls 4 [(0, .ref b)] := hl
  refine va_new (ci := 3) (fs := [.null, .null, .null, .null, .null, .null, .null, .null, .null, .null, .int 0, .int 0, .int 0, .null]) (C := RX3) (T := TX3) (N := 14) hx hb hT mi_X3 tyX3 tyX3_ok hown (hT _ m_60) (hT _ m_61) (hT _ m_49) hK hP hD hS hA rfl (by decide +kernel) (Nat.le_of_ble_eq_true rfl) (Nat.le_of_ble_eq_true rfl) dL_law_0 (fun q0 H hP hD hS => ?_)
  have hP : va_P D vwCl [(q0, .inr (3, [.null, .null, .null, .null, .null, .null, .null, .null, .null, .null, .int 0, .int 0, .int 0, .null]))] H := hP
  have hD : va_D (fun q : Nat => s.heap.size ≤ q) [(q0, .inr (3, [.null, .null, .null, .null, .null, .null, .null, .null, .null, .null, .int 0, .int 0, .int 0, .null]))] := hD
  refine lv_dup hx hb dL_law_3 rfl ?_
  have hFc := va_free (wc := [(q0, .inr (3, [.null, .null, .null, .null, .null, .null, .null, .null, .null, .null, .int 0, .int 0, .int 0, .null]))]) hD hS hA [0] rfl
  refine va_callv (va_runI (As := []) (rest := [.ref q0]) ⟨hx, hb, hml, hown, hT⟩ (tc_X3 l D q0 H.size) ⟨callB_of 0 hT (fw_wd_good mt_X3_init.1) rfl rfl rfl (hT _ mt_X3_init.2.1) (hT _ m_62) mt_X3_init.2.2 (by decide), rfl, hT _ m_63⟩ ⟨fun a U g mk q => ?_, fun U hU hW => ⟨rfl, by rw [hU], by rw [hU]; exact hP, va_K.moved hW.alike hK, hD.weaken (fun _ _ _ _ => trivial), ⟨va_Nw.warmM hW hnb.1, va_Nw.warmM hW hnb.2.1, va_Nw.warmM hW hnb.2.2.1, hnb.2.2.2.1.moved hW.alike, hnb.2.2.2.2.moved hW.alike⟩⟩⟩ rfl rfl hl.1 rfl (lv_room (Nat.le_of_ble_eq_true rfl)) dL_law_4 (by decide)) hS (fun q _ h => hFc q h) hFc (fun u1 t H1 locs ht hvm hw hB hz1 hk1 hS => ?_)
  · obtain ⟨q0, q1, qP, qK, qD, qn⟩ := q
    exact ⟨q0, q1, qP, va_K.moved (u := U) (U := U.calling g mk a) (Vm.Alike.refl U.vm) qK, qD, ⟨va_Nw.same rfl rfl qn.1, va_Nw.same rfl rfl qn.2.1, va_Nw.same rfl rfl qn.2.2.1, qn.2.2.2.1.moved (Vm.Alike.refl U.vm), qn.2.2.2.2.moved (Vm.Alike.refl U.vm)⟩⟩
  obtain ⟨hP1, hK1, hD1⟩ := hB
  rw [ht] at hP1
  have hK1 := va_K.moved hvm.symm hK1
  have hD1 : va_D (fun q : Nat => s.heap.size ≤ q) (gw (GC D q0 u1 (fun _ => True) (fun _ => 0) (fun _ => 0)) s0C) := hD1.weaken (fun k q _ h => hFc q.1 h)
  refine lv_astore_n (lv' := [(1, .ref q0), (0, .ref b)]) hx hb dL_law_7 rfl hl (by decide) rfl (fun ls hl => ?_)
  refine va_new (ci := 4) (fs := [.null, .null, .int 0, .null, .int 0, .int 0, .int 0, .int 0, .int 0, .int 0, .int 0, .int 0, .null, .null, .int 0, .int 0, .int 0, .int 0, .null, .int 0, .null, .null, .null, .null, .null, .int 0]) (C := RX4) (T := TX4) (N := 26) hx hb hT mi_X4 tyX4 tyX4_ok hown (hT _ m_707) (hT _ m_708) (hT _ m_53) hK hP1 hD1 hS hA rfl (by decide +kernel) (Nat.le_of_ble_eq_true rfl) (Nat.le_of_ble_eq_true rfl) dL_law_8 (fun q1 H hP hD hS => ?_)
  refine lv_dup hx hb dL_law_11 rfl ?_
  have hat : (gw (GC D q0 u1 (fun _ => True) (fun _ => 0) (fun _ => 0)) s0C ++ [(q1, (.inr (4, [.null, .null, .int 0, .null, .int 0, .int 0, .int 0, .int 0, .int 0, .int 0, .int 0, .int 0, .null, .null, .int 0, .int 0, .int 0, .int 0, .null, .int 0, .null, .null, .null, .null, .null, .int 0]) : va_E))])[48]? = some (q1, .inr (4, [.null, .null, .int 0, .null, .int 0, .int 0, .int 0, .int 0, .int 0, .int 0, .int 0, .int 0, .null, .null, .int 0, .int 0, .int 0, .int 0, .null, .int 0, .null, .null, .null, .null, .null, .int 0])) := by
    rw [List.getElem?_append_right (by rw [gw_len]; exact Nat.le_refl _), gw_len]
    rfl
  have hPc : va_P D vwCl [(q1, .inr (4, [.null, .null, .int 0, .null, .int 0, .int 0, .int 0, .int 0, .int 0, .int 0, .int 0, .int 0, .null, .null, .int 0, .int 0, .int 0, .int 0, .null, .int 0, .null, .null, .null, .null, .null, .int 0]))] H := va_P_right hP
  have hDc := hD.sub (ws' := [(q1, .inr (4, [.null, .null, .int 0, .null, .int 0, .int 0, .int 0, .int 0, .int 0, .int 0, .int 0, .int 0, .null, .null, .int 0, .int 0, .int 0, .int 0, .null, .int 0, .null, .null, .null, .null, .null, .int 0]))]) [48] rfl (by simp only [List.map_cons, List.map_nil, hat])
  have hFc := va_free (wc := [(q1, .inr (4, [.null, .null, .int 0, .null, .int 0, .int 0, .int 0, .int 0, .int 0, .int 0, .int 0, .int 0, .null, .null, .int 0, .int 0, .int 0, .int 0, .null, .int 0, .null, .null, .null, .null, .null, .int 0]))]) hD hS hA [48] (by simp only [List.map_cons, List.map_nil, hat])
  refine va_callv (va_runI (As := []) (rest := [.ref q1]) ⟨hx, hb, hml, hown, hT⟩ (tc_X4 l D q1 H.size) ⟨callB_of 0 hT (fw_wd_good mt_X4_init.1) rfl rfl rfl (hT _ mt_X4_init.2.1) (hT _ m_709) mt_X4_init.2.2 (by decide), rfl, hT _ m_710⟩ ⟨fun a U g mk q => ?_, fun U hU hW => ⟨rfl, by rw [hU], by rw [hU]; exact hPc, va_K.moved hW.alike hK, hDc.weaken (fun _ _ _ _ => trivial), trivial⟩⟩ rfl rfl hl.1 rfl (lv_room (Nat.le_of_ble_eq_true rfl)) dL_law_12 (by decide)) hS (fun q _ h => hFc q h) hFc (fun u2 t H1 locs ht hvm hw hB hz1 hk1 hS => ?_)
  · obtain ⟨q0, q1, qP, qK, qD, qn⟩ := q
    exact ⟨q0, q1, qP, va_K.moved (u := U) (U := U.calling g mk a) (Vm.Alike.refl U.vm) qK, qD, trivial⟩
  obtain ⟨hP2, hK2, hD2⟩ := hB
  rw [ht] at hP2
  have hK2 := va_K.moved hvm.symm hK2
  obtain ⟨hP, hD⟩ := va_join (wr := gw (GC D q0 u1 (fun _ => True) (fun _ => 0) (fun _ => 0)) s0C) hP hD [48] (List.range 48) (by simp only [List.map_cons, List.map_nil, hat]) (range_get (gw (GC D q0 u1 (fun _ => True) (fun _ => 0) (fun _ => 0)) s0C) _) (by decide) (by decide) hk1 hFc hP2 hD2
  have hlen : (gw (GC D q0 u1 (fun _ => True) (fun _ => 0) (fun _ => 0)) s0C).length = 48 := gw_len _ _
  have hat1 : ∀ k, k < 48 → (gw (GC D q0 u1 (fun _ => True) (fun _ => 0) (fun _ => 0)) s0C ++ gw (GM D q1 u2 (fun _ => True)) s0M)[k]? = some (adC q0 u1 k, _) := fun k hk => by
    rw [List.getElem?_append_left (by rw [hlen]; exact hk)]
    exact gw_at (GC D q0 u1 (fun _ => True) (fun _ => 0) (fun _ => 0)) s0C hk
  have hat2 : ∀ k, k < 12 → (gw (GC D q0 u1 (fun _ => True) (fun _ => 0) (fun _ => 0)) s0C ++ gw (GM D q1 u2 (fun _ => True)) s0M)[48 + k]? = some (adC q1 u2 k, _) := fun k hk => by
    rw [List.getElem?_append_right (by rw [hlen]; omega), hlen, show 48 + k - 48 = k by omega]
    exact gw_at (GM D q1 u2 (fun _ => True)) s0M hk
  have hi1 : ∀ i j, i < 48 → j < 48 → adC q0 u1 i = adC q0 u1 j → i = j := fun i j hi hj e => hD.1 i j _ _ (hat1 i hi) (hat1 j hj) e
  have hi2 : ∀ i j, i < 12 → j < 12 → adC q1 u2 i = adC q1 u2 j → i = j := fun i j hi hj e => by have := hD.1 (48 + i) (48 + j) _ _ (hat2 i hi) (hat2 j hj) e; omega
  have ha1 : ∀ q, (∃ k, k < 48 ∧ q = adC q0 u1 k) → s.heap.size ≤ q := fun q ⟨k, hk, e⟩ => by rw [e]; exact hD.2 k _ (hat1 k hk)
  have ha2 : ∀ q, (∃ k, k < 12 ∧ q = adC q1 u2 k) → s.heap.size ≤ q := fun q ⟨k, hk, e⟩ => by rw [e]; exact hD.2 (48 + k) _ (hat2 k hk)
  have hdj : ∀ q, (∃ k, k < 48 ∧ q = adC q0 u1 k) → ¬ (∃ k, k < 12 ∧ q = adC q1 u2 k) := fun q ⟨k, hk, e⟩ ⟨k2, hk2, e2⟩ => by have := hD.1 k (48 + k2) _ _ (hat1 k hk) (hat2 k2 hk2) (e.symm.trans e2); omega
  have hkb : kbC0 aK aV (fun q => ∃ k, k < 48 ∧ q = adC q0 u1 k) s := ⟨hkb0.1, hkb0.2.1, hkb0.2.2.1.narrow ha1, hkb0.2.2.2.1.narrow ha1, hkb0.2.2.2.2.1.narrow ha1, hkb0.2.2.2.2.2⟩
  have O : fl_Ok (p, l, e, room_1, s, m, #[Value.ref b], below, meth, c) (GC D q0 u1 (kbC0 aK aV (fun q => ∃ k, k < 48 ∧ q = adC q0 u1 k)) aK aV) (GM D q1 u2 (fun _ => True)) b L xs := ⟨⟨hx, hb, hml, hown, hT⟩, isC_of hi1, isM_of hi2, hK1, hK2, hkb, trivial, rfl, ha1, ha2, hdj, hX, hbl⟩
  refine lv_astore_n (lv' := [(2, .ref q1), (1, .ref q0), (0, .ref b)]) hx hb dL_law_15 rfl hl (by decide) rfl (fun ls hl => ?_)
  refine lv_iconst (v := 0) hx hb dL_law_16 (by decide) ?_
  refine lv_istore_n (lv' := [(3, .int 0), (2, .ref q1), (1, .ref q0), (0, .ref b)]) hx hb dL_law_17 rfl hl (by decide) rfl (fun ls hl => ?_)
  refine law_loop O hL HP (Q := lw_Z below #[Value.ref b] s) (by decide) ?_ 513 0 0 s0C s0M rfl (by omega) (by omega) HR H1 locs ls (va_P_left hP) (va_P_right hP) hS (lv_sub hl [3, 2, 1, 0] rfl)
  intro x3 σ τ H locs ls h1 h2 hS hl
  refine lv_iconst (v := 1) hx hb dL_law_1443 (by decide) ?_
  refine va_forget (fun q hq => hS.2.2 q hq) ?_
  refine W.widen (k := 600000) (n := 7302249) (by decide) (by decide) ?_
  exact lw_ret hx hb hr hlocks dL_law_1444
