/-! STRING CONSTANTS: rows, and the JDK's own length and charAt over them -/
def fw_Str (G : Gw) (i : Nat) (s : State) : Prop := va_O "java/lang/String" (gK G i) (gA G) s s.heap ∧ va_OF "java/lang/String" "coder" "B" (.int 0) (gK G i) (gA G) s s.heap ∧ va_OF "java/lang/String" "value" "[B" (.ref (gV G i)) (gK G i) (gA G) s s.heap ∧ va_T .byte (gV G i) (sb_len.getD i 0) (fun j => .int ((sb_byt.getD i []).getD j 0)) (gA G) s s.heap
theorem sC_sok {G : Gw} (hG : fw_IsC G) {U : State} (h : gkb G U) {i : Nat} (hi : i < 8) : fw_Str G i U := (hG.2.1 U h).2.2.1.1 i hi
theorem sC_str {G : Gw} (hG : fw_IsC G) {U : State} (h : gkb G U) (i : Nat) (hi : i < 8) : vk_R RX2 (sb_txt.getD i (0, "")).1 (sb_txt.getD i (0, "")).2 (gK G i) U := (hG.2.1 U h).2.2.2.2.2 i hi
theorem sC_comp {G : Gw} (hG : fw_IsC G) {U : State} (h : gkb G U) : va_Z RJ0 "COMPACT_STRINGS" "Z" (.int 1) (gA G) U U.heap := (hG.2.1 U h).2.2.2.1
theorem sC_sio {G : Gw} (hG : fw_IsC G) {U : State} (h : gkb G U) : va_Zq RJ3 "SIOOBE_FORMATTER" "Ljava/util/function/BiFunction;" (gA G) U U.heap := (hG.2.1 U h).2.2.2.2.1
def fw_CR (l : Launch) (G : Gw) (y : MethodName) (cc : ByteArray) (nL : Nat) (fr lo : Nat) (As : List Value) (σ : Mem) (post : Nat → Mem → Prop) : Prop := Met l y (fw_wd y cc nL (some (.object "java/lang/String"))) (fw_rm fr lo) (va_Pc As (fw_WB G σ)) (va_Qr (S := Nat × Mem) (fun u => u.1 < 8 ∧ post u.1 u.2) (fun u a t => a = gK G u.1 ∧ fw_WB G u.2 t) (gA G)) 0 0 (gA G)
def fw_QR (X : Cx) (G : Gw) (post : Nat → Mem → Prop) : State → Prop := MQ X.2.2.2.2.2.2.2.1 (va_Qr (S := Nat × Mem) (fun u => u.1 < 8 ∧ post u.1 u.2) (fun u a t => a = gK G u.1 ∧ fw_WB G u.2 t) (gA G)) X.2.2.2.2.2.2.1 X.2.2.2.2.1 0 0 (gA G)
theorem fw_ofR {l : Launch} {G : Gw} {y : MethodName} {cc : ByteArray} {nL fr lo : Nat} {As : List Value} {σ : Mem} {post : Nat → Mem → Prop} (hG : fw_Gok G) (hy : plainName y.cls = true) (hlen : (lg_sl As).length ≤ nL) (body : ∀ X : Cx, fw_Ok X G cc nL y.cls fr lo (some (.object "java/lang/String")) → fw_At X G nL (fw_QR X G post) 0 (lv_args 0 As) [] σ) : fw_CR l G y cc nL fr lo As σ post := by
  refine Met.ofW (cc := cc) (maxL := nL) (ret := some (.object "java/lang/String")) hy rfl ?_
  intro p e s m args below meth c s₁ B hml hv
  obtain ⟨rfl, hP, hK, hkb⟩ := hv
  have hts := atoms_spec (ws := fw_wd y cc nL (some (.object "java/lang/String"))) B.pre
  rw [lg_entry_eq]
  exact body (p, l, e, fw_rm fr lo, s, m, As.toArray, below, meth, c) ⟨⟨B.exec, B.bytes, hml, findClass_of_methodNamed B.named, fun w h => hts w (List.mem_cons_of_mem _ h)⟩, hK, hkb, rfl, B.returns, B.notSynchronized, hG⟩ s.heap [] _ hP va_S.rf (lv_entry As hlen)
section SROWS
variable {X : Cx} {G : Gw} {cc : ByteArray} {nL : Nat} {own : String} {fr lo : Nat} {ret : Option FieldType} {Q : State → Prop} {pc : Nat} {lv lv' : List (Nat × Value)} {st : List Value} {σ : Mem}
theorem fr_ldcs (O : fw_Ok X G cc nL own fr lo ret) {i index : Nat} {tx : String} (hZ : vk_R own index tx (gK G i) X.2.2.2.2.1) (hdg : decode cc pc = .ok (.ldc index, 2)) (kk : fw_At X G nL Q (pc + 2) lv (.ref (gK G i) :: st) σ) : fw_At X G nL Q pc lv st σ := fun H locs ls hP hS hl => va_ldcS O.1.1 O.1.2.1 O.1.2.2.2.1 hZ hdg (kk H locs ls hP hS hl)
theorem fr_sval (O : fw_Ok X G cc nL own fr lo ret) {i index : Nat} (hs : fw_Str G i X.2.2.2.2.1) (hl : Cond.fieldLink own index RJ0 "value" "[B" ∈ TT) (hdg : decode cc pc = .ok (.getfield index, 3)) (kk : fw_At X G nL Q (pc + 3) lv (.ref (gV G i) :: st) σ) : fw_At X G nL Q pc lv (.ref (gK G i) :: st) σ := fun H locs ls hP hS hlv => vk_getf O.1.1 O.1.2.1 hs.2.2.1 hS O.1.2.2.2.1 (O.1.2.2.2.2 _ hl) (fun _ h => h) hdg (kk H locs ls hP hS hlv)
theorem fr_scod (O : fw_Ok X G cc nL own fr lo ret) {i index : Nat} (hs : fw_Str G i X.2.2.2.2.1) (hl : Cond.fieldLink own index RJ0 "coder" "B" ∈ TT) (hdg : decode cc pc = .ok (.getfield index, 3)) (kk : fw_At X G nL Q (pc + 3) lv (.int 0 :: st) σ) : fw_At X G nL Q pc lv (.ref (gK G i) :: st) σ := fun H locs ls hP hS hlv => vk_getf O.1.1 O.1.2.1 hs.2.1 hS O.1.2.2.2.1 (O.1.2.2.2.2 _ hl) (fun _ h => h) hdg (kk H locs ls hP hS hlv)
theorem fr_stat (O : fw_Ok X G cc nL own fr lo ret) {index : Nat} {C n d : String} {v : Value} (hZ : va_Z C n d v (gA G) X.2.2.2.2.1 X.2.2.2.2.1.heap) (hl : Cond.fieldLink own index C n d ∈ TT) (hdg : decode cc pc = .ok (.getstatic index, 3)) (kk : fw_At X G nL Q (pc + 3) lv (v :: st) σ) : fw_At X G nL Q pc lv st σ := fun H locs ls hP hS hlv => va_gets O.1.1 O.1.2.1 hZ hS O.1.2.2.2.1 (O.1.2.2.2.2 _ hl) (fun _ h => h) hdg (kk H locs ls hP hS hlv)
theorem fr_slen (O : fw_Ok X G cc nL own fr lo ret) {i : Nat} (hs : fw_Str G i X.2.2.2.2.1) (hdg : decode cc pc = .ok (.arraylength, 1)) (kk : fw_At X G nL Q (pc + 1) lv (.int (nI (sb_len.getD i 0)) :: st) σ) : fw_At X G nL Q pc lv (.ref (gV G i) :: st) σ := fun H locs ls hP hS hlv => va_tlen O.1.1 O.1.2.1 hs.2.2.2 hS rfl hdg (kk H locs ls hP hS hlv)
theorem fr_sbal (O : fw_Ok X G cc nL own fr lo ret) {i : Nat} {k : Int32} (hs : fw_Str G i X.2.2.2.2.1) (hin : vp_in k (sb_len.getD i 0)) (hdg : decode cc pc = .ok (.baload, 1)) (kk : fw_At X G nL Q (pc + 1) lv (.int ((sb_byt.getD i []).getD k.toNatClampNeg 0) :: st) σ) : fw_At X G nL Q pc lv (.int k :: .ref (gV G i) :: st) σ := fun H locs ls hP hS hlv => va_tb O.1.1 O.1.2.1 hs.2.2.2 hS hin rfl hdg (kk H locs ls hP hS hlv)
theorem fr_i2c (O : fw_Ok X G cc nL own fr lo ret) {x v : Int32} (hdg : decode cc pc = .ok (.i2c, 1)) (hv : (x.toUInt32 % 65536).toInt32 = v) (kk : fw_At X G nL Q (pc + 1) lv (.int v :: st) σ) : fw_At X G nL Q pc lv (.int x :: st) σ := fun H locs ls hP hS hl => lv_i2c O.1.1 O.1.2.1 hdg hv (kk H locs ls hP hS hl)
theorem fr_xret {ty : FieldType} (O : fw_Ok X G cc nL own fr lo (some ty)) {v : Int32} {post : Int32 → Mem → Prop} (hdg : decode cc pc = .ok (.ireturn, 1)) (hb : narrow ty (.int v) = .int v) (h : post v σ) : fw_At X G nL (fw_QI X G post) pc lv [.int v] σ := fun H locs ls hP hS hl => W.zret (v := v) O.1.1 O.1.2.1 O.2.2.2.2.1 hb (fun t ht hW => ⟨⟨v, σ, rfl, h, by rw [ht]; exact hP, va_K.moved hW.alike O.2.1, O.2.2.2.2.2.2.2.1 _ _ O.2.2.1 hW (by rw [ht]; exact hS.1) (fun q h1 h2 => by rw [ht]; exact hS.2.1 q h1 h2)⟩, hS.F ht⟩) hS.2.2 hdg O.2.2.2.2.2.1
theorem fr_sret (O : fw_Ok X G cc nL own fr lo (some (.object "java/lang/String"))) {i : Nat} {post : Nat → Mem → Prop} (hdg : decode cc pc = .ok (.areturn, 1)) (hi : i < 8) (h : post i σ) : fw_At X G nL (fw_QR X G post) pc lv [.ref (gK G i)] σ := fun H locs ls hP hS hl => W.aret (v := .ref (gK G i)) O.1.1 O.1.2.1 O.2.2.2.2.1 (Or.inl ⟨_, rfl⟩) (Or.inr ⟨_, rfl⟩) (fun t ht hW => ⟨⟨(i, σ), gK G i, rfl, ⟨hi, h⟩, rfl, by rw [ht]; exact hP, va_K.moved hW.alike O.2.1, O.2.2.2.2.2.2.2.1 _ _ O.2.2.1 hW (by rw [ht]; exact hS.1) (fun q h1 h2 => by rw [ht]; exact hS.2.1 q h1 h2)⟩, hS.F ht⟩) hS.2.2 hdg O.2.2.2.2.2.1
theorem fr_callSR (O : fw_Ok X G cc nL own fr lo ret) {y : MethodName} {bytes : ByteArray} {mL n fr' lo' idx : Nat} {As st1 : List Value} {post : Nat → Mem → Prop} (hM : fw_CR X.2.1 G y bytes mL fr' lo' As σ post) (hm : fw_Mt y bytes mL (some (.object "java/lang/String")) n) (hv : Cond.static y ∈ TT) (hl : Cond.methodLink own idx y ∈ TT) (hn : As.length = n) (hR : fr' + 1 ≤ fr ∧ 8 + (mL + 11) + lo' ≤ lo) (hst : st1 = As.reverse ++ st) (hcat : (st.map fun v => v.category).sum ≤ 8) (hdg : decode cc pc = .ok (.invokestatic idx, 3)) (kk : ∀ (i : Nat) (σ' : Mem), i < 8 ∧ post i σ' → fw_At X G nL Q (pc + 3) lv (.ref (gK G i) :: st) σ') : fw_At X G nL Q pc lv st1 σ := by
  intro H locs ls hP hS hlv
  subst hst
  refine va_callr (A0 := gA G) (va_runS O.1 hM ⟨fw_callB O hm hl hR, O.1.2.2.2.2 _ hv⟩ (fw_pre O As hP hS) rfl hn hlv.1 rfl (lv_room hcat) hdg ⟨Nat.zero_le _, Nat.zero_le _⟩) hS (fun q _ h => h) (fun q h => h) (fun u ra t H1 locs1 ht hvm hw hB hz1 hk1 hS1 => ?_)
  obtain ⟨rfl, hB⟩ := hB
  exact kk u.1 u.2 hw H1 locs1 ls (by rw [← ht]; exact hB.1) hS1 hlv
theorem fr_callTI (O : fw_Ok X G cc nL own fr lo ret) {y : MethodName} {bytes : ByteArray} {mL n fr' lo' idx i : Nat} {rt : FieldType} {As st1 : List Value} {post : Int32 → Mem → Prop} (hM : fw_CI X.2.1 G y bytes mL rt fr' lo' (.ref (gK G i) :: As) σ post) (hm : fw_Mt y bytes mL (some rt) n) (hv : fw_Vt y) (hl : Cond.methodLink own idx y ∈ TT) (hs : fw_Str G i X.2.2.2.2.1) (hyc : y.cls = RJ0) (hn : As.length = n) (hR : fr' + 1 ≤ fr ∧ 8 + (mL + 11) + lo' ≤ lo) (hst : st1 = As.reverse ++ .ref (gK G i) :: st) (hcat : (st.map fun v => v.category).sum ≤ 8) (hdg : decode cc pc = .ok (.invokevirtual idx, 3)) (kk : ∀ (r : Int32) (σ' : Mem), post r σ' → fw_At X G nL Q (pc + 3) lv (.int r :: st) σ') : fw_At X G nL Q pc lv st1 σ := by
  intro H locs ls hP hS hlv
  subst hst
  have hrec : ∃ cell : Cell, H[gK G i]? = some cell ∧ cell.vm.isStatics = false ∧ X.2.2.2.2.1.vm.findClass RJ0 = some cell.cls := by
    obtain ⟨cell, h1, h2, h3, -⟩ := hs.1.kept hS.2.1
    exact ⟨cell, h1, h2, h3⟩
  refine va_calli (A0 := gA G) (va_runV (C := RJ0) O.1 hM ⟨fw_callB O hm hl hR, O.1.2.2.2.2 _ hv.1, O.1.2.2.2.2 _ (by rw [← hyc]; exact hv.2)⟩ ⟨(fw_pre O _ hP hS).1, hrec, (fw_pre O _ hP hS).2⟩ rfl hn hlv.1 rfl (lv_room hcat) hdg ⟨Nat.zero_le _, Nat.zero_le _⟩) hS (fun q _ h => h) (fun q h => h) (fun r u t H1 locs1 ht hvm hw hB hz1 hk1 hS1 => kk r u hw H1 locs1 ls (by rw [← ht]; exact hB.1) hS1 hlv)
end SROWS
-- coder()
theorem tJ0_coder_7d493 (l : Launch) {G : Gw} (hG : fw_IsC G) {si : Nat} (hsi : si < 8) {σ : Mem} {post : Int32 → Mem → Prop} (h : post 0 σ) : fw_CI l G yJ0_coder_7d493 cJ0_coder_7d493 1 .byte 0 0 [.ref (gK G si)] σ post := fw_ofI (sok_C hG) (by decide) (Nat.le_of_ble_eq_true rfl) (fun X O => by
  refine fr_stat (pc := 0) O (sC_comp hG O.2.2.1) m_313 dJ0_coder_7d493_0 ?_
  refine fr_if_eq (pc := 3) (tgt := 13) O dJ0_coder_7d493_3 (by decide) (fun c => absurd c (by decide)) (fun c => ?_)
  refine fr_aload_n (pc := 6) O 0 dJ0_coder_7d493_6 rfl rfl ?_
  refine fr_scod (pc := 7) O (sC_sok hG O.2.2.1 hsi) m_1088 dJ0_coder_7d493_7 ?_
  refine fr_goto (pc := 10) (tgt := 14) O dJ0_coder_7d493_10 (by decide) ?_
  exact fr_xret (pc := 14) O dJ0_coder_7d493_14 (by decide) h)
-- isLatin1()
theorem tJ0_isLatin1_aae02 (l : Launch) {G : Gw} (hG : fw_IsC G) {si : Nat} (hsi : si < 8) {σ : Mem} {post : Int32 → Mem → Prop} (h : post 1 σ) : fw_CI l G yJ0_isLatin1_aae02 cJ0_isLatin1_aae02 1 .boolean 0 0 [.ref (gK G si)] σ post := fw_ofI (sok_C hG) (by decide) (Nat.le_of_ble_eq_true rfl) (fun X O => by
  refine fr_stat (pc := 0) O (sC_comp hG O.2.2.1) m_313 dJ0_isLatin1_aae02_0 ?_
  refine fr_if_eq (pc := 3) (tgt := 17) O dJ0_isLatin1_aae02_3 (by decide) (fun c => absurd c (by decide)) (fun c => ?_)
  refine fr_aload_n (pc := 6) O 0 dJ0_isLatin1_aae02_6 rfl rfl ?_
  refine fr_scod (pc := 7) O (sC_sok hG O.2.2.1 hsi) m_1088 dJ0_isLatin1_aae02_7 ?_
  refine fr_if_ne (pc := 10) (tgt := 17) O dJ0_isLatin1_aae02_10 (by decide) (fun c => absurd rfl c) (fun c => ?_)
  refine fr_iconst (pc := 13) O (v := (1 : Int32)) dJ0_isLatin1_aae02_13 (by decide) ?_
  refine fr_goto (pc := 14) (tgt := 18) O dJ0_isLatin1_aae02_14 (by decide) ?_
  exact fr_xret (pc := 18) O dJ0_isLatin1_aae02_18 (by decide) h)
-- length()
def qJ0_length_8abf5 (si : Nat) (σ : Mem) (post : Int32 → Mem → Prop) : Prop := post (nI (sb_len.getD si 0)) σ
theorem tJ0_length_8abf5 (l : Launch) {G : Gw} (hG : fw_IsC G) {si : Nat} (hsi : si < 8) {σ : Mem} {post : Int32 → Mem → Prop} (h : qJ0_length_8abf5 si σ post) : fw_CI l G yJ0_length_8abf5 cJ0_length_8abf5 1 .int 1 20 [.ref (gK G si)] σ post := fw_ofI (sok_C hG) (by decide) (Nat.le_of_ble_eq_true rfl) (fun X O => by
  refine fr_aload_n (pc := 0) O 0 dJ0_length_8abf5_0 rfl rfl ?_
  refine fr_sval (pc := 1) O (sC_sok hG O.2.2.1 hsi) m_1087 dJ0_length_8abf5_1 ?_
  refine fr_slen (pc := 4) O (sC_sok hG O.2.2.1 hsi) dJ0_length_8abf5_4 ?_
  refine fr_aload_n (pc := 5) O 0 dJ0_length_8abf5_5 rfl rfl ?_
  refine fr_callTI (pc := 6) (As := []) (st := [.int (nI (sb_len.getD si 0))]) (post := fun r σ' => r = 0 ∧ σ' = σ) O (tJ0_coder_7d493 X.2.1 hG hsi ⟨rfl, rfl⟩) mt_J0_coder_7d493 mv_J0_coder_7d493 m_309 (sC_sok hG O.2.2.1 hsi) rfl rfl (by decide) rfl (Nat.le_of_ble_eq_true rfl) dJ0_length_8abf5_6 (fun r σ1 h1 => ?_)
  obtain ⟨rfl, rfl⟩ := h1
  refine fr_ishr (pc := 9) O dJ0_length_8abf5_9 ?_
  rw [sb_shr0]
  exact fr_iret (pc := 10) O dJ0_length_8abf5_10 h)
-- Preconditions.checkIndex
theorem tJ3_checkIndex_8e157 (l : Launch) {G : Gw} (hG : fw_IsC G) {a0 a1 : Int32} {fv : Value} (hf : fv.category = 1) (h0 : ¬ a0 < 0) (h1 : a0 < a1) {σ : Mem} {post : Int32 → Mem → Prop} (h : post a0 σ) : fw_CI l G yJ3_checkIndex_8e157 cJ3_checkIndex_8e157 3 .int 0 0 [.int a0, .int a1, fv] σ post := fw_ofI (sok_C hG) (by decide) (by have e0 : (Value.int a0).category = 1 := rfl; have e1 : (Value.int a1).category = 1 := rfl; simp [lg_sl, hf, e0, e1]) (fun X O => by
  refine fw_sub (lv' := [(0, .int a0), (1, .int a1)]) [0, 1] rfl ?_
  refine fr_iload_n (pc := 0) O 0 dJ3_checkIndex_8e157_0 rfl rfl ?_
  refine fr_if_lt (pc := 1) (tgt := 9) O dJ3_checkIndex_8e157_1 (by decide) (fun c => absurd c h0) (fun c => ?_)
  refine fr_iload_n (pc := 4) O 0 dJ3_checkIndex_8e157_4 rfl rfl ?_
  refine fr_iload_n (pc := 5) O 1 dJ3_checkIndex_8e157_5 rfl rfl ?_
  refine fr_icmp_lt (pc := 6) (tgt := 16) O dJ3_checkIndex_8e157_6 (by decide) (fun c => ?_) (fun c => absurd h1 c)
  refine fr_iload_n (pc := 16) O 0 dJ3_checkIndex_8e157_16 rfl rfl ?_
  exact fr_iret (pc := 17) O dJ3_checkIndex_8e157_17 h)
-- String.checkIndex
theorem tJ0_checkIndex_df160 (l : Launch) {G : Gw} (hG : fw_IsC G) {a0 a1 : Int32} (h0 : ¬ a0 < 0) (h1 : a0 < a1) {σ : Mem} {post : Mem → Prop} (h : post σ) : fw_CV l G yJ0_checkIndex_df160 cJ0_checkIndex_df160 2 1 22 [.int a0, .int a1] σ post := fw_ofV (sok_C hG) (by decide) (Nat.le_of_ble_eq_true rfl) (fun X O => by
  refine fr_iload_n (pc := 0) O 0 dJ0_checkIndex_df160_0 rfl rfl ?_
  refine fr_iload_n (pc := 1) O 1 dJ0_checkIndex_df160_1 rfl rfl ?_
  have key : ∀ fv : Value, fv.category = 1 → va_Z RJ3 "SIOOBE_FORMATTER" "Ljava/util/function/BiFunction;" fv (gA G) X.2.2.2.2.1 X.2.2.2.2.1.heap → fw_At X G 2 (fw_QV X G post) 2 [(0, .int a0), (1, .int a1)] [.int a1, .int a0] σ := by
    intro fv hf hZ
    refine fr_stat (pc := 2) O hZ m_329 dJ0_checkIndex_df160_2 ?_
    refine fr_callSI (pc := 5) (As := [.int a0, .int a1, fv]) (st := []) (post := fun r σ' => σ' = σ) O (tJ3_checkIndex_8e157 X.2.1 hG hf h0 h1 rfl) mt_J3_checkIndex_8e157 m_332 m_331 rfl (by decide) rfl (Nat.le_of_ble_eq_true rfl) dJ0_checkIndex_df160_5 (fun r σ1 h2 => ?_)
    subst h2
    refine fr_pop (pc := 8) O dJ0_checkIndex_df160_8 rfl ?_
    exact fr_vret (pc := 9) O dJ0_checkIndex_df160_9 h
  rcases sC_sio hG O.2.2.1 with hZ | ⟨t, hZ⟩
  · exact key .null rfl hZ
  · exact key (.ref t) rfl hZ)
-- StringLatin1.charAt
theorem tJ1_charAt_3b067 (l : Launch) {G : Gw} (hG : fw_IsC G) {si : Nat} (hsi : si < 8) {a1 : Int32} (hin : vp_in a1 (sb_len.getD si 0)) {σ : Mem} {post : Int32 → Mem → Prop} (h : post ((sb_byt.getD si []).getD a1.toNatClampNeg 0 &&& 255) σ) : fw_CI l G yJ1_charAt_3b067 cJ1_charAt_3b067 2 .char 2 43 [.ref (gV G si), .int a1] σ post := fw_ofI (sok_C hG) (by decide) (Nat.le_of_ble_eq_true rfl) (fun X O => by
  have hlen : sb_len.getD si 0 < 2 ^ 31 := by
    rcases (show si = 0 ∨ si = 1 ∨ si = 2 ∨ si = 3 ∨ si = 4 ∨ si = 5 ∨ si = 6 ∨ si = 7 by omega) with e | e | e | e | e | e | e | e <;> subst e <;> decide
  obtain ⟨j, hj, ej⟩ := vp_in_of hin hlen
  refine fr_iload_n (pc := 0) O 1 dJ1_charAt_3b067_0 rfl rfl ?_
  refine fr_aload_n (pc := 1) O 0 dJ1_charAt_3b067_1 rfl rfl ?_
  refine fr_slen (pc := 2) O (sC_sok hG O.2.2.1 hsi) dJ1_charAt_3b067_2 ?_
  refine fr_callSV (pc := 3) (As := [.int a1, .int (nI (sb_len.getD si 0))]) (st := []) (post := fun σ' => σ' = σ) O (tJ0_checkIndex_df160 X.2.1 hG (fun q => hin (Or.inl q)) (by rw [ej]; exact nI_lt hj hlen) rfl) mt_J0_checkIndex_df160 m_327 m_326 rfl (by decide) rfl (Nat.le_of_ble_eq_true rfl) dJ1_charAt_3b067_3 (fun σ1 h2 => ?_)
  subst h2
  refine fr_aload_n (pc := 6) O 0 dJ1_charAt_3b067_6 rfl rfl ?_
  refine fr_iload_n (pc := 7) O 1 dJ1_charAt_3b067_7 rfl rfl ?_
  refine fr_sbal (pc := 8) O (sC_sok hG O.2.2.1 hsi) hin dJ1_charAt_3b067_8 ?_
  refine fr_sipush (pc := 9) O (v := (255 : Int32)) dJ1_charAt_3b067_9 (by decide) ?_
  refine fr_iand (pc := 12) O dJ1_charAt_3b067_12 ?_
  refine fr_i2c (pc := 13) O dJ1_charAt_3b067_13 (sc_c2 _) ?_
  exact fr_xret (pc := 14) O dJ1_charAt_3b067_14 (sc_nar _) h)
-- charAt
def qJ0_charAt_5068e (si : Nat) (a1 : Int32) (σ : Mem) (post : Int32 → Mem → Prop) : Prop := vp_in a1 (sb_len.getD si 0) ∧ post ((sb_byt.getD si []).getD a1.toNatClampNeg 0 &&& 255) σ
theorem tJ0_charAt_5068e (l : Launch) {G : Gw} (hG : fw_IsC G) {si : Nat} (hsi : si < 8) {a1 : Int32} {σ : Mem} {post : Int32 → Mem → Prop} (h : qJ0_charAt_5068e si a1 σ post) : fw_CI l G yJ0_charAt_5068e cJ0_charAt_5068e 2 .char 3 64 [.ref (gK G si), .int a1] σ post := fw_ofI (sok_C hG) (by decide) (Nat.le_of_ble_eq_true rfl) (fun X O => by
  obtain ⟨hin, h⟩ := h
  refine fr_aload_n (pc := 0) O 0 dJ0_charAt_5068e_0 rfl rfl ?_
  refine fr_callTI (pc := 1) (As := []) (st := []) (post := fun r σ' => r = 1 ∧ σ' = σ) O (tJ0_isLatin1_aae02 X.2.1 hG hsi ⟨rfl, rfl⟩) mt_J0_isLatin1_aae02 mv_J0_isLatin1_aae02 m_319 (sC_sok hG O.2.2.1 hsi) rfl rfl (by decide) rfl (Nat.le_of_ble_eq_true rfl) dJ0_charAt_5068e_1 (fun r σ1 h1 => ?_)
  obtain ⟨rfl, rfl⟩ := h1
  refine fr_if_eq (pc := 4) (tgt := 16) O dJ0_charAt_5068e_4 (by decide) (fun c => absurd c (by decide)) (fun c => ?_)
  refine fr_aload_n (pc := 7) O 0 dJ0_charAt_5068e_7 rfl rfl ?_
  refine fr_sval (pc := 8) O (sC_sok hG O.2.2.1 hsi) m_1087 dJ0_charAt_5068e_8 ?_
  refine fr_iload_n (pc := 11) O 1 dJ0_charAt_5068e_11 rfl rfl ?_
  refine fr_callSI (pc := 12) (As := [.ref (gV G si), .int a1]) (st := []) (post := fun r σ' => r = ((sb_byt.getD si []).getD a1.toNatClampNeg 0 &&& 255) ∧ σ' = σ1) O (tJ1_charAt_3b067 X.2.1 hG hsi hin ⟨rfl, rfl⟩) mt_J1_charAt_3b067 m_324 m_323 rfl (by decide) rfl (Nat.le_of_ble_eq_true rfl) dJ0_charAt_5068e_12 (fun r σ2 h2 => ?_)
  obtain ⟨rfl, rfl⟩ := h2
  exact fr_xret (pc := 15) O dJ0_charAt_5068e_15 (sc_nar _) h)
