/-! THE LAW: both systems side by side, the script beneath -/
def fl_At (X : Cx) (G1 G2 : Gw) (Q : State → Prop) (cs sl : Nat) (pc : Nat) (lv : List (Nat × Value)) (st : List Value) (σ τ : Mem) : Prop :=
  ∀ (H : Heap) (locs : List Loc) (ls : Array Slot), va_P (gD G1) vwCl (gw G1 σ) H → va_P (gD G2) vwCl (gw G2 τ) H → va_S (fun q : Nat => X.2.2.2.2.1.heap.size ≤ q) X.2.2.2.2.1.heap H locs → lv_has ls 4 lv → W X.1 X.2.1 X.2.2.1 X.2.2.2.1 X.2.2.2.2.1 X.2.2.2.2.2.1 X.2.2.2.2.2.2.1 X.2.2.2.2.2.2.2.1 X.2.2.2.2.2.2.2.2.1 X.2.2.2.2.2.2.2.2.2 H locs cs sl Q (F0 X.2.2.2.2.2.1 pc ls st)
def fl_Ok (X : Cx) (G1 G2 : Gw) (b L : Nat) (xs : Nat → Int32) : Prop :=
  CallFix X.1 X.2.2.2.2.2.1 X.2.2.2.2.2.2.2.2.2 cL_law 4 X.2.2.2.2.1 X.2.2.2.2.2.2.1 TT RL ∧ fw_IsC G1 ∧ fw_IsM G2 ∧ va_K (gD G1) vwCl (gT G1) X.2.2.2.2.1 ∧ va_K (gD G2) vwCl (gT G2) X.2.2.2.2.1 ∧ gkb G1 X.2.2.2.2.1 ∧ gkb G2 X.2.2.2.2.1 ∧ X.2.2.2.1 = room_1 ∧ (∀ q, gA G1 q → X.2.2.2.2.1.heap.size ≤ q) ∧ (∀ q, gA G2 q → X.2.2.2.2.1.heap.size ≤ q) ∧ (∀ q, gA G1 q → ¬ gA G2 q) ∧ va_X b L xs X.2.2.2.2.1 X.2.2.2.2.1.heap ∧ b < X.2.2.2.2.1.heap.size
section LROWS
variable {X : Cx} {G1 G2 : Gw} {b L : Nat} {xs : Nat → Int32} {Q : State → Prop} {cs sl pc : Nat} {lv lv' : List (Nat × Value)} {st : List Value} {σ τ : Mem}
theorem fl_iconst (O : fl_Ok X G1 G2 b L xs) {n : Int} {v : Int32} (hdg : decode cL_law pc = .ok (.iconst n, 1)) (hv : Int32.ofInt n = v) (kk : fl_At X G1 G2 Q cs sl (pc + 1) lv (.int v :: st) σ τ) : fl_At X G1 G2 Q cs sl pc lv st σ τ := fun H locs ls h1 h2 hS hl => lv_iconst O.1.1 O.1.2.1 hdg hv (kk H locs ls h1 h2 hS hl)
theorem fl_bipush (O : fl_Ok X G1 G2 b L xs) {n : Int} {v : Int32} (hdg : decode cL_law pc = .ok (.bipush n, 2)) (hv : (Int8.ofInt n).toInt32 = v) (kk : fl_At X G1 G2 Q cs sl (pc + 2) lv (.int v :: st) σ τ) : fl_At X G1 G2 Q cs sl pc lv st σ τ := fun H locs ls h1 h2 hS hl => lv_bipush O.1.1 O.1.2.1 hdg hv (kk H locs ls h1 h2 hS hl)
theorem fl_aload_n (O : fl_Ok X G1 G2 b L xs) (q : Nat) {k : Fin 4} {i x : Nat} (hdg : decode cL_law pc = .ok (.aload_n k, 1)) (hi : (k : Nat) = i) (hk : lv[q]? = some (i, .ref x)) (kk : fl_At X G1 G2 Q cs sl (pc + 1) lv (.ref x :: st) σ τ) : fl_At X G1 G2 Q cs sl pc lv st σ τ := fun H locs ls h1 h2 hS hl => lv_aload_n O.1.1 O.1.2.1 hdg hi (lv_at hl q hk) (kk H locs ls h1 h2 hS hl)
theorem fl_iload_n (O : fl_Ok X G1 G2 b L xs) (q : Nat) {k : Fin 4} {i : Nat} {x : Int32} (hdg : decode cL_law pc = .ok (.iload_n k, 1)) (hi : (k : Nat) = i) (hk : lv[q]? = some (i, .int x)) (kk : fl_At X G1 G2 Q cs sl (pc + 1) lv (.int x :: st) σ τ) : fl_At X G1 G2 Q cs sl pc lv st σ τ := fun H locs ls h1 h2 hS hl => lv_iload_n O.1.1 O.1.2.1 hdg hi (lv_at hl q hk) (kk H locs ls h1 h2 hS hl)
theorem fl_iadd (O : fl_Ok X G1 G2 b L xs) {x y : Int32} (hdg : decode cL_law pc = .ok (.iadd, 1)) (kk : fl_At X G1 G2 Q cs sl (pc + 1) lv (.int (x + y) :: st) σ τ) : fl_At X G1 G2 Q cs sl pc lv (.int y :: .int x :: st) σ τ := fun H locs ls h1 h2 hS hl => lv_iadd O.1.1 O.1.2.1 hdg (kk H locs ls h1 h2 hS hl)
theorem fl_isub (O : fl_Ok X G1 G2 b L xs) {x y : Int32} (hdg : decode cL_law pc = .ok (.isub, 1)) (kk : fl_At X G1 G2 Q cs sl (pc + 1) lv (.int (x - y) :: st) σ τ) : fl_At X G1 G2 Q cs sl pc lv (.int y :: .int x :: st) σ τ := fun H locs ls h1 h2 hS hl => lv_isub O.1.1 O.1.2.1 hdg (kk H locs ls h1 h2 hS hl)
theorem fl_iand (O : fl_Ok X G1 G2 b L xs) {x y : Int32} (hdg : decode cL_law pc = .ok (.iand, 1)) (kk : fl_At X G1 G2 Q cs sl (pc + 1) lv (.int (x &&& y) :: st) σ τ) : fl_At X G1 G2 Q cs sl pc lv (.int y :: .int x :: st) σ τ := fun H locs ls h1 h2 hS hl => lv_iand O.1.1 O.1.2.1 hdg (kk H locs ls h1 h2 hS hl)
theorem fl_lcmp (O : fl_Ok X G1 G2 b L xs) {x y : Int64} (hdg : decode cL_law pc = .ok (.lcmp, 1)) (kk : fl_At X G1 G2 Q cs sl (pc + 1) lv (.int (lg_cmp x y) :: st) σ τ) : fl_At X G1 G2 Q cs sl pc lv (.long y :: .long x :: st) σ τ := fun H locs ls h1 h2 hS hl => W.lcmp O.1.1 O.1.2.1 hdg (kk H locs ls h1 h2 hS hl)
theorem fl_sld (O : fl_Ok X G1 G2 b L xs) {i : Int32} (hin : vp_in i L) (hdg : decode cL_law pc = .ok (.iaload, 1)) (kk : fl_At X G1 G2 Q cs sl (pc + 1) lv (.int (xs i.toNatClampNeg) :: st) σ τ) : fl_At X G1 G2 Q cs sl pc lv (.int i :: .ref b :: st) σ τ := fun H locs ls h1 h2 hS hl => va_sld O.1.1 O.1.2.1 O.2.2.2.2.2.2.2.2.2.2.2.1 O.2.2.2.2.2.2.2.2.2.2.2.2 (Nat.not_le.mpr O.2.2.2.2.2.2.2.2.2.2.2.2) hS hin hdg (kk H locs ls h1 h2 hS hl)
theorem fl_slen (O : fl_Ok X G1 G2 b L xs) (hdg : decode cL_law pc = .ok (.arraylength, 1)) (kk : fl_At X G1 G2 Q cs sl (pc + 1) lv (.int (nI L) :: st) σ τ) : fl_At X G1 G2 Q cs sl pc lv (.ref b :: st) σ τ := fun H locs ls h1 h2 hS hl => va_slen O.1.1 O.1.2.1 O.2.2.2.2.2.2.2.2.2.2.2.1 O.2.2.2.2.2.2.2.2.2.2.2.2 (Nat.not_le.mpr O.2.2.2.2.2.2.2.2.2.2.2.2) hS hdg (kk H locs ls h1 h2 hS hl)
theorem fl_iinc (O : fl_Ok X G1 G2 b L xs) (q : Nat) (ks : List Nat) {i : Nat} {n : Int} {x v : Int32} (hdg : decode cL_law pc = .ok (.iinc i n, 3)) (hk : lv[q]? = some (i, .int x)) (hw : x + Int32.ofInt n = v) (hn : i < 4) (hp : lv_pick ((i, Value.int v) :: lv.filter (fun q => !(q.1 == i) && !(q.1 + 1 == i && q.2.category == 2))) ks = lv') (kk : fl_At X G1 G2 Q cs sl (pc + 3) lv' st σ τ) : fl_At X G1 G2 Q cs sl pc lv st σ τ := fun H locs ls h1 h2 hS hl => lv_iinc (v := v) O.1.1 O.1.2.1 hdg hl hk hw hn rfl (fun ls' hl' => kk H locs ls' h1 h2 hS (lv_sub hl' ks hp))
theorem fl_icmp_eq (O : fl_Ok X G1 G2 b L xs) {x y : Int32} {off : Int} {tgt : Nat} (hdg : decode cL_law pc = .ok (.if_icmp .eq off, 3)) (ht : (pc : Int) + off = (tgt : Int)) (kt : x = y → fl_At X G1 G2 Q cs sl tgt lv st σ τ) (kf : ¬ x = y → fl_At X G1 G2 Q cs sl (pc + 3) lv st σ τ) : fl_At X G1 G2 Q cs sl pc lv (.int y :: .int x :: st) σ τ := fun H locs ls h1 h2 hS hl => lv_icmp_eq O.1.1 O.1.2.1 hdg ht (fun z => kt z H locs ls h1 h2 hS hl) (fun z => kf z H locs ls h1 h2 hS hl)
theorem fl_icmp_gt (O : fl_Ok X G1 G2 b L xs) {x y : Int32} {off : Int} {tgt : Nat} (hdg : decode cL_law pc = .ok (.if_icmp .gt off, 3)) (ht : (pc : Int) + off = (tgt : Int)) (kt : y < x → fl_At X G1 G2 Q cs sl tgt lv st σ τ) (kf : ¬ y < x → fl_At X G1 G2 Q cs sl (pc + 3) lv st σ τ) : fl_At X G1 G2 Q cs sl pc lv (.int y :: .int x :: st) σ τ := fun H locs ls h1 h2 hS hl => lv_icmp_gt O.1.1 O.1.2.1 hdg ht (fun z => kt z H locs ls h1 h2 hS hl) (fun z => kf z H locs ls h1 h2 hS hl)
theorem fl_if_eq (O : fl_Ok X G1 G2 b L xs) {x : Int32} {off : Int} {tgt : Nat} (hdg : decode cL_law pc = .ok (.ifCond .eq off, 3)) (ht : (pc : Int) + off = (tgt : Int)) (kt : x = 0 → fl_At X G1 G2 Q cs sl tgt lv st σ τ) (kf : ¬ x = 0 → fl_At X G1 G2 Q cs sl (pc + 3) lv st σ τ) : fl_At X G1 G2 Q cs sl pc lv (.int x :: st) σ τ := fun H locs ls h1 h2 hS hl => lv_if_eq O.1.1 O.1.2.1 hdg ht (fun z => kt z H locs ls h1 h2 hS hl) (fun z => kf z H locs ls h1 h2 hS hl)
theorem fl_goto (O : fl_Ok X G1 G2 b L xs) {off : Int} {tgt : Nat} (hdg : decode cL_law pc = .ok (.goto off, 3)) (ht : (pc : Int) + off = (tgt : Int)) (kk : fl_At X G1 G2 Q cs sl tgt lv st σ τ) : fl_At X G1 G2 Q cs sl pc lv st σ τ := fun H locs ls h1 h2 hS hl => lv_goto O.1.1 O.1.2.1 hdg ht (kk H locs ls h1 h2 hS hl)
theorem fl_tabIn (O : fl_Ok X G1 G2 b L xs) {dflt lo1 hi1 : Int} {offs : Array Int} {len : Nat} {x : Int32} {off : Int} {tgt : Nat} (hdg : decode cL_law pc = .ok (.tableswitch dflt lo1 hi1 offs, len)) (h : ¬ x.toInt < lo1 ∧ ¬ hi1 < x.toInt ∧ offs[(x.toInt - lo1).toNat]? = some off ∧ (pc : Int) + off = (tgt : Int)) (kk : fl_At X G1 G2 Q cs sl tgt lv st σ τ) : fl_At X G1 G2 Q cs sl pc lv (.int x :: st) σ τ := fun H locs ls h1 h2 hS hl => lv_tableIn O.1.1 O.1.2.1 hdg h.1 h.2.1 h.2.2.1 h.2.2.2 (kk H locs ls h1 h2 hS hl)
theorem fl_tabOut (O : fl_Ok X G1 G2 b L xs) {dflt lo1 hi1 : Int} {offs : Array Int} {len : Nat} {x : Int32} {tgt : Nat} (hdg : decode cL_law pc = .ok (.tableswitch dflt lo1 hi1 offs, len)) (h : x.toInt < lo1 ∨ hi1 < x.toInt) (ht : (pc : Int) + dflt = (tgt : Int)) (kk : fl_At X G1 G2 Q cs sl tgt lv st σ τ) : fl_At X G1 G2 Q cs sl pc lv (.int x :: st) σ τ := fun H locs ls h1 h2 hS hl => lv_tableOut O.1.1 O.1.2.1 hdg h ht (kk H locs ls h1 h2 hS hl)
theorem fl_nm {x : Int32} (kk : ∀ y : Int32, y = x → fl_At X G1 G2 Q cs sl pc lv (.int y :: st) σ τ) : fl_At X G1 G2 Q cs sl pc lv (.int x :: st) σ τ := kk x rfl
theorem fl_call1I (O : fl_Ok X G1 G2 b L xs) (hcs : cs + 0 ≤ room_1.cells ∧ sl + 0 ≤ room_1.slots) {y : MethodName} {bytes : ByteArray} {mL n fr' lo' idx : Nat} {As st1 : List Value} {post : Int32 → Mem → Prop} (hM : fw_CI X.2.1 G1 y bytes mL .int fr' lo' (.ref (gad G1 0) :: As) σ post) (hm : fw_Mt y bytes mL (some .int) n) (hv : fw_Vt y) (hl : Cond.methodLink RL idx y ∈ TT) (hyc : y.cls = RX3) (hn : As.length = n) (hR : fr' + 1 ≤ 12 ∧ 8 + (mL + 11) + lo' ≤ 430) (hst : st1 = As.reverse ++ .ref (gad G1 0) :: st) (hcat : (st.map fun v => v.category).sum ≤ 8) (hdg : decode cL_law pc = .ok (.invokevirtual idx, 3)) (kk : ∀ (r : Int32) (σ' : Mem), post r σ' → fl_At X G1 G2 Q cs sl (pc + 3) lv (.int r :: st) σ' τ) : fl_At X G1 G2 Q cs sl pc lv st1 σ τ := by
  intro H locs ls h1 h2 hS hlv
  subst hst
  have hG := O.2.1
  have hP : va_P (gD G1) vwCl (gw G1 σ) H := h1
  have hK := O.2.2.2.1
  have hkb := O.2.2.2.2.2.1
  have hpre : ∀ U : State, U.heap = H → X.2.2.2.2.1.WarmedH U.vm → fw_WB G1 σ U := fun U hU hW => ⟨by rw [hU]; exact hP, va_K.moved hW.alike hK, hG.1.2.1 _ _ hkb hW (by rw [hU]; exact hS.1) (fun q z1 _ => by rw [hU]; exact hS.2.1 q z1 (Nat.not_le.mpr z1))⟩
  have hrec := va_recv (q := (RX3, _, _)) hK hP (ci := 3) (q0 := 0) cl_X3.1 (show (gw G1 σ)[0]? = some (gad G1 0, .inr (3, _)) by rw [gw_at G1 σ (sC_0 hG).1, (sC_0 hG).2])
  refine va_calli (A0 := fun q : Nat => X.2.2.2.2.1.heap.size ≤ q) (va_runV (C := RX3) O.1 hM ⟨callB_of n O.1.2.2.2.2 (fw_wd_good hm.1) rfl rfl rfl (O.1.2.2.2.2 _ hm.2.1) (O.1.2.2.2.2 _ hl) hm.2.2 (by rw [O.2.2.2.2.2.2.2.1]; exact hR), O.1.2.2.2.2 _ hv.1, O.1.2.2.2.2 _ (by rw [← hyc]; exact hv.2)⟩ ⟨fw_WB.blind hG.1 σ _, hrec, fun U hU hW => ⟨rfl, hpre U hU hW⟩⟩ rfl hn hlv.1 rfl (lv_room hcat) hdg (by rw [O.2.2.2.2.2.2.2.1]; exact hcs)) hS (fun q _ h => O.2.2.2.2.2.2.2.2.1 q h) (fun q h => O.2.2.2.2.2.2.2.2.1 q h) (fun r u t H1 locs1 ht hvm hw hB hz1 hk1 hS1 => ?_)
  have hPo : va_P (gD G2) vwCl (gw G2 τ) H1 := h2.kept (fun k q hq => hk1 q.1 (h2 k q hq).lt (by
    obtain ⟨z1, z2⟩ := gw_lt hq
    subst z2
    exact fun z3 => (fun q h1 h2 => O.2.2.2.2.2.2.2.2.2.2.1 q h2 h1) _ ⟨k, z1, rfl⟩ z3))
  exact kk r u hw H1 locs1 ls (by rw [← ht]; exact hB.1) hPo hS1 hlv
theorem fl_call1L (O : fl_Ok X G1 G2 b L xs) (hcs : cs + 0 ≤ room_1.cells ∧ sl + 0 ≤ room_1.slots) {y : MethodName} {bytes : ByteArray} {mL n fr' lo' idx : Nat} {As st1 : List Value} {post : Int64 → Mem → Prop} (hM : fw_CL X.2.1 G1 y bytes mL fr' lo' (.ref (gad G1 0) :: As) σ post) (hm : fw_Mt y bytes mL (some .long) n) (hv : fw_Vt y) (hl : Cond.methodLink RL idx y ∈ TT) (hyc : y.cls = RX3) (hn : As.length = n) (hR : fr' + 1 ≤ 12 ∧ 8 + (mL + 11) + lo' ≤ 430) (hst : st1 = As.reverse ++ .ref (gad G1 0) :: st) (hcat : (st.map fun v => v.category).sum ≤ 8) (hdg : decode cL_law pc = .ok (.invokevirtual idx, 3)) (kk : ∀ (r : Int64) (σ' : Mem), post r σ' → fl_At X G1 G2 Q cs sl (pc + 3) lv (.long r :: st) σ' τ) : fl_At X G1 G2 Q cs sl pc lv st1 σ τ := by
  intro H locs ls h1 h2 hS hlv
  subst hst
  have hG := O.2.1
  have hP : va_P (gD G1) vwCl (gw G1 σ) H := h1
  have hK := O.2.2.2.1
  have hkb := O.2.2.2.2.2.1
  have hpre : ∀ U : State, U.heap = H → X.2.2.2.2.1.WarmedH U.vm → fw_WB G1 σ U := fun U hU hW => ⟨by rw [hU]; exact hP, va_K.moved hW.alike hK, hG.1.2.1 _ _ hkb hW (by rw [hU]; exact hS.1) (fun q z1 _ => by rw [hU]; exact hS.2.1 q z1 (Nat.not_le.mpr z1))⟩
  have hrec := va_recv (q := (RX3, _, _)) hK hP (ci := 3) (q0 := 0) cl_X3.1 (show (gw G1 σ)[0]? = some (gad G1 0, .inr (3, _)) by rw [gw_at G1 σ (sC_0 hG).1, (sC_0 hG).2])
  refine va_calll (A0 := fun q : Nat => X.2.2.2.2.1.heap.size ≤ q) (va_runV (C := RX3) O.1 hM ⟨callB_of n O.1.2.2.2.2 (fw_wd_good hm.1) rfl rfl rfl (O.1.2.2.2.2 _ hm.2.1) (O.1.2.2.2.2 _ hl) hm.2.2 (by rw [O.2.2.2.2.2.2.2.1]; exact hR), O.1.2.2.2.2 _ hv.1, O.1.2.2.2.2 _ (by rw [← hyc]; exact hv.2)⟩ ⟨fw_WB.blind hG.1 σ _, hrec, fun U hU hW => ⟨rfl, hpre U hU hW⟩⟩ rfl hn hlv.1 rfl (lv_room hcat) hdg (by rw [O.2.2.2.2.2.2.2.1]; exact hcs)) hS (fun q _ h => O.2.2.2.2.2.2.2.2.1 q h) (fun q h => O.2.2.2.2.2.2.2.2.1 q h) (fun r u t H1 locs1 ht hvm hw hB hz1 hk1 hS1 => ?_)
  have hPo : va_P (gD G2) vwCl (gw G2 τ) H1 := h2.kept (fun k q hq => hk1 q.1 (h2 k q hq).lt (by
    obtain ⟨z1, z2⟩ := gw_lt hq
    subst z2
    exact fun z3 => (fun q h1 h2 => O.2.2.2.2.2.2.2.2.2.2.1 q h2 h1) _ ⟨k, z1, rfl⟩ z3))
  exact kk r u hw H1 locs1 ls (by rw [← ht]; exact hB.1) hPo hS1 hlv
theorem fl_call2I (O : fl_Ok X G1 G2 b L xs) (hcs : cs + 0 ≤ room_1.cells ∧ sl + 0 ≤ room_1.slots) {y : MethodName} {bytes : ByteArray} {mL n fr' lo' idx : Nat} {As st1 : List Value} {post : Int32 → Mem → Prop} (hM : fw_CI X.2.1 G2 y bytes mL .int fr' lo' (.ref (gad G2 0) :: As) τ post) (hm : fw_Mt y bytes mL (some .int) n) (hv : fw_Vt y) (hl : Cond.methodLink RL idx y ∈ TT) (hyc : y.cls = RX4) (hn : As.length = n) (hR : fr' + 1 ≤ 12 ∧ 8 + (mL + 11) + lo' ≤ 430) (hst : st1 = As.reverse ++ .ref (gad G2 0) :: st) (hcat : (st.map fun v => v.category).sum ≤ 8) (hdg : decode cL_law pc = .ok (.invokevirtual idx, 3)) (kk : ∀ (r : Int32) (τ' : Mem), post r τ' → fl_At X G1 G2 Q cs sl (pc + 3) lv (.int r :: st) σ τ') : fl_At X G1 G2 Q cs sl pc lv st1 σ τ := by
  intro H locs ls h1 h2 hS hlv
  subst hst
  have hG := O.2.2.1
  have hP : va_P (gD G2) vwCl (gw G2 τ) H := h2
  have hK := O.2.2.2.2.1
  have hkb := O.2.2.2.2.2.2.1
  have hpre : ∀ U : State, U.heap = H → X.2.2.2.2.1.WarmedH U.vm → fw_WB G2 τ U := fun U hU hW => ⟨by rw [hU]; exact hP, va_K.moved hW.alike hK, hG.1.2.1 _ _ hkb hW (by rw [hU]; exact hS.1) (fun q z1 _ => by rw [hU]; exact hS.2.1 q z1 (Nat.not_le.mpr z1))⟩
  have hrec := va_recv (q := (RX4, _, _)) hK hP (ci := 4) (q0 := 0) cl_X4.1 (show (gw G2 τ)[0]? = some (gad G2 0, .inr (4, _)) by rw [gw_at G2 τ (sM_0 hG).1, (sM_0 hG).2])
  refine va_calli (A0 := fun q : Nat => X.2.2.2.2.1.heap.size ≤ q) (va_runV (C := RX4) O.1 hM ⟨callB_of n O.1.2.2.2.2 (fw_wd_good hm.1) rfl rfl rfl (O.1.2.2.2.2 _ hm.2.1) (O.1.2.2.2.2 _ hl) hm.2.2 (by rw [O.2.2.2.2.2.2.2.1]; exact hR), O.1.2.2.2.2 _ hv.1, O.1.2.2.2.2 _ (by rw [← hyc]; exact hv.2)⟩ ⟨fw_WB.blind hG.1 τ _, hrec, fun U hU hW => ⟨rfl, hpre U hU hW⟩⟩ rfl hn hlv.1 rfl (lv_room hcat) hdg (by rw [O.2.2.2.2.2.2.2.1]; exact hcs)) hS (fun q _ h => O.2.2.2.2.2.2.2.2.2.1 q h) (fun q h => O.2.2.2.2.2.2.2.2.2.1 q h) (fun r u t H1 locs1 ht hvm hw hB hz1 hk1 hS1 => ?_)
  have hPo : va_P (gD G1) vwCl (gw G1 σ) H1 := h1.kept (fun k q hq => hk1 q.1 (h1 k q hq).lt (by
    obtain ⟨z1, z2⟩ := gw_lt hq
    subst z2
    exact fun z3 => (fun q h1 h2 => O.2.2.2.2.2.2.2.2.2.2.1 q h1 h2) _ ⟨k, z1, rfl⟩ z3))
  exact kk r u hw H1 locs1 ls hPo (by rw [← ht]; exact hB.1) hS1 hlv
theorem fl_call2L (O : fl_Ok X G1 G2 b L xs) (hcs : cs + 0 ≤ room_1.cells ∧ sl + 0 ≤ room_1.slots) {y : MethodName} {bytes : ByteArray} {mL n fr' lo' idx : Nat} {As st1 : List Value} {post : Int64 → Mem → Prop} (hM : fw_CL X.2.1 G2 y bytes mL fr' lo' (.ref (gad G2 0) :: As) τ post) (hm : fw_Mt y bytes mL (some .long) n) (hv : fw_Vt y) (hl : Cond.methodLink RL idx y ∈ TT) (hyc : y.cls = RX4) (hn : As.length = n) (hR : fr' + 1 ≤ 12 ∧ 8 + (mL + 11) + lo' ≤ 430) (hst : st1 = As.reverse ++ .ref (gad G2 0) :: st) (hcat : (st.map fun v => v.category).sum ≤ 8) (hdg : decode cL_law pc = .ok (.invokevirtual idx, 3)) (kk : ∀ (r : Int64) (τ' : Mem), post r τ' → fl_At X G1 G2 Q cs sl (pc + 3) lv (.long r :: st) σ τ') : fl_At X G1 G2 Q cs sl pc lv st1 σ τ := by
  intro H locs ls h1 h2 hS hlv
  subst hst
  have hG := O.2.2.1
  have hP : va_P (gD G2) vwCl (gw G2 τ) H := h2
  have hK := O.2.2.2.2.1
  have hkb := O.2.2.2.2.2.2.1
  have hpre : ∀ U : State, U.heap = H → X.2.2.2.2.1.WarmedH U.vm → fw_WB G2 τ U := fun U hU hW => ⟨by rw [hU]; exact hP, va_K.moved hW.alike hK, hG.1.2.1 _ _ hkb hW (by rw [hU]; exact hS.1) (fun q z1 _ => by rw [hU]; exact hS.2.1 q z1 (Nat.not_le.mpr z1))⟩
  have hrec := va_recv (q := (RX4, _, _)) hK hP (ci := 4) (q0 := 0) cl_X4.1 (show (gw G2 τ)[0]? = some (gad G2 0, .inr (4, _)) by rw [gw_at G2 τ (sM_0 hG).1, (sM_0 hG).2])
  refine va_calll (A0 := fun q : Nat => X.2.2.2.2.1.heap.size ≤ q) (va_runV (C := RX4) O.1 hM ⟨callB_of n O.1.2.2.2.2 (fw_wd_good hm.1) rfl rfl rfl (O.1.2.2.2.2 _ hm.2.1) (O.1.2.2.2.2 _ hl) hm.2.2 (by rw [O.2.2.2.2.2.2.2.1]; exact hR), O.1.2.2.2.2 _ hv.1, O.1.2.2.2.2 _ (by rw [← hyc]; exact hv.2)⟩ ⟨fw_WB.blind hG.1 τ _, hrec, fun U hU hW => ⟨rfl, hpre U hU hW⟩⟩ rfl hn hlv.1 rfl (lv_room hcat) hdg (by rw [O.2.2.2.2.2.2.2.1]; exact hcs)) hS (fun q _ h => O.2.2.2.2.2.2.2.2.2.1 q h) (fun q h => O.2.2.2.2.2.2.2.2.2.1 q h) (fun r u t H1 locs1 ht hvm hw hB hz1 hk1 hS1 => ?_)
  have hPo : va_P (gD G1) vwCl (gw G1 σ) H1 := h1.kept (fun k q hq => hk1 q.1 (h1 k q hq).lt (by
    obtain ⟨z1, z2⟩ := gw_lt hq
    subst z2
    exact fun z3 => (fun q h1 h2 => O.2.2.2.2.2.2.2.2.2.2.1 q h1 h2) _ ⟨k, z1, rfl⟩ z3))
  exact kk r u hw H1 locs1 ls hPo (by rw [← ht]; exact hB.1) hS1 hlv
end LROWS
/-- what the pure part owes: every pair of calls keeps the relation, and answers alike -/
def fp_feed (Rel : Nat → Mem → Mem → Prop) : Prop := ∀ (n : Nat) (σ τ : Mem) (a1 : Int32), Rel n σ τ → n < 512 → qX3_feed a1 σ (fun r σ' => qX4_feed a1 τ (fun r' τ' => r = r' ∧ Rel (n + 1) σ' τ'))
def fp_end (Rel : Nat → Mem → Mem → Prop) : Prop := ∀ (n : Nat) (σ τ : Mem) (a1 : Int32), Rel n σ τ → n < 512 → qX3_end a1 σ (fun r σ' => qX4_end a1 τ (fun r' τ' => r = r' ∧ Rel (n + 1) σ' τ'))
def fp_text (Rel : Nat → Mem → Mem → Prop) : Prop := ∀ (n : Nat) (σ τ : Mem) , Rel n σ τ → n < 512 → qX3_text  σ (fun r σ' => qX4_text  τ (fun r' τ' => r = r' ∧ Rel (n + 1) σ' τ'))
def fp_fault (Rel : Nat → Mem → Mem → Prop) : Prop := ∀ (n : Nat) (σ τ : Mem) , Rel n σ τ → n < 512 → qX3_fault  σ (fun r σ' => qX4_fault  τ (fun r' τ' => r = r' ∧ Rel (n + 1) σ' τ'))
def fp_rule (Rel : Nat → Mem → Mem → Prop) : Prop := ∀ (n : Nat) (σ τ : Mem) (a1 : Int32), Rel n σ τ → n < 512 → qX3_rule a1 σ (fun r σ' => qX4_rule a1 τ (fun r' τ' => r = r' ∧ Rel (n + 1) σ' τ'))
def fp_wheel (Rel : Nat → Mem → Mem → Prop) : Prop := ∀ (n : Nat) (σ τ : Mem) (a1 : Int32) (a2 : Int32), Rel n σ τ → n < 512 → qX3_wheel a1 a2 σ (fun r σ' => qX4_wheel a1 a2 τ (fun r' τ' => r = r' ∧ Rel (n + 1) σ' τ'))
def fp_act (Rel : Nat → Mem → Mem → Prop) : Prop := ∀ (n : Nat) (σ τ : Mem) (a1 : Int32), Rel n σ τ → n < 512 → qX3_act a1 σ (fun r σ' => qX4_act a1 τ (fun r' τ' => r = r' ∧ Rel (n + 1) σ' τ'))
def fp_alter (Rel : Nat → Mem → Mem → Prop) : Prop := ∀ (n : Nat) (σ τ : Mem) (a1 : Int32) (a2 : Int32) (a3 : Int32), Rel n σ τ → n < 512 → qX3_alter a1 a2 a3 σ (fun r σ' => qX4_alter a1 a2 a3 τ (fun r' τ' => r = r' ∧ Rel (n + 1) σ' τ'))
def fp_shaft (Rel : Nat → Mem → Mem → Prop) : Prop := ∀ (n : Nat) (σ τ : Mem) (a1 : Int32), Rel n σ τ → n < 512 → qX3_shaft a1 σ (fun r σ' => qX4_shaft a1 τ (fun r' τ' => r = r' ∧ Rel (n + 1) σ' τ'))
def fp_put (Rel : Nat → Mem → Mem → Prop) : Prop := ∀ (n : Nat) (σ τ : Mem) (a1 : Int32) (a2 : Int32) (a3 : Int32), Rel n σ τ → n < 512 → qX3_put a1 a2 a3 σ (fun r σ' => qX4_put a1 a2 a3 τ (fun r' τ' => r = r' ∧ Rel (n + 1) σ' τ'))
def fp_cut (Rel : Nat → Mem → Mem → Prop) : Prop := ∀ (n : Nat) (σ τ : Mem) (a1 : Int32), Rel n σ τ → n < 512 → qX3_cut a1 σ (fun r σ' => qX4_cut a1 τ (fun r' τ' => r = r' ∧ Rel (n + 1) σ' τ'))
def fp_set (Rel : Nat → Mem → Mem → Prop) : Prop := ∀ (n : Nat) (σ τ : Mem) (a1 : Int32) (a2 : Int32), Rel n σ τ → n < 512 → qX3_set a1 a2 σ (fun r σ' => qX4_set a1 a2 τ (fun r' τ' => r = r' ∧ Rel (n + 1) σ' τ'))
def fp_add (Rel : Nat → Mem → Mem → Prop) : Prop := ∀ (n : Nat) (σ τ : Mem) (a1 : Int32), Rel n σ τ → n < 512 → qX3_add a1 σ (fun r σ' => qX4_add a1 τ (fun r' τ' => r = r' ∧ Rel (n + 1) σ' τ'))
def fp_drop (Rel : Nat → Mem → Mem → Prop) : Prop := ∀ (n : Nat) (σ τ : Mem) (a1 : Int32), Rel n σ τ → n < 512 → qX3_drop a1 σ (fun r σ' => qX4_drop a1 τ (fun r' τ' => r = r' ∧ Rel (n + 1) σ' τ'))
def fp_turn (Rel : Nat → Mem → Mem → Prop) : Prop := ∀ (n : Nat) (σ τ : Mem) (a1 : Int32), Rel n σ τ → n < 512 → qX3_turn a1 σ (fun r σ' => qX4_turn a1 τ (fun r' τ' => r = r' ∧ Rel (n + 1) σ' τ'))
def fp_ticks (Rel : Nat → Mem → Mem → Prop) : Prop := ∀ (n : Nat) (σ τ : Mem) (a1 : Int32), Rel n σ τ → n < 512 → qX3_ticks a1 σ (fun r σ' => qX4_ticks a1 τ (fun r' τ' => r = r' ∧ Rel (n + 1) σ' τ'))
def fp_runs (Rel : Nat → Mem → Mem → Prop) : Prop := ∀ (n : Nat) (σ τ : Mem) (a1 : Int32) (a2 : Int32), Rel n σ τ → n < 512 → qX3_runs a1 a2 σ (fun r σ' => qX4_runs a1 a2 τ (fun r' τ' => r = r' ∧ Rel (n + 1) σ' τ'))
def fp_ahead (Rel : Nat → Mem → Mem → Prop) : Prop := ∀ (n : Nat) (σ τ : Mem) (a1 : Int32) (a2 : Int32), Rel n σ τ → n < 512 → qX3_ahead a1 a2 σ (fun r σ' => qX4_ahead a1 a2 τ (fun r' τ' => r = r' ∧ Rel (n + 1) σ' τ'))
def fp_when (Rel : Nat → Mem → Mem → Prop) : Prop := ∀ (n : Nat) (σ τ : Mem) (a1 : Int32), Rel n σ τ → n < 512 → qX3_when a1 σ (fun r σ' => qX4_when a1 τ (fun r' τ' => r = r' ∧ Rel (n + 1) σ' τ'))
def fp_again (Rel : Nat → Mem → Mem → Prop) : Prop := ∀ (n : Nat) (σ τ : Mem) , Rel n σ τ → n < 512 → qX3_again  σ (fun r σ' => qX4_again  τ (fun r' τ' => r = r' ∧ Rel (n + 1) σ' τ'))
def fp_mass (Rel : Nat → Mem → Mem → Prop) : Prop := ∀ (n : Nat) (σ τ : Mem) (a1 : Int32) (a2 : Int32) (a3 : Int32), Rel n σ τ → n < 512 → qX3_mass a1 a2 a3 σ (fun r σ' => qX4_mass a1 a2 a3 τ (fun r' τ' => r = r' ∧ Rel (n + 1) σ' τ'))
def fp_kind (Rel : Nat → Mem → Mem → Prop) : Prop := ∀ (n : Nat) (σ τ : Mem) (a1 : Int32) (a2 : Int32) (a3 : Int32), Rel n σ τ → n < 512 → qX3_kind a1 a2 a3 σ (fun r σ' => qX4_kind a1 a2 a3 τ (fun r' τ' => r = r' ∧ Rel (n + 1) σ' τ'))
def fp_bears (Rel : Nat → Mem → Mem → Prop) : Prop := ∀ (n : Nat) (σ τ : Mem) (a1 : Int32) (a2 : Int32), Rel n σ τ → n < 512 → qX3_bears a1 a2 σ (fun r σ' => qX4_bears a1 a2 τ (fun r' τ' => r = r' ∧ Rel (n + 1) σ' τ'))
def fp_swap (Rel : Nat → Mem → Mem → Prop) : Prop := ∀ (n : Nat) (σ τ : Mem) (a1 : Int32) (a2 : Int32), Rel n σ τ → n < 512 → qX3_swap a1 a2 σ (fun r σ' => qX4_swap a1 a2 τ (fun r' τ' => r = r' ∧ Rel (n + 1) σ' τ'))
def fp_omit (Rel : Nat → Mem → Mem → Prop) : Prop := ∀ (n : Nat) (σ τ : Mem) (a1 : Int32) (a2 : Int32), Rel n σ τ → n < 512 → qX3_omit a1 a2 σ (fun r σ' => qX4_omit a1 a2 τ (fun r' τ' => r = r' ∧ Rel (n + 1) σ' τ'))
def fp_off (Rel : Nat → Mem → Mem → Prop) : Prop := ∀ (n : Nat) (σ τ : Mem) (a1 : Int32) (a2 : Int32), Rel n σ τ → n < 512 → qX3_off a1 a2 σ (fun r σ' => qX4_off a1 a2 τ (fun r' τ' => r = r' ∧ Rel (n + 1) σ' τ'))
def fp_luck (Rel : Nat → Mem → Mem → Prop) : Prop := ∀ (n : Nat) (σ τ : Mem) (a1 : Int32) (a2 : Int32) (a3 : Int32), Rel n σ τ → n < 512 → qX3_luck a1 a2 a3 σ (fun r σ' => qX4_luck a1 a2 a3 τ (fun r' τ' => r = r' ∧ Rel (n + 1) σ' τ'))
def fp_mean (Rel : Nat → Mem → Mem → Prop) : Prop := ∀ (n : Nat) (σ τ : Mem) (a1 : Int32) (a2 : Int32) (a3 : Int32), Rel n σ τ → n < 512 → qX3_mean a1 a2 a3 σ (fun r σ' => qX4_mean a1 a2 a3 τ (fun r' τ' => r = r' ∧ Rel (n + 1) σ' τ'))
def fp_see (Rel : Nat → Mem → Mem → Prop) : Prop := ∀ (n : Nat) (σ τ : Mem) (a1 : Int32) (a2 : Int32) (a3 : Int32), Rel n σ τ → n < 512 → qX3_see a1 a2 a3 σ (fun r σ' => qX4_see a1 a2 a3 τ (fun r' τ' => r = r' ∧ Rel (n + 1) σ' τ'))
def fp_forget (Rel : Nat → Mem → Mem → Prop) : Prop := ∀ (n : Nat) (σ τ : Mem) (a1 : Int32), Rel n σ τ → n < 512 → qX3_forget a1 σ (fun r σ' => qX4_forget a1 τ (fun r' τ' => r = r' ∧ Rel (n + 1) σ' τ'))
def fp_kinds (Rel : Nat → Mem → Mem → Prop) : Prop := ∀ (n : Nat) (σ τ : Mem) (a1 : Int32), Rel n σ τ → n < 512 → qX3_kinds a1 σ (fun r σ' => qX4_kinds a1 τ (fun r' τ' => r = r' ∧ Rel (n + 1) σ' τ'))
def fp_losses (Rel : Nat → Mem → Mem → Prop) : Prop := ∀ (n : Nat) (σ τ : Mem) (a1 : Int32), Rel n σ τ → n < 512 → qX3_losses a1 σ (fun r σ' => qX4_losses a1 τ (fun r' τ' => r = r' ∧ Rel (n + 1) σ' τ'))
def fp_ask (Rel : Nat → Mem → Mem → Prop) : Prop := ∀ (n : Nat) (σ τ : Mem) (a1 : Int32) (a2 : Int32), Rel n σ τ → n < 512 → qX3_ask a1 a2 σ (fun r σ' => qX4_ask a1 a2 τ (fun r' τ' => r = r' ∧ Rel (n + 1) σ' τ'))
def fp_drift (Rel : Nat → Mem → Mem → Prop) : Prop := ∀ (n : Nat) (σ τ : Mem) (a1 : Int32) (a2 : Int32) (a3 : Int32), Rel n σ τ → n < 512 → qX3_drift a1 a2 a3 σ (fun r σ' => qX4_drift a1 a2 a3 τ (fun r' τ' => r = r' ∧ Rel (n + 1) σ' τ'))
def fp_keep (Rel : Nat → Mem → Mem → Prop) : Prop := ∀ (n : Nat) (σ τ : Mem) (a1 : Int32), Rel n σ τ → n < 512 → qX3_keep a1 σ (fun r σ' => qX4_keep a1 τ (fun r' τ' => r = r' ∧ Rel (n + 1) σ' τ'))
def fp_back (Rel : Nat → Mem → Mem → Prop) : Prop := ∀ (n : Nat) (σ τ : Mem) (a1 : Int32), Rel n σ τ → n < 512 → qX3_back a1 σ (fun r σ' => qX4_back a1 τ (fun r' τ' => r = r' ∧ Rel (n + 1) σ' τ'))
def fp_sheet (Rel : Nat → Mem → Mem → Prop) : Prop := ∀ (n : Nat) (σ τ : Mem) (a1 : Int32) (a2 : Int32) (a3 : Int32), Rel n σ τ → n < 512 → qX3_sheet a1 a2 a3 σ (fun r σ' => qX4_sheet a1 a2 a3 τ (fun r' τ' => r = r' ∧ Rel (n + 1) σ' τ'))
def fp_lay (Rel : Nat → Mem → Mem → Prop) : Prop := ∀ (n : Nat) (σ τ : Mem) (a1 : Int32) (a2 : Int32) (a3 : Int32), Rel n σ τ → n < 512 → qX3_lay a1 a2 a3 σ (fun r σ' => qX4_lay a1 a2 a3 τ (fun r' τ' => r = r' ∧ Rel (n + 1) σ' τ'))
def fp_read (Rel : Nat → Mem → Mem → Prop) : Prop := ∀ (n : Nat) (σ τ : Mem) (a1 : Int32) (a2 : Int32) (a3 : Int32) (a4 : Int32), Rel n σ τ → n < 512 → qX3_read a1 a2 a3 a4 σ (fun r σ' => qX4_read a1 a2 a3 a4 τ (fun r' τ' => r = r' ∧ Rel (n + 1) σ' τ'))
def fp_torn (Rel : Nat → Mem → Mem → Prop) : Prop := ∀ (n : Nat) (σ τ : Mem) , Rel n σ τ → n < 512 → qX3_torn  σ (fun r σ' => qX4_torn  τ (fun r' τ' => r = r' ∧ Rel (n + 1) σ' τ'))
def fp_count (Rel : Nat → Mem → Mem → Prop) : Prop := ∀ (n : Nat) (σ τ : Mem) (a1 : Int32), Rel n σ τ → n < 512 → qX3_count a1 σ (fun r σ' => qX4_count a1 τ (fun r' τ' => r = r' ∧ Rel (n + 1) σ' τ'))
def fl_P (Rel : Nat → Mem → Mem → Prop) : Prop := (∀ n σ τ, Rel n σ τ → Rel (n + 1) σ τ) ∧ fp_feed Rel ∧ fp_end Rel ∧ fp_text Rel ∧ fp_fault Rel ∧ fp_rule Rel ∧ fp_wheel Rel ∧ fp_act Rel ∧ fp_alter Rel ∧ fp_shaft Rel ∧ fp_put Rel ∧ fp_cut Rel ∧ fp_set Rel ∧ fp_add Rel ∧ fp_drop Rel ∧ fp_turn Rel ∧ fp_ticks Rel ∧ fp_runs Rel ∧ fp_ahead Rel ∧ fp_when Rel ∧ fp_again Rel ∧ fp_mass Rel ∧ fp_kind Rel ∧ fp_bears Rel ∧ fp_swap Rel ∧ fp_omit Rel ∧ fp_off Rel ∧ fp_luck Rel ∧ fp_mean Rel ∧ fp_see Rel ∧ fp_forget Rel ∧ fp_kinds Rel ∧ fp_losses Rel ∧ fp_ask Rel ∧ fp_drift Rel ∧ fp_keep Rel ∧ fp_back Rel ∧ fp_sheet Rel ∧ fp_lay Rel ∧ fp_read Rel ∧ fp_torn Rel ∧ fp_count Rel
theorem law_gt {x3 : Int32} {n L : Nat} (e : x3 = nI (5 * n)) (hL : L ≤ 2560) (hn : n ≤ 513) (h : L < 5 * n) : nI L - 5 < x3 := by
  have h1 : (nI L - nI 5).toInt = (L : Int) - (5 : Nat) := pk_sub_toInt (by omega) (by omega)
  rw [Int32.lt_iff_toInt_lt, show (5 : Int32) = nI 5 from rfl, h1, e, nI_toInt (by omega)]
  omega
theorem law_le {x3 : Int32} {n L : Nat} (e : x3 = nI (5 * n)) (hL : L ≤ 2560) (hn : n ≤ 513) (h : ¬ nI L - 5 < x3) : 5 * n + 5 ≤ L := by
  have h1 : (nI L - nI 5).toInt = (L : Int) - (5 : Nat) := pk_sub_toInt (by omega) (by omega)
  rw [Int32.lt_iff_toInt_lt, show (5 : Int32) = nI 5 from rfl, h1, e, nI_toInt (by omega)] at h
  omega
theorem law_in {x3 : Int32} {n L : Nat} (e : x3 = nI (5 * n)) (j : Nat) (h : 5 * n + j < L) (hL : L ≤ 2560) : vp_in (x3 + nI j) L := by
  rw [e, nI_add]
  exact vp_in_nI h (by omega)
theorem lg_cmp_self (x : Int64) : lg_cmp x x = 0 := by
  simp [lg_cmp]
set_option maxHeartbeats 4000000 in
set_option maxRecDepth 100000 in
theorem law_loop {X : Cx} {G1 G2 : Gw} {b L : Nat} {xs : Nat → Int32} (O : fl_Ok X G1 G2 b L xs) (hL : L ≤ 2560) {Rel : Nat → Mem → Mem → Prop} (HP : fl_P Rel) {Q : State → Prop} {cs sl : Nat} (hcs : cs + 0 ≤ room_1.cells ∧ sl + 0 ≤ room_1.slots) (hend : ∀ x3 σ τ, fl_At X G1 G2 Q cs sl 1443 [(0, .ref b), (1, .ref (gad G1 0)), (2, .ref (gad G2 0)), (3, .int x3)] [] σ τ) : ∀ (m n : Nat) (x3 : Int32) (σ τ : Mem), x3 = nI (5 * n) → L < 5 * (n + m) → n + m ≤ 513 → Rel n σ τ → fl_At X G1 G2 Q cs sl 18 [(0, .ref b), (1, .ref (gad G1 0)), (2, .ref (gad G2 0)), (3, .int x3)] [] σ τ := by
  intro m
  induction m with
  | zero =>
    intro n x3 σ τ e3 hm hnm hR
    refine fl_iload_n (pc := 18) O 3 dL_law_18 rfl rfl ?_
    refine fl_aload_n (pc := 19) O 0 dL_law_19 rfl rfl ?_
    refine fl_slen (pc := 20) O dL_law_20 ?_
    refine fl_iconst (pc := 21) O (v := (5 : Int32)) dL_law_21 (by decide) ?_
    refine fl_isub (pc := 22) O dL_law_22 ?_
    refine fl_icmp_gt (pc := 23) (tgt := 1443) O dL_law_23 (by decide) (fun c => hend x3 σ τ) (fun c => absurd ?_ c)
    exact law_gt e3 hL (by omega) (by omega)
  | succ m ih =>
    intro n x3 σ τ e3 hm hnm hR
    refine fl_iload_n (pc := 18) O 3 dL_law_18 rfl rfl ?_
    refine fl_aload_n (pc := 19) O 0 dL_law_19 rfl rfl ?_
    refine fl_slen (pc := 20) O dL_law_20 ?_
    refine fl_iconst (pc := 21) O (v := (5 : Int32)) dL_law_21 (by decide) ?_
    refine fl_isub (pc := 22) O dL_law_22 ?_
    refine fl_icmp_gt (pc := 23) (tgt := 1443) O dL_law_23 (by decide) (fun c => hend x3 σ τ) (fun c => ?_)
    have hi : 5 * n + 5 ≤ L := law_le e3 hL (by omega) c
    have hn : n < 512 := by omega
    have v0 : vp_in x3 L := by rw [e3]; exact vp_in_nI (by omega) (by omega)
    have v1 : vp_in (x3 + (1 : Int32)) L := law_in e3 1 (by omega) hL
    have v2 : vp_in (x3 + (2 : Int32)) L := law_in e3 2 (by omega) hL
    have v3 : vp_in (x3 + (3 : Int32)) L := law_in e3 3 (by omega) hL
    have v4 : vp_in (x3 + (4 : Int32)) L := law_in e3 4 (by omega) hL
    have kback : ∀ (σ τ : Mem), Rel (n + 1) σ τ → fl_At X G1 G2 Q cs sl 1437 [(0, .ref b), (1, .ref (gad G1 0)), (2, .ref (gad G2 0)), (3, .int x3)] [] σ τ := by
      intro σ τ hR
      refine fl_iinc (pc := 1437) O 3 [1, 2, 3, 0] (v := x3 + 5) (lv' := [(0, .ref b), (1, .ref (gad G1 0)), (2, .ref (gad G2 0)), (3, .int (x3 + 5))]) dL_law_1437 rfl rfl (by decide) rfl ?_
      refine fl_goto (pc := 1440) (tgt := 18) O dL_law_1440 (by decide) ?_
      exact ih (n + 1) (x3 + 5) σ τ (by rw [e3, show (5 : Int32) = nI 5 from rfl, nI_add]; rfl) (by omega) (by omega) hR
    refine fl_aload_n (pc := 26) O 0 dL_law_26 rfl rfl ?_
    refine fl_iload_n (pc := 27) O 3 dL_law_27 rfl rfl ?_
    refine fl_sld (pc := 28) O v0 dL_law_28 ?_
    refine fl_bipush (pc := 29) O (v := (63 : Int32)) dL_law_29 (by decide) ?_
    refine fl_iand (pc := 31) O dL_law_31 ?_
    refine fl_nm (fun z ez => ?_)
    by_cases e_0 : z = (0 : Int32)
    · refine fl_tabIn (pc := 32) (tgt := 212) (off := 180) O dL_law_32 (by rw [e_0]; decide) ?_
      refine fl_aload_n (pc := 212) O 1 dL_law_212 rfl rfl ?_
      refine fl_aload_n (pc := 213) O 0 dL_law_213 rfl rfl ?_
      refine fl_iload_n (pc := 214) O 3 dL_law_214 rfl rfl ?_
      refine fl_iconst (pc := 215) O (v := (1 : Int32)) dL_law_215 (by decide) ?_
      refine fl_iadd (pc := 216) O dL_law_216 ?_
      refine fl_sld (pc := 217) O v1 dL_law_217 ?_
      refine fl_call1I (pc := 218) (As := [.int (xs (x3 + (1 : Int32)).toNatClampNeg)]) (st := []) O hcs (tX3_feed X.2.1 O.2.1 (HP.2.1 n σ τ (xs (x3 + (1 : Int32)).toNatClampNeg) hR hn)) mt_X3_feed mv_X3_feed m_233 rfl rfl (by decide) rfl (Nat.le_of_ble_eq_true rfl) dL_law_218 (fun r1 σ1 h => ?_)
      refine fl_aload_n (pc := 221) O 2 dL_law_221 rfl rfl ?_
      refine fl_aload_n (pc := 222) O 0 dL_law_222 rfl rfl ?_
      refine fl_iload_n (pc := 223) O 3 dL_law_223 rfl rfl ?_
      refine fl_iconst (pc := 224) O (v := (1 : Int32)) dL_law_224 (by decide) ?_
      refine fl_iadd (pc := 225) O dL_law_225 ?_
      refine fl_sld (pc := 226) O v1 dL_law_226 ?_
      refine fl_call2I (pc := 227) (As := [.int (xs (x3 + (1 : Int32)).toNatClampNeg)]) (st := [.int r1]) O hcs (tX4_feed X.2.1 O.2.2.1 h) mt_X4_feed mv_X4_feed m_792 rfl rfl (by decide) rfl (Nat.le_of_ble_eq_true rfl) dL_law_227 (fun r2 τ1 h => ?_)
      exact fl_icmp_eq (pc := 230) (tgt := 1437) O dL_law_230 (by decide) (fun _ => kback σ1 τ1 h.2) (fun c => absurd h.1 c)
    by_cases e_1 : z = (1 : Int32)
    · refine fl_tabIn (pc := 32) (tgt := 235) (off := 203) O dL_law_32 (by rw [e_1]; decide) ?_
      refine fl_aload_n (pc := 235) O 1 dL_law_235 rfl rfl ?_
      refine fl_aload_n (pc := 236) O 0 dL_law_236 rfl rfl ?_
      refine fl_iload_n (pc := 237) O 3 dL_law_237 rfl rfl ?_
      refine fl_iconst (pc := 238) O (v := (1 : Int32)) dL_law_238 (by decide) ?_
      refine fl_iadd (pc := 239) O dL_law_239 ?_
      refine fl_sld (pc := 240) O v1 dL_law_240 ?_
      refine fl_call1I (pc := 241) (As := [.int (xs (x3 + (1 : Int32)).toNatClampNeg)]) (st := []) O hcs (tX3_end X.2.1 O.2.1 (HP.2.2.1 n σ τ (xs (x3 + (1 : Int32)).toNatClampNeg) hR hn)) mt_X3_end mv_X3_end m_244 rfl rfl (by decide) rfl (Nat.le_of_ble_eq_true rfl) dL_law_241 (fun r1 σ1 h => ?_)
      refine fl_aload_n (pc := 244) O 2 dL_law_244 rfl rfl ?_
      refine fl_aload_n (pc := 245) O 0 dL_law_245 rfl rfl ?_
      refine fl_iload_n (pc := 246) O 3 dL_law_246 rfl rfl ?_
      refine fl_iconst (pc := 247) O (v := (1 : Int32)) dL_law_247 (by decide) ?_
      refine fl_iadd (pc := 248) O dL_law_248 ?_
      refine fl_sld (pc := 249) O v1 dL_law_249 ?_
      refine fl_call2I (pc := 250) (As := [.int (xs (x3 + (1 : Int32)).toNatClampNeg)]) (st := [.int r1]) O hcs (tX4_end X.2.1 O.2.2.1 h) mt_X4_end mv_X4_end m_800 rfl rfl (by decide) rfl (Nat.le_of_ble_eq_true rfl) dL_law_250 (fun r2 τ1 h => ?_)
      exact fl_icmp_eq (pc := 253) (tgt := 1437) O dL_law_253 (by decide) (fun _ => kback σ1 τ1 h.2) (fun c => absurd h.1 c)
    by_cases e_2 : z = (2 : Int32)
    · refine fl_tabIn (pc := 32) (tgt := 258) (off := 226) O dL_law_32 (by rw [e_2]; decide) ?_
      refine fl_aload_n (pc := 258) O 1 dL_law_258 rfl rfl ?_
      refine fl_call1I (pc := 259) (As := []) (st := []) O hcs (tX3_text X.2.1 O.2.1 (HP.2.2.2.1 n σ τ  hR hn)) mt_X3_text mv_X3_text m_248 rfl rfl (by decide) rfl (Nat.le_of_ble_eq_true rfl) dL_law_259 (fun r1 σ1 h => ?_)
      refine fl_aload_n (pc := 262) O 2 dL_law_262 rfl rfl ?_
      refine fl_call2I (pc := 263) (As := []) (st := [.int r1]) O hcs (tX4_text X.2.1 O.2.2.1 h) mt_X4_text mv_X4_text m_804 rfl rfl (by decide) rfl (Nat.le_of_ble_eq_true rfl) dL_law_263 (fun r2 τ1 h => ?_)
      exact fl_icmp_eq (pc := 266) (tgt := 1437) O dL_law_266 (by decide) (fun _ => kback σ1 τ1 h.2) (fun c => absurd h.1 c)
    by_cases e_3 : z = (3 : Int32)
    · refine fl_tabIn (pc := 32) (tgt := 271) (off := 239) O dL_law_32 (by rw [e_3]; decide) ?_
      refine fl_aload_n (pc := 271) O 1 dL_law_271 rfl rfl ?_
      refine fl_call1I (pc := 272) (As := []) (st := []) O hcs (tX3_fault X.2.1 O.2.1 (HP.2.2.2.2.1 n σ τ  hR hn)) mt_X3_fault mv_X3_fault m_390 rfl rfl (by decide) rfl (Nat.le_of_ble_eq_true rfl) dL_law_272 (fun r1 σ1 h => ?_)
      refine fl_aload_n (pc := 275) O 2 dL_law_275 rfl rfl ?_
      refine fl_call2I (pc := 276) (As := []) (st := [.int r1]) O hcs (tX4_fault X.2.1 O.2.2.1 h) mt_X4_fault mv_X4_fault m_841 rfl rfl (by decide) rfl (Nat.le_of_ble_eq_true rfl) dL_law_276 (fun r2 τ1 h => ?_)
      exact fl_icmp_eq (pc := 279) (tgt := 1437) O dL_law_279 (by decide) (fun _ => kback σ1 τ1 h.2) (fun c => absurd h.1 c)
    by_cases e_4 : z = (4 : Int32)
    · refine fl_tabIn (pc := 32) (tgt := 284) (off := 252) O dL_law_32 (by rw [e_4]; decide) ?_
      refine fl_aload_n (pc := 284) O 1 dL_law_284 rfl rfl ?_
      refine fl_aload_n (pc := 285) O 0 dL_law_285 rfl rfl ?_
      refine fl_iload_n (pc := 286) O 3 dL_law_286 rfl rfl ?_
      refine fl_iconst (pc := 287) O (v := (1 : Int32)) dL_law_287 (by decide) ?_
      refine fl_iadd (pc := 288) O dL_law_288 ?_
      refine fl_sld (pc := 289) O v1 dL_law_289 ?_
      refine fl_call1I (pc := 290) (As := [.int (xs (x3 + (1 : Int32)).toNatClampNeg)]) (st := []) O hcs (tX3_rule X.2.1 O.2.1 (HP.2.2.2.2.2.1 n σ τ (xs (x3 + (1 : Int32)).toNatClampNeg) hR hn)) mt_X3_rule mv_X3_rule m_394 rfl rfl (by decide) rfl (Nat.le_of_ble_eq_true rfl) dL_law_290 (fun r1 σ1 h => ?_)
      refine fl_aload_n (pc := 293) O 2 dL_law_293 rfl rfl ?_
      refine fl_aload_n (pc := 294) O 0 dL_law_294 rfl rfl ?_
      refine fl_iload_n (pc := 295) O 3 dL_law_295 rfl rfl ?_
      refine fl_iconst (pc := 296) O (v := (1 : Int32)) dL_law_296 (by decide) ?_
      refine fl_iadd (pc := 297) O dL_law_297 ?_
      refine fl_sld (pc := 298) O v1 dL_law_298 ?_
      refine fl_call2I (pc := 299) (As := [.int (xs (x3 + (1 : Int32)).toNatClampNeg)]) (st := [.int r1]) O hcs (tX4_rule X.2.1 O.2.2.1 h) mt_X4_rule mv_X4_rule m_845 rfl rfl (by decide) rfl (Nat.le_of_ble_eq_true rfl) dL_law_299 (fun r2 τ1 h => ?_)
      exact fl_icmp_eq (pc := 302) (tgt := 1437) O dL_law_302 (by decide) (fun _ => kback σ1 τ1 h.2) (fun c => absurd h.1 c)
    by_cases e_5 : z = (5 : Int32)
    · refine fl_tabIn (pc := 32) (tgt := 307) (off := 275) O dL_law_32 (by rw [e_5]; decide) ?_
      refine fl_aload_n (pc := 307) O 1 dL_law_307 rfl rfl ?_
      refine fl_aload_n (pc := 308) O 0 dL_law_308 rfl rfl ?_
      refine fl_iload_n (pc := 309) O 3 dL_law_309 rfl rfl ?_
      refine fl_iconst (pc := 310) O (v := (1 : Int32)) dL_law_310 (by decide) ?_
      refine fl_iadd (pc := 311) O dL_law_311 ?_
      refine fl_sld (pc := 312) O v1 dL_law_312 ?_
      refine fl_aload_n (pc := 313) O 0 dL_law_313 rfl rfl ?_
      refine fl_iload_n (pc := 314) O 3 dL_law_314 rfl rfl ?_
      refine fl_iconst (pc := 315) O (v := (2 : Int32)) dL_law_315 (by decide) ?_
      refine fl_iadd (pc := 316) O dL_law_316 ?_
      refine fl_sld (pc := 317) O v2 dL_law_317 ?_
      refine fl_call1I (pc := 318) (As := [.int (xs (x3 + (1 : Int32)).toNatClampNeg), .int (xs (x3 + (2 : Int32)).toNatClampNeg)]) (st := []) O hcs (tX3_wheel X.2.1 O.2.1 (HP.2.2.2.2.2.2.1 n σ τ (xs (x3 + (1 : Int32)).toNatClampNeg) (xs (x3 + (2 : Int32)).toNatClampNeg) hR hn)) mt_X3_wheel mv_X3_wheel m_413 rfl rfl (by decide) rfl (Nat.le_of_ble_eq_true rfl) dL_law_318 (fun r1 σ1 h => ?_)
      refine fl_aload_n (pc := 321) O 2 dL_law_321 rfl rfl ?_
      refine fl_aload_n (pc := 322) O 0 dL_law_322 rfl rfl ?_
      refine fl_iload_n (pc := 323) O 3 dL_law_323 rfl rfl ?_
      refine fl_iconst (pc := 324) O (v := (1 : Int32)) dL_law_324 (by decide) ?_
      refine fl_iadd (pc := 325) O dL_law_325 ?_
      refine fl_sld (pc := 326) O v1 dL_law_326 ?_
      refine fl_aload_n (pc := 327) O 0 dL_law_327 rfl rfl ?_
      refine fl_iload_n (pc := 328) O 3 dL_law_328 rfl rfl ?_
      refine fl_iconst (pc := 329) O (v := (2 : Int32)) dL_law_329 (by decide) ?_
      refine fl_iadd (pc := 330) O dL_law_330 ?_
      refine fl_sld (pc := 331) O v2 dL_law_331 ?_
      refine fl_call2I (pc := 332) (As := [.int (xs (x3 + (1 : Int32)).toNatClampNeg), .int (xs (x3 + (2 : Int32)).toNatClampNeg)]) (st := [.int r1]) O hcs (tX4_wheel X.2.1 O.2.2.1 h) mt_X4_wheel mv_X4_wheel m_853 rfl rfl (by decide) rfl (Nat.le_of_ble_eq_true rfl) dL_law_332 (fun r2 τ1 h => ?_)
      exact fl_icmp_eq (pc := 335) (tgt := 1437) O dL_law_335 (by decide) (fun _ => kback σ1 τ1 h.2) (fun c => absurd h.1 c)
    by_cases e_6 : z = (6 : Int32)
    · refine fl_tabIn (pc := 32) (tgt := 340) (off := 308) O dL_law_32 (by rw [e_6]; decide) ?_
      refine fl_aload_n (pc := 340) O 1 dL_law_340 rfl rfl ?_
      refine fl_aload_n (pc := 341) O 0 dL_law_341 rfl rfl ?_
      refine fl_iload_n (pc := 342) O 3 dL_law_342 rfl rfl ?_
      refine fl_iconst (pc := 343) O (v := (1 : Int32)) dL_law_343 (by decide) ?_
      refine fl_iadd (pc := 344) O dL_law_344 ?_
      refine fl_sld (pc := 345) O v1 dL_law_345 ?_
      refine fl_call1I (pc := 346) (As := [.int (xs (x3 + (1 : Int32)).toNatClampNeg)]) (st := []) O hcs (tX3_act X.2.1 O.2.1 (HP.2.2.2.2.2.2.2.1 n σ τ (xs (x3 + (1 : Int32)).toNatClampNeg) hR hn)) mt_X3_act mv_X3_act m_432 rfl rfl (by decide) rfl (Nat.le_of_ble_eq_true rfl) dL_law_346 (fun r1 σ1 h => ?_)
      refine fl_aload_n (pc := 349) O 2 dL_law_349 rfl rfl ?_
      refine fl_aload_n (pc := 350) O 0 dL_law_350 rfl rfl ?_
      refine fl_iload_n (pc := 351) O 3 dL_law_351 rfl rfl ?_
      refine fl_iconst (pc := 352) O (v := (1 : Int32)) dL_law_352 (by decide) ?_
      refine fl_iadd (pc := 353) O dL_law_353 ?_
      refine fl_sld (pc := 354) O v1 dL_law_354 ?_
      refine fl_call2I (pc := 355) (As := [.int (xs (x3 + (1 : Int32)).toNatClampNeg)]) (st := [.int r1]) O hcs (tX4_act X.2.1 O.2.2.1 h) mt_X4_act mv_X4_act m_866 rfl rfl (by decide) rfl (Nat.le_of_ble_eq_true rfl) dL_law_355 (fun r2 τ1 h => ?_)
      exact fl_icmp_eq (pc := 358) (tgt := 1437) O dL_law_358 (by decide) (fun _ => kback σ1 τ1 h.2) (fun c => absurd h.1 c)
    by_cases e_7 : z = (7 : Int32)
    · refine fl_tabIn (pc := 32) (tgt := 363) (off := 331) O dL_law_32 (by rw [e_7]; decide) ?_
      refine fl_aload_n (pc := 363) O 1 dL_law_363 rfl rfl ?_
      refine fl_aload_n (pc := 364) O 0 dL_law_364 rfl rfl ?_
      refine fl_iload_n (pc := 365) O 3 dL_law_365 rfl rfl ?_
      refine fl_iconst (pc := 366) O (v := (1 : Int32)) dL_law_366 (by decide) ?_
      refine fl_iadd (pc := 367) O dL_law_367 ?_
      refine fl_sld (pc := 368) O v1 dL_law_368 ?_
      refine fl_aload_n (pc := 369) O 0 dL_law_369 rfl rfl ?_
      refine fl_iload_n (pc := 370) O 3 dL_law_370 rfl rfl ?_
      refine fl_iconst (pc := 371) O (v := (2 : Int32)) dL_law_371 (by decide) ?_
      refine fl_iadd (pc := 372) O dL_law_372 ?_
      refine fl_sld (pc := 373) O v2 dL_law_373 ?_
      refine fl_aload_n (pc := 374) O 0 dL_law_374 rfl rfl ?_
      refine fl_iload_n (pc := 375) O 3 dL_law_375 rfl rfl ?_
      refine fl_iconst (pc := 376) O (v := (3 : Int32)) dL_law_376 (by decide) ?_
      refine fl_iadd (pc := 377) O dL_law_377 ?_
      refine fl_sld (pc := 378) O v3 dL_law_378 ?_
      refine fl_call1I (pc := 379) (As := [.int (xs (x3 + (1 : Int32)).toNatClampNeg), .int (xs (x3 + (2 : Int32)).toNatClampNeg), .int (xs (x3 + (3 : Int32)).toNatClampNeg)]) (st := []) O hcs (tX3_alter X.2.1 O.2.1 (HP.2.2.2.2.2.2.2.2.1 n σ τ (xs (x3 + (1 : Int32)).toNatClampNeg) (xs (x3 + (2 : Int32)).toNatClampNeg) (xs (x3 + (3 : Int32)).toNatClampNeg) hR hn)) mt_X3_alter mv_X3_alter m_440 rfl rfl (by decide) rfl (Nat.le_of_ble_eq_true rfl) dL_law_379 (fun r1 σ1 h => ?_)
      refine fl_aload_n (pc := 382) O 2 dL_law_382 rfl rfl ?_
      refine fl_aload_n (pc := 383) O 0 dL_law_383 rfl rfl ?_
      refine fl_iload_n (pc := 384) O 3 dL_law_384 rfl rfl ?_
      refine fl_iconst (pc := 385) O (v := (1 : Int32)) dL_law_385 (by decide) ?_
      refine fl_iadd (pc := 386) O dL_law_386 ?_
      refine fl_sld (pc := 387) O v1 dL_law_387 ?_
      refine fl_aload_n (pc := 388) O 0 dL_law_388 rfl rfl ?_
      refine fl_iload_n (pc := 389) O 3 dL_law_389 rfl rfl ?_
      refine fl_iconst (pc := 390) O (v := (2 : Int32)) dL_law_390 (by decide) ?_
      refine fl_iadd (pc := 391) O dL_law_391 ?_
      refine fl_sld (pc := 392) O v2 dL_law_392 ?_
      refine fl_aload_n (pc := 393) O 0 dL_law_393 rfl rfl ?_
      refine fl_iload_n (pc := 394) O 3 dL_law_394 rfl rfl ?_
      refine fl_iconst (pc := 395) O (v := (3 : Int32)) dL_law_395 (by decide) ?_
      refine fl_iadd (pc := 396) O dL_law_396 ?_
      refine fl_sld (pc := 397) O v3 dL_law_397 ?_
      refine fl_call2I (pc := 398) (As := [.int (xs (x3 + (1 : Int32)).toNatClampNeg), .int (xs (x3 + (2 : Int32)).toNatClampNeg), .int (xs (x3 + (3 : Int32)).toNatClampNeg)]) (st := [.int r1]) O hcs (tX4_alter X.2.1 O.2.2.1 h) mt_X4_alter mv_X4_alter m_874 rfl rfl (by decide) rfl (Nat.le_of_ble_eq_true rfl) dL_law_398 (fun r2 τ1 h => ?_)
      exact fl_icmp_eq (pc := 401) (tgt := 1437) O dL_law_401 (by decide) (fun _ => kback σ1 τ1 h.2) (fun c => absurd h.1 c)
    by_cases e_8 : z = (8 : Int32)
    · refine fl_tabIn (pc := 32) (tgt := 406) (off := 374) O dL_law_32 (by rw [e_8]; decide) ?_
      refine fl_aload_n (pc := 406) O 1 dL_law_406 rfl rfl ?_
      refine fl_aload_n (pc := 407) O 0 dL_law_407 rfl rfl ?_
      refine fl_iload_n (pc := 408) O 3 dL_law_408 rfl rfl ?_
      refine fl_iconst (pc := 409) O (v := (1 : Int32)) dL_law_409 (by decide) ?_
      refine fl_iadd (pc := 410) O dL_law_410 ?_
      refine fl_sld (pc := 411) O v1 dL_law_411 ?_
      refine fl_call1I (pc := 412) (As := [.int (xs (x3 + (1 : Int32)).toNatClampNeg)]) (st := []) O hcs (tX3_shaft X.2.1 O.2.1 (HP.2.2.2.2.2.2.2.2.2.1 n σ τ (xs (x3 + (1 : Int32)).toNatClampNeg) hR hn)) mt_X3_shaft mv_X3_shaft m_447 rfl rfl (by decide) rfl (Nat.le_of_ble_eq_true rfl) dL_law_412 (fun r1 σ1 h => ?_)
      refine fl_aload_n (pc := 415) O 2 dL_law_415 rfl rfl ?_
      refine fl_aload_n (pc := 416) O 0 dL_law_416 rfl rfl ?_
      refine fl_iload_n (pc := 417) O 3 dL_law_417 rfl rfl ?_
      refine fl_iconst (pc := 418) O (v := (1 : Int32)) dL_law_418 (by decide) ?_
      refine fl_iadd (pc := 419) O dL_law_419 ?_
      refine fl_sld (pc := 420) O v1 dL_law_420 ?_
      refine fl_call2I (pc := 421) (As := [.int (xs (x3 + (1 : Int32)).toNatClampNeg)]) (st := [.int r1]) O hcs (tX4_shaft X.2.1 O.2.2.1 h) mt_X4_shaft mv_X4_shaft m_886 rfl rfl (by decide) rfl (Nat.le_of_ble_eq_true rfl) dL_law_421 (fun r2 τ1 h => ?_)
      exact fl_icmp_eq (pc := 424) (tgt := 1437) O dL_law_424 (by decide) (fun _ => kback σ1 τ1 h.2) (fun c => absurd h.1 c)
    by_cases e_9 : z = (9 : Int32)
    · refine fl_tabIn (pc := 32) (tgt := 429) (off := 397) O dL_law_32 (by rw [e_9]; decide) ?_
      refine fl_aload_n (pc := 429) O 1 dL_law_429 rfl rfl ?_
      refine fl_aload_n (pc := 430) O 0 dL_law_430 rfl rfl ?_
      refine fl_iload_n (pc := 431) O 3 dL_law_431 rfl rfl ?_
      refine fl_iconst (pc := 432) O (v := (1 : Int32)) dL_law_432 (by decide) ?_
      refine fl_iadd (pc := 433) O dL_law_433 ?_
      refine fl_sld (pc := 434) O v1 dL_law_434 ?_
      refine fl_aload_n (pc := 435) O 0 dL_law_435 rfl rfl ?_
      refine fl_iload_n (pc := 436) O 3 dL_law_436 rfl rfl ?_
      refine fl_iconst (pc := 437) O (v := (2 : Int32)) dL_law_437 (by decide) ?_
      refine fl_iadd (pc := 438) O dL_law_438 ?_
      refine fl_sld (pc := 439) O v2 dL_law_439 ?_
      refine fl_aload_n (pc := 440) O 0 dL_law_440 rfl rfl ?_
      refine fl_iload_n (pc := 441) O 3 dL_law_441 rfl rfl ?_
      refine fl_iconst (pc := 442) O (v := (3 : Int32)) dL_law_442 (by decide) ?_
      refine fl_iadd (pc := 443) O dL_law_443 ?_
      refine fl_sld (pc := 444) O v3 dL_law_444 ?_
      refine fl_call1I (pc := 445) (As := [.int (xs (x3 + (1 : Int32)).toNatClampNeg), .int (xs (x3 + (2 : Int32)).toNatClampNeg), .int (xs (x3 + (3 : Int32)).toNatClampNeg)]) (st := []) O hcs (tX3_put X.2.1 O.2.1 (HP.2.2.2.2.2.2.2.2.2.2.1 n σ τ (xs (x3 + (1 : Int32)).toNatClampNeg) (xs (x3 + (2 : Int32)).toNatClampNeg) (xs (x3 + (3 : Int32)).toNatClampNeg) hR hn)) mt_X3_put mv_X3_put m_451 rfl rfl (by decide) rfl (Nat.le_of_ble_eq_true rfl) dL_law_445 (fun r1 σ1 h => ?_)
      refine fl_aload_n (pc := 448) O 2 dL_law_448 rfl rfl ?_
      refine fl_aload_n (pc := 449) O 0 dL_law_449 rfl rfl ?_
      refine fl_iload_n (pc := 450) O 3 dL_law_450 rfl rfl ?_
      refine fl_iconst (pc := 451) O (v := (1 : Int32)) dL_law_451 (by decide) ?_
      refine fl_iadd (pc := 452) O dL_law_452 ?_
      refine fl_sld (pc := 453) O v1 dL_law_453 ?_
      refine fl_aload_n (pc := 454) O 0 dL_law_454 rfl rfl ?_
      refine fl_iload_n (pc := 455) O 3 dL_law_455 rfl rfl ?_
      refine fl_iconst (pc := 456) O (v := (2 : Int32)) dL_law_456 (by decide) ?_
      refine fl_iadd (pc := 457) O dL_law_457 ?_
      refine fl_sld (pc := 458) O v2 dL_law_458 ?_
      refine fl_aload_n (pc := 459) O 0 dL_law_459 rfl rfl ?_
      refine fl_iload_n (pc := 460) O 3 dL_law_460 rfl rfl ?_
      refine fl_iconst (pc := 461) O (v := (3 : Int32)) dL_law_461 (by decide) ?_
      refine fl_iadd (pc := 462) O dL_law_462 ?_
      refine fl_sld (pc := 463) O v3 dL_law_463 ?_
      refine fl_call2I (pc := 464) (As := [.int (xs (x3 + (1 : Int32)).toNatClampNeg), .int (xs (x3 + (2 : Int32)).toNatClampNeg), .int (xs (x3 + (3 : Int32)).toNatClampNeg)]) (st := [.int r1]) O hcs (tX4_put X.2.1 O.2.2.1 h) mt_X4_put mv_X4_put m_890 rfl rfl (by decide) rfl (Nat.le_of_ble_eq_true rfl) dL_law_464 (fun r2 τ1 h => ?_)
      exact fl_icmp_eq (pc := 467) (tgt := 1437) O dL_law_467 (by decide) (fun _ => kback σ1 τ1 h.2) (fun c => absurd h.1 c)
    by_cases e_10 : z = (10 : Int32)
    · refine fl_tabIn (pc := 32) (tgt := 472) (off := 440) O dL_law_32 (by rw [e_10]; decide) ?_
      refine fl_aload_n (pc := 472) O 1 dL_law_472 rfl rfl ?_
      refine fl_aload_n (pc := 473) O 0 dL_law_473 rfl rfl ?_
      refine fl_iload_n (pc := 474) O 3 dL_law_474 rfl rfl ?_
      refine fl_iconst (pc := 475) O (v := (1 : Int32)) dL_law_475 (by decide) ?_
      refine fl_iadd (pc := 476) O dL_law_476 ?_
      refine fl_sld (pc := 477) O v1 dL_law_477 ?_
      refine fl_call1I (pc := 478) (As := [.int (xs (x3 + (1 : Int32)).toNatClampNeg)]) (st := []) O hcs (tX3_cut X.2.1 O.2.1 (HP.2.2.2.2.2.2.2.2.2.2.2.1 n σ τ (xs (x3 + (1 : Int32)).toNatClampNeg) hR hn)) mt_X3_cut mv_X3_cut m_456 rfl rfl (by decide) rfl (Nat.le_of_ble_eq_true rfl) dL_law_478 (fun r1 σ1 h => ?_)
      refine fl_aload_n (pc := 481) O 2 dL_law_481 rfl rfl ?_
      refine fl_aload_n (pc := 482) O 0 dL_law_482 rfl rfl ?_
      refine fl_iload_n (pc := 483) O 3 dL_law_483 rfl rfl ?_
      refine fl_iconst (pc := 484) O (v := (1 : Int32)) dL_law_484 (by decide) ?_
      refine fl_iadd (pc := 485) O dL_law_485 ?_
      refine fl_sld (pc := 486) O v1 dL_law_486 ?_
      refine fl_call2I (pc := 487) (As := [.int (xs (x3 + (1 : Int32)).toNatClampNeg)]) (st := [.int r1]) O hcs (tX4_cut X.2.1 O.2.2.1 h) mt_X4_cut mv_X4_cut m_894 rfl rfl (by decide) rfl (Nat.le_of_ble_eq_true rfl) dL_law_487 (fun r2 τ1 h => ?_)
      exact fl_icmp_eq (pc := 490) (tgt := 1437) O dL_law_490 (by decide) (fun _ => kback σ1 τ1 h.2) (fun c => absurd h.1 c)
    by_cases e_11 : z = (11 : Int32)
    · refine fl_tabIn (pc := 32) (tgt := 495) (off := 463) O dL_law_32 (by rw [e_11]; decide) ?_
      refine fl_aload_n (pc := 495) O 1 dL_law_495 rfl rfl ?_
      refine fl_aload_n (pc := 496) O 0 dL_law_496 rfl rfl ?_
      refine fl_iload_n (pc := 497) O 3 dL_law_497 rfl rfl ?_
      refine fl_iconst (pc := 498) O (v := (1 : Int32)) dL_law_498 (by decide) ?_
      refine fl_iadd (pc := 499) O dL_law_499 ?_
      refine fl_sld (pc := 500) O v1 dL_law_500 ?_
      refine fl_aload_n (pc := 501) O 0 dL_law_501 rfl rfl ?_
      refine fl_iload_n (pc := 502) O 3 dL_law_502 rfl rfl ?_
      refine fl_iconst (pc := 503) O (v := (2 : Int32)) dL_law_503 (by decide) ?_
      refine fl_iadd (pc := 504) O dL_law_504 ?_
      refine fl_sld (pc := 505) O v2 dL_law_505 ?_
      refine fl_call1I (pc := 506) (As := [.int (xs (x3 + (1 : Int32)).toNatClampNeg), .int (xs (x3 + (2 : Int32)).toNatClampNeg)]) (st := []) O hcs (tX3_set X.2.1 O.2.1 (HP.2.2.2.2.2.2.2.2.2.2.2.2.1 n σ τ (xs (x3 + (1 : Int32)).toNatClampNeg) (xs (x3 + (2 : Int32)).toNatClampNeg) hR hn)) mt_X3_set mv_X3_set m_460 rfl rfl (by decide) rfl (Nat.le_of_ble_eq_true rfl) dL_law_506 (fun r1 σ1 h => ?_)
      refine fl_aload_n (pc := 509) O 2 dL_law_509 rfl rfl ?_
      refine fl_aload_n (pc := 510) O 0 dL_law_510 rfl rfl ?_
      refine fl_iload_n (pc := 511) O 3 dL_law_511 rfl rfl ?_
      refine fl_iconst (pc := 512) O (v := (1 : Int32)) dL_law_512 (by decide) ?_
      refine fl_iadd (pc := 513) O dL_law_513 ?_
      refine fl_sld (pc := 514) O v1 dL_law_514 ?_
      refine fl_aload_n (pc := 515) O 0 dL_law_515 rfl rfl ?_
      refine fl_iload_n (pc := 516) O 3 dL_law_516 rfl rfl ?_
      refine fl_iconst (pc := 517) O (v := (2 : Int32)) dL_law_517 (by decide) ?_
      refine fl_iadd (pc := 518) O dL_law_518 ?_
      refine fl_sld (pc := 519) O v2 dL_law_519 ?_
      refine fl_call2I (pc := 520) (As := [.int (xs (x3 + (1 : Int32)).toNatClampNeg), .int (xs (x3 + (2 : Int32)).toNatClampNeg)]) (st := [.int r1]) O hcs (tX4_set X.2.1 O.2.2.1 h) mt_X4_set mv_X4_set m_898 rfl rfl (by decide) rfl (Nat.le_of_ble_eq_true rfl) dL_law_520 (fun r2 τ1 h => ?_)
      exact fl_icmp_eq (pc := 523) (tgt := 1437) O dL_law_523 (by decide) (fun _ => kback σ1 τ1 h.2) (fun c => absurd h.1 c)
    by_cases e_12 : z = (12 : Int32)
    · refine fl_tabIn (pc := 32) (tgt := 528) (off := 496) O dL_law_32 (by rw [e_12]; decide) ?_
      refine fl_aload_n (pc := 528) O 1 dL_law_528 rfl rfl ?_
      refine fl_aload_n (pc := 529) O 0 dL_law_529 rfl rfl ?_
      refine fl_iload_n (pc := 530) O 3 dL_law_530 rfl rfl ?_
      refine fl_iconst (pc := 531) O (v := (1 : Int32)) dL_law_531 (by decide) ?_
      refine fl_iadd (pc := 532) O dL_law_532 ?_
      refine fl_sld (pc := 533) O v1 dL_law_533 ?_
      refine fl_call1I (pc := 534) (As := [.int (xs (x3 + (1 : Int32)).toNatClampNeg)]) (st := []) O hcs (tX3_add X.2.1 O.2.1 (HP.2.2.2.2.2.2.2.2.2.2.2.2.2.1 n σ τ (xs (x3 + (1 : Int32)).toNatClampNeg) hR hn)) mt_X3_add mv_X3_add m_464 rfl rfl (by decide) rfl (Nat.le_of_ble_eq_true rfl) dL_law_534 (fun r1 σ1 h => ?_)
      refine fl_aload_n (pc := 537) O 2 dL_law_537 rfl rfl ?_
      refine fl_aload_n (pc := 538) O 0 dL_law_538 rfl rfl ?_
      refine fl_iload_n (pc := 539) O 3 dL_law_539 rfl rfl ?_
      refine fl_iconst (pc := 540) O (v := (1 : Int32)) dL_law_540 (by decide) ?_
      refine fl_iadd (pc := 541) O dL_law_541 ?_
      refine fl_sld (pc := 542) O v1 dL_law_542 ?_
      refine fl_call2I (pc := 543) (As := [.int (xs (x3 + (1 : Int32)).toNatClampNeg)]) (st := [.int r1]) O hcs (tX4_add X.2.1 O.2.2.1 h) mt_X4_add mv_X4_add m_903 rfl rfl (by decide) rfl (Nat.le_of_ble_eq_true rfl) dL_law_543 (fun r2 τ1 h => ?_)
      exact fl_icmp_eq (pc := 546) (tgt := 1437) O dL_law_546 (by decide) (fun _ => kback σ1 τ1 h.2) (fun c => absurd h.1 c)
    by_cases e_13 : z = (13 : Int32)
    · refine fl_tabIn (pc := 32) (tgt := 551) (off := 519) O dL_law_32 (by rw [e_13]; decide) ?_
      refine fl_aload_n (pc := 551) O 1 dL_law_551 rfl rfl ?_
      refine fl_aload_n (pc := 552) O 0 dL_law_552 rfl rfl ?_
      refine fl_iload_n (pc := 553) O 3 dL_law_553 rfl rfl ?_
      refine fl_iconst (pc := 554) O (v := (1 : Int32)) dL_law_554 (by decide) ?_
      refine fl_iadd (pc := 555) O dL_law_555 ?_
      refine fl_sld (pc := 556) O v1 dL_law_556 ?_
      refine fl_call1I (pc := 557) (As := [.int (xs (x3 + (1 : Int32)).toNatClampNeg)]) (st := []) O hcs (tX3_drop X.2.1 O.2.1 (HP.2.2.2.2.2.2.2.2.2.2.2.2.2.2.1 n σ τ (xs (x3 + (1 : Int32)).toNatClampNeg) hR hn)) mt_X3_drop mv_X3_drop m_473 rfl rfl (by decide) rfl (Nat.le_of_ble_eq_true rfl) dL_law_557 (fun r1 σ1 h => ?_)
      refine fl_aload_n (pc := 560) O 2 dL_law_560 rfl rfl ?_
      refine fl_aload_n (pc := 561) O 0 dL_law_561 rfl rfl ?_
      refine fl_iload_n (pc := 562) O 3 dL_law_562 rfl rfl ?_
      refine fl_iconst (pc := 563) O (v := (1 : Int32)) dL_law_563 (by decide) ?_
      refine fl_iadd (pc := 564) O dL_law_564 ?_
      refine fl_sld (pc := 565) O v1 dL_law_565 ?_
      refine fl_call2I (pc := 566) (As := [.int (xs (x3 + (1 : Int32)).toNatClampNeg)]) (st := [.int r1]) O hcs (tX4_drop X.2.1 O.2.2.1 h) mt_X4_drop mv_X4_drop m_911 rfl rfl (by decide) rfl (Nat.le_of_ble_eq_true rfl) dL_law_566 (fun r2 τ1 h => ?_)
      exact fl_icmp_eq (pc := 569) (tgt := 1437) O dL_law_569 (by decide) (fun _ => kback σ1 τ1 h.2) (fun c => absurd h.1 c)
    by_cases e_14 : z = (14 : Int32)
    · refine fl_tabIn (pc := 32) (tgt := 574) (off := 542) O dL_law_32 (by rw [e_14]; decide) ?_
      refine fl_aload_n (pc := 574) O 1 dL_law_574 rfl rfl ?_
      refine fl_aload_n (pc := 575) O 0 dL_law_575 rfl rfl ?_
      refine fl_iload_n (pc := 576) O 3 dL_law_576 rfl rfl ?_
      refine fl_iconst (pc := 577) O (v := (1 : Int32)) dL_law_577 (by decide) ?_
      refine fl_iadd (pc := 578) O dL_law_578 ?_
      refine fl_sld (pc := 579) O v1 dL_law_579 ?_
      refine fl_call1I (pc := 580) (As := [.int (xs (x3 + (1 : Int32)).toNatClampNeg)]) (st := []) O hcs (tX3_turn X.2.1 O.2.1 (HP.2.2.2.2.2.2.2.2.2.2.2.2.2.2.2.1 n σ τ (xs (x3 + (1 : Int32)).toNatClampNeg) hR hn)) mt_X3_turn mv_X3_turn m_477 rfl rfl (by decide) rfl (Nat.le_of_ble_eq_true rfl) dL_law_580 (fun r1 σ1 h => ?_)
      refine fl_aload_n (pc := 583) O 2 dL_law_583 rfl rfl ?_
      refine fl_aload_n (pc := 584) O 0 dL_law_584 rfl rfl ?_
      refine fl_iload_n (pc := 585) O 3 dL_law_585 rfl rfl ?_
      refine fl_iconst (pc := 586) O (v := (1 : Int32)) dL_law_586 (by decide) ?_
      refine fl_iadd (pc := 587) O dL_law_587 ?_
      refine fl_sld (pc := 588) O v1 dL_law_588 ?_
      refine fl_call2I (pc := 589) (As := [.int (xs (x3 + (1 : Int32)).toNatClampNeg)]) (st := [.int r1]) O hcs (tX4_turn X.2.1 O.2.2.1 h) mt_X4_turn mv_X4_turn m_915 rfl rfl (by decide) rfl (Nat.le_of_ble_eq_true rfl) dL_law_589 (fun r2 τ1 h => ?_)
      exact fl_icmp_eq (pc := 592) (tgt := 1437) O dL_law_592 (by decide) (fun _ => kback σ1 τ1 h.2) (fun c => absurd h.1 c)
    by_cases e_15 : z = (15 : Int32)
    · refine fl_tabIn (pc := 32) (tgt := 597) (off := 565) O dL_law_32 (by rw [e_15]; decide) ?_
      refine fl_aload_n (pc := 597) O 1 dL_law_597 rfl rfl ?_
      refine fl_aload_n (pc := 598) O 0 dL_law_598 rfl rfl ?_
      refine fl_iload_n (pc := 599) O 3 dL_law_599 rfl rfl ?_
      refine fl_iconst (pc := 600) O (v := (1 : Int32)) dL_law_600 (by decide) ?_
      refine fl_iadd (pc := 601) O dL_law_601 ?_
      refine fl_sld (pc := 602) O v1 dL_law_602 ?_
      refine fl_call1I (pc := 603) (As := [.int (xs (x3 + (1 : Int32)).toNatClampNeg)]) (st := []) O hcs (tX3_ticks X.2.1 O.2.1 (HP.2.2.2.2.2.2.2.2.2.2.2.2.2.2.2.2.1 n σ τ (xs (x3 + (1 : Int32)).toNatClampNeg) hR hn)) mt_X3_ticks mv_X3_ticks m_495 rfl rfl (by decide) rfl (Nat.le_of_ble_eq_true rfl) dL_law_603 (fun r1 σ1 h => ?_)
      refine fl_aload_n (pc := 606) O 2 dL_law_606 rfl rfl ?_
      refine fl_aload_n (pc := 607) O 0 dL_law_607 rfl rfl ?_
      refine fl_iload_n (pc := 608) O 3 dL_law_608 rfl rfl ?_
      refine fl_iconst (pc := 609) O (v := (1 : Int32)) dL_law_609 (by decide) ?_
      refine fl_iadd (pc := 610) O dL_law_610 ?_
      refine fl_sld (pc := 611) O v1 dL_law_611 ?_
      refine fl_call2I (pc := 612) (As := [.int (xs (x3 + (1 : Int32)).toNatClampNeg)]) (st := [.int r1]) O hcs (tX4_ticks X.2.1 O.2.2.1 h) mt_X4_ticks mv_X4_ticks m_923 rfl rfl (by decide) rfl (Nat.le_of_ble_eq_true rfl) dL_law_612 (fun r2 τ1 h => ?_)
      exact fl_icmp_eq (pc := 615) (tgt := 1437) O dL_law_615 (by decide) (fun _ => kback σ1 τ1 h.2) (fun c => absurd h.1 c)
    by_cases e_16 : z = (16 : Int32)
    · refine fl_tabIn (pc := 32) (tgt := 620) (off := 588) O dL_law_32 (by rw [e_16]; decide) ?_
      refine fl_aload_n (pc := 620) O 1 dL_law_620 rfl rfl ?_
      refine fl_aload_n (pc := 621) O 0 dL_law_621 rfl rfl ?_
      refine fl_iload_n (pc := 622) O 3 dL_law_622 rfl rfl ?_
      refine fl_iconst (pc := 623) O (v := (1 : Int32)) dL_law_623 (by decide) ?_
      refine fl_iadd (pc := 624) O dL_law_624 ?_
      refine fl_sld (pc := 625) O v1 dL_law_625 ?_
      refine fl_aload_n (pc := 626) O 0 dL_law_626 rfl rfl ?_
      refine fl_iload_n (pc := 627) O 3 dL_law_627 rfl rfl ?_
      refine fl_iconst (pc := 628) O (v := (2 : Int32)) dL_law_628 (by decide) ?_
      refine fl_iadd (pc := 629) O dL_law_629 ?_
      refine fl_sld (pc := 630) O v2 dL_law_630 ?_
      refine fl_call1I (pc := 631) (As := [.int (xs (x3 + (1 : Int32)).toNatClampNeg), .int (xs (x3 + (2 : Int32)).toNatClampNeg)]) (st := []) O hcs (tX3_runs X.2.1 O.2.1 (HP.2.2.2.2.2.2.2.2.2.2.2.2.2.2.2.2.2.1 n σ τ (xs (x3 + (1 : Int32)).toNatClampNeg) (xs (x3 + (2 : Int32)).toNatClampNeg) hR hn)) mt_X3_runs mv_X3_runs m_509 rfl rfl (by decide) rfl (Nat.le_of_ble_eq_true rfl) dL_law_631 (fun r1 σ1 h => ?_)
      refine fl_aload_n (pc := 634) O 2 dL_law_634 rfl rfl ?_
      refine fl_aload_n (pc := 635) O 0 dL_law_635 rfl rfl ?_
      refine fl_iload_n (pc := 636) O 3 dL_law_636 rfl rfl ?_
      refine fl_iconst (pc := 637) O (v := (1 : Int32)) dL_law_637 (by decide) ?_
      refine fl_iadd (pc := 638) O dL_law_638 ?_
      refine fl_sld (pc := 639) O v1 dL_law_639 ?_
      refine fl_aload_n (pc := 640) O 0 dL_law_640 rfl rfl ?_
      refine fl_iload_n (pc := 641) O 3 dL_law_641 rfl rfl ?_
      refine fl_iconst (pc := 642) O (v := (2 : Int32)) dL_law_642 (by decide) ?_
      refine fl_iadd (pc := 643) O dL_law_643 ?_
      refine fl_sld (pc := 644) O v2 dL_law_644 ?_
      refine fl_call2I (pc := 645) (As := [.int (xs (x3 + (1 : Int32)).toNatClampNeg), .int (xs (x3 + (2 : Int32)).toNatClampNeg)]) (st := [.int r1]) O hcs (tX4_runs X.2.1 O.2.2.1 h) mt_X4_runs mv_X4_runs m_936 rfl rfl (by decide) rfl (Nat.le_of_ble_eq_true rfl) dL_law_645 (fun r2 τ1 h => ?_)
      exact fl_icmp_eq (pc := 648) (tgt := 1437) O dL_law_648 (by decide) (fun _ => kback σ1 τ1 h.2) (fun c => absurd h.1 c)
    by_cases e_17 : z = (17 : Int32)
    · refine fl_tabIn (pc := 32) (tgt := 653) (off := 621) O dL_law_32 (by rw [e_17]; decide) ?_
      refine fl_aload_n (pc := 653) O 1 dL_law_653 rfl rfl ?_
      refine fl_aload_n (pc := 654) O 0 dL_law_654 rfl rfl ?_
      refine fl_iload_n (pc := 655) O 3 dL_law_655 rfl rfl ?_
      refine fl_iconst (pc := 656) O (v := (1 : Int32)) dL_law_656 (by decide) ?_
      refine fl_iadd (pc := 657) O dL_law_657 ?_
      refine fl_sld (pc := 658) O v1 dL_law_658 ?_
      refine fl_aload_n (pc := 659) O 0 dL_law_659 rfl rfl ?_
      refine fl_iload_n (pc := 660) O 3 dL_law_660 rfl rfl ?_
      refine fl_iconst (pc := 661) O (v := (2 : Int32)) dL_law_661 (by decide) ?_
      refine fl_iadd (pc := 662) O dL_law_662 ?_
      refine fl_sld (pc := 663) O v2 dL_law_663 ?_
      refine fl_call1I (pc := 664) (As := [.int (xs (x3 + (1 : Int32)).toNatClampNeg), .int (xs (x3 + (2 : Int32)).toNatClampNeg)]) (st := []) O hcs (tX3_ahead X.2.1 O.2.1 (HP.2.2.2.2.2.2.2.2.2.2.2.2.2.2.2.2.2.2.1 n σ τ (xs (x3 + (1 : Int32)).toNatClampNeg) (xs (x3 + (2 : Int32)).toNatClampNeg) hR hn)) mt_X3_ahead mv_X3_ahead m_528 rfl rfl (by decide) rfl (Nat.le_of_ble_eq_true rfl) dL_law_664 (fun r1 σ1 h => ?_)
      refine fl_aload_n (pc := 667) O 2 dL_law_667 rfl rfl ?_
      refine fl_aload_n (pc := 668) O 0 dL_law_668 rfl rfl ?_
      refine fl_iload_n (pc := 669) O 3 dL_law_669 rfl rfl ?_
      refine fl_iconst (pc := 670) O (v := (1 : Int32)) dL_law_670 (by decide) ?_
      refine fl_iadd (pc := 671) O dL_law_671 ?_
      refine fl_sld (pc := 672) O v1 dL_law_672 ?_
      refine fl_aload_n (pc := 673) O 0 dL_law_673 rfl rfl ?_
      refine fl_iload_n (pc := 674) O 3 dL_law_674 rfl rfl ?_
      refine fl_iconst (pc := 675) O (v := (2 : Int32)) dL_law_675 (by decide) ?_
      refine fl_iadd (pc := 676) O dL_law_676 ?_
      refine fl_sld (pc := 677) O v2 dL_law_677 ?_
      refine fl_call2I (pc := 678) (As := [.int (xs (x3 + (1 : Int32)).toNatClampNeg), .int (xs (x3 + (2 : Int32)).toNatClampNeg)]) (st := [.int r1]) O hcs (tX4_ahead X.2.1 O.2.2.1 h) mt_X4_ahead mv_X4_ahead m_961 rfl rfl (by decide) rfl (Nat.le_of_ble_eq_true rfl) dL_law_678 (fun r2 τ1 h => ?_)
      exact fl_icmp_eq (pc := 681) (tgt := 1437) O dL_law_681 (by decide) (fun _ => kback σ1 τ1 h.2) (fun c => absurd h.1 c)
    by_cases e_18 : z = (18 : Int32)
    · refine fl_tabIn (pc := 32) (tgt := 686) (off := 654) O dL_law_32 (by rw [e_18]; decide) ?_
      refine fl_aload_n (pc := 686) O 1 dL_law_686 rfl rfl ?_
      refine fl_aload_n (pc := 687) O 0 dL_law_687 rfl rfl ?_
      refine fl_iload_n (pc := 688) O 3 dL_law_688 rfl rfl ?_
      refine fl_iconst (pc := 689) O (v := (1 : Int32)) dL_law_689 (by decide) ?_
      refine fl_iadd (pc := 690) O dL_law_690 ?_
      refine fl_sld (pc := 691) O v1 dL_law_691 ?_
      refine fl_call1I (pc := 692) (As := [.int (xs (x3 + (1 : Int32)).toNatClampNeg)]) (st := []) O hcs (tX3_when X.2.1 O.2.1 (HP.2.2.2.2.2.2.2.2.2.2.2.2.2.2.2.2.2.2.2.1 n σ τ (xs (x3 + (1 : Int32)).toNatClampNeg) hR hn)) mt_X3_when mv_X3_when m_532 rfl rfl (by decide) rfl (Nat.le_of_ble_eq_true rfl) dL_law_692 (fun r1 σ1 h => ?_)
      refine fl_aload_n (pc := 695) O 2 dL_law_695 rfl rfl ?_
      refine fl_aload_n (pc := 696) O 0 dL_law_696 rfl rfl ?_
      refine fl_iload_n (pc := 697) O 3 dL_law_697 rfl rfl ?_
      refine fl_iconst (pc := 698) O (v := (1 : Int32)) dL_law_698 (by decide) ?_
      refine fl_iadd (pc := 699) O dL_law_699 ?_
      refine fl_sld (pc := 700) O v1 dL_law_700 ?_
      refine fl_call2I (pc := 701) (As := [.int (xs (x3 + (1 : Int32)).toNatClampNeg)]) (st := [.int r1]) O hcs (tX4_when X.2.1 O.2.2.1 h) mt_X4_when mv_X4_when m_965 rfl rfl (by decide) rfl (Nat.le_of_ble_eq_true rfl) dL_law_701 (fun r2 τ1 h => ?_)
      exact fl_icmp_eq (pc := 704) (tgt := 1437) O dL_law_704 (by decide) (fun _ => kback σ1 τ1 h.2) (fun c => absurd h.1 c)
    by_cases e_19 : z = (19 : Int32)
    · refine fl_tabIn (pc := 32) (tgt := 709) (off := 677) O dL_law_32 (by rw [e_19]; decide) ?_
      refine fl_aload_n (pc := 709) O 1 dL_law_709 rfl rfl ?_
      refine fl_call1I (pc := 710) (As := []) (st := []) O hcs (tX3_again X.2.1 O.2.1 (HP.2.2.2.2.2.2.2.2.2.2.2.2.2.2.2.2.2.2.2.2.1 n σ τ  hR hn)) mt_X3_again mv_X3_again m_536 rfl rfl (by decide) rfl (Nat.le_of_ble_eq_true rfl) dL_law_710 (fun r1 σ1 h => ?_)
      refine fl_aload_n (pc := 713) O 2 dL_law_713 rfl rfl ?_
      refine fl_call2I (pc := 714) (As := []) (st := [.int r1]) O hcs (tX4_again X.2.1 O.2.2.1 h) mt_X4_again mv_X4_again m_969 rfl rfl (by decide) rfl (Nat.le_of_ble_eq_true rfl) dL_law_714 (fun r2 τ1 h => ?_)
      exact fl_icmp_eq (pc := 717) (tgt := 1437) O dL_law_717 (by decide) (fun _ => kback σ1 τ1 h.2) (fun c => absurd h.1 c)
    by_cases e_20 : z = (20 : Int32)
    · refine fl_tabIn (pc := 32) (tgt := 722) (off := 690) O dL_law_32 (by rw [e_20]; decide) ?_
      refine fl_aload_n (pc := 722) O 1 dL_law_722 rfl rfl ?_
      refine fl_aload_n (pc := 723) O 0 dL_law_723 rfl rfl ?_
      refine fl_iload_n (pc := 724) O 3 dL_law_724 rfl rfl ?_
      refine fl_iconst (pc := 725) O (v := (1 : Int32)) dL_law_725 (by decide) ?_
      refine fl_iadd (pc := 726) O dL_law_726 ?_
      refine fl_sld (pc := 727) O v1 dL_law_727 ?_
      refine fl_aload_n (pc := 728) O 0 dL_law_728 rfl rfl ?_
      refine fl_iload_n (pc := 729) O 3 dL_law_729 rfl rfl ?_
      refine fl_iconst (pc := 730) O (v := (2 : Int32)) dL_law_730 (by decide) ?_
      refine fl_iadd (pc := 731) O dL_law_731 ?_
      refine fl_sld (pc := 732) O v2 dL_law_732 ?_
      refine fl_aload_n (pc := 733) O 0 dL_law_733 rfl rfl ?_
      refine fl_iload_n (pc := 734) O 3 dL_law_734 rfl rfl ?_
      refine fl_iconst (pc := 735) O (v := (3 : Int32)) dL_law_735 (by decide) ?_
      refine fl_iadd (pc := 736) O dL_law_736 ?_
      refine fl_sld (pc := 737) O v3 dL_law_737 ?_
      refine fl_call1I (pc := 738) (As := [.int (xs (x3 + (1 : Int32)).toNatClampNeg), .int (xs (x3 + (2 : Int32)).toNatClampNeg), .int (xs (x3 + (3 : Int32)).toNatClampNeg)]) (st := []) O hcs (tX3_mass X.2.1 O.2.1 (HP.2.2.2.2.2.2.2.2.2.2.2.2.2.2.2.2.2.2.2.2.2.1 n σ τ (xs (x3 + (1 : Int32)).toNatClampNeg) (xs (x3 + (2 : Int32)).toNatClampNeg) (xs (x3 + (3 : Int32)).toNatClampNeg) hR hn)) mt_X3_mass mv_X3_mass m_545 rfl rfl (by decide) rfl (Nat.le_of_ble_eq_true rfl) dL_law_738 (fun r1 σ1 h => ?_)
      refine fl_aload_n (pc := 741) O 2 dL_law_741 rfl rfl ?_
      refine fl_aload_n (pc := 742) O 0 dL_law_742 rfl rfl ?_
      refine fl_iload_n (pc := 743) O 3 dL_law_743 rfl rfl ?_
      refine fl_iconst (pc := 744) O (v := (1 : Int32)) dL_law_744 (by decide) ?_
      refine fl_iadd (pc := 745) O dL_law_745 ?_
      refine fl_sld (pc := 746) O v1 dL_law_746 ?_
      refine fl_aload_n (pc := 747) O 0 dL_law_747 rfl rfl ?_
      refine fl_iload_n (pc := 748) O 3 dL_law_748 rfl rfl ?_
      refine fl_iconst (pc := 749) O (v := (2 : Int32)) dL_law_749 (by decide) ?_
      refine fl_iadd (pc := 750) O dL_law_750 ?_
      refine fl_sld (pc := 751) O v2 dL_law_751 ?_
      refine fl_aload_n (pc := 752) O 0 dL_law_752 rfl rfl ?_
      refine fl_iload_n (pc := 753) O 3 dL_law_753 rfl rfl ?_
      refine fl_iconst (pc := 754) O (v := (3 : Int32)) dL_law_754 (by decide) ?_
      refine fl_iadd (pc := 755) O dL_law_755 ?_
      refine fl_sld (pc := 756) O v3 dL_law_756 ?_
      refine fl_call2I (pc := 757) (As := [.int (xs (x3 + (1 : Int32)).toNatClampNeg), .int (xs (x3 + (2 : Int32)).toNatClampNeg), .int (xs (x3 + (3 : Int32)).toNatClampNeg)]) (st := [.int r1]) O hcs (tX4_mass X.2.1 O.2.2.1 h) mt_X4_mass mv_X4_mass m_973 rfl rfl (by decide) rfl (Nat.le_of_ble_eq_true rfl) dL_law_757 (fun r2 τ1 h => ?_)
      exact fl_icmp_eq (pc := 760) (tgt := 1437) O dL_law_760 (by decide) (fun _ => kback σ1 τ1 h.2) (fun c => absurd h.1 c)
    by_cases e_21 : z = (21 : Int32)
    · refine fl_tabIn (pc := 32) (tgt := 765) (off := 733) O dL_law_32 (by rw [e_21]; decide) ?_
      refine fl_aload_n (pc := 765) O 1 dL_law_765 rfl rfl ?_
      refine fl_aload_n (pc := 766) O 0 dL_law_766 rfl rfl ?_
      refine fl_iload_n (pc := 767) O 3 dL_law_767 rfl rfl ?_
      refine fl_iconst (pc := 768) O (v := (1 : Int32)) dL_law_768 (by decide) ?_
      refine fl_iadd (pc := 769) O dL_law_769 ?_
      refine fl_sld (pc := 770) O v1 dL_law_770 ?_
      refine fl_aload_n (pc := 771) O 0 dL_law_771 rfl rfl ?_
      refine fl_iload_n (pc := 772) O 3 dL_law_772 rfl rfl ?_
      refine fl_iconst (pc := 773) O (v := (2 : Int32)) dL_law_773 (by decide) ?_
      refine fl_iadd (pc := 774) O dL_law_774 ?_
      refine fl_sld (pc := 775) O v2 dL_law_775 ?_
      refine fl_aload_n (pc := 776) O 0 dL_law_776 rfl rfl ?_
      refine fl_iload_n (pc := 777) O 3 dL_law_777 rfl rfl ?_
      refine fl_iconst (pc := 778) O (v := (3 : Int32)) dL_law_778 (by decide) ?_
      refine fl_iadd (pc := 779) O dL_law_779 ?_
      refine fl_sld (pc := 780) O v3 dL_law_780 ?_
      refine fl_call1I (pc := 781) (As := [.int (xs (x3 + (1 : Int32)).toNatClampNeg), .int (xs (x3 + (2 : Int32)).toNatClampNeg), .int (xs (x3 + (3 : Int32)).toNatClampNeg)]) (st := []) O hcs (tX3_kind X.2.1 O.2.1 (HP.2.2.2.2.2.2.2.2.2.2.2.2.2.2.2.2.2.2.2.2.2.2.1 n σ τ (xs (x3 + (1 : Int32)).toNatClampNeg) (xs (x3 + (2 : Int32)).toNatClampNeg) (xs (x3 + (3 : Int32)).toNatClampNeg) hR hn)) mt_X3_kind mv_X3_kind m_552 rfl rfl (by decide) rfl (Nat.le_of_ble_eq_true rfl) dL_law_781 (fun r1 σ1 h => ?_)
      refine fl_aload_n (pc := 784) O 2 dL_law_784 rfl rfl ?_
      refine fl_aload_n (pc := 785) O 0 dL_law_785 rfl rfl ?_
      refine fl_iload_n (pc := 786) O 3 dL_law_786 rfl rfl ?_
      refine fl_iconst (pc := 787) O (v := (1 : Int32)) dL_law_787 (by decide) ?_
      refine fl_iadd (pc := 788) O dL_law_788 ?_
      refine fl_sld (pc := 789) O v1 dL_law_789 ?_
      refine fl_aload_n (pc := 790) O 0 dL_law_790 rfl rfl ?_
      refine fl_iload_n (pc := 791) O 3 dL_law_791 rfl rfl ?_
      refine fl_iconst (pc := 792) O (v := (2 : Int32)) dL_law_792 (by decide) ?_
      refine fl_iadd (pc := 793) O dL_law_793 ?_
      refine fl_sld (pc := 794) O v2 dL_law_794 ?_
      refine fl_aload_n (pc := 795) O 0 dL_law_795 rfl rfl ?_
      refine fl_iload_n (pc := 796) O 3 dL_law_796 rfl rfl ?_
      refine fl_iconst (pc := 797) O (v := (3 : Int32)) dL_law_797 (by decide) ?_
      refine fl_iadd (pc := 798) O dL_law_798 ?_
      refine fl_sld (pc := 799) O v3 dL_law_799 ?_
      refine fl_call2I (pc := 800) (As := [.int (xs (x3 + (1 : Int32)).toNatClampNeg), .int (xs (x3 + (2 : Int32)).toNatClampNeg), .int (xs (x3 + (3 : Int32)).toNatClampNeg)]) (st := [.int r1]) O hcs (tX4_kind X.2.1 O.2.2.1 h) mt_X4_kind mv_X4_kind m_981 rfl rfl (by decide) rfl (Nat.le_of_ble_eq_true rfl) dL_law_800 (fun r2 τ1 h => ?_)
      exact fl_icmp_eq (pc := 803) (tgt := 1437) O dL_law_803 (by decide) (fun _ => kback σ1 τ1 h.2) (fun c => absurd h.1 c)
    by_cases e_22 : z = (22 : Int32)
    · refine fl_tabIn (pc := 32) (tgt := 808) (off := 776) O dL_law_32 (by rw [e_22]; decide) ?_
      refine fl_aload_n (pc := 808) O 1 dL_law_808 rfl rfl ?_
      refine fl_aload_n (pc := 809) O 0 dL_law_809 rfl rfl ?_
      refine fl_iload_n (pc := 810) O 3 dL_law_810 rfl rfl ?_
      refine fl_iconst (pc := 811) O (v := (1 : Int32)) dL_law_811 (by decide) ?_
      refine fl_iadd (pc := 812) O dL_law_812 ?_
      refine fl_sld (pc := 813) O v1 dL_law_813 ?_
      refine fl_aload_n (pc := 814) O 0 dL_law_814 rfl rfl ?_
      refine fl_iload_n (pc := 815) O 3 dL_law_815 rfl rfl ?_
      refine fl_iconst (pc := 816) O (v := (2 : Int32)) dL_law_816 (by decide) ?_
      refine fl_iadd (pc := 817) O dL_law_817 ?_
      refine fl_sld (pc := 818) O v2 dL_law_818 ?_
      refine fl_call1I (pc := 819) (As := [.int (xs (x3 + (1 : Int32)).toNatClampNeg), .int (xs (x3 + (2 : Int32)).toNatClampNeg)]) (st := []) O hcs (tX3_bears X.2.1 O.2.1 (HP.2.2.2.2.2.2.2.2.2.2.2.2.2.2.2.2.2.2.2.2.2.2.2.1 n σ τ (xs (x3 + (1 : Int32)).toNatClampNeg) (xs (x3 + (2 : Int32)).toNatClampNeg) hR hn)) mt_X3_bears mv_X3_bears m_556 rfl rfl (by decide) rfl (Nat.le_of_ble_eq_true rfl) dL_law_819 (fun r1 σ1 h => ?_)
      refine fl_aload_n (pc := 822) O 2 dL_law_822 rfl rfl ?_
      refine fl_aload_n (pc := 823) O 0 dL_law_823 rfl rfl ?_
      refine fl_iload_n (pc := 824) O 3 dL_law_824 rfl rfl ?_
      refine fl_iconst (pc := 825) O (v := (1 : Int32)) dL_law_825 (by decide) ?_
      refine fl_iadd (pc := 826) O dL_law_826 ?_
      refine fl_sld (pc := 827) O v1 dL_law_827 ?_
      refine fl_aload_n (pc := 828) O 0 dL_law_828 rfl rfl ?_
      refine fl_iload_n (pc := 829) O 3 dL_law_829 rfl rfl ?_
      refine fl_iconst (pc := 830) O (v := (2 : Int32)) dL_law_830 (by decide) ?_
      refine fl_iadd (pc := 831) O dL_law_831 ?_
      refine fl_sld (pc := 832) O v2 dL_law_832 ?_
      refine fl_call2I (pc := 833) (As := [.int (xs (x3 + (1 : Int32)).toNatClampNeg), .int (xs (x3 + (2 : Int32)).toNatClampNeg)]) (st := [.int r1]) O hcs (tX4_bears X.2.1 O.2.2.1 h) mt_X4_bears mv_X4_bears m_985 rfl rfl (by decide) rfl (Nat.le_of_ble_eq_true rfl) dL_law_833 (fun r2 τ1 h => ?_)
      exact fl_icmp_eq (pc := 836) (tgt := 1437) O dL_law_836 (by decide) (fun _ => kback σ1 τ1 h.2) (fun c => absurd h.1 c)
    by_cases e_23 : z = (23 : Int32)
    · refine fl_tabIn (pc := 32) (tgt := 841) (off := 809) O dL_law_32 (by rw [e_23]; decide) ?_
      refine fl_aload_n (pc := 841) O 1 dL_law_841 rfl rfl ?_
      refine fl_aload_n (pc := 842) O 0 dL_law_842 rfl rfl ?_
      refine fl_iload_n (pc := 843) O 3 dL_law_843 rfl rfl ?_
      refine fl_iconst (pc := 844) O (v := (1 : Int32)) dL_law_844 (by decide) ?_
      refine fl_iadd (pc := 845) O dL_law_845 ?_
      refine fl_sld (pc := 846) O v1 dL_law_846 ?_
      refine fl_aload_n (pc := 847) O 0 dL_law_847 rfl rfl ?_
      refine fl_iload_n (pc := 848) O 3 dL_law_848 rfl rfl ?_
      refine fl_iconst (pc := 849) O (v := (2 : Int32)) dL_law_849 (by decide) ?_
      refine fl_iadd (pc := 850) O dL_law_850 ?_
      refine fl_sld (pc := 851) O v2 dL_law_851 ?_
      refine fl_call1I (pc := 852) (As := [.int (xs (x3 + (1 : Int32)).toNatClampNeg), .int (xs (x3 + (2 : Int32)).toNatClampNeg)]) (st := []) O hcs (tX3_swap X.2.1 O.2.1 (HP.2.2.2.2.2.2.2.2.2.2.2.2.2.2.2.2.2.2.2.2.2.2.2.2.1 n σ τ (xs (x3 + (1 : Int32)).toNatClampNeg) (xs (x3 + (2 : Int32)).toNatClampNeg) hR hn)) mt_X3_swap mv_X3_swap m_560 rfl rfl (by decide) rfl (Nat.le_of_ble_eq_true rfl) dL_law_852 (fun r1 σ1 h => ?_)
      refine fl_aload_n (pc := 855) O 2 dL_law_855 rfl rfl ?_
      refine fl_aload_n (pc := 856) O 0 dL_law_856 rfl rfl ?_
      refine fl_iload_n (pc := 857) O 3 dL_law_857 rfl rfl ?_
      refine fl_iconst (pc := 858) O (v := (1 : Int32)) dL_law_858 (by decide) ?_
      refine fl_iadd (pc := 859) O dL_law_859 ?_
      refine fl_sld (pc := 860) O v1 dL_law_860 ?_
      refine fl_aload_n (pc := 861) O 0 dL_law_861 rfl rfl ?_
      refine fl_iload_n (pc := 862) O 3 dL_law_862 rfl rfl ?_
      refine fl_iconst (pc := 863) O (v := (2 : Int32)) dL_law_863 (by decide) ?_
      refine fl_iadd (pc := 864) O dL_law_864 ?_
      refine fl_sld (pc := 865) O v2 dL_law_865 ?_
      refine fl_call2I (pc := 866) (As := [.int (xs (x3 + (1 : Int32)).toNatClampNeg), .int (xs (x3 + (2 : Int32)).toNatClampNeg)]) (st := [.int r1]) O hcs (tX4_swap X.2.1 O.2.2.1 h) mt_X4_swap mv_X4_swap m_989 rfl rfl (by decide) rfl (Nat.le_of_ble_eq_true rfl) dL_law_866 (fun r2 τ1 h => ?_)
      exact fl_icmp_eq (pc := 869) (tgt := 1437) O dL_law_869 (by decide) (fun _ => kback σ1 τ1 h.2) (fun c => absurd h.1 c)
    by_cases e_24 : z = (24 : Int32)
    · refine fl_tabIn (pc := 32) (tgt := 874) (off := 842) O dL_law_32 (by rw [e_24]; decide) ?_
      refine fl_aload_n (pc := 874) O 1 dL_law_874 rfl rfl ?_
      refine fl_aload_n (pc := 875) O 0 dL_law_875 rfl rfl ?_
      refine fl_iload_n (pc := 876) O 3 dL_law_876 rfl rfl ?_
      refine fl_iconst (pc := 877) O (v := (1 : Int32)) dL_law_877 (by decide) ?_
      refine fl_iadd (pc := 878) O dL_law_878 ?_
      refine fl_sld (pc := 879) O v1 dL_law_879 ?_
      refine fl_aload_n (pc := 880) O 0 dL_law_880 rfl rfl ?_
      refine fl_iload_n (pc := 881) O 3 dL_law_881 rfl rfl ?_
      refine fl_iconst (pc := 882) O (v := (2 : Int32)) dL_law_882 (by decide) ?_
      refine fl_iadd (pc := 883) O dL_law_883 ?_
      refine fl_sld (pc := 884) O v2 dL_law_884 ?_
      refine fl_call1I (pc := 885) (As := [.int (xs (x3 + (1 : Int32)).toNatClampNeg), .int (xs (x3 + (2 : Int32)).toNatClampNeg)]) (st := []) O hcs (tX3_omit X.2.1 O.2.1 (HP.2.2.2.2.2.2.2.2.2.2.2.2.2.2.2.2.2.2.2.2.2.2.2.2.2.1 n σ τ (xs (x3 + (1 : Int32)).toNatClampNeg) (xs (x3 + (2 : Int32)).toNatClampNeg) hR hn)) mt_X3_omit mv_X3_omit m_572 rfl rfl (by decide) rfl (Nat.le_of_ble_eq_true rfl) dL_law_885 (fun r1 σ1 h => ?_)
      refine fl_aload_n (pc := 888) O 2 dL_law_888 rfl rfl ?_
      refine fl_aload_n (pc := 889) O 0 dL_law_889 rfl rfl ?_
      refine fl_iload_n (pc := 890) O 3 dL_law_890 rfl rfl ?_
      refine fl_iconst (pc := 891) O (v := (1 : Int32)) dL_law_891 (by decide) ?_
      refine fl_iadd (pc := 892) O dL_law_892 ?_
      refine fl_sld (pc := 893) O v1 dL_law_893 ?_
      refine fl_aload_n (pc := 894) O 0 dL_law_894 rfl rfl ?_
      refine fl_iload_n (pc := 895) O 3 dL_law_895 rfl rfl ?_
      refine fl_iconst (pc := 896) O (v := (2 : Int32)) dL_law_896 (by decide) ?_
      refine fl_iadd (pc := 897) O dL_law_897 ?_
      refine fl_sld (pc := 898) O v2 dL_law_898 ?_
      refine fl_call2I (pc := 899) (As := [.int (xs (x3 + (1 : Int32)).toNatClampNeg), .int (xs (x3 + (2 : Int32)).toNatClampNeg)]) (st := [.int r1]) O hcs (tX4_omit X.2.1 O.2.2.1 h) mt_X4_omit mv_X4_omit m_993 rfl rfl (by decide) rfl (Nat.le_of_ble_eq_true rfl) dL_law_899 (fun r2 τ1 h => ?_)
      exact fl_icmp_eq (pc := 902) (tgt := 1437) O dL_law_902 (by decide) (fun _ => kback σ1 τ1 h.2) (fun c => absurd h.1 c)
    by_cases e_25 : z = (25 : Int32)
    · refine fl_tabIn (pc := 32) (tgt := 907) (off := 875) O dL_law_32 (by rw [e_25]; decide) ?_
      refine fl_aload_n (pc := 907) O 1 dL_law_907 rfl rfl ?_
      refine fl_aload_n (pc := 908) O 0 dL_law_908 rfl rfl ?_
      refine fl_iload_n (pc := 909) O 3 dL_law_909 rfl rfl ?_
      refine fl_iconst (pc := 910) O (v := (1 : Int32)) dL_law_910 (by decide) ?_
      refine fl_iadd (pc := 911) O dL_law_911 ?_
      refine fl_sld (pc := 912) O v1 dL_law_912 ?_
      refine fl_aload_n (pc := 913) O 0 dL_law_913 rfl rfl ?_
      refine fl_iload_n (pc := 914) O 3 dL_law_914 rfl rfl ?_
      refine fl_iconst (pc := 915) O (v := (2 : Int32)) dL_law_915 (by decide) ?_
      refine fl_iadd (pc := 916) O dL_law_916 ?_
      refine fl_sld (pc := 917) O v2 dL_law_917 ?_
      refine fl_call1I (pc := 918) (As := [.int (xs (x3 + (1 : Int32)).toNatClampNeg), .int (xs (x3 + (2 : Int32)).toNatClampNeg)]) (st := []) O hcs (tX3_off X.2.1 O.2.1 (HP.2.2.2.2.2.2.2.2.2.2.2.2.2.2.2.2.2.2.2.2.2.2.2.2.2.2.1 n σ τ (xs (x3 + (1 : Int32)).toNatClampNeg) (xs (x3 + (2 : Int32)).toNatClampNeg) hR hn)) mt_X3_off mv_X3_off m_576 rfl rfl (by decide) rfl (Nat.le_of_ble_eq_true rfl) dL_law_918 (fun r1 σ1 h => ?_)
      refine fl_aload_n (pc := 921) O 2 dL_law_921 rfl rfl ?_
      refine fl_aload_n (pc := 922) O 0 dL_law_922 rfl rfl ?_
      refine fl_iload_n (pc := 923) O 3 dL_law_923 rfl rfl ?_
      refine fl_iconst (pc := 924) O (v := (1 : Int32)) dL_law_924 (by decide) ?_
      refine fl_iadd (pc := 925) O dL_law_925 ?_
      refine fl_sld (pc := 926) O v1 dL_law_926 ?_
      refine fl_aload_n (pc := 927) O 0 dL_law_927 rfl rfl ?_
      refine fl_iload_n (pc := 928) O 3 dL_law_928 rfl rfl ?_
      refine fl_iconst (pc := 929) O (v := (2 : Int32)) dL_law_929 (by decide) ?_
      refine fl_iadd (pc := 930) O dL_law_930 ?_
      refine fl_sld (pc := 931) O v2 dL_law_931 ?_
      refine fl_call2I (pc := 932) (As := [.int (xs (x3 + (1 : Int32)).toNatClampNeg), .int (xs (x3 + (2 : Int32)).toNatClampNeg)]) (st := [.int r1]) O hcs (tX4_off X.2.1 O.2.2.1 h) mt_X4_off mv_X4_off m_997 rfl rfl (by decide) rfl (Nat.le_of_ble_eq_true rfl) dL_law_932 (fun r2 τ1 h => ?_)
      exact fl_icmp_eq (pc := 935) (tgt := 1437) O dL_law_935 (by decide) (fun _ => kback σ1 τ1 h.2) (fun c => absurd h.1 c)
    by_cases e_26 : z = (26 : Int32)
    · refine fl_tabIn (pc := 32) (tgt := 940) (off := 908) O dL_law_32 (by rw [e_26]; decide) ?_
      refine fl_aload_n (pc := 940) O 1 dL_law_940 rfl rfl ?_
      refine fl_aload_n (pc := 941) O 0 dL_law_941 rfl rfl ?_
      refine fl_iload_n (pc := 942) O 3 dL_law_942 rfl rfl ?_
      refine fl_iconst (pc := 943) O (v := (1 : Int32)) dL_law_943 (by decide) ?_
      refine fl_iadd (pc := 944) O dL_law_944 ?_
      refine fl_sld (pc := 945) O v1 dL_law_945 ?_
      refine fl_aload_n (pc := 946) O 0 dL_law_946 rfl rfl ?_
      refine fl_iload_n (pc := 947) O 3 dL_law_947 rfl rfl ?_
      refine fl_iconst (pc := 948) O (v := (2 : Int32)) dL_law_948 (by decide) ?_
      refine fl_iadd (pc := 949) O dL_law_949 ?_
      refine fl_sld (pc := 950) O v2 dL_law_950 ?_
      refine fl_aload_n (pc := 951) O 0 dL_law_951 rfl rfl ?_
      refine fl_iload_n (pc := 952) O 3 dL_law_952 rfl rfl ?_
      refine fl_iconst (pc := 953) O (v := (3 : Int32)) dL_law_953 (by decide) ?_
      refine fl_iadd (pc := 954) O dL_law_954 ?_
      refine fl_sld (pc := 955) O v3 dL_law_955 ?_
      refine fl_call1L (pc := 956) (As := [.int (xs (x3 + (1 : Int32)).toNatClampNeg), .int (xs (x3 + (2 : Int32)).toNatClampNeg), .int (xs (x3 + (3 : Int32)).toNatClampNeg)]) (st := []) O hcs (tX3_luck X.2.1 O.2.1 (HP.2.2.2.2.2.2.2.2.2.2.2.2.2.2.2.2.2.2.2.2.2.2.2.2.2.2.2.1 n σ τ (xs (x3 + (1 : Int32)).toNatClampNeg) (xs (x3 + (2 : Int32)).toNatClampNeg) (xs (x3 + (3 : Int32)).toNatClampNeg) hR hn)) mt_X3_luck mv_X3_luck m_584 rfl rfl (by decide) rfl (Nat.le_of_ble_eq_true rfl) dL_law_956 (fun r1 σ1 h => ?_)
      refine fl_aload_n (pc := 959) O 2 dL_law_959 rfl rfl ?_
      refine fl_aload_n (pc := 960) O 0 dL_law_960 rfl rfl ?_
      refine fl_iload_n (pc := 961) O 3 dL_law_961 rfl rfl ?_
      refine fl_iconst (pc := 962) O (v := (1 : Int32)) dL_law_962 (by decide) ?_
      refine fl_iadd (pc := 963) O dL_law_963 ?_
      refine fl_sld (pc := 964) O v1 dL_law_964 ?_
      refine fl_aload_n (pc := 965) O 0 dL_law_965 rfl rfl ?_
      refine fl_iload_n (pc := 966) O 3 dL_law_966 rfl rfl ?_
      refine fl_iconst (pc := 967) O (v := (2 : Int32)) dL_law_967 (by decide) ?_
      refine fl_iadd (pc := 968) O dL_law_968 ?_
      refine fl_sld (pc := 969) O v2 dL_law_969 ?_
      refine fl_aload_n (pc := 970) O 0 dL_law_970 rfl rfl ?_
      refine fl_iload_n (pc := 971) O 3 dL_law_971 rfl rfl ?_
      refine fl_iconst (pc := 972) O (v := (3 : Int32)) dL_law_972 (by decide) ?_
      refine fl_iadd (pc := 973) O dL_law_973 ?_
      refine fl_sld (pc := 974) O v3 dL_law_974 ?_
      refine fl_call2L (pc := 975) (As := [.int (xs (x3 + (1 : Int32)).toNatClampNeg), .int (xs (x3 + (2 : Int32)).toNatClampNeg), .int (xs (x3 + (3 : Int32)).toNatClampNeg)]) (st := [.long r1]) O hcs (tX4_luck X.2.1 O.2.2.1 h) mt_X4_luck mv_X4_luck m_1001 rfl rfl (by decide) rfl (Nat.le_of_ble_eq_true rfl) dL_law_975 (fun r2 τ1 h => ?_)
      refine fl_lcmp (pc := 978) O dL_law_978 ?_
      exact fl_if_eq (pc := 979) (tgt := 1437) O dL_law_979 (by decide) (fun _ => kback σ1 τ1 h.2) (fun c => absurd (by rw [h.1]; exact lg_cmp_self r2) c)
    by_cases e_27 : z = (27 : Int32)
    · refine fl_tabIn (pc := 32) (tgt := 984) (off := 952) O dL_law_32 (by rw [e_27]; decide) ?_
      refine fl_aload_n (pc := 984) O 1 dL_law_984 rfl rfl ?_
      refine fl_aload_n (pc := 985) O 0 dL_law_985 rfl rfl ?_
      refine fl_iload_n (pc := 986) O 3 dL_law_986 rfl rfl ?_
      refine fl_iconst (pc := 987) O (v := (1 : Int32)) dL_law_987 (by decide) ?_
      refine fl_iadd (pc := 988) O dL_law_988 ?_
      refine fl_sld (pc := 989) O v1 dL_law_989 ?_
      refine fl_aload_n (pc := 990) O 0 dL_law_990 rfl rfl ?_
      refine fl_iload_n (pc := 991) O 3 dL_law_991 rfl rfl ?_
      refine fl_iconst (pc := 992) O (v := (2 : Int32)) dL_law_992 (by decide) ?_
      refine fl_iadd (pc := 993) O dL_law_993 ?_
      refine fl_sld (pc := 994) O v2 dL_law_994 ?_
      refine fl_aload_n (pc := 995) O 0 dL_law_995 rfl rfl ?_
      refine fl_iload_n (pc := 996) O 3 dL_law_996 rfl rfl ?_
      refine fl_iconst (pc := 997) O (v := (3 : Int32)) dL_law_997 (by decide) ?_
      refine fl_iadd (pc := 998) O dL_law_998 ?_
      refine fl_sld (pc := 999) O v3 dL_law_999 ?_
      refine fl_call1L (pc := 1000) (As := [.int (xs (x3 + (1 : Int32)).toNatClampNeg), .int (xs (x3 + (2 : Int32)).toNatClampNeg), .int (xs (x3 + (3 : Int32)).toNatClampNeg)]) (st := []) O hcs (tX3_mean X.2.1 O.2.1 (HP.2.2.2.2.2.2.2.2.2.2.2.2.2.2.2.2.2.2.2.2.2.2.2.2.2.2.2.2.1 n σ τ (xs (x3 + (1 : Int32)).toNatClampNeg) (xs (x3 + (2 : Int32)).toNatClampNeg) (xs (x3 + (3 : Int32)).toNatClampNeg) hR hn)) mt_X3_mean mv_X3_mean m_606 rfl rfl (by decide) rfl (Nat.le_of_ble_eq_true rfl) dL_law_1000 (fun r1 σ1 h => ?_)
      refine fl_aload_n (pc := 1003) O 2 dL_law_1003 rfl rfl ?_
      refine fl_aload_n (pc := 1004) O 0 dL_law_1004 rfl rfl ?_
      refine fl_iload_n (pc := 1005) O 3 dL_law_1005 rfl rfl ?_
      refine fl_iconst (pc := 1006) O (v := (1 : Int32)) dL_law_1006 (by decide) ?_
      refine fl_iadd (pc := 1007) O dL_law_1007 ?_
      refine fl_sld (pc := 1008) O v1 dL_law_1008 ?_
      refine fl_aload_n (pc := 1009) O 0 dL_law_1009 rfl rfl ?_
      refine fl_iload_n (pc := 1010) O 3 dL_law_1010 rfl rfl ?_
      refine fl_iconst (pc := 1011) O (v := (2 : Int32)) dL_law_1011 (by decide) ?_
      refine fl_iadd (pc := 1012) O dL_law_1012 ?_
      refine fl_sld (pc := 1013) O v2 dL_law_1013 ?_
      refine fl_aload_n (pc := 1014) O 0 dL_law_1014 rfl rfl ?_
      refine fl_iload_n (pc := 1015) O 3 dL_law_1015 rfl rfl ?_
      refine fl_iconst (pc := 1016) O (v := (3 : Int32)) dL_law_1016 (by decide) ?_
      refine fl_iadd (pc := 1017) O dL_law_1017 ?_
      refine fl_sld (pc := 1018) O v3 dL_law_1018 ?_
      refine fl_call2L (pc := 1019) (As := [.int (xs (x3 + (1 : Int32)).toNatClampNeg), .int (xs (x3 + (2 : Int32)).toNatClampNeg), .int (xs (x3 + (3 : Int32)).toNatClampNeg)]) (st := [.long r1]) O hcs (tX4_mean X.2.1 O.2.2.1 h) mt_X4_mean mv_X4_mean m_1015 rfl rfl (by decide) rfl (Nat.le_of_ble_eq_true rfl) dL_law_1019 (fun r2 τ1 h => ?_)
      refine fl_lcmp (pc := 1022) O dL_law_1022 ?_
      exact fl_if_eq (pc := 1023) (tgt := 1437) O dL_law_1023 (by decide) (fun _ => kback σ1 τ1 h.2) (fun c => absurd (by rw [h.1]; exact lg_cmp_self r2) c)
    by_cases e_28 : z = (28 : Int32)
    · refine fl_tabIn (pc := 32) (tgt := 1028) (off := 996) O dL_law_32 (by rw [e_28]; decide) ?_
      refine fl_aload_n (pc := 1028) O 1 dL_law_1028 rfl rfl ?_
      refine fl_aload_n (pc := 1029) O 0 dL_law_1029 rfl rfl ?_
      refine fl_iload_n (pc := 1030) O 3 dL_law_1030 rfl rfl ?_
      refine fl_iconst (pc := 1031) O (v := (1 : Int32)) dL_law_1031 (by decide) ?_
      refine fl_iadd (pc := 1032) O dL_law_1032 ?_
      refine fl_sld (pc := 1033) O v1 dL_law_1033 ?_
      refine fl_aload_n (pc := 1034) O 0 dL_law_1034 rfl rfl ?_
      refine fl_iload_n (pc := 1035) O 3 dL_law_1035 rfl rfl ?_
      refine fl_iconst (pc := 1036) O (v := (2 : Int32)) dL_law_1036 (by decide) ?_
      refine fl_iadd (pc := 1037) O dL_law_1037 ?_
      refine fl_sld (pc := 1038) O v2 dL_law_1038 ?_
      refine fl_aload_n (pc := 1039) O 0 dL_law_1039 rfl rfl ?_
      refine fl_iload_n (pc := 1040) O 3 dL_law_1040 rfl rfl ?_
      refine fl_iconst (pc := 1041) O (v := (3 : Int32)) dL_law_1041 (by decide) ?_
      refine fl_iadd (pc := 1042) O dL_law_1042 ?_
      refine fl_sld (pc := 1043) O v3 dL_law_1043 ?_
      refine fl_call1I (pc := 1044) (As := [.int (xs (x3 + (1 : Int32)).toNatClampNeg), .int (xs (x3 + (2 : Int32)).toNatClampNeg), .int (xs (x3 + (3 : Int32)).toNatClampNeg)]) (st := []) O hcs (tX3_see X.2.1 O.2.1 (HP.2.2.2.2.2.2.2.2.2.2.2.2.2.2.2.2.2.2.2.2.2.2.2.2.2.2.2.2.2.1 n σ τ (xs (x3 + (1 : Int32)).toNatClampNeg) (xs (x3 + (2 : Int32)).toNatClampNeg) (xs (x3 + (3 : Int32)).toNatClampNeg) hR hn)) mt_X3_see mv_X3_see m_610 rfl rfl (by decide) rfl (Nat.le_of_ble_eq_true rfl) dL_law_1044 (fun r1 σ1 h => ?_)
      refine fl_aload_n (pc := 1047) O 2 dL_law_1047 rfl rfl ?_
      refine fl_aload_n (pc := 1048) O 0 dL_law_1048 rfl rfl ?_
      refine fl_iload_n (pc := 1049) O 3 dL_law_1049 rfl rfl ?_
      refine fl_iconst (pc := 1050) O (v := (1 : Int32)) dL_law_1050 (by decide) ?_
      refine fl_iadd (pc := 1051) O dL_law_1051 ?_
      refine fl_sld (pc := 1052) O v1 dL_law_1052 ?_
      refine fl_aload_n (pc := 1053) O 0 dL_law_1053 rfl rfl ?_
      refine fl_iload_n (pc := 1054) O 3 dL_law_1054 rfl rfl ?_
      refine fl_iconst (pc := 1055) O (v := (2 : Int32)) dL_law_1055 (by decide) ?_
      refine fl_iadd (pc := 1056) O dL_law_1056 ?_
      refine fl_sld (pc := 1057) O v2 dL_law_1057 ?_
      refine fl_aload_n (pc := 1058) O 0 dL_law_1058 rfl rfl ?_
      refine fl_iload_n (pc := 1059) O 3 dL_law_1059 rfl rfl ?_
      refine fl_iconst (pc := 1060) O (v := (3 : Int32)) dL_law_1060 (by decide) ?_
      refine fl_iadd (pc := 1061) O dL_law_1061 ?_
      refine fl_sld (pc := 1062) O v3 dL_law_1062 ?_
      refine fl_call2I (pc := 1063) (As := [.int (xs (x3 + (1 : Int32)).toNatClampNeg), .int (xs (x3 + (2 : Int32)).toNatClampNeg), .int (xs (x3 + (3 : Int32)).toNatClampNeg)]) (st := [.int r1]) O hcs (tX4_see X.2.1 O.2.2.1 h) mt_X4_see mv_X4_see m_1019 rfl rfl (by decide) rfl (Nat.le_of_ble_eq_true rfl) dL_law_1063 (fun r2 τ1 h => ?_)
      exact fl_icmp_eq (pc := 1066) (tgt := 1437) O dL_law_1066 (by decide) (fun _ => kback σ1 τ1 h.2) (fun c => absurd h.1 c)
    by_cases e_29 : z = (29 : Int32)
    · refine fl_tabIn (pc := 32) (tgt := 1071) (off := 1039) O dL_law_32 (by rw [e_29]; decide) ?_
      refine fl_aload_n (pc := 1071) O 1 dL_law_1071 rfl rfl ?_
      refine fl_aload_n (pc := 1072) O 0 dL_law_1072 rfl rfl ?_
      refine fl_iload_n (pc := 1073) O 3 dL_law_1073 rfl rfl ?_
      refine fl_iconst (pc := 1074) O (v := (1 : Int32)) dL_law_1074 (by decide) ?_
      refine fl_iadd (pc := 1075) O dL_law_1075 ?_
      refine fl_sld (pc := 1076) O v1 dL_law_1076 ?_
      refine fl_call1I (pc := 1077) (As := [.int (xs (x3 + (1 : Int32)).toNatClampNeg)]) (st := []) O hcs (tX3_forget X.2.1 O.2.1 (HP.2.2.2.2.2.2.2.2.2.2.2.2.2.2.2.2.2.2.2.2.2.2.2.2.2.2.2.2.2.2.1 n σ τ (xs (x3 + (1 : Int32)).toNatClampNeg) hR hn)) mt_X3_forget mv_X3_forget m_615 rfl rfl (by decide) rfl (Nat.le_of_ble_eq_true rfl) dL_law_1077 (fun r1 σ1 h => ?_)
      refine fl_aload_n (pc := 1080) O 2 dL_law_1080 rfl rfl ?_
      refine fl_aload_n (pc := 1081) O 0 dL_law_1081 rfl rfl ?_
      refine fl_iload_n (pc := 1082) O 3 dL_law_1082 rfl rfl ?_
      refine fl_iconst (pc := 1083) O (v := (1 : Int32)) dL_law_1083 (by decide) ?_
      refine fl_iadd (pc := 1084) O dL_law_1084 ?_
      refine fl_sld (pc := 1085) O v1 dL_law_1085 ?_
      refine fl_call2I (pc := 1086) (As := [.int (xs (x3 + (1 : Int32)).toNatClampNeg)]) (st := [.int r1]) O hcs (tX4_forget X.2.1 O.2.2.1 h) mt_X4_forget mv_X4_forget m_1025 rfl rfl (by decide) rfl (Nat.le_of_ble_eq_true rfl) dL_law_1086 (fun r2 τ1 h => ?_)
      exact fl_icmp_eq (pc := 1089) (tgt := 1437) O dL_law_1089 (by decide) (fun _ => kback σ1 τ1 h.2) (fun c => absurd h.1 c)
    by_cases e_30 : z = (30 : Int32)
    · refine fl_tabIn (pc := 32) (tgt := 1094) (off := 1062) O dL_law_32 (by rw [e_30]; decide) ?_
      refine fl_aload_n (pc := 1094) O 1 dL_law_1094 rfl rfl ?_
      refine fl_aload_n (pc := 1095) O 0 dL_law_1095 rfl rfl ?_
      refine fl_iload_n (pc := 1096) O 3 dL_law_1096 rfl rfl ?_
      refine fl_iconst (pc := 1097) O (v := (1 : Int32)) dL_law_1097 (by decide) ?_
      refine fl_iadd (pc := 1098) O dL_law_1098 ?_
      refine fl_sld (pc := 1099) O v1 dL_law_1099 ?_
      refine fl_call1I (pc := 1100) (As := [.int (xs (x3 + (1 : Int32)).toNatClampNeg)]) (st := []) O hcs (tX3_kinds X.2.1 O.2.1 (HP.2.2.2.2.2.2.2.2.2.2.2.2.2.2.2.2.2.2.2.2.2.2.2.2.2.2.2.2.2.2.2.1 n σ τ (xs (x3 + (1 : Int32)).toNatClampNeg) hR hn)) mt_X3_kinds mv_X3_kinds m_619 rfl rfl (by decide) rfl (Nat.le_of_ble_eq_true rfl) dL_law_1100 (fun r1 σ1 h => ?_)
      refine fl_aload_n (pc := 1103) O 2 dL_law_1103 rfl rfl ?_
      refine fl_aload_n (pc := 1104) O 0 dL_law_1104 rfl rfl ?_
      refine fl_iload_n (pc := 1105) O 3 dL_law_1105 rfl rfl ?_
      refine fl_iconst (pc := 1106) O (v := (1 : Int32)) dL_law_1106 (by decide) ?_
      refine fl_iadd (pc := 1107) O dL_law_1107 ?_
      refine fl_sld (pc := 1108) O v1 dL_law_1108 ?_
      refine fl_call2I (pc := 1109) (As := [.int (xs (x3 + (1 : Int32)).toNatClampNeg)]) (st := [.int r1]) O hcs (tX4_kinds X.2.1 O.2.2.1 h) mt_X4_kinds mv_X4_kinds m_1029 rfl rfl (by decide) rfl (Nat.le_of_ble_eq_true rfl) dL_law_1109 (fun r2 τ1 h => ?_)
      exact fl_icmp_eq (pc := 1112) (tgt := 1437) O dL_law_1112 (by decide) (fun _ => kback σ1 τ1 h.2) (fun c => absurd h.1 c)
    by_cases e_31 : z = (31 : Int32)
    · refine fl_tabIn (pc := 32) (tgt := 1117) (off := 1085) O dL_law_32 (by rw [e_31]; decide) ?_
      refine fl_aload_n (pc := 1117) O 1 dL_law_1117 rfl rfl ?_
      refine fl_aload_n (pc := 1118) O 0 dL_law_1118 rfl rfl ?_
      refine fl_iload_n (pc := 1119) O 3 dL_law_1119 rfl rfl ?_
      refine fl_iconst (pc := 1120) O (v := (1 : Int32)) dL_law_1120 (by decide) ?_
      refine fl_iadd (pc := 1121) O dL_law_1121 ?_
      refine fl_sld (pc := 1122) O v1 dL_law_1122 ?_
      refine fl_call1I (pc := 1123) (As := [.int (xs (x3 + (1 : Int32)).toNatClampNeg)]) (st := []) O hcs (tX3_losses X.2.1 O.2.1 (HP.2.2.2.2.2.2.2.2.2.2.2.2.2.2.2.2.2.2.2.2.2.2.2.2.2.2.2.2.2.2.2.2.1 n σ τ (xs (x3 + (1 : Int32)).toNatClampNeg) hR hn)) mt_X3_losses mv_X3_losses m_631 rfl rfl (by decide) rfl (Nat.le_of_ble_eq_true rfl) dL_law_1123 (fun r1 σ1 h => ?_)
      refine fl_aload_n (pc := 1126) O 2 dL_law_1126 rfl rfl ?_
      refine fl_aload_n (pc := 1127) O 0 dL_law_1127 rfl rfl ?_
      refine fl_iload_n (pc := 1128) O 3 dL_law_1128 rfl rfl ?_
      refine fl_iconst (pc := 1129) O (v := (1 : Int32)) dL_law_1129 (by decide) ?_
      refine fl_iadd (pc := 1130) O dL_law_1130 ?_
      refine fl_sld (pc := 1131) O v1 dL_law_1131 ?_
      refine fl_call2I (pc := 1132) (As := [.int (xs (x3 + (1 : Int32)).toNatClampNeg)]) (st := [.int r1]) O hcs (tX4_losses X.2.1 O.2.2.1 h) mt_X4_losses mv_X4_losses m_1041 rfl rfl (by decide) rfl (Nat.le_of_ble_eq_true rfl) dL_law_1132 (fun r2 τ1 h => ?_)
      exact fl_icmp_eq (pc := 1135) (tgt := 1437) O dL_law_1135 (by decide) (fun _ => kback σ1 τ1 h.2) (fun c => absurd h.1 c)
    by_cases e_32 : z = (32 : Int32)
    · refine fl_tabIn (pc := 32) (tgt := 1140) (off := 1108) O dL_law_32 (by rw [e_32]; decide) ?_
      refine fl_aload_n (pc := 1140) O 1 dL_law_1140 rfl rfl ?_
      refine fl_aload_n (pc := 1141) O 0 dL_law_1141 rfl rfl ?_
      refine fl_iload_n (pc := 1142) O 3 dL_law_1142 rfl rfl ?_
      refine fl_iconst (pc := 1143) O (v := (1 : Int32)) dL_law_1143 (by decide) ?_
      refine fl_iadd (pc := 1144) O dL_law_1144 ?_
      refine fl_sld (pc := 1145) O v1 dL_law_1145 ?_
      refine fl_aload_n (pc := 1146) O 0 dL_law_1146 rfl rfl ?_
      refine fl_iload_n (pc := 1147) O 3 dL_law_1147 rfl rfl ?_
      refine fl_iconst (pc := 1148) O (v := (2 : Int32)) dL_law_1148 (by decide) ?_
      refine fl_iadd (pc := 1149) O dL_law_1149 ?_
      refine fl_sld (pc := 1150) O v2 dL_law_1150 ?_
      refine fl_call1I (pc := 1151) (As := [.int (xs (x3 + (1 : Int32)).toNatClampNeg), .int (xs (x3 + (2 : Int32)).toNatClampNeg)]) (st := []) O hcs (tX3_ask X.2.1 O.2.1 (HP.2.2.2.2.2.2.2.2.2.2.2.2.2.2.2.2.2.2.2.2.2.2.2.2.2.2.2.2.2.2.2.2.2.1 n σ τ (xs (x3 + (1 : Int32)).toNatClampNeg) (xs (x3 + (2 : Int32)).toNatClampNeg) hR hn)) mt_X3_ask mv_X3_ask m_639 rfl rfl (by decide) rfl (Nat.le_of_ble_eq_true rfl) dL_law_1151 (fun r1 σ1 h => ?_)
      refine fl_aload_n (pc := 1154) O 2 dL_law_1154 rfl rfl ?_
      refine fl_aload_n (pc := 1155) O 0 dL_law_1155 rfl rfl ?_
      refine fl_iload_n (pc := 1156) O 3 dL_law_1156 rfl rfl ?_
      refine fl_iconst (pc := 1157) O (v := (1 : Int32)) dL_law_1157 (by decide) ?_
      refine fl_iadd (pc := 1158) O dL_law_1158 ?_
      refine fl_sld (pc := 1159) O v1 dL_law_1159 ?_
      refine fl_aload_n (pc := 1160) O 0 dL_law_1160 rfl rfl ?_
      refine fl_iload_n (pc := 1161) O 3 dL_law_1161 rfl rfl ?_
      refine fl_iconst (pc := 1162) O (v := (2 : Int32)) dL_law_1162 (by decide) ?_
      refine fl_iadd (pc := 1163) O dL_law_1163 ?_
      refine fl_sld (pc := 1164) O v2 dL_law_1164 ?_
      refine fl_call2I (pc := 1165) (As := [.int (xs (x3 + (1 : Int32)).toNatClampNeg), .int (xs (x3 + (2 : Int32)).toNatClampNeg)]) (st := [.int r1]) O hcs (tX4_ask X.2.1 O.2.2.1 h) mt_X4_ask mv_X4_ask m_1045 rfl rfl (by decide) rfl (Nat.le_of_ble_eq_true rfl) dL_law_1165 (fun r2 τ1 h => ?_)
      exact fl_icmp_eq (pc := 1168) (tgt := 1437) O dL_law_1168 (by decide) (fun _ => kback σ1 τ1 h.2) (fun c => absurd h.1 c)
    by_cases e_33 : z = (33 : Int32)
    · refine fl_tabIn (pc := 32) (tgt := 1173) (off := 1141) O dL_law_32 (by rw [e_33]; decide) ?_
      refine fl_aload_n (pc := 1173) O 1 dL_law_1173 rfl rfl ?_
      refine fl_aload_n (pc := 1174) O 0 dL_law_1174 rfl rfl ?_
      refine fl_iload_n (pc := 1175) O 3 dL_law_1175 rfl rfl ?_
      refine fl_iconst (pc := 1176) O (v := (1 : Int32)) dL_law_1176 (by decide) ?_
      refine fl_iadd (pc := 1177) O dL_law_1177 ?_
      refine fl_sld (pc := 1178) O v1 dL_law_1178 ?_
      refine fl_aload_n (pc := 1179) O 0 dL_law_1179 rfl rfl ?_
      refine fl_iload_n (pc := 1180) O 3 dL_law_1180 rfl rfl ?_
      refine fl_iconst (pc := 1181) O (v := (2 : Int32)) dL_law_1181 (by decide) ?_
      refine fl_iadd (pc := 1182) O dL_law_1182 ?_
      refine fl_sld (pc := 1183) O v2 dL_law_1183 ?_
      refine fl_aload_n (pc := 1184) O 0 dL_law_1184 rfl rfl ?_
      refine fl_iload_n (pc := 1185) O 3 dL_law_1185 rfl rfl ?_
      refine fl_iconst (pc := 1186) O (v := (3 : Int32)) dL_law_1186 (by decide) ?_
      refine fl_iadd (pc := 1187) O dL_law_1187 ?_
      refine fl_sld (pc := 1188) O v3 dL_law_1188 ?_
      refine fl_call1I (pc := 1189) (As := [.int (xs (x3 + (1 : Int32)).toNatClampNeg), .int (xs (x3 + (2 : Int32)).toNatClampNeg), .int (xs (x3 + (3 : Int32)).toNatClampNeg)]) (st := []) O hcs (tX3_drift X.2.1 O.2.1 (HP.2.2.2.2.2.2.2.2.2.2.2.2.2.2.2.2.2.2.2.2.2.2.2.2.2.2.2.2.2.2.2.2.2.2.1 n σ τ (xs (x3 + (1 : Int32)).toNatClampNeg) (xs (x3 + (2 : Int32)).toNatClampNeg) (xs (x3 + (3 : Int32)).toNatClampNeg) hR hn)) mt_X3_drift mv_X3_drift m_661 rfl rfl (by decide) rfl (Nat.le_of_ble_eq_true rfl) dL_law_1189 (fun r1 σ1 h => ?_)
      refine fl_aload_n (pc := 1192) O 2 dL_law_1192 rfl rfl ?_
      refine fl_aload_n (pc := 1193) O 0 dL_law_1193 rfl rfl ?_
      refine fl_iload_n (pc := 1194) O 3 dL_law_1194 rfl rfl ?_
      refine fl_iconst (pc := 1195) O (v := (1 : Int32)) dL_law_1195 (by decide) ?_
      refine fl_iadd (pc := 1196) O dL_law_1196 ?_
      refine fl_sld (pc := 1197) O v1 dL_law_1197 ?_
      refine fl_aload_n (pc := 1198) O 0 dL_law_1198 rfl rfl ?_
      refine fl_iload_n (pc := 1199) O 3 dL_law_1199 rfl rfl ?_
      refine fl_iconst (pc := 1200) O (v := (2 : Int32)) dL_law_1200 (by decide) ?_
      refine fl_iadd (pc := 1201) O dL_law_1201 ?_
      refine fl_sld (pc := 1202) O v2 dL_law_1202 ?_
      refine fl_aload_n (pc := 1203) O 0 dL_law_1203 rfl rfl ?_
      refine fl_iload_n (pc := 1204) O 3 dL_law_1204 rfl rfl ?_
      refine fl_iconst (pc := 1205) O (v := (3 : Int32)) dL_law_1205 (by decide) ?_
      refine fl_iadd (pc := 1206) O dL_law_1206 ?_
      refine fl_sld (pc := 1207) O v3 dL_law_1207 ?_
      refine fl_call2I (pc := 1208) (As := [.int (xs (x3 + (1 : Int32)).toNatClampNeg), .int (xs (x3 + (2 : Int32)).toNatClampNeg), .int (xs (x3 + (3 : Int32)).toNatClampNeg)]) (st := [.int r1]) O hcs (tX4_drift X.2.1 O.2.2.1 h) mt_X4_drift mv_X4_drift m_1053 rfl rfl (by decide) rfl (Nat.le_of_ble_eq_true rfl) dL_law_1208 (fun r2 τ1 h => ?_)
      exact fl_icmp_eq (pc := 1211) (tgt := 1437) O dL_law_1211 (by decide) (fun _ => kback σ1 τ1 h.2) (fun c => absurd h.1 c)
    by_cases e_34 : z = (34 : Int32)
    · refine fl_tabIn (pc := 32) (tgt := 1216) (off := 1184) O dL_law_32 (by rw [e_34]; decide) ?_
      refine fl_aload_n (pc := 1216) O 1 dL_law_1216 rfl rfl ?_
      refine fl_aload_n (pc := 1217) O 0 dL_law_1217 rfl rfl ?_
      refine fl_iload_n (pc := 1218) O 3 dL_law_1218 rfl rfl ?_
      refine fl_iconst (pc := 1219) O (v := (1 : Int32)) dL_law_1219 (by decide) ?_
      refine fl_iadd (pc := 1220) O dL_law_1220 ?_
      refine fl_sld (pc := 1221) O v1 dL_law_1221 ?_
      refine fl_call1I (pc := 1222) (As := [.int (xs (x3 + (1 : Int32)).toNatClampNeg)]) (st := []) O hcs (tX3_keep X.2.1 O.2.1 (HP.2.2.2.2.2.2.2.2.2.2.2.2.2.2.2.2.2.2.2.2.2.2.2.2.2.2.2.2.2.2.2.2.2.2.2.1 n σ τ (xs (x3 + (1 : Int32)).toNatClampNeg) hR hn)) mt_X3_keep mv_X3_keep m_666 rfl rfl (by decide) rfl (Nat.le_of_ble_eq_true rfl) dL_law_1222 (fun r1 σ1 h => ?_)
      refine fl_aload_n (pc := 1225) O 2 dL_law_1225 rfl rfl ?_
      refine fl_aload_n (pc := 1226) O 0 dL_law_1226 rfl rfl ?_
      refine fl_iload_n (pc := 1227) O 3 dL_law_1227 rfl rfl ?_
      refine fl_iconst (pc := 1228) O (v := (1 : Int32)) dL_law_1228 (by decide) ?_
      refine fl_iadd (pc := 1229) O dL_law_1229 ?_
      refine fl_sld (pc := 1230) O v1 dL_law_1230 ?_
      refine fl_call2I (pc := 1231) (As := [.int (xs (x3 + (1 : Int32)).toNatClampNeg)]) (st := [.int r1]) O hcs (tX4_keep X.2.1 O.2.2.1 h) mt_X4_keep mv_X4_keep m_1058 rfl rfl (by decide) rfl (Nat.le_of_ble_eq_true rfl) dL_law_1231 (fun r2 τ1 h => ?_)
      exact fl_icmp_eq (pc := 1234) (tgt := 1437) O dL_law_1234 (by decide) (fun _ => kback σ1 τ1 h.2) (fun c => absurd h.1 c)
    by_cases e_35 : z = (35 : Int32)
    · refine fl_tabIn (pc := 32) (tgt := 1239) (off := 1207) O dL_law_32 (by rw [e_35]; decide) ?_
      refine fl_aload_n (pc := 1239) O 1 dL_law_1239 rfl rfl ?_
      refine fl_aload_n (pc := 1240) O 0 dL_law_1240 rfl rfl ?_
      refine fl_iload_n (pc := 1241) O 3 dL_law_1241 rfl rfl ?_
      refine fl_iconst (pc := 1242) O (v := (1 : Int32)) dL_law_1242 (by decide) ?_
      refine fl_iadd (pc := 1243) O dL_law_1243 ?_
      refine fl_sld (pc := 1244) O v1 dL_law_1244 ?_
      refine fl_call1I (pc := 1245) (As := [.int (xs (x3 + (1 : Int32)).toNatClampNeg)]) (st := []) O hcs (tX3_back X.2.1 O.2.1 (HP.2.2.2.2.2.2.2.2.2.2.2.2.2.2.2.2.2.2.2.2.2.2.2.2.2.2.2.2.2.2.2.2.2.2.2.2.1 n σ τ (xs (x3 + (1 : Int32)).toNatClampNeg) hR hn)) mt_X3_back mv_X3_back m_670 rfl rfl (by decide) rfl (Nat.le_of_ble_eq_true rfl) dL_law_1245 (fun r1 σ1 h => ?_)
      refine fl_aload_n (pc := 1248) O 2 dL_law_1248 rfl rfl ?_
      refine fl_aload_n (pc := 1249) O 0 dL_law_1249 rfl rfl ?_
      refine fl_iload_n (pc := 1250) O 3 dL_law_1250 rfl rfl ?_
      refine fl_iconst (pc := 1251) O (v := (1 : Int32)) dL_law_1251 (by decide) ?_
      refine fl_iadd (pc := 1252) O dL_law_1252 ?_
      refine fl_sld (pc := 1253) O v1 dL_law_1253 ?_
      refine fl_call2I (pc := 1254) (As := [.int (xs (x3 + (1 : Int32)).toNatClampNeg)]) (st := [.int r1]) O hcs (tX4_back X.2.1 O.2.2.1 h) mt_X4_back mv_X4_back m_1062 rfl rfl (by decide) rfl (Nat.le_of_ble_eq_true rfl) dL_law_1254 (fun r2 τ1 h => ?_)
      exact fl_icmp_eq (pc := 1257) (tgt := 1437) O dL_law_1257 (by decide) (fun _ => kback σ1 τ1 h.2) (fun c => absurd h.1 c)
    by_cases e_36 : z = (36 : Int32)
    · refine fl_tabIn (pc := 32) (tgt := 1262) (off := 1230) O dL_law_32 (by rw [e_36]; decide) ?_
      refine fl_aload_n (pc := 1262) O 1 dL_law_1262 rfl rfl ?_
      refine fl_aload_n (pc := 1263) O 0 dL_law_1263 rfl rfl ?_
      refine fl_iload_n (pc := 1264) O 3 dL_law_1264 rfl rfl ?_
      refine fl_iconst (pc := 1265) O (v := (1 : Int32)) dL_law_1265 (by decide) ?_
      refine fl_iadd (pc := 1266) O dL_law_1266 ?_
      refine fl_sld (pc := 1267) O v1 dL_law_1267 ?_
      refine fl_aload_n (pc := 1268) O 0 dL_law_1268 rfl rfl ?_
      refine fl_iload_n (pc := 1269) O 3 dL_law_1269 rfl rfl ?_
      refine fl_iconst (pc := 1270) O (v := (2 : Int32)) dL_law_1270 (by decide) ?_
      refine fl_iadd (pc := 1271) O dL_law_1271 ?_
      refine fl_sld (pc := 1272) O v2 dL_law_1272 ?_
      refine fl_aload_n (pc := 1273) O 0 dL_law_1273 rfl rfl ?_
      refine fl_iload_n (pc := 1274) O 3 dL_law_1274 rfl rfl ?_
      refine fl_iconst (pc := 1275) O (v := (3 : Int32)) dL_law_1275 (by decide) ?_
      refine fl_iadd (pc := 1276) O dL_law_1276 ?_
      refine fl_sld (pc := 1277) O v3 dL_law_1277 ?_
      refine fl_call1I (pc := 1278) (As := [.int (xs (x3 + (1 : Int32)).toNatClampNeg), .int (xs (x3 + (2 : Int32)).toNatClampNeg), .int (xs (x3 + (3 : Int32)).toNatClampNeg)]) (st := []) O hcs (tX3_sheet X.2.1 O.2.1 (HP.2.2.2.2.2.2.2.2.2.2.2.2.2.2.2.2.2.2.2.2.2.2.2.2.2.2.2.2.2.2.2.2.2.2.2.2.2.1 n σ τ (xs (x3 + (1 : Int32)).toNatClampNeg) (xs (x3 + (2 : Int32)).toNatClampNeg) (xs (x3 + (3 : Int32)).toNatClampNeg) hR hn)) mt_X3_sheet mv_X3_sheet m_674 rfl rfl (by decide) rfl (Nat.le_of_ble_eq_true rfl) dL_law_1278 (fun r1 σ1 h => ?_)
      refine fl_aload_n (pc := 1281) O 2 dL_law_1281 rfl rfl ?_
      refine fl_aload_n (pc := 1282) O 0 dL_law_1282 rfl rfl ?_
      refine fl_iload_n (pc := 1283) O 3 dL_law_1283 rfl rfl ?_
      refine fl_iconst (pc := 1284) O (v := (1 : Int32)) dL_law_1284 (by decide) ?_
      refine fl_iadd (pc := 1285) O dL_law_1285 ?_
      refine fl_sld (pc := 1286) O v1 dL_law_1286 ?_
      refine fl_aload_n (pc := 1287) O 0 dL_law_1287 rfl rfl ?_
      refine fl_iload_n (pc := 1288) O 3 dL_law_1288 rfl rfl ?_
      refine fl_iconst (pc := 1289) O (v := (2 : Int32)) dL_law_1289 (by decide) ?_
      refine fl_iadd (pc := 1290) O dL_law_1290 ?_
      refine fl_sld (pc := 1291) O v2 dL_law_1291 ?_
      refine fl_aload_n (pc := 1292) O 0 dL_law_1292 rfl rfl ?_
      refine fl_iload_n (pc := 1293) O 3 dL_law_1293 rfl rfl ?_
      refine fl_iconst (pc := 1294) O (v := (3 : Int32)) dL_law_1294 (by decide) ?_
      refine fl_iadd (pc := 1295) O dL_law_1295 ?_
      refine fl_sld (pc := 1296) O v3 dL_law_1296 ?_
      refine fl_call2I (pc := 1297) (As := [.int (xs (x3 + (1 : Int32)).toNatClampNeg), .int (xs (x3 + (2 : Int32)).toNatClampNeg), .int (xs (x3 + (3 : Int32)).toNatClampNeg)]) (st := [.int r1]) O hcs (tX4_sheet X.2.1 O.2.2.1 h) mt_X4_sheet mv_X4_sheet m_1066 rfl rfl (by decide) rfl (Nat.le_of_ble_eq_true rfl) dL_law_1297 (fun r2 τ1 h => ?_)
      exact fl_icmp_eq (pc := 1300) (tgt := 1437) O dL_law_1300 (by decide) (fun _ => kback σ1 τ1 h.2) (fun c => absurd h.1 c)
    by_cases e_37 : z = (37 : Int32)
    · refine fl_tabIn (pc := 32) (tgt := 1305) (off := 1273) O dL_law_32 (by rw [e_37]; decide) ?_
      refine fl_aload_n (pc := 1305) O 1 dL_law_1305 rfl rfl ?_
      refine fl_aload_n (pc := 1306) O 0 dL_law_1306 rfl rfl ?_
      refine fl_iload_n (pc := 1307) O 3 dL_law_1307 rfl rfl ?_
      refine fl_iconst (pc := 1308) O (v := (1 : Int32)) dL_law_1308 (by decide) ?_
      refine fl_iadd (pc := 1309) O dL_law_1309 ?_
      refine fl_sld (pc := 1310) O v1 dL_law_1310 ?_
      refine fl_aload_n (pc := 1311) O 0 dL_law_1311 rfl rfl ?_
      refine fl_iload_n (pc := 1312) O 3 dL_law_1312 rfl rfl ?_
      refine fl_iconst (pc := 1313) O (v := (2 : Int32)) dL_law_1313 (by decide) ?_
      refine fl_iadd (pc := 1314) O dL_law_1314 ?_
      refine fl_sld (pc := 1315) O v2 dL_law_1315 ?_
      refine fl_aload_n (pc := 1316) O 0 dL_law_1316 rfl rfl ?_
      refine fl_iload_n (pc := 1317) O 3 dL_law_1317 rfl rfl ?_
      refine fl_iconst (pc := 1318) O (v := (3 : Int32)) dL_law_1318 (by decide) ?_
      refine fl_iadd (pc := 1319) O dL_law_1319 ?_
      refine fl_sld (pc := 1320) O v3 dL_law_1320 ?_
      refine fl_call1I (pc := 1321) (As := [.int (xs (x3 + (1 : Int32)).toNatClampNeg), .int (xs (x3 + (2 : Int32)).toNatClampNeg), .int (xs (x3 + (3 : Int32)).toNatClampNeg)]) (st := []) O hcs (tX3_lay X.2.1 O.2.1 (HP.2.2.2.2.2.2.2.2.2.2.2.2.2.2.2.2.2.2.2.2.2.2.2.2.2.2.2.2.2.2.2.2.2.2.2.2.2.2.1 n σ τ (xs (x3 + (1 : Int32)).toNatClampNeg) (xs (x3 + (2 : Int32)).toNatClampNeg) (xs (x3 + (3 : Int32)).toNatClampNeg) hR hn)) mt_X3_lay mv_X3_lay m_682 rfl rfl (by decide) rfl (Nat.le_of_ble_eq_true rfl) dL_law_1321 (fun r1 σ1 h => ?_)
      refine fl_aload_n (pc := 1324) O 2 dL_law_1324 rfl rfl ?_
      refine fl_aload_n (pc := 1325) O 0 dL_law_1325 rfl rfl ?_
      refine fl_iload_n (pc := 1326) O 3 dL_law_1326 rfl rfl ?_
      refine fl_iconst (pc := 1327) O (v := (1 : Int32)) dL_law_1327 (by decide) ?_
      refine fl_iadd (pc := 1328) O dL_law_1328 ?_
      refine fl_sld (pc := 1329) O v1 dL_law_1329 ?_
      refine fl_aload_n (pc := 1330) O 0 dL_law_1330 rfl rfl ?_
      refine fl_iload_n (pc := 1331) O 3 dL_law_1331 rfl rfl ?_
      refine fl_iconst (pc := 1332) O (v := (2 : Int32)) dL_law_1332 (by decide) ?_
      refine fl_iadd (pc := 1333) O dL_law_1333 ?_
      refine fl_sld (pc := 1334) O v2 dL_law_1334 ?_
      refine fl_aload_n (pc := 1335) O 0 dL_law_1335 rfl rfl ?_
      refine fl_iload_n (pc := 1336) O 3 dL_law_1336 rfl rfl ?_
      refine fl_iconst (pc := 1337) O (v := (3 : Int32)) dL_law_1337 (by decide) ?_
      refine fl_iadd (pc := 1338) O dL_law_1338 ?_
      refine fl_sld (pc := 1339) O v3 dL_law_1339 ?_
      refine fl_call2I (pc := 1340) (As := [.int (xs (x3 + (1 : Int32)).toNatClampNeg), .int (xs (x3 + (2 : Int32)).toNatClampNeg), .int (xs (x3 + (3 : Int32)).toNatClampNeg)]) (st := [.int r1]) O hcs (tX4_lay X.2.1 O.2.2.1 h) mt_X4_lay mv_X4_lay m_1071 rfl rfl (by decide) rfl (Nat.le_of_ble_eq_true rfl) dL_law_1340 (fun r2 τ1 h => ?_)
      exact fl_icmp_eq (pc := 1343) (tgt := 1437) O dL_law_1343 (by decide) (fun _ => kback σ1 τ1 h.2) (fun c => absurd h.1 c)
    by_cases e_38 : z = (38 : Int32)
    · refine fl_tabIn (pc := 32) (tgt := 1348) (off := 1316) O dL_law_32 (by rw [e_38]; decide) ?_
      refine fl_aload_n (pc := 1348) O 1 dL_law_1348 rfl rfl ?_
      refine fl_aload_n (pc := 1349) O 0 dL_law_1349 rfl rfl ?_
      refine fl_iload_n (pc := 1350) O 3 dL_law_1350 rfl rfl ?_
      refine fl_iconst (pc := 1351) O (v := (1 : Int32)) dL_law_1351 (by decide) ?_
      refine fl_iadd (pc := 1352) O dL_law_1352 ?_
      refine fl_sld (pc := 1353) O v1 dL_law_1353 ?_
      refine fl_aload_n (pc := 1354) O 0 dL_law_1354 rfl rfl ?_
      refine fl_iload_n (pc := 1355) O 3 dL_law_1355 rfl rfl ?_
      refine fl_iconst (pc := 1356) O (v := (2 : Int32)) dL_law_1356 (by decide) ?_
      refine fl_iadd (pc := 1357) O dL_law_1357 ?_
      refine fl_sld (pc := 1358) O v2 dL_law_1358 ?_
      refine fl_aload_n (pc := 1359) O 0 dL_law_1359 rfl rfl ?_
      refine fl_iload_n (pc := 1360) O 3 dL_law_1360 rfl rfl ?_
      refine fl_iconst (pc := 1361) O (v := (3 : Int32)) dL_law_1361 (by decide) ?_
      refine fl_iadd (pc := 1362) O dL_law_1362 ?_
      refine fl_sld (pc := 1363) O v3 dL_law_1363 ?_
      refine fl_aload_n (pc := 1364) O 0 dL_law_1364 rfl rfl ?_
      refine fl_iload_n (pc := 1365) O 3 dL_law_1365 rfl rfl ?_
      refine fl_iconst (pc := 1366) O (v := (4 : Int32)) dL_law_1366 (by decide) ?_
      refine fl_iadd (pc := 1367) O dL_law_1367 ?_
      refine fl_sld (pc := 1368) O v4 dL_law_1368 ?_
      refine fl_call1I (pc := 1369) (As := [.int (xs (x3 + (1 : Int32)).toNatClampNeg), .int (xs (x3 + (2 : Int32)).toNatClampNeg), .int (xs (x3 + (3 : Int32)).toNatClampNeg), .int (xs (x3 + (4 : Int32)).toNatClampNeg)]) (st := []) O hcs (tX3_read X.2.1 O.2.1 (HP.2.2.2.2.2.2.2.2.2.2.2.2.2.2.2.2.2.2.2.2.2.2.2.2.2.2.2.2.2.2.2.2.2.2.2.2.2.2.2.1 n σ τ (xs (x3 + (1 : Int32)).toNatClampNeg) (xs (x3 + (2 : Int32)).toNatClampNeg) (xs (x3 + (3 : Int32)).toNatClampNeg) (xs (x3 + (4 : Int32)).toNatClampNeg) hR hn)) mt_X3_read mv_X3_read m_694 rfl rfl (by decide) rfl (Nat.le_of_ble_eq_true rfl) dL_law_1369 (fun r1 σ1 h => ?_)
      refine fl_aload_n (pc := 1372) O 2 dL_law_1372 rfl rfl ?_
      refine fl_aload_n (pc := 1373) O 0 dL_law_1373 rfl rfl ?_
      refine fl_iload_n (pc := 1374) O 3 dL_law_1374 rfl rfl ?_
      refine fl_iconst (pc := 1375) O (v := (1 : Int32)) dL_law_1375 (by decide) ?_
      refine fl_iadd (pc := 1376) O dL_law_1376 ?_
      refine fl_sld (pc := 1377) O v1 dL_law_1377 ?_
      refine fl_aload_n (pc := 1378) O 0 dL_law_1378 rfl rfl ?_
      refine fl_iload_n (pc := 1379) O 3 dL_law_1379 rfl rfl ?_
      refine fl_iconst (pc := 1380) O (v := (2 : Int32)) dL_law_1380 (by decide) ?_
      refine fl_iadd (pc := 1381) O dL_law_1381 ?_
      refine fl_sld (pc := 1382) O v2 dL_law_1382 ?_
      refine fl_aload_n (pc := 1383) O 0 dL_law_1383 rfl rfl ?_
      refine fl_iload_n (pc := 1384) O 3 dL_law_1384 rfl rfl ?_
      refine fl_iconst (pc := 1385) O (v := (3 : Int32)) dL_law_1385 (by decide) ?_
      refine fl_iadd (pc := 1386) O dL_law_1386 ?_
      refine fl_sld (pc := 1387) O v3 dL_law_1387 ?_
      refine fl_aload_n (pc := 1388) O 0 dL_law_1388 rfl rfl ?_
      refine fl_iload_n (pc := 1389) O 3 dL_law_1389 rfl rfl ?_
      refine fl_iconst (pc := 1390) O (v := (4 : Int32)) dL_law_1390 (by decide) ?_
      refine fl_iadd (pc := 1391) O dL_law_1391 ?_
      refine fl_sld (pc := 1392) O v4 dL_law_1392 ?_
      refine fl_call2I (pc := 1393) (As := [.int (xs (x3 + (1 : Int32)).toNatClampNeg), .int (xs (x3 + (2 : Int32)).toNatClampNeg), .int (xs (x3 + (3 : Int32)).toNatClampNeg), .int (xs (x3 + (4 : Int32)).toNatClampNeg)]) (st := [.int r1]) O hcs (tX4_read X.2.1 O.2.2.1 h) mt_X4_read mv_X4_read m_1075 rfl rfl (by decide) rfl (Nat.le_of_ble_eq_true rfl) dL_law_1393 (fun r2 τ1 h => ?_)
      exact fl_icmp_eq (pc := 1396) (tgt := 1437) O dL_law_1396 (by decide) (fun _ => kback σ1 τ1 h.2) (fun c => absurd h.1 c)
    by_cases e_39 : z = (39 : Int32)
    · refine fl_tabIn (pc := 32) (tgt := 1401) (off := 1369) O dL_law_32 (by rw [e_39]; decide) ?_
      refine fl_aload_n (pc := 1401) O 1 dL_law_1401 rfl rfl ?_
      refine fl_call1I (pc := 1402) (As := []) (st := []) O hcs (tX3_torn X.2.1 O.2.1 (HP.2.2.2.2.2.2.2.2.2.2.2.2.2.2.2.2.2.2.2.2.2.2.2.2.2.2.2.2.2.2.2.2.2.2.2.2.2.2.2.2.1 n σ τ  hR hn)) mt_X3_torn mv_X3_torn m_698 rfl rfl (by decide) rfl (Nat.le_of_ble_eq_true rfl) dL_law_1402 (fun r1 σ1 h => ?_)
      refine fl_aload_n (pc := 1405) O 2 dL_law_1405 rfl rfl ?_
      refine fl_call2I (pc := 1406) (As := []) (st := [.int r1]) O hcs (tX4_torn X.2.1 O.2.2.1 h) mt_X4_torn mv_X4_torn m_1079 rfl rfl (by decide) rfl (Nat.le_of_ble_eq_true rfl) dL_law_1406 (fun r2 τ1 h => ?_)
      exact fl_icmp_eq (pc := 1409) (tgt := 1437) O dL_law_1409 (by decide) (fun _ => kback σ1 τ1 h.2) (fun c => absurd h.1 c)
    by_cases e_40 : z = (40 : Int32)
    · refine fl_tabIn (pc := 32) (tgt := 1414) (off := 1382) O dL_law_32 (by rw [e_40]; decide) ?_
      refine fl_aload_n (pc := 1414) O 1 dL_law_1414 rfl rfl ?_
      refine fl_aload_n (pc := 1415) O 0 dL_law_1415 rfl rfl ?_
      refine fl_iload_n (pc := 1416) O 3 dL_law_1416 rfl rfl ?_
      refine fl_iconst (pc := 1417) O (v := (1 : Int32)) dL_law_1417 (by decide) ?_
      refine fl_iadd (pc := 1418) O dL_law_1418 ?_
      refine fl_sld (pc := 1419) O v1 dL_law_1419 ?_
      refine fl_call1I (pc := 1420) (As := [.int (xs (x3 + (1 : Int32)).toNatClampNeg)]) (st := []) O hcs (tX3_count X.2.1 O.2.1 (HP.2.2.2.2.2.2.2.2.2.2.2.2.2.2.2.2.2.2.2.2.2.2.2.2.2.2.2.2.2.2.2.2.2.2.2.2.2.2.2.2.2 n σ τ (xs (x3 + (1 : Int32)).toNatClampNeg) hR hn)) mt_X3_count mv_X3_count m_702 rfl rfl (by decide) rfl (Nat.le_of_ble_eq_true rfl) dL_law_1420 (fun r1 σ1 h => ?_)
      refine fl_aload_n (pc := 1423) O 2 dL_law_1423 rfl rfl ?_
      refine fl_aload_n (pc := 1424) O 0 dL_law_1424 rfl rfl ?_
      refine fl_iload_n (pc := 1425) O 3 dL_law_1425 rfl rfl ?_
      refine fl_iconst (pc := 1426) O (v := (1 : Int32)) dL_law_1426 (by decide) ?_
      refine fl_iadd (pc := 1427) O dL_law_1427 ?_
      refine fl_sld (pc := 1428) O v1 dL_law_1428 ?_
      refine fl_call2I (pc := 1429) (As := [.int (xs (x3 + (1 : Int32)).toNatClampNeg)]) (st := [.int r1]) O hcs (tX4_count X.2.1 O.2.2.1 h) mt_X4_count mv_X4_count m_1083 rfl rfl (by decide) rfl (Nat.le_of_ble_eq_true rfl) dL_law_1429 (fun r2 τ1 h => ?_)
      exact fl_icmp_eq (pc := 1432) (tgt := 1437) O dL_law_1432 (by decide) (fun _ => kback σ1 τ1 h.2) (fun c => absurd h.1 c)
    have n_0 := lv_neT e_0 (show ((0 : Int32)).toInt = 0 by decide)
    have n_1 := lv_neT e_1 (show ((1 : Int32)).toInt = 1 by decide)
    have n_2 := lv_neT e_2 (show ((2 : Int32)).toInt = 2 by decide)
    have n_3 := lv_neT e_3 (show ((3 : Int32)).toInt = 3 by decide)
    have n_4 := lv_neT e_4 (show ((4 : Int32)).toInt = 4 by decide)
    have n_5 := lv_neT e_5 (show ((5 : Int32)).toInt = 5 by decide)
    have n_6 := lv_neT e_6 (show ((6 : Int32)).toInt = 6 by decide)
    have n_7 := lv_neT e_7 (show ((7 : Int32)).toInt = 7 by decide)
    have n_8 := lv_neT e_8 (show ((8 : Int32)).toInt = 8 by decide)
    have n_9 := lv_neT e_9 (show ((9 : Int32)).toInt = 9 by decide)
    have n_10 := lv_neT e_10 (show ((10 : Int32)).toInt = 10 by decide)
    have n_11 := lv_neT e_11 (show ((11 : Int32)).toInt = 11 by decide)
    have n_12 := lv_neT e_12 (show ((12 : Int32)).toInt = 12 by decide)
    have n_13 := lv_neT e_13 (show ((13 : Int32)).toInt = 13 by decide)
    have n_14 := lv_neT e_14 (show ((14 : Int32)).toInt = 14 by decide)
    have n_15 := lv_neT e_15 (show ((15 : Int32)).toInt = 15 by decide)
    have n_16 := lv_neT e_16 (show ((16 : Int32)).toInt = 16 by decide)
    have n_17 := lv_neT e_17 (show ((17 : Int32)).toInt = 17 by decide)
    have n_18 := lv_neT e_18 (show ((18 : Int32)).toInt = 18 by decide)
    have n_19 := lv_neT e_19 (show ((19 : Int32)).toInt = 19 by decide)
    have n_20 := lv_neT e_20 (show ((20 : Int32)).toInt = 20 by decide)
    have n_21 := lv_neT e_21 (show ((21 : Int32)).toInt = 21 by decide)
    have n_22 := lv_neT e_22 (show ((22 : Int32)).toInt = 22 by decide)
    have n_23 := lv_neT e_23 (show ((23 : Int32)).toInt = 23 by decide)
    have n_24 := lv_neT e_24 (show ((24 : Int32)).toInt = 24 by decide)
    have n_25 := lv_neT e_25 (show ((25 : Int32)).toInt = 25 by decide)
    have n_26 := lv_neT e_26 (show ((26 : Int32)).toInt = 26 by decide)
    have n_27 := lv_neT e_27 (show ((27 : Int32)).toInt = 27 by decide)
    have n_28 := lv_neT e_28 (show ((28 : Int32)).toInt = 28 by decide)
    have n_29 := lv_neT e_29 (show ((29 : Int32)).toInt = 29 by decide)
    have n_30 := lv_neT e_30 (show ((30 : Int32)).toInt = 30 by decide)
    have n_31 := lv_neT e_31 (show ((31 : Int32)).toInt = 31 by decide)
    have n_32 := lv_neT e_32 (show ((32 : Int32)).toInt = 32 by decide)
    have n_33 := lv_neT e_33 (show ((33 : Int32)).toInt = 33 by decide)
    have n_34 := lv_neT e_34 (show ((34 : Int32)).toInt = 34 by decide)
    have n_35 := lv_neT e_35 (show ((35 : Int32)).toInt = 35 by decide)
    have n_36 := lv_neT e_36 (show ((36 : Int32)).toInt = 36 by decide)
    have n_37 := lv_neT e_37 (show ((37 : Int32)).toInt = 37 by decide)
    have n_38 := lv_neT e_38 (show ((38 : Int32)).toInt = 38 by decide)
    have n_39 := lv_neT e_39 (show ((39 : Int32)).toInt = 39 by decide)
    have n_40 := lv_neT e_40 (show ((40 : Int32)).toInt = 40 by decide)
    refine fl_tabOut (pc := 32) (tgt := 1437) O dL_law_32 (by omega) (by decide) ?_
    exact kback σ τ (HP.1 n σ τ hR)
