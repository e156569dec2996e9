def qX1_renew_L17 (b : Nat) (a1 : Int32) (a2 : Int32) (post : Mem → Prop) (k17 : Int32 → Mem → Prop) (x3 : Int32) (σ : Mem) : Prop := (((40 : Int32) ≤ x3 → post σ) ∧ (¬ (40 : Int32) ≤ x3 → (vp_in x3 40 ∧ (∀ σ29 : Mem, σ29 = up2 σ (b + 1) x3.toNatClampNeg (0 : Int32) → (∀ y3_30 : Int32, y3_30 = x3 + (1 : Int32) → k17 y3_30 σ29)))))
set_option maxRecDepth 20000 in
theorem kX1_renew_L17 {X : Cx} {G : Gw} (hG : fw_IsC G) (O : fw_Ok X G cX1_renew 4 RX1 0 0 none) {b : Nat} {a1 : Int32} {a2 : Int32} {post : Mem → Prop} {k17 : Int32 → Mem → Prop} (hb : fw_sheet b) (hk17 : ∀ (x3 : Int32) (σ : Mem), k17 x3 σ → fw_At X G 4 (fw_QV X G post) 17 [(0, .ref (gad G b)), (1, .int a1), (2, .int a2), (3, .int x3)] [] σ) {x3 : Int32} {σ : Mem} (h : qX1_renew_L17 b a1 a2 post k17 x3 σ) : fw_At X G 4 (fw_QV X G post) 17 [(0, .ref (gad G b)), (1, .int a1), (2, .int a2), (3, .int x3)] [] σ := by
  unfold qX1_renew_L17 at h
  refine fr_iload_n (pc := 17) O 3 dX1_renew_17 rfl rfl ?_
  refine fr_bipush (pc := 18) O (v := (40 : Int32)) dX1_renew_18 (by decide) ?_
  refine fr_icmp_ge (pc := 20) (tgt := 36) O dX1_renew_20 (by decide) (fun c_20 => ?_) (fun c_20 => ?_)
  · have h := h.1 c_20
    exact fr_vret (pc := 36) O dX1_renew_36 h
  · have h := h.2 c_20
    refine fr_aload_n (pc := 23) O 0 dX1_renew_23 rfl rfl ?_
    refine fr_get (pc := 24) (k := 3) (v := .ref (gad G (b + 1))) O cl_X1 m_179 (sC_sheet hG hb) (by decide) rfl rfl dX1_renew_24 ?_
    refine fr_iload_n (pc := 27) O 3 dX1_renew_27 rfl rfl ?_
    refine fr_iconst (pc := 28) O (v := (0 : Int32)) dX1_renew_28 (by decide) ?_
    have hi_29 := h.1
    have h := h.2
    refine fr_iast (pc := 29) O (sC_s1 hG hb) hi_29 dX1_renew_29 (fun σ29 e_σ29 => ?_)
    have h := h σ29 e_σ29
    refine fr_iinc (pc := 30) O 3 [1, 2, 3, 0] (w := (1 : Int32)) (lvF := fun y3_30 => [(0, .ref (gad G b)), (1, .int a1), (2, .int a2), (3, .int y3_30)]) dX1_renew_30 rfl (by decide) (by decide) (fun _ => rfl) (fun y3_30 e_y3_30 => ?_)
    have h := h y3_30 e_y3_30
    refine fr_goto (pc := 33) (tgt := 17) O dX1_renew_33 (by decide) ?_
    exact hk17 _ _ h
set_option maxRecDepth 20000 in
theorem kX1_renew_L17w {X : Cx} {G : Gw} (hG : fw_IsC G) (O : fw_Ok X G cX1_renew 4 RX1 0 0 none) {b : Nat} {a1 : Int32} {a2 : Int32} {post : Mem → Prop} (hb : fw_sheet b)  {n9 : Nat} {x3 : Int32} {σ : Mem} (h : it1 (qX1_renew_L17 b a1 a2 post) n9 x3 σ) : fw_At X G 4 (fw_QV X G post) 17 [(0, .ref (gad G b)), (1, .int a1), (2, .int a2), (3, .int x3)] [] σ :=
  it1_walk (T := fun x3 σ => fw_At X G 4 (fw_QV X G post) 17 [(0, .ref (gad G b)), (1, .int a1), (2, .int a2), (3, .int x3)] [] σ) (fun k17 hk17 x3 σ h => kX1_renew_L17 hG O hb hk17 h) n9 x3 σ h
def qX1_renew (b : Nat) (a1 : Int32) (a2 : Int32) (σ : Mem) (post : Mem → Prop) : Prop := (∀ σ2 : Mem, σ2 = up2 σ b 0 (1 : Int32) → (∀ σ7 : Mem, σ7 = up2 σ2 b 1 a1 → (∀ σ12 : Mem, σ12 = up2 σ7 b 2 a2 → ∃ n9, it1 (qX1_renew_L17 b a1 a2 post) n9 (0 : Int32) σ12)))
set_option maxRecDepth 20000 in
theorem kX1_renew {X : Cx} {G : Gw} (hG : fw_IsC G) (O : fw_Ok X G cX1_renew 4 RX1 0 0 none) {b : Nat} {a1 : Int32} {a2 : Int32} (hb : fw_sheet b) {σ : Mem} {post : Mem → Prop} (h : qX1_renew b a1 a2 σ post) : fw_At X G 4 (fw_QV X G post) 0 [(0, .ref (gad G b)), (1, .int a1), (2, .int a2)] [] σ := by
  unfold qX1_renew at h
  refine fr_aload_n (pc := 0) O 0 dX1_renew_0 rfl rfl ?_
  refine fr_iconst (pc := 1) O (v := (1 : Int32)) dX1_renew_1 (by decide) ?_
  refine fr_put (pc := 2) (k := 0) O cl_X1 m_173 (sC_sheet hG hb) (by decide) rfl rfl isB_1.nar isB_1.fit (fun _ => Nat.le_of_ble_eq_true rfl) (fun _ => rfl) dX1_renew_2 (fun σ2 e_σ2 => ?_)
  have h := h σ2 e_σ2
  refine fr_aload_n (pc := 5) O 0 dX1_renew_5 rfl rfl ?_
  refine fr_iload_n (pc := 6) O 1 dX1_renew_6 rfl rfl ?_
  refine fr_put (pc := 7) (k := 1) O cl_X1 m_175 (sC_sheet hG hb) (by decide) rfl rfl rfl rfl (fun _ => Nat.le_of_ble_eq_true rfl) (fun _ => rfl) dX1_renew_7 (fun σ7 e_σ7 => ?_)
  have h := h σ7 e_σ7
  refine fr_aload_n (pc := 10) O 0 dX1_renew_10 rfl rfl ?_
  refine fr_iload_n (pc := 11) O 2 dX1_renew_11 rfl rfl ?_
  refine fr_put (pc := 12) (k := 2) O cl_X1 m_177 (sC_sheet hG hb) (by decide) rfl rfl rfl rfl (fun _ => Nat.le_of_ble_eq_true rfl) (fun _ => rfl) dX1_renew_12 (fun σ12 e_σ12 => ?_)
  have h := h σ12 e_σ12
  refine fr_iconst (pc := 15) O (v := (0 : Int32)) dX1_renew_15 (by decide) ?_
  refine fr_istore_n (pc := 16) O [1, 2, 3, 0] (lv' := [(0, .ref (gad G b)), (1, .int a1), (2, .int a2), (3, .int (0 : Int32))]) dX1_renew_16 rfl (by decide) rfl ?_
  obtain ⟨n9, h⟩ := h
  exact kX1_renew_L17w hG O hb h
theorem tX1_renew (l : Launch) {G : Gw} (hG : fw_IsC G) {b : Nat} {a1 : Int32} {a2 : Int32} (hb : fw_sheet b) {σ : Mem} {post : Mem → Prop} (h : qX1_renew b a1 a2 σ post) : fw_CV l G yX1_renew cX1_renew 4 0 0 [.ref (gad G b), .int a1, .int a2] σ post := fw_ofV (sok_C hG) (by decide) (Nat.le_of_ble_eq_true rfl) (fun X O => kX1_renew hG O hb h)
def qX1_faultAt_B36 (b : Nat) (a1 : Int32) (a2 : Int32) (post : Int32 → Mem → Prop) (s0 : Int32) (σ : Mem) : Prop := post s0 σ
set_option maxRecDepth 20000 in
theorem kX1_faultAt_B36 {X : Cx} {G : Gw} (hG : fw_IsC G) (O : fw_Ok X G cX1_faultAt 3 RX1 0 0 (some .int)) {b : Nat} {a1 : Int32} {a2 : Int32} {post : Int32 → Mem → Prop} (hb : fw_sheet b)  {s0 : Int32} {σ : Mem} (h : qX1_faultAt_B36 b a1 a2 post s0 σ) : fw_At X G 3 (fw_QI X G post) 36 [(0, .ref (gad G b)), (1, .int a1), (2, .int a2)] [.int s0] σ := by
  unfold qX1_faultAt_B36 at h
  exact fr_iret (pc := 36) O dX1_faultAt_36 h
def qX1_faultAt_B35 (b : Nat) (a1 : Int32) (a2 : Int32) (post : Int32 → Mem → Prop) (σ : Mem) : Prop := qX1_faultAt_B36 b a1 a2 post (2 : Int32) σ
set_option maxRecDepth 20000 in
theorem kX1_faultAt_B35 {X : Cx} {G : Gw} (hG : fw_IsC G) (O : fw_Ok X G cX1_faultAt 3 RX1 0 0 (some .int)) {b : Nat} {a1 : Int32} {a2 : Int32} {post : Int32 → Mem → Prop} (hb : fw_sheet b)   {σ : Mem} (h : qX1_faultAt_B35 b a1 a2 post σ) : fw_At X G 3 (fw_QI X G post) 35 [(0, .ref (gad G b)), (1, .int a1), (2, .int a2)] [] σ := by
  unfold qX1_faultAt_B35 at h
  refine fr_iconst (pc := 35) O (v := (2 : Int32)) dX1_faultAt_35 (by decide) ?_
  exact kX1_faultAt_B36 hG O hb h
def qX1_faultAt (b : Nat) (a1 : Int32) (a2 : Int32) (σ : Mem) (post : Int32 → Mem → Prop) : Prop := ((¬ (σ b 0) = 0 → ((a1 = (σ b 1) → ((a2 < 0 → qX1_faultAt_B35 b a1 a2 post σ) ∧ (¬ a2 < 0 → (((σ b 2) ≤ a2 → qX1_faultAt_B35 b a1 a2 post σ) ∧ (¬ (σ b 2) ≤ a2 → qX1_faultAt_B36 b a1 a2 post (0 : Int32) σ))))) ∧ (¬ a1 = (σ b 1) → post (3 : Int32) σ))) ∧ ((σ b 0) = 0 → post (1 : Int32) σ))
set_option maxRecDepth 20000 in
theorem kX1_faultAt {X : Cx} {G : Gw} (hG : fw_IsC G) (O : fw_Ok X G cX1_faultAt 3 RX1 0 0 (some .int)) {b : Nat} {a1 : Int32} {a2 : Int32} (hb : fw_sheet b) {σ : Mem} {post : Int32 → Mem → Prop} (h : qX1_faultAt b a1 a2 σ post) : fw_At X G 3 (fw_QI X G post) 0 [(0, .ref (gad G b)), (1, .int a1), (2, .int a2)] [] σ := by
  unfold qX1_faultAt at h
  refine fr_aload_n (pc := 0) O 0 dX1_faultAt_0 rfl rfl ?_
  refine fr_get (pc := 1) (k := 0) (v := .int (σ b 0)) O cl_X1 m_173 (sC_sheet hG hb) (by decide) rfl rfl dX1_faultAt_1 ?_
  refine fr_if_ne (pc := 4) (tgt := 9) O dX1_faultAt_4 (by decide) (fun c_4 => ?_) (fun c_4 => ?_)
  · have h := h.1 c_4
    refine fr_iload_n (pc := 9) O 1 dX1_faultAt_9 rfl rfl ?_
    refine fr_aload_n (pc := 10) O 0 dX1_faultAt_10 rfl rfl ?_
    refine fr_get (pc := 11) (k := 1) (v := .int (σ b 1)) O cl_X1 m_175 (sC_sheet hG hb) (by decide) rfl rfl dX1_faultAt_11 ?_
    refine fr_icmp_eq (pc := 14) (tgt := 19) O dX1_faultAt_14 (by decide) (fun c_14 => ?_) (fun c_14 => ?_)
    · have h := h.1 c_14
      refine fr_iload_n (pc := 19) O 2 dX1_faultAt_19 rfl rfl ?_
      refine fr_if_lt (pc := 20) (tgt := 35) O dX1_faultAt_20 (by decide) (fun c_20 => ?_) (fun c_20 => ?_)
      · have h := h.1 c_20
        exact kX1_faultAt_B35 hG O hb h
      · have h := h.2 c_20
        refine fr_iload_n (pc := 23) O 2 dX1_faultAt_23 rfl rfl ?_
        refine fr_aload_n (pc := 24) O 0 dX1_faultAt_24 rfl rfl ?_
        refine fr_get (pc := 25) (k := 2) (v := .int (σ b 2)) O cl_X1 m_177 (sC_sheet hG hb) (by decide) rfl rfl dX1_faultAt_25 ?_
        refine fr_icmp_ge (pc := 28) (tgt := 35) O dX1_faultAt_28 (by decide) (fun c_28 => ?_) (fun c_28 => ?_)
        · have h := h.1 c_28
          exact kX1_faultAt_B35 hG O hb h
        · have h := h.2 c_28
          refine fr_iconst (pc := 31) O (v := (0 : Int32)) dX1_faultAt_31 (by decide) ?_
          refine fr_goto (pc := 32) (tgt := 36) O dX1_faultAt_32 (by decide) ?_
          exact kX1_faultAt_B36 hG O hb h
    · have h := h.2 c_14
      refine fr_iconst (pc := 17) O (v := (3 : Int32)) dX1_faultAt_17 (by decide) ?_
      exact fr_iret (pc := 18) O dX1_faultAt_18 h
  · have h := h.2 c_4
    refine fr_iconst (pc := 7) O (v := (1 : Int32)) dX1_faultAt_7 (by decide) ?_
    exact fr_iret (pc := 8) O dX1_faultAt_8 h
theorem tX1_faultAt (l : Launch) {G : Gw} (hG : fw_IsC G) {b : Nat} {a1 : Int32} {a2 : Int32} (hb : fw_sheet b) {σ : Mem} {post : Int32 → Mem → Prop} (h : qX1_faultAt b a1 a2 σ post) : fw_CI l G yX1_faultAt cX1_faultAt 3 .int 0 0 [.ref (gad G b), .int a1, .int a2] σ post := fw_ofI (sok_C hG) (by decide) (Nat.le_of_ble_eq_true rfl) (fun X O => kX1_faultAt hG O hb h)
def qX1_write_B44 (b : Nat) (a1 : Int32) (a2 : Int32) (post : Mem → Prop) (σ : Mem) : Prop := post σ
set_option maxRecDepth 20000 in
theorem kX1_write_B44 {X : Cx} {G : Gw} (hG : fw_IsC G) (O : fw_Ok X G cX1_write 3 RX1 0 0 none) {b : Nat} {a1 : Int32} {a2 : Int32} {post : Mem → Prop} (hb : fw_sheet b)   {σ : Mem} (h : qX1_write_B44 b a1 a2 post σ) : fw_At X G 3 (fw_QV X G post) 44 [(0, .ref (gad G b)), (1, .int a1), (2, .int a2)] [] σ := by
  unfold qX1_write_B44 at h
  exact fr_vret (pc := 44) O dX1_write_44 h
def qX1_write (b : Nat) (a1 : Int32) (a2 : Int32) (σ : Mem) (post : Mem → Prop) : Prop := ((¬ (σ b 1) = 0 → ((¬ (σ b 1) = (1 : Int32) → (vp_in a1 40 ∧ (∀ σ43 : Mem, σ43 = up2 σ (b + 1) a1.toNatClampNeg a2 → qX1_write_B44 b a1 a2 post σ43))) ∧ ((σ b 1) = (1 : Int32) → (vp_in a1 40 ∧ (∀ σ33 : Mem, σ33 = up2 σ (b + 1) a1.toNatClampNeg a2.toInt16.toInt32 → qX1_write_B44 b a1 a2 post σ33))))) ∧ ((σ b 1) = 0 → (vp_in a1 40 ∧ (∀ σ14 : Mem, σ14 = up2 σ (b + 1) a1.toNatClampNeg a2.toInt8.toInt32 → qX1_write_B44 b a1 a2 post σ14))))
set_option maxRecDepth 20000 in
theorem kX1_write {X : Cx} {G : Gw} (hG : fw_IsC G) (O : fw_Ok X G cX1_write 3 RX1 0 0 none) {b : Nat} {a1 : Int32} {a2 : Int32} (hb : fw_sheet b) {σ : Mem} {post : Mem → Prop} (h : qX1_write b a1 a2 σ post) : fw_At X G 3 (fw_QV X G post) 0 [(0, .ref (gad G b)), (1, .int a1), (2, .int a2)] [] σ := by
  unfold qX1_write at h
  refine fr_aload_n (pc := 0) O 0 dX1_write_0 rfl rfl ?_
  refine fr_get (pc := 1) (k := 1) (v := .int (σ b 1)) O cl_X1 m_175 (sC_sheet hG hb) (by decide) rfl rfl dX1_write_1 ?_
  refine fr_if_ne (pc := 4) (tgt := 18) O dX1_write_4 (by decide) (fun c_4 => ?_) (fun c_4 => ?_)
  · have h := h.1 c_4
    refine fr_aload_n (pc := 18) O 0 dX1_write_18 rfl rfl ?_
    refine fr_get (pc := 19) (k := 1) (v := .int (σ b 1)) O cl_X1 m_175 (sC_sheet hG hb) (by decide) rfl rfl dX1_write_19 ?_
    refine fr_iconst (pc := 22) O (v := (1 : Int32)) dX1_write_22 (by decide) ?_
    refine fr_icmp_ne (pc := 23) (tgt := 37) O dX1_write_23 (by decide) (fun c_23 => ?_) (fun c_23 => ?_)
    · have h := h.1 c_23
      refine fr_aload_n (pc := 37) O 0 dX1_write_37 rfl rfl ?_
      refine fr_get (pc := 38) (k := 3) (v := .ref (gad G (b + 1))) O cl_X1 m_179 (sC_sheet hG hb) (by decide) rfl rfl dX1_write_38 ?_
      refine fr_iload_n (pc := 41) O 1 dX1_write_41 rfl rfl ?_
      refine fr_iload_n (pc := 42) O 2 dX1_write_42 rfl rfl ?_
      have hi_43 := h.1
      have h := h.2
      refine fr_iast (pc := 43) O (sC_s1 hG hb) hi_43 dX1_write_43 (fun σ43 e_σ43 => ?_)
      have h := h σ43 e_σ43
      exact kX1_write_B44 hG O hb h
    · have h := h.2 c_23
      refine fr_aload_n (pc := 26) O 0 dX1_write_26 rfl rfl ?_
      refine fr_get (pc := 27) (k := 3) (v := .ref (gad G (b + 1))) O cl_X1 m_179 (sC_sheet hG hb) (by decide) rfl rfl dX1_write_27 ?_
      refine fr_iload_n (pc := 30) O 1 dX1_write_30 rfl rfl ?_
      refine fr_iload_n (pc := 31) O 2 dX1_write_31 rfl rfl ?_
      refine fr_i2s (pc := 32) O dX1_write_32 ?_
      have hi_33 := h.1
      have h := h.2
      refine fr_iast (pc := 33) O (sC_s1 hG hb) hi_33 dX1_write_33 (fun σ33 e_σ33 => ?_)
      have h := h σ33 e_σ33
      refine fr_goto (pc := 34) (tgt := 44) O dX1_write_34 (by decide) ?_
      exact kX1_write_B44 hG O hb h
  · have h := h.2 c_4
    refine fr_aload_n (pc := 7) O 0 dX1_write_7 rfl rfl ?_
    refine fr_get (pc := 8) (k := 3) (v := .ref (gad G (b + 1))) O cl_X1 m_179 (sC_sheet hG hb) (by decide) rfl rfl dX1_write_8 ?_
    refine fr_iload_n (pc := 11) O 1 dX1_write_11 rfl rfl ?_
    refine fr_iload_n (pc := 12) O 2 dX1_write_12 rfl rfl ?_
    refine fr_i2b (pc := 13) O dX1_write_13 ?_
    have hi_14 := h.1
    have h := h.2
    refine fr_iast (pc := 14) O (sC_s1 hG hb) hi_14 dX1_write_14 (fun σ14 e_σ14 => ?_)
    have h := h σ14 e_σ14
    refine fr_goto (pc := 15) (tgt := 44) O dX1_write_15 (by decide) ?_
    exact kX1_write_B44 hG O hb h
theorem tX1_write (l : Launch) {G : Gw} (hG : fw_IsC G) {b : Nat} {a1 : Int32} {a2 : Int32} (hb : fw_sheet b) {σ : Mem} {post : Mem → Prop} (h : qX1_write b a1 a2 σ post) : fw_CV l G yX1_write cX1_write 3 0 0 [.ref (gad G b), .int a1, .int a2] σ post := fw_ofV (sok_C hG) (by decide) (Nat.le_of_ble_eq_true rfl) (fun X O => kX1_write hG O hb h)
def qX2_append (a1 : Int32) (σ : Mem) (post : Int32 → Mem → Prop) : Prop := (((σ 33 1) < (160 : Int32) → (vp_in (σ 33 1) 160 ∧ (∀ σ22 : Mem, σ22 = up2 σ 34 (σ 33 1).toNatClampNeg a1 → (∀ σ30 : Mem, σ30 = up2 σ22 33 1 ((σ22 33 1) + (1 : Int32)) → post (σ30 33 1) σ30)))) ∧ (¬ (σ 33 1) < (160 : Int32) → post (-3 : Int32) σ))
set_option maxRecDepth 20000 in
theorem kX2_append {X : Cx} {G : Gw} (hG : fw_IsC G) (O : fw_Ok X G cX2_append 2 RX2 0 0 (some .int)) {a1 : Int32}  {σ : Mem} {post : Int32 → Mem → Prop} (h : qX2_append a1 σ post) : fw_At X G 2 (fw_QI X G post) 0 [(0, .ref (gad G 33)), (1, .int a1)] [] σ := by
  unfold qX2_append at h
  refine fr_aload_n (pc := 0) O 0 dX2_append_0 rfl rfl ?_
  refine fr_get (pc := 1) (k := 1) (v := .int (σ 33 1)) O cl_X2 m_139 (sC_33 hG) (by decide) rfl rfl dX2_append_1 ?_
  refine fr_sipush (pc := 4) O (v := (160 : Int32)) dX2_append_4 (by decide) ?_
  refine fr_icmp_lt (pc := 7) (tgt := 13) O dX2_append_7 (by decide) (fun c_7 => ?_) (fun c_7 => ?_)
  · have h := h.1 c_7
    refine fr_aload_n (pc := 13) O 0 dX2_append_13 rfl rfl ?_
    refine fr_get (pc := 14) (k := 0) (v := .ref (gad G 34)) O cl_X2 m_138 (sC_33 hG) (by decide) rfl rfl dX2_append_14 ?_
    refine fr_aload_n (pc := 17) O 0 dX2_append_17 rfl rfl ?_
    refine fr_get (pc := 18) (k := 1) (v := .int (σ 33 1)) O cl_X2 m_139 (sC_33 hG) (by decide) rfl rfl dX2_append_18 ?_
    refine fr_iload_n (pc := 21) O 1 dX2_append_21 rfl rfl ?_
    have hi_22 := h.1
    have h := h.2
    refine fr_iast (pc := 22) O (sC_34 hG) hi_22 dX2_append_22 (fun σ22 e_σ22 => ?_)
    have h := h σ22 e_σ22
    refine fr_aload_n (pc := 23) O 0 dX2_append_23 rfl rfl ?_
    refine fr_dup (pc := 24) O dX2_append_24 rfl ?_
    refine fr_get (pc := 25) (k := 1) (v := .int (σ22 33 1)) O cl_X2 m_139 (sC_33 hG) (by decide) rfl rfl dX2_append_25 ?_
    refine fr_iconst (pc := 28) O (v := (1 : Int32)) dX2_append_28 (by decide) ?_
    refine fr_iadd (pc := 29) O dX2_append_29 ?_
    refine fr_put (pc := 30) (k := 1) O cl_X2 m_139 (sC_33 hG) (by decide) rfl rfl rfl rfl (fun _ => Nat.le_of_ble_eq_true rfl) (fun _ => rfl) dX2_append_30 (fun σ30 e_σ30 => ?_)
    have h := h σ30 e_σ30
    refine fr_aload_n (pc := 33) O 0 dX2_append_33 rfl rfl ?_
    refine fr_get (pc := 34) (k := 1) (v := .int (σ30 33 1)) O cl_X2 m_139 (sC_33 hG) (by decide) rfl rfl dX2_append_34 ?_
    exact fr_iret (pc := 37) O dX2_append_37 h
  · have h := h.2 c_7
    refine fr_bipush (pc := 10) O (v := (-3 : Int32)) dX2_append_10 (by decide) ?_
    exact fr_iret (pc := 12) O dX2_append_12 h
theorem tX2_append (l : Launch) {G : Gw} (hG : fw_IsC G) {a1 : Int32}  {σ : Mem} {post : Int32 → Mem → Prop} (h : qX2_append a1 σ post) : fw_CI l G yX2_append cX2_append 2 .int 0 0 [.ref (gad G 33), .int a1] σ post := fw_ofI (sok_C hG) (by decide) (Nat.le_of_ble_eq_true rfl) (fun X O => kX2_append hG O  h)
def qX2_isLetter_B17 (a0 : Int32) (post : Int32 → Mem → Prop) (s0 : Int32) (σ : Mem) : Prop := (isB s0 ∧ post s0 σ)
set_option maxRecDepth 20000 in
theorem kX2_isLetter_B17 {X : Cx} {G : Gw} (hG : fw_IsC G) (O : fw_Ok X G cX2_isLetter 1 RX2 0 0 (some .boolean)) {a0 : Int32} {post : Int32 → Mem → Prop}   {s0 : Int32} {σ : Mem} (h : qX2_isLetter_B17 a0 post s0 σ) : fw_At X G 1 (fw_QI X G post) 17 [(0, .int a0)] [.int s0] σ := by
  unfold qX2_isLetter_B17 at h
  exact fr_zret (pc := 17) O dX2_isLetter_17 h.1 h.2
def qX2_isLetter_B16 (a0 : Int32) (post : Int32 → Mem → Prop) (σ : Mem) : Prop := qX2_isLetter_B17 a0 post (0 : Int32) σ
set_option maxRecDepth 20000 in
theorem kX2_isLetter_B16 {X : Cx} {G : Gw} (hG : fw_IsC G) (O : fw_Ok X G cX2_isLetter 1 RX2 0 0 (some .boolean)) {a0 : Int32} {post : Int32 → Mem → Prop}    {σ : Mem} (h : qX2_isLetter_B16 a0 post σ) : fw_At X G 1 (fw_QI X G post) 16 [(0, .int a0)] [] σ := by
  unfold qX2_isLetter_B16 at h
  refine fr_iconst (pc := 16) O (v := (0 : Int32)) dX2_isLetter_16 (by decide) ?_
  exact kX2_isLetter_B17 hG O  h
def qX2_isLetter (a0 : Int32) (σ : Mem) (post : Int32 → Mem → Prop) : Prop := ((a0 < (97 : Int32) → qX2_isLetter_B16 a0 post σ) ∧ (¬ a0 < (97 : Int32) → (((122 : Int32) < a0 → qX2_isLetter_B16 a0 post σ) ∧ (¬ (122 : Int32) < a0 → qX2_isLetter_B17 a0 post (1 : Int32) σ))))
set_option maxRecDepth 20000 in
theorem kX2_isLetter {X : Cx} {G : Gw} (hG : fw_IsC G) (O : fw_Ok X G cX2_isLetter 1 RX2 0 0 (some .boolean)) {a0 : Int32}  {σ : Mem} {post : Int32 → Mem → Prop} (h : qX2_isLetter a0 σ post) : fw_At X G 1 (fw_QI X G post) 0 [(0, .int a0)] [] σ := by
  unfold qX2_isLetter at h
  refine fr_iload_n (pc := 0) O 0 dX2_isLetter_0 rfl rfl ?_
  refine fr_bipush (pc := 1) O (v := (97 : Int32)) dX2_isLetter_1 (by decide) ?_
  refine fr_icmp_lt (pc := 3) (tgt := 16) O dX2_isLetter_3 (by decide) (fun c_3 => ?_) (fun c_3 => ?_)
  · have h := h.1 c_3
    exact kX2_isLetter_B16 hG O  h
  · have h := h.2 c_3
    refine fr_iload_n (pc := 6) O 0 dX2_isLetter_6 rfl rfl ?_
    refine fr_bipush (pc := 7) O (v := (122 : Int32)) dX2_isLetter_7 (by decide) ?_
    refine fr_icmp_gt (pc := 9) (tgt := 16) O dX2_isLetter_9 (by decide) (fun c_9 => ?_) (fun c_9 => ?_)
    · have h := h.1 c_9
      exact kX2_isLetter_B16 hG O  h
    · have h := h.2 c_9
      refine fr_iconst (pc := 12) O (v := (1 : Int32)) dX2_isLetter_12 (by decide) ?_
      refine fr_goto (pc := 13) (tgt := 17) O dX2_isLetter_13 (by decide) ?_
      exact kX2_isLetter_B17 hG O  h
theorem tX2_isLetter (l : Launch) {G : Gw} (hG : fw_IsC G) {a0 : Int32}  {σ : Mem} {post : Int32 → Mem → Prop} (h : qX2_isLetter a0 σ post) : fw_CI l G yX2_isLetter cX2_isLetter 1 .boolean 0 0 [.int a0] σ post := fw_ofI (sok_C hG) (by decide) (Nat.le_of_ble_eq_true rfl) (fun X O => kX2_isLetter hG O  h)
def qX2_takeName_B44 (post : Mem → Prop) (σ : Mem) : Prop := post σ
set_option maxRecDepth 20000 in
theorem kX2_takeName_B44 {X : Cx} {G : Gw} (hG : fw_IsC G) (O : fw_Ok X G cX2_takeName 1 RX2 1 20 none)  {post : Mem → Prop}    {σ : Mem} (h : qX2_takeName_B44 post σ) : fw_At X G 1 (fw_QV X G post) 44 [(0, .ref (gad G 33))] [] σ := by
  unfold qX2_takeName_B44 at h
  exact fr_vret (pc := 44) O dX2_takeName_44 h
def qX2_takeName_L5 (post : Mem → Prop) (k5 : Mem → Prop) (σ : Mem) : Prop := (((σ 33 1) ≤ (σ 33 3) → qX2_takeName_B44 post σ) ∧ (¬ (σ 33 1) ≤ (σ 33 3) → (vp_in (σ 33 3) 160 ∧ (qX2_isLetter (σ 34 (σ 33 3).toNatClampNeg) σ (fun r25 σ25 => ((r25 = 0 → qX2_takeName_B44 post σ25) ∧ (¬ r25 = 0 → (∀ σ38 : Mem, σ38 = up2 σ25 33 3 ((σ25 33 3) + (1 : Int32)) → k5 σ38))))))))
set_option maxRecDepth 20000 in
theorem kX2_takeName_L5 {X : Cx} {G : Gw} (hG : fw_IsC G) (O : fw_Ok X G cX2_takeName 1 RX2 1 20 none)  {post : Mem → Prop} {k5 : Mem → Prop}  (hk5 : ∀ (σ : Mem), k5  σ → fw_At X G 1 (fw_QV X G post) 5 [(0, .ref (gad G 33))] [] σ)  {σ : Mem} (h : qX2_takeName_L5 post k5 σ) : fw_At X G 1 (fw_QV X G post) 5 [(0, .ref (gad G 33))] [] σ := by
  unfold qX2_takeName_L5 at h
  refine fr_aload_n (pc := 5) O 0 dX2_takeName_5 rfl rfl ?_
  refine fr_get (pc := 6) (k := 3) (v := .int (σ 33 3)) O cl_X2 m_143 (sC_33 hG) (by decide) rfl rfl dX2_takeName_6 ?_
  refine fr_aload_n (pc := 9) O 0 dX2_takeName_9 rfl rfl ?_
  refine fr_get (pc := 10) (k := 1) (v := .int (σ 33 1)) O cl_X2 m_139 (sC_33 hG) (by decide) rfl rfl dX2_takeName_10 ?_
  refine fr_icmp_ge (pc := 13) (tgt := 44) O dX2_takeName_13 (by decide) (fun c_13 => ?_) (fun c_13 => ?_)
  · have h := h.1 c_13
    exact kX2_takeName_B44 hG O  h
  · have h := h.2 c_13
    refine fr_aload_n (pc := 16) O 0 dX2_takeName_16 rfl rfl ?_
    refine fr_get (pc := 17) (k := 0) (v := .ref (gad G 34)) O cl_X2 m_138 (sC_33 hG) (by decide) rfl rfl dX2_takeName_17 ?_
    refine fr_aload_n (pc := 20) O 0 dX2_takeName_20 rfl rfl ?_
    refine fr_get (pc := 21) (k := 3) (v := .int (σ 33 3)) O cl_X2 m_143 (sC_33 hG) (by decide) rfl rfl dX2_takeName_21 ?_
    have hi_24 := h.1
    have h := h.2
    refine fr_iald (pc := 24) O (sC_34 hG) hi_24 dX2_takeName_24 ?_
    refine fr_callSI (pc := 25) (st := []) O (tX2_isLetter X.2.1 hG  h) mt_X2_isLetter m_269 m_268 rfl (by decide) rfl (Nat.le_of_ble_eq_true rfl) dX2_takeName_25 (fun r25 σ25 h => ?_)
    refine fr_if_eq (pc := 28) (tgt := 44) O dX2_takeName_28 (by decide) (fun c_28 => ?_) (fun c_28 => ?_)
    · have h := h.1 c_28
      exact kX2_takeName_B44 hG O  h
    · have h := h.2 c_28
      refine fr_aload_n (pc := 31) O 0 dX2_takeName_31 rfl rfl ?_
      refine fr_dup (pc := 32) O dX2_takeName_32 rfl ?_
      refine fr_get (pc := 33) (k := 3) (v := .int (σ25 33 3)) O cl_X2 m_143 (sC_33 hG) (by decide) rfl rfl dX2_takeName_33 ?_
      refine fr_iconst (pc := 36) O (v := (1 : Int32)) dX2_takeName_36 (by decide) ?_
      refine fr_iadd (pc := 37) O dX2_takeName_37 ?_
      refine fr_put (pc := 38) (k := 3) O cl_X2 m_143 (sC_33 hG) (by decide) rfl rfl rfl rfl (fun _ => Nat.le_of_ble_eq_true rfl) (fun _ => rfl) dX2_takeName_38 (fun σ38 e_σ38 => ?_)
      have h := h σ38 e_σ38
      refine fr_goto (pc := 41) (tgt := 5) O dX2_takeName_41 (by decide) ?_
      exact hk5 _ h
set_option maxRecDepth 20000 in
theorem kX2_takeName_L5w {X : Cx} {G : Gw} (hG : fw_IsC G) (O : fw_Ok X G cX2_takeName 1 RX2 1 20 none)  {post : Mem → Prop}   {n9 : Nat}  {σ : Mem} (h : it0 (qX2_takeName_L5 post) n9 σ) : fw_At X G 1 (fw_QV X G post) 5 [(0, .ref (gad G 33))] [] σ :=
  it0_walk (T := fun  σ => fw_At X G 1 (fw_QV X G post) 5 [(0, .ref (gad G 33))] [] σ) (fun k5 hk5  σ h => kX2_takeName_L5 hG O hk5 h) n9 σ h
def qX2_takeName  (σ : Mem) (post : Mem → Prop) : Prop := (∀ σ2 : Mem, σ2 = up2 σ 33 4 (1 : Int32) → ∃ n9, it0 (qX2_takeName_L5 post) n9 σ2)
set_option maxRecDepth 20000 in
theorem kX2_takeName {X : Cx} {G : Gw} (hG : fw_IsC G) (O : fw_Ok X G cX2_takeName 1 RX2 1 20 none)   {σ : Mem} {post : Mem → Prop} (h : qX2_takeName  σ post) : fw_At X G 1 (fw_QV X G post) 0 [(0, .ref (gad G 33))] [] σ := by
  unfold qX2_takeName at h
  refine fr_aload_n (pc := 0) O 0 dX2_takeName_0 rfl rfl ?_
  refine fr_iconst (pc := 1) O (v := (1 : Int32)) dX2_takeName_1 (by decide) ?_
  refine fr_put (pc := 2) (k := 4) O cl_X2 m_144 (sC_33 hG) (by decide) rfl rfl rfl rfl (fun _ => Nat.le_of_ble_eq_true rfl) (fun _ => rfl) dX2_takeName_2 (fun σ2 e_σ2 => ?_)
  have h := h σ2 e_σ2
  obtain ⟨n9, h⟩ := h
  exact kX2_takeName_L5w hG O  h
theorem tX2_takeName (l : Launch) {G : Gw} (hG : fw_IsC G)   {σ : Mem} {post : Mem → Prop} (h : qX2_takeName  σ post) : fw_CV l G yX2_takeName cX2_takeName 1 1 20 [.ref (gad G 33)] σ post := fw_ofV (sok_C hG) (by decide) (Nat.le_of_ble_eq_true rfl) (fun X O => kX2_takeName hG O  h)
def qX2_isFigure_B17 (a0 : Int32) (post : Int32 → Mem → Prop) (s0 : Int32) (σ : Mem) : Prop := (isB s0 ∧ post s0 σ)
set_option maxRecDepth 20000 in
theorem kX2_isFigure_B17 {X : Cx} {G : Gw} (hG : fw_IsC G) (O : fw_Ok X G cX2_isFigure 1 RX2 0 0 (some .boolean)) {a0 : Int32} {post : Int32 → Mem → Prop}   {s0 : Int32} {σ : Mem} (h : qX2_isFigure_B17 a0 post s0 σ) : fw_At X G 1 (fw_QI X G post) 17 [(0, .int a0)] [.int s0] σ := by
  unfold qX2_isFigure_B17 at h
  exact fr_zret (pc := 17) O dX2_isFigure_17 h.1 h.2
def qX2_isFigure_B16 (a0 : Int32) (post : Int32 → Mem → Prop) (σ : Mem) : Prop := qX2_isFigure_B17 a0 post (0 : Int32) σ
set_option maxRecDepth 20000 in
theorem kX2_isFigure_B16 {X : Cx} {G : Gw} (hG : fw_IsC G) (O : fw_Ok X G cX2_isFigure 1 RX2 0 0 (some .boolean)) {a0 : Int32} {post : Int32 → Mem → Prop}    {σ : Mem} (h : qX2_isFigure_B16 a0 post σ) : fw_At X G 1 (fw_QI X G post) 16 [(0, .int a0)] [] σ := by
  unfold qX2_isFigure_B16 at h
  refine fr_iconst (pc := 16) O (v := (0 : Int32)) dX2_isFigure_16 (by decide) ?_
  exact kX2_isFigure_B17 hG O  h
def qX2_isFigure (a0 : Int32) (σ : Mem) (post : Int32 → Mem → Prop) : Prop := ((a0 < (48 : Int32) → qX2_isFigure_B16 a0 post σ) ∧ (¬ a0 < (48 : Int32) → (((57 : Int32) < a0 → qX2_isFigure_B16 a0 post σ) ∧ (¬ (57 : Int32) < a0 → qX2_isFigure_B17 a0 post (1 : Int32) σ))))
set_option maxRecDepth 20000 in
theorem kX2_isFigure {X : Cx} {G : Gw} (hG : fw_IsC G) (O : fw_Ok X G cX2_isFigure 1 RX2 0 0 (some .boolean)) {a0 : Int32}  {σ : Mem} {post : Int32 → Mem → Prop} (h : qX2_isFigure a0 σ post) : fw_At X G 1 (fw_QI X G post) 0 [(0, .int a0)] [] σ := by
  unfold qX2_isFigure at h
  refine fr_iload_n (pc := 0) O 0 dX2_isFigure_0 rfl rfl ?_
  refine fr_bipush (pc := 1) O (v := (48 : Int32)) dX2_isFigure_1 (by decide) ?_
  refine fr_icmp_lt (pc := 3) (tgt := 16) O dX2_isFigure_3 (by decide) (fun c_3 => ?_) (fun c_3 => ?_)
  · have h := h.1 c_3
    exact kX2_isFigure_B16 hG O  h
  · have h := h.2 c_3
    refine fr_iload_n (pc := 6) O 0 dX2_isFigure_6 rfl rfl ?_
    refine fr_bipush (pc := 7) O (v := (57 : Int32)) dX2_isFigure_7 (by decide) ?_
    refine fr_icmp_gt (pc := 9) (tgt := 16) O dX2_isFigure_9 (by decide) (fun c_9 => ?_) (fun c_9 => ?_)
    · have h := h.1 c_9
      exact kX2_isFigure_B16 hG O  h
    · have h := h.2 c_9
      refine fr_iconst (pc := 12) O (v := (1 : Int32)) dX2_isFigure_12 (by decide) ?_
      refine fr_goto (pc := 13) (tgt := 17) O dX2_isFigure_13 (by decide) ?_
      exact kX2_isFigure_B17 hG O  h
theorem tX2_isFigure (l : Launch) {G : Gw} (hG : fw_IsC G) {a0 : Int32}  {σ : Mem} {post : Int32 → Mem → Prop} (h : qX2_isFigure a0 σ post) : fw_CI l G yX2_isFigure cX2_isFigure 1 .boolean 0 0 [.int a0] σ post := fw_ofI (sok_C hG) (by decide) (Nat.le_of_ble_eq_true rfl) (fun X O => kX2_isFigure hG O  h)
def qX2_takeNumber_B92 (post : Mem → Prop) (σ : Mem) : Prop := post σ
set_option maxRecDepth 20000 in
theorem kX2_takeNumber_B92 {X : Cx} {G : Gw} (hG : fw_IsC G) (O : fw_Ok X G cX2_takeNumber 1 RX2 1 20 none)  {post : Mem → Prop}    {σ : Mem} (h : qX2_takeNumber_B92 post σ) : fw_At X G 1 (fw_QV X G post) 92 [(0, .ref (gad G 33))] [] σ := by
  unfold qX2_takeNumber_B92 at h
  exact fr_vret (pc := 92) O dX2_takeNumber_92 h
def qX2_takeNumber_L10 (post : Mem → Prop) (k10 : Mem → Prop) (σ : Mem) : Prop := (((σ 33 1) ≤ (σ 33 3) → qX2_takeNumber_B92 post σ) ∧ (¬ (σ 33 1) ≤ (σ 33 3) → (vp_in (σ 33 3) 160 ∧ (qX2_isFigure (σ 34 (σ 33 3).toNatClampNeg) σ (fun r30 σ30 => ((r30 = 0 → qX2_takeNumber_B92 post σ30) ∧ (¬ r30 = 0 → ((((σ30 33 3) - (σ30 33 5)) < (2 : Int32) → (vp_in (σ30 33 3) 160 ∧ (∀ σ76 : Mem, σ76 = up2 σ30 33 6 ((((σ30 33 6) * (10 : Int32)) + (σ30 34 (σ30 33 3).toNatClampNeg)) - (48 : Int32)) → (∀ σ86 : Mem, σ86 = up2 σ76 33 3 ((σ76 33 3) + (1 : Int32)) → k10 σ86)))) ∧ (¬ ((σ30 33 3) - (σ30 33 5)) < (2 : Int32) → (∀ σ51 : Mem, σ51 = up2 σ30 33 2 (1 : Int32) → post σ51))))))))))
set_option maxRecDepth 20000 in
theorem kX2_takeNumber_L10 {X : Cx} {G : Gw} (hG : fw_IsC G) (O : fw_Ok X G cX2_takeNumber 1 RX2 1 20 none)  {post : Mem → Prop} {k10 : Mem → Prop}  (hk10 : ∀ (σ : Mem), k10  σ → fw_At X G 1 (fw_QV X G post) 10 [(0, .ref (gad G 33))] [] σ)  {σ : Mem} (h : qX2_takeNumber_L10 post k10 σ) : fw_At X G 1 (fw_QV X G post) 10 [(0, .ref (gad G 33))] [] σ := by
  unfold qX2_takeNumber_L10 at h
  refine fr_aload_n (pc := 10) O 0 dX2_takeNumber_10 rfl rfl ?_
  refine fr_get (pc := 11) (k := 3) (v := .int (σ 33 3)) O cl_X2 m_143 (sC_33 hG) (by decide) rfl rfl dX2_takeNumber_11 ?_
  refine fr_aload_n (pc := 14) O 0 dX2_takeNumber_14 rfl rfl ?_
  refine fr_get (pc := 15) (k := 1) (v := .int (σ 33 1)) O cl_X2 m_139 (sC_33 hG) (by decide) rfl rfl dX2_takeNumber_15 ?_
  refine fr_icmp_ge (pc := 18) (tgt := 92) O dX2_takeNumber_18 (by decide) (fun c_18 => ?_) (fun c_18 => ?_)
  · have h := h.1 c_18
    exact kX2_takeNumber_B92 hG O  h
  · have h := h.2 c_18
    refine fr_aload_n (pc := 21) O 0 dX2_takeNumber_21 rfl rfl ?_
    refine fr_get (pc := 22) (k := 0) (v := .ref (gad G 34)) O cl_X2 m_138 (sC_33 hG) (by decide) rfl rfl dX2_takeNumber_22 ?_
    refine fr_aload_n (pc := 25) O 0 dX2_takeNumber_25 rfl rfl ?_
    refine fr_get (pc := 26) (k := 3) (v := .int (σ 33 3)) O cl_X2 m_143 (sC_33 hG) (by decide) rfl rfl dX2_takeNumber_26 ?_
    have hi_29 := h.1
    have h := h.2
    refine fr_iald (pc := 29) O (sC_34 hG) hi_29 dX2_takeNumber_29 ?_
    refine fr_callSI (pc := 30) (st := []) O (tX2_isFigure X.2.1 hG  h) mt_X2_isFigure m_276 m_275 rfl (by decide) rfl (Nat.le_of_ble_eq_true rfl) dX2_takeNumber_30 (fun r30 σ30 h => ?_)
    refine fr_if_eq (pc := 33) (tgt := 92) O dX2_takeNumber_33 (by decide) (fun c_33 => ?_) (fun c_33 => ?_)
    · have h := h.1 c_33
      exact kX2_takeNumber_B92 hG O  h
    · have h := h.2 c_33
      refine fr_aload_n (pc := 36) O 0 dX2_takeNumber_36 rfl rfl ?_
      refine fr_get (pc := 37) (k := 3) (v := .int (σ30 33 3)) O cl_X2 m_143 (sC_33 hG) (by decide) rfl rfl dX2_takeNumber_37 ?_
      refine fr_aload_n (pc := 40) O 0 dX2_takeNumber_40 rfl rfl ?_
      refine fr_get (pc := 41) (k := 5) (v := .int (σ30 33 5)) O cl_X2 m_145 (sC_33 hG) (by decide) rfl rfl dX2_takeNumber_41 ?_
      refine fr_isub (pc := 44) O dX2_takeNumber_44 ?_
      refine fr_iconst (pc := 45) O (v := (2 : Int32)) dX2_takeNumber_45 (by decide) ?_
      refine fr_icmp_lt (pc := 46) (tgt := 55) O dX2_takeNumber_46 (by decide) (fun c_46 => ?_) (fun c_46 => ?_)
      · have h := h.1 c_46
        refine fr_aload_n (pc := 55) O 0 dX2_takeNumber_55 rfl rfl ?_
        refine fr_aload_n (pc := 56) O 0 dX2_takeNumber_56 rfl rfl ?_
        refine fr_get (pc := 57) (k := 6) (v := .int (σ30 33 6)) O cl_X2 m_146 (sC_33 hG) (by decide) rfl rfl dX2_takeNumber_57 ?_
        refine fr_bipush (pc := 60) O (v := (10 : Int32)) dX2_takeNumber_60 (by decide) ?_
        refine fr_imul (pc := 62) O dX2_takeNumber_62 ?_
        refine fr_aload_n (pc := 63) O 0 dX2_takeNumber_63 rfl rfl ?_
        refine fr_get (pc := 64) (k := 0) (v := .ref (gad G 34)) O cl_X2 m_138 (sC_33 hG) (by decide) rfl rfl dX2_takeNumber_64 ?_
        refine fr_aload_n (pc := 67) O 0 dX2_takeNumber_67 rfl rfl ?_
        refine fr_get (pc := 68) (k := 3) (v := .int (σ30 33 3)) O cl_X2 m_143 (sC_33 hG) (by decide) rfl rfl dX2_takeNumber_68 ?_
        have hi_71 := h.1
        have h := h.2
        refine fr_iald (pc := 71) O (sC_34 hG) hi_71 dX2_takeNumber_71 ?_
        refine fr_iadd (pc := 72) O dX2_takeNumber_72 ?_
        refine fr_bipush (pc := 73) O (v := (48 : Int32)) dX2_takeNumber_73 (by decide) ?_
        refine fr_isub (pc := 75) O dX2_takeNumber_75 ?_
        refine fr_put (pc := 76) (k := 6) O cl_X2 m_146 (sC_33 hG) (by decide) rfl rfl rfl rfl (fun _ => Nat.le_of_ble_eq_true rfl) (fun _ => rfl) dX2_takeNumber_76 (fun σ76 e_σ76 => ?_)
        have h := h σ76 e_σ76
        refine fr_aload_n (pc := 79) O 0 dX2_takeNumber_79 rfl rfl ?_
        refine fr_dup (pc := 80) O dX2_takeNumber_80 rfl ?_
        refine fr_get (pc := 81) (k := 3) (v := .int (σ76 33 3)) O cl_X2 m_143 (sC_33 hG) (by decide) rfl rfl dX2_takeNumber_81 ?_
        refine fr_iconst (pc := 84) O (v := (1 : Int32)) dX2_takeNumber_84 (by decide) ?_
        refine fr_iadd (pc := 85) O dX2_takeNumber_85 ?_
        refine fr_put (pc := 86) (k := 3) O cl_X2 m_143 (sC_33 hG) (by decide) rfl rfl rfl rfl (fun _ => Nat.le_of_ble_eq_true rfl) (fun _ => rfl) dX2_takeNumber_86 (fun σ86 e_σ86 => ?_)
        have h := h σ86 e_σ86
        refine fr_goto (pc := 89) (tgt := 10) O dX2_takeNumber_89 (by decide) ?_
        exact hk10 _ h
      · have h := h.2 c_46
        refine fr_aload_n (pc := 49) O 0 dX2_takeNumber_49 rfl rfl ?_
        refine fr_iconst (pc := 50) O (v := (1 : Int32)) dX2_takeNumber_50 (by decide) ?_
        refine fr_put (pc := 51) (k := 2) O cl_X2 m_141 (sC_33 hG) (by decide) rfl rfl rfl rfl (fun _ => Nat.le_of_ble_eq_true rfl) (fun _ => rfl) dX2_takeNumber_51 (fun σ51 e_σ51 => ?_)
        have h := h σ51 e_σ51
        exact fr_vret (pc := 54) O dX2_takeNumber_54 h
set_option maxRecDepth 20000 in
theorem kX2_takeNumber_L10w {X : Cx} {G : Gw} (hG : fw_IsC G) (O : fw_Ok X G cX2_takeNumber 1 RX2 1 20 none)  {post : Mem → Prop}   {n9 : Nat}  {σ : Mem} (h : it0 (qX2_takeNumber_L10 post) n9 σ) : fw_At X G 1 (fw_QV X G post) 10 [(0, .ref (gad G 33))] [] σ :=
  it0_walk (T := fun  σ => fw_At X G 1 (fw_QV X G post) 10 [(0, .ref (gad G 33))] [] σ) (fun k10 hk10  σ h => kX2_takeNumber_L10 hG O hk10 h) n9 σ h
def qX2_takeNumber  (σ : Mem) (post : Mem → Prop) : Prop := (∀ σ2 : Mem, σ2 = up2 σ 33 4 (2 : Int32) → (∀ σ7 : Mem, σ7 = up2 σ2 33 6 (0 : Int32) → ∃ n9, it0 (qX2_takeNumber_L10 post) n9 σ7))
set_option maxRecDepth 20000 in
theorem kX2_takeNumber {X : Cx} {G : Gw} (hG : fw_IsC G) (O : fw_Ok X G cX2_takeNumber 1 RX2 1 20 none)   {σ : Mem} {post : Mem → Prop} (h : qX2_takeNumber  σ post) : fw_At X G 1 (fw_QV X G post) 0 [(0, .ref (gad G 33))] [] σ := by
  unfold qX2_takeNumber at h
  refine fr_aload_n (pc := 0) O 0 dX2_takeNumber_0 rfl rfl ?_
  refine fr_iconst (pc := 1) O (v := (2 : Int32)) dX2_takeNumber_1 (by decide) ?_
  refine fr_put (pc := 2) (k := 4) O cl_X2 m_144 (sC_33 hG) (by decide) rfl rfl rfl rfl (fun _ => Nat.le_of_ble_eq_true rfl) (fun _ => rfl) dX2_takeNumber_2 (fun σ2 e_σ2 => ?_)
  have h := h σ2 e_σ2
  refine fr_aload_n (pc := 5) O 0 dX2_takeNumber_5 rfl rfl ?_
  refine fr_iconst (pc := 6) O (v := (0 : Int32)) dX2_takeNumber_6 (by decide) ?_
  refine fr_put (pc := 7) (k := 6) O cl_X2 m_146 (sC_33 hG) (by decide) rfl rfl rfl rfl (fun _ => Nat.le_of_ble_eq_true rfl) (fun _ => rfl) dX2_takeNumber_7 (fun σ7 e_σ7 => ?_)
  have h := h σ7 e_σ7
  obtain ⟨n9, h⟩ := h
  exact kX2_takeNumber_L10w hG O  h
theorem tX2_takeNumber (l : Launch) {G : Gw} (hG : fw_IsC G)   {σ : Mem} {post : Mem → Prop} (h : qX2_takeNumber  σ post) : fw_CV l G yX2_takeNumber cX2_takeNumber 1 1 20 [.ref (gad G 33)] σ post := fw_ofV (sok_C hG) (by decide) (Nat.le_of_ble_eq_true rfl) (fun X O => kX2_takeNumber hG O  h)
def qX2_nextToken_B154 (post : Mem → Prop) (σ : Mem) : Prop := post σ
set_option maxRecDepth 20000 in
theorem kX2_nextToken_B154 {X : Cx} {G : Gw} (hG : fw_IsC G) (O : fw_Ok X G cX2_nextToken 1 RX2 2 40 none)  {post : Mem → Prop}    {σ : Mem} (h : qX2_nextToken_B154 post σ) : fw_At X G 1 (fw_QV X G post) 154 [(0, .ref (gad G 33))] [] σ := by
  unfold qX2_nextToken_B154 at h
  exact fr_vret (pc := 154) O dX2_nextToken_154 h
def qX2_nextToken_B46 (post : Mem → Prop) (σ : Mem) : Prop := (∀ σ51 : Mem, σ51 = up2 σ 33 5 (σ 33 3) → (((σ51 33 3) < (σ51 33 1) → (vp_in (σ51 33 3) 160 ∧ (qX2_isLetter (σ51 34 (σ51 33 3).toNatClampNeg) σ51 (fun r82 σ82 => ((r82 = 0 → (vp_in (σ82 33 3) 160 ∧ (qX2_isFigure (σ82 34 (σ82 33 3).toNatClampNeg) σ82 (fun r104 σ104 => ((r104 = 0 → (vp_in (σ104 33 3) 160 ∧ ((¬ (σ104 34 (σ104 33 3).toNatClampNeg) = (59 : Int32) → (∀ σ151 : Mem, σ151 = up2 σ104 33 2 (1 : Int32) → qX2_nextToken_B154 post σ151)) ∧ ((σ104 34 (σ104 33 3).toNatClampNeg) = (59 : Int32) → (∀ σ133 : Mem, σ133 = up2 σ104 33 4 (3 : Int32) → (∀ σ143 : Mem, σ143 = up2 σ133 33 3 ((σ133 33 3) + (1 : Int32)) → qX2_nextToken_B154 post σ143)))))) ∧ (¬ r104 = 0 → (qX2_takeNumber σ104 (fun σ111 => qX2_nextToken_B154 post σ111)))))))) ∧ (¬ r82 = 0 → (qX2_takeName σ82 (fun σ89 => qX2_nextToken_B154 post σ89)))))))) ∧ (¬ (σ51 33 3) < (σ51 33 1) → (∀ σ67 : Mem, σ67 = up2 σ51 33 4 (0 : Int32) → qX2_nextToken_B154 post σ67))))
set_option maxRecDepth 20000 in
theorem kX2_nextToken_B46 {X : Cx} {G : Gw} (hG : fw_IsC G) (O : fw_Ok X G cX2_nextToken 1 RX2 2 40 none)  {post : Mem → Prop}    {σ : Mem} (h : qX2_nextToken_B46 post σ) : fw_At X G 1 (fw_QV X G post) 46 [(0, .ref (gad G 33))] [] σ := by
  unfold qX2_nextToken_B46 at h
  refine fr_aload_n (pc := 46) O 0 dX2_nextToken_46 rfl rfl ?_
  refine fr_aload_n (pc := 47) O 0 dX2_nextToken_47 rfl rfl ?_
  refine fr_get (pc := 48) (k := 3) (v := .int (σ 33 3)) O cl_X2 m_143 (sC_33 hG) (by decide) rfl rfl dX2_nextToken_48 ?_
  refine fr_put (pc := 51) (k := 5) O cl_X2 m_145 (sC_33 hG) (by decide) rfl rfl rfl rfl (fun _ => Nat.le_of_ble_eq_true rfl) (fun _ => rfl) dX2_nextToken_51 (fun σ51 e_σ51 => ?_)
  have h := h σ51 e_σ51
  refine fr_aload_n (pc := 54) O 0 dX2_nextToken_54 rfl rfl ?_
  refine fr_get (pc := 55) (k := 3) (v := .int (σ51 33 3)) O cl_X2 m_143 (sC_33 hG) (by decide) rfl rfl dX2_nextToken_55 ?_
  refine fr_aload_n (pc := 58) O 0 dX2_nextToken_58 rfl rfl ?_
  refine fr_get (pc := 59) (k := 1) (v := .int (σ51 33 1)) O cl_X2 m_139 (sC_33 hG) (by decide) rfl rfl dX2_nextToken_59 ?_
  refine fr_icmp_lt (pc := 62) (tgt := 73) O dX2_nextToken_62 (by decide) (fun c_62 => ?_) (fun c_62 => ?_)
  · have h := h.1 c_62
    refine fr_aload_n (pc := 73) O 0 dX2_nextToken_73 rfl rfl ?_
    refine fr_get (pc := 74) (k := 0) (v := .ref (gad G 34)) O cl_X2 m_138 (sC_33 hG) (by decide) rfl rfl dX2_nextToken_74 ?_
    refine fr_aload_n (pc := 77) O 0 dX2_nextToken_77 rfl rfl ?_
    refine fr_get (pc := 78) (k := 3) (v := .int (σ51 33 3)) O cl_X2 m_143 (sC_33 hG) (by decide) rfl rfl dX2_nextToken_78 ?_
    have hi_81 := h.1
    have h := h.2
    refine fr_iald (pc := 81) O (sC_34 hG) hi_81 dX2_nextToken_81 ?_
    refine fr_callSI (pc := 82) (st := []) O (tX2_isLetter X.2.1 hG  h) mt_X2_isLetter m_269 m_268 rfl (by decide) rfl (Nat.le_of_ble_eq_true rfl) dX2_nextToken_82 (fun r82 σ82 h => ?_)
    refine fr_if_eq (pc := 85) (tgt := 95) O dX2_nextToken_85 (by decide) (fun c_85 => ?_) (fun c_85 => ?_)
    · have h := h.1 c_85
      refine fr_aload_n (pc := 95) O 0 dX2_nextToken_95 rfl rfl ?_
      refine fr_get (pc := 96) (k := 0) (v := .ref (gad G 34)) O cl_X2 m_138 (sC_33 hG) (by decide) rfl rfl dX2_nextToken_96 ?_
      refine fr_aload_n (pc := 99) O 0 dX2_nextToken_99 rfl rfl ?_
      refine fr_get (pc := 100) (k := 3) (v := .int (σ82 33 3)) O cl_X2 m_143 (sC_33 hG) (by decide) rfl rfl dX2_nextToken_100 ?_
      have hi_103 := h.1
      have h := h.2
      refine fr_iald (pc := 103) O (sC_34 hG) hi_103 dX2_nextToken_103 ?_
      refine fr_callSI (pc := 104) (st := []) O (tX2_isFigure X.2.1 hG  h) mt_X2_isFigure m_276 m_275 rfl (by decide) rfl (Nat.le_of_ble_eq_true rfl) dX2_nextToken_104 (fun r104 σ104 h => ?_)
      refine fr_if_eq (pc := 107) (tgt := 117) O dX2_nextToken_107 (by decide) (fun c_107 => ?_) (fun c_107 => ?_)
      · have h := h.1 c_107
        refine fr_aload_n (pc := 117) O 0 dX2_nextToken_117 rfl rfl ?_
        refine fr_get (pc := 118) (k := 0) (v := .ref (gad G 34)) O cl_X2 m_138 (sC_33 hG) (by decide) rfl rfl dX2_nextToken_118 ?_
        refine fr_aload_n (pc := 121) O 0 dX2_nextToken_121 rfl rfl ?_
        refine fr_get (pc := 122) (k := 3) (v := .int (σ104 33 3)) O cl_X2 m_143 (sC_33 hG) (by decide) rfl rfl dX2_nextToken_122 ?_
        have hi_125 := h.1
        have h := h.2
        refine fr_iald (pc := 125) O (sC_34 hG) hi_125 dX2_nextToken_125 ?_
        refine fr_bipush (pc := 126) O (v := (59 : Int32)) dX2_nextToken_126 (by decide) ?_
        refine fr_icmp_ne (pc := 128) (tgt := 149) O dX2_nextToken_128 (by decide) (fun c_128 => ?_) (fun c_128 => ?_)
        · have h := h.1 c_128
          refine fr_aload_n (pc := 149) O 0 dX2_nextToken_149 rfl rfl ?_
          refine fr_iconst (pc := 150) O (v := (1 : Int32)) dX2_nextToken_150 (by decide) ?_
          refine fr_put (pc := 151) (k := 2) O cl_X2 m_141 (sC_33 hG) (by decide) rfl rfl rfl rfl (fun _ => Nat.le_of_ble_eq_true rfl) (fun _ => rfl) dX2_nextToken_151 (fun σ151 e_σ151 => ?_)
          have h := h σ151 e_σ151
          exact kX2_nextToken_B154 hG O  h
        · have h := h.2 c_128
          refine fr_aload_n (pc := 131) O 0 dX2_nextToken_131 rfl rfl ?_
          refine fr_iconst (pc := 132) O (v := (3 : Int32)) dX2_nextToken_132 (by decide) ?_
          refine fr_put (pc := 133) (k := 4) O cl_X2 m_144 (sC_33 hG) (by decide) rfl rfl rfl rfl (fun _ => Nat.le_of_ble_eq_true rfl) (fun _ => rfl) dX2_nextToken_133 (fun σ133 e_σ133 => ?_)
          have h := h σ133 e_σ133
          refine fr_aload_n (pc := 136) O 0 dX2_nextToken_136 rfl rfl ?_
          refine fr_dup (pc := 137) O dX2_nextToken_137 rfl ?_
          refine fr_get (pc := 138) (k := 3) (v := .int (σ133 33 3)) O cl_X2 m_143 (sC_33 hG) (by decide) rfl rfl dX2_nextToken_138 ?_
          refine fr_iconst (pc := 141) O (v := (1 : Int32)) dX2_nextToken_141 (by decide) ?_
          refine fr_iadd (pc := 142) O dX2_nextToken_142 ?_
          refine fr_put (pc := 143) (k := 3) O cl_X2 m_143 (sC_33 hG) (by decide) rfl rfl rfl rfl (fun _ => Nat.le_of_ble_eq_true rfl) (fun _ => rfl) dX2_nextToken_143 (fun σ143 e_σ143 => ?_)
          have h := h σ143 e_σ143
          refine fr_goto (pc := 146) (tgt := 154) O dX2_nextToken_146 (by decide) ?_
          exact kX2_nextToken_B154 hG O  h
      · have h := h.2 c_107
        refine fr_aload_n (pc := 110) O 0 dX2_nextToken_110 rfl rfl ?_
        refine fr_callVV (pc := 111) (st := []) O (tX2_takeNumber X.2.1 hG  h) mt_X2_takeNumber mv_X2_takeNumber m_278 cl_X2 rfl (sC_33 hG) rfl (by decide) rfl (Nat.le_of_ble_eq_true rfl) dX2_nextToken_111 (fun σ111 h => ?_)
        refine fr_goto (pc := 114) (tgt := 154) O dX2_nextToken_114 (by decide) ?_
        exact kX2_nextToken_B154 hG O  h
    · have h := h.2 c_85
      refine fr_aload_n (pc := 88) O 0 dX2_nextToken_88 rfl rfl ?_
      refine fr_callVV (pc := 89) (st := []) O (tX2_takeName X.2.1 hG  h) mt_X2_takeName mv_X2_takeName m_271 cl_X2 rfl (sC_33 hG) rfl (by decide) rfl (Nat.le_of_ble_eq_true rfl) dX2_nextToken_89 (fun σ89 h => ?_)
      refine fr_goto (pc := 92) (tgt := 154) O dX2_nextToken_92 (by decide) ?_
      exact kX2_nextToken_B154 hG O  h
  · have h := h.2 c_62
    refine fr_aload_n (pc := 65) O 0 dX2_nextToken_65 rfl rfl ?_
    refine fr_iconst (pc := 66) O (v := (0 : Int32)) dX2_nextToken_66 (by decide) ?_
    refine fr_put (pc := 67) (k := 4) O cl_X2 m_144 (sC_33 hG) (by decide) rfl rfl rfl rfl (fun _ => Nat.le_of_ble_eq_true rfl) (fun _ => rfl) dX2_nextToken_67 (fun σ67 e_σ67 => ?_)
    have h := h σ67 e_σ67
    refine fr_goto (pc := 70) (tgt := 154) O dX2_nextToken_70 (by decide) ?_
    exact kX2_nextToken_B154 hG O  h
def qX2_nextToken_L8 (post : Mem → Prop) (k8 : Mem → Prop) (σ : Mem) : Prop := (((σ 33 1) ≤ (σ 33 3) → qX2_nextToken_B46 post σ) ∧ (¬ (σ 33 1) ≤ (σ 33 3) → (vp_in (σ 33 3) 160 ∧ ((¬ (σ 34 (σ 33 3).toNatClampNeg) = (32 : Int32) → qX2_nextToken_B46 post σ) ∧ ((σ 34 (σ 33 3).toNatClampNeg) = (32 : Int32) → (∀ σ40 : Mem, σ40 = up2 σ 33 3 ((σ 33 3) + (1 : Int32)) → k8 σ40))))))
set_option maxRecDepth 20000 in
theorem kX2_nextToken_L8 {X : Cx} {G : Gw} (hG : fw_IsC G) (O : fw_Ok X G cX2_nextToken 1 RX2 2 40 none)  {post : Mem → Prop} {k8 : Mem → Prop}  (hk8 : ∀ (σ : Mem), k8  σ → fw_At X G 1 (fw_QV X G post) 8 [(0, .ref (gad G 33))] [] σ)  {σ : Mem} (h : qX2_nextToken_L8 post k8 σ) : fw_At X G 1 (fw_QV X G post) 8 [(0, .ref (gad G 33))] [] σ := by
  unfold qX2_nextToken_L8 at h
  refine fr_aload_n (pc := 8) O 0 dX2_nextToken_8 rfl rfl ?_
  refine fr_get (pc := 9) (k := 3) (v := .int (σ 33 3)) O cl_X2 m_143 (sC_33 hG) (by decide) rfl rfl dX2_nextToken_9 ?_
  refine fr_aload_n (pc := 12) O 0 dX2_nextToken_12 rfl rfl ?_
  refine fr_get (pc := 13) (k := 1) (v := .int (σ 33 1)) O cl_X2 m_139 (sC_33 hG) (by decide) rfl rfl dX2_nextToken_13 ?_
  refine fr_icmp_ge (pc := 16) (tgt := 46) O dX2_nextToken_16 (by decide) (fun c_16 => ?_) (fun c_16 => ?_)
  · have h := h.1 c_16
    exact kX2_nextToken_B46 hG O  h
  · have h := h.2 c_16
    refine fr_aload_n (pc := 19) O 0 dX2_nextToken_19 rfl rfl ?_
    refine fr_get (pc := 20) (k := 0) (v := .ref (gad G 34)) O cl_X2 m_138 (sC_33 hG) (by decide) rfl rfl dX2_nextToken_20 ?_
    refine fr_aload_n (pc := 23) O 0 dX2_nextToken_23 rfl rfl ?_
    refine fr_get (pc := 24) (k := 3) (v := .int (σ 33 3)) O cl_X2 m_143 (sC_33 hG) (by decide) rfl rfl dX2_nextToken_24 ?_
    have hi_27 := h.1
    have h := h.2
    refine fr_iald (pc := 27) O (sC_34 hG) hi_27 dX2_nextToken_27 ?_
    refine fr_bipush (pc := 28) O (v := (32 : Int32)) dX2_nextToken_28 (by decide) ?_
    refine fr_icmp_ne (pc := 30) (tgt := 46) O dX2_nextToken_30 (by decide) (fun c_30 => ?_) (fun c_30 => ?_)
    · have h := h.1 c_30
      exact kX2_nextToken_B46 hG O  h
    · have h := h.2 c_30
      refine fr_aload_n (pc := 33) O 0 dX2_nextToken_33 rfl rfl ?_
      refine fr_dup (pc := 34) O dX2_nextToken_34 rfl ?_
      refine fr_get (pc := 35) (k := 3) (v := .int (σ 33 3)) O cl_X2 m_143 (sC_33 hG) (by decide) rfl rfl dX2_nextToken_35 ?_
      refine fr_iconst (pc := 38) O (v := (1 : Int32)) dX2_nextToken_38 (by decide) ?_
      refine fr_iadd (pc := 39) O dX2_nextToken_39 ?_
      refine fr_put (pc := 40) (k := 3) O cl_X2 m_143 (sC_33 hG) (by decide) rfl rfl rfl rfl (fun _ => Nat.le_of_ble_eq_true rfl) (fun _ => rfl) dX2_nextToken_40 (fun σ40 e_σ40 => ?_)
      have h := h σ40 e_σ40
      refine fr_goto (pc := 43) (tgt := 8) O dX2_nextToken_43 (by decide) ?_
      exact hk8 _ h
set_option maxRecDepth 20000 in
theorem kX2_nextToken_L8w {X : Cx} {G : Gw} (hG : fw_IsC G) (O : fw_Ok X G cX2_nextToken 1 RX2 2 40 none)  {post : Mem → Prop}   {n9 : Nat}  {σ : Mem} (h : it0 (qX2_nextToken_L8 post) n9 σ) : fw_At X G 1 (fw_QV X G post) 8 [(0, .ref (gad G 33))] [] σ :=
  it0_walk (T := fun  σ => fw_At X G 1 (fw_QV X G post) 8 [(0, .ref (gad G 33))] [] σ) (fun k8 hk8  σ h => kX2_nextToken_L8 hG O hk8 h) n9 σ h
def qX2_nextToken  (σ : Mem) (post : Mem → Prop) : Prop := (((σ 33 2) = 0 → ∃ n9, it0 (qX2_nextToken_L8 post) n9 σ) ∧ (¬ (σ 33 2) = 0 → post σ))
set_option maxRecDepth 20000 in
theorem kX2_nextToken {X : Cx} {G : Gw} (hG : fw_IsC G) (O : fw_Ok X G cX2_nextToken 1 RX2 2 40 none)   {σ : Mem} {post : Mem → Prop} (h : qX2_nextToken  σ post) : fw_At X G 1 (fw_QV X G post) 0 [(0, .ref (gad G 33))] [] σ := by
  unfold qX2_nextToken at h
  refine fr_aload_n (pc := 0) O 0 dX2_nextToken_0 rfl rfl ?_
  refine fr_get (pc := 1) (k := 2) (v := .int (σ 33 2)) O cl_X2 m_141 (sC_33 hG) (by decide) rfl rfl dX2_nextToken_1 ?_
  refine fr_if_eq (pc := 4) (tgt := 8) O dX2_nextToken_4 (by decide) (fun c_4 => ?_) (fun c_4 => ?_)
  · have h := h.1 c_4
    obtain ⟨n9, h⟩ := h
    exact kX2_nextToken_L8w hG O  h
  · have h := h.2 c_4
    exact fr_vret (pc := 7) O dX2_nextToken_7 h
theorem tX2_nextToken (l : Launch) {G : Gw} (hG : fw_IsC G)   {σ : Mem} {post : Mem → Prop} (h : qX2_nextToken  σ post) : fw_CV l G yX2_nextToken cX2_nextToken 1 2 40 [.ref (gad G 33)] σ post := fw_ofV (sok_C hG) (by decide) (Nat.le_of_ble_eq_true rfl) (fun X O => kX2_nextToken hG O  h)
def qX2_nameOfLine (a0 : Int32) (σ : Mem) (post : Nat → Mem → Prop) : Prop := ((a0 = (0 : Int32) → post 0 σ) ∧ (¬ a0 = (0 : Int32) → ((a0 = (1 : Int32) → post 1 σ) ∧ (¬ a0 = (1 : Int32) → ((a0 = (2 : Int32) → post 2 σ) ∧ (¬ a0 = (2 : Int32) → ((a0 = (3 : Int32) → post 3 σ) ∧ (¬ a0 = (3 : Int32) → ((a0 = (4 : Int32) → post 4 σ) ∧ (¬ a0 = (4 : Int32) → ((a0 = (5 : Int32) → post 5 σ) ∧ (¬ a0 = (5 : Int32) → ((a0 = (6 : Int32) → post 6 σ) ∧ (¬ a0 = (6 : Int32) → post 7 σ))))))))))))))
set_option maxRecDepth 20000 in
theorem kX2_nameOfLine {X : Cx} {G : Gw} (hG : fw_IsC G) (O : fw_Ok X G cX2_nameOfLine 1 RX2 0 0 (some (.object "java/lang/String"))) {a0 : Int32}  {σ : Mem} {post : Nat → Mem → Prop} (h : qX2_nameOfLine a0 σ post) : fw_At X G 1 (fw_QR X G post) 0 [(0, .int a0)] [] σ := by
  unfold qX2_nameOfLine at h
  refine fr_iload_n (pc := 0) O 0 dX2_nameOfLine_0 rfl rfl ?_
  by_cases e1_0 : a0 = (0 : Int32)
  · refine fr_tabIn (pc := 1) (tgt := 44) (off := 43) O dX2_nameOfLine_1 (by rw [e1_0]; decide) ?_
    have h := h.1 e1_0
    refine fr_ldcs (pc := 44) O (i := 0) (sC_str hG O.2.2.1 0 (by decide)) dX2_nameOfLine_44 ?_
    exact fr_sret (pc := 46) O dX2_nameOfLine_46 (by decide) h
  · have h := h.2 e1_0
    by_cases e1_1 : a0 = (1 : Int32)
    · refine fr_tabIn (pc := 1) (tgt := 47) (off := 46) O dX2_nameOfLine_1 (by rw [e1_1]; decide) ?_
      have h := h.1 e1_1
      refine fr_ldcs (pc := 47) O (i := 1) (sC_str hG O.2.2.1 1 (by decide)) dX2_nameOfLine_47 ?_
      exact fr_sret (pc := 49) O dX2_nameOfLine_49 (by decide) h
    · have h := h.2 e1_1
      by_cases e1_2 : a0 = (2 : Int32)
      · refine fr_tabIn (pc := 1) (tgt := 50) (off := 49) O dX2_nameOfLine_1 (by rw [e1_2]; decide) ?_
        have h := h.1 e1_2
        refine fr_ldcs (pc := 50) O (i := 2) (sC_str hG O.2.2.1 2 (by decide)) dX2_nameOfLine_50 ?_
        exact fr_sret (pc := 52) O dX2_nameOfLine_52 (by decide) h
      · have h := h.2 e1_2
        by_cases e1_3 : a0 = (3 : Int32)
        · refine fr_tabIn (pc := 1) (tgt := 53) (off := 52) O dX2_nameOfLine_1 (by rw [e1_3]; decide) ?_
          have h := h.1 e1_3
          refine fr_ldcs (pc := 53) O (i := 3) (sC_str hG O.2.2.1 3 (by decide)) dX2_nameOfLine_53 ?_
          exact fr_sret (pc := 55) O dX2_nameOfLine_55 (by decide) h
        · have h := h.2 e1_3
          by_cases e1_4 : a0 = (4 : Int32)
          · refine fr_tabIn (pc := 1) (tgt := 56) (off := 55) O dX2_nameOfLine_1 (by rw [e1_4]; decide) ?_
            have h := h.1 e1_4
            refine fr_ldcs (pc := 56) O (i := 4) (sC_str hG O.2.2.1 4 (by decide)) dX2_nameOfLine_56 ?_
            exact fr_sret (pc := 58) O dX2_nameOfLine_58 (by decide) h
          · have h := h.2 e1_4
            by_cases e1_5 : a0 = (5 : Int32)
            · refine fr_tabIn (pc := 1) (tgt := 59) (off := 58) O dX2_nameOfLine_1 (by rw [e1_5]; decide) ?_
              have h := h.1 e1_5
              refine fr_ldcs (pc := 59) O (i := 5) (sC_str hG O.2.2.1 5 (by decide)) dX2_nameOfLine_59 ?_
              exact fr_sret (pc := 61) O dX2_nameOfLine_61 (by decide) h
            · have h := h.2 e1_5
              by_cases e1_6 : a0 = (6 : Int32)
              · refine fr_tabIn (pc := 1) (tgt := 62) (off := 61) O dX2_nameOfLine_1 (by rw [e1_6]; decide) ?_
                have h := h.1 e1_6
                refine fr_ldcs (pc := 62) O (i := 6) (sC_str hG O.2.2.1 6 (by decide)) dX2_nameOfLine_62 ?_
                exact fr_sret (pc := 64) O dX2_nameOfLine_64 (by decide) h
              · have h := h.2 e1_6
                have n0 := lv_neT e1_0 (show ((0 : Int32)).toInt = 0 by decide)
                have n1 := lv_neT e1_1 (show ((1 : Int32)).toInt = 1 by decide)
                have n2 := lv_neT e1_2 (show ((2 : Int32)).toInt = 2 by decide)
                have n3 := lv_neT e1_3 (show ((3 : Int32)).toInt = 3 by decide)
                have n4 := lv_neT e1_4 (show ((4 : Int32)).toInt = 4 by decide)
                have n5 := lv_neT e1_5 (show ((5 : Int32)).toInt = 5 by decide)
                have n6 := lv_neT e1_6 (show ((6 : Int32)).toInt = 6 by decide)
                refine fr_tabOut (pc := 1) (tgt := 65) O dX2_nameOfLine_1 (by omega) (by decide) ?_
                refine fr_ldcs (pc := 65) O (i := 7) (sC_str hG O.2.2.1 7 (by decide)) dX2_nameOfLine_65 ?_
                exact fr_sret (pc := 67) O dX2_nameOfLine_67 (by decide) h
theorem tX2_nameOfLine (l : Launch) {G : Gw} (hG : fw_IsC G) {a0 : Int32}  {σ : Mem} {post : Nat → Mem → Prop} (h : qX2_nameOfLine a0 σ post) : fw_CR l G yX2_nameOfLine cX2_nameOfLine 1 0 0 [.int a0] σ post := fw_ofR (sok_C hG) (by decide) (Nat.le_of_ble_eq_true rfl) (fun X O => kX2_nameOfLine hG O  h)
def qX2_tokenIs_L20 (si : Nat) (post : Int32 → Mem → Prop) (k20 : Int32 → Mem → Prop) (x2 : Int32) (σ : Mem) : Prop := (qJ0_length_8abf5 si σ (fun r22 σ22 => ((r22 ≤ x2 → post (1 : Int32) σ22) ∧ (¬ r22 ≤ x2 → (vp_in ((σ22 33 5) + x2) 160 ∧ (qJ0_charAt_5068e si x2 σ22 (fun r41 σ41 => (((σ22 34 ((σ22 33 5) + x2).toNatClampNeg) = r41 → (∀ y2_49 : Int32, y2_49 = x2 + (1 : Int32) → k20 y2_49 σ41)) ∧ (¬ (σ22 34 ((σ22 33 5) + x2).toNatClampNeg) = r41 → post (0 : Int32) σ41)))))))))
set_option maxRecDepth 20000 in
theorem kX2_tokenIs_L20 {X : Cx} {G : Gw} (hG : fw_IsC G) (O : fw_Ok X G cX2_tokenIs 3 RX2 4 85 (some .boolean)) {si : Nat} {post : Int32 → Mem → Prop} {k20 : Int32 → Mem → Prop} (hsi : si < 8) (hk20 : ∀ (x2 : Int32) (σ : Mem), k20 x2 σ → fw_At X G 3 (fw_QI X G post) 20 [(0, .ref (gad G 33)), (1, .ref (gK G si)), (2, .int x2)] [] σ) {x2 : Int32} {σ : Mem} (h : qX2_tokenIs_L20 si post k20 x2 σ) : fw_At X G 3 (fw_QI X G post) 20 [(0, .ref (gad G 33)), (1, .ref (gK G si)), (2, .int x2)] [] σ := by
  unfold qX2_tokenIs_L20 at h
  refine fr_iload_n (pc := 20) O 2 dX2_tokenIs_20 rfl rfl ?_
  refine fr_aload_n (pc := 21) O 1 dX2_tokenIs_21 rfl rfl ?_
  refine fr_callTI (pc := 22) (st := [.int x2]) O (tJ0_length_8abf5 X.2.1 hG hsi h) mt_J0_length_8abf5 mv_J0_length_8abf5 m_305 (sC_sok hG O.2.2.1 hsi) rfl rfl (by decide) rfl (Nat.le_of_ble_eq_true rfl) dX2_tokenIs_22 (fun r22 σ22 h => ?_)
  refine fr_icmp_ge (pc := 25) (tgt := 55) O dX2_tokenIs_25 (by decide) (fun c_25 => ?_) (fun c_25 => ?_)
  · have h := h.1 c_25
    refine fr_iconst (pc := 55) O (v := (1 : Int32)) dX2_tokenIs_55 (by decide) ?_
    exact fr_zret (pc := 56) O dX2_tokenIs_56 isB_1 h
  · have h := h.2 c_25
    refine fr_aload_n (pc := 28) O 0 dX2_tokenIs_28 rfl rfl ?_
    refine fr_get (pc := 29) (k := 0) (v := .ref (gad G 34)) O cl_X2 m_138 (sC_33 hG) (by decide) rfl rfl dX2_tokenIs_29 ?_
    refine fr_aload_n (pc := 32) O 0 dX2_tokenIs_32 rfl rfl ?_
    refine fr_get (pc := 33) (k := 5) (v := .int (σ22 33 5)) O cl_X2 m_145 (sC_33 hG) (by decide) rfl rfl dX2_tokenIs_33 ?_
    refine fr_iload_n (pc := 36) O 2 dX2_tokenIs_36 rfl rfl ?_
    refine fr_iadd (pc := 37) O dX2_tokenIs_37 ?_
    have hi_38 := h.1
    have h := h.2
    refine fr_iald (pc := 38) O (sC_34 hG) hi_38 dX2_tokenIs_38 ?_
    refine fr_aload_n (pc := 39) O 1 dX2_tokenIs_39 rfl rfl ?_
    refine fr_iload_n (pc := 40) O 2 dX2_tokenIs_40 rfl rfl ?_
    refine fr_callTI (pc := 41) (st := [.int (σ22 34 ((σ22 33 5) + x2).toNatClampNeg)]) O (tJ0_charAt_5068e X.2.1 hG hsi h) mt_J0_charAt_5068e mv_J0_charAt_5068e m_315 (sC_sok hG O.2.2.1 hsi) rfl rfl (by decide) rfl (Nat.le_of_ble_eq_true rfl) dX2_tokenIs_41 (fun r41 σ41 h => ?_)
    refine fr_icmp_eq (pc := 44) (tgt := 49) O dX2_tokenIs_44 (by decide) (fun c_44 => ?_) (fun c_44 => ?_)
    · have h := h.1 c_44
      refine fr_iinc (pc := 49) O 2 [1, 2, 0] (w := (1 : Int32)) (lvF := fun y2_49 => [(0, .ref (gad G 33)), (1, .ref (gK G si)), (2, .int y2_49)]) dX2_tokenIs_49 rfl (by decide) (by decide) (fun _ => rfl) (fun y2_49 e_y2_49 => ?_)
      have h := h y2_49 e_y2_49
      refine fr_goto (pc := 52) (tgt := 20) O dX2_tokenIs_52 (by decide) ?_
      exact hk20 _ _ h
    · have h := h.2 c_44
      refine fr_iconst (pc := 47) O (v := (0 : Int32)) dX2_tokenIs_47 (by decide) ?_
      exact fr_zret (pc := 48) O dX2_tokenIs_48 isB_0 h
set_option maxRecDepth 20000 in
theorem kX2_tokenIs_L20w {X : Cx} {G : Gw} (hG : fw_IsC G) (O : fw_Ok X G cX2_tokenIs 3 RX2 4 85 (some .boolean)) {si : Nat} {post : Int32 → Mem → Prop} (hsi : si < 8)  {n9 : Nat} {x2 : Int32} {σ : Mem} (h : it1 (qX2_tokenIs_L20 si post) n9 x2 σ) : fw_At X G 3 (fw_QI X G post) 20 [(0, .ref (gad G 33)), (1, .ref (gK G si)), (2, .int x2)] [] σ :=
  it1_walk (T := fun x2 σ => fw_At X G 3 (fw_QI X G post) 20 [(0, .ref (gad G 33)), (1, .ref (gK G si)), (2, .int x2)] [] σ) (fun k20 hk20 x2 σ h => kX2_tokenIs_L20 hG O hsi hk20 h) n9 x2 σ h
def qX2_tokenIs (si : Nat) (σ : Mem) (post : Int32 → Mem → Prop) : Prop := (qJ0_length_8abf5 si σ (fun r10 σ10 => ((((σ 33 3) - (σ 33 5)) = r10 → ∃ n9, it1 (qX2_tokenIs_L20 si post) n9 (0 : Int32) σ10) ∧ (¬ ((σ 33 3) - (σ 33 5)) = r10 → post (0 : Int32) σ10))))
set_option maxRecDepth 20000 in
theorem kX2_tokenIs {X : Cx} {G : Gw} (hG : fw_IsC G) (O : fw_Ok X G cX2_tokenIs 3 RX2 4 85 (some .boolean)) {si : Nat} (hsi : si < 8) {σ : Mem} {post : Int32 → Mem → Prop} (h : qX2_tokenIs si σ post) : fw_At X G 3 (fw_QI X G post) 0 [(0, .ref (gad G 33)), (1, .ref (gK G si))] [] σ := by
  unfold qX2_tokenIs at h
  refine fr_aload_n (pc := 0) O 0 dX2_tokenIs_0 rfl rfl ?_
  refine fr_get (pc := 1) (k := 3) (v := .int (σ 33 3)) O cl_X2 m_143 (sC_33 hG) (by decide) rfl rfl dX2_tokenIs_1 ?_
  refine fr_aload_n (pc := 4) O 0 dX2_tokenIs_4 rfl rfl ?_
  refine fr_get (pc := 5) (k := 5) (v := .int (σ 33 5)) O cl_X2 m_145 (sC_33 hG) (by decide) rfl rfl dX2_tokenIs_5 ?_
  refine fr_isub (pc := 8) O dX2_tokenIs_8 ?_
  refine fr_aload_n (pc := 9) O 1 dX2_tokenIs_9 rfl rfl ?_
  refine fr_callTI (pc := 10) (st := [.int ((σ 33 3) - (σ 33 5))]) O (tJ0_length_8abf5 X.2.1 hG hsi h) mt_J0_length_8abf5 mv_J0_length_8abf5 m_305 (sC_sok hG O.2.2.1 hsi) rfl rfl (by decide) rfl (Nat.le_of_ble_eq_true rfl) dX2_tokenIs_10 (fun r10 σ10 h => ?_)
  refine fr_icmp_eq (pc := 13) (tgt := 18) O dX2_tokenIs_13 (by decide) (fun c_13 => ?_) (fun c_13 => ?_)
  · have h := h.1 c_13
    refine fr_iconst (pc := 18) O (v := (0 : Int32)) dX2_tokenIs_18 (by decide) ?_
    refine fr_istore_n (pc := 19) O [1, 2, 0] (lv' := [(0, .ref (gad G 33)), (1, .ref (gK G si)), (2, .int (0 : Int32))]) dX2_tokenIs_19 rfl (by decide) rfl ?_
    obtain ⟨n9, h⟩ := h
    exact kX2_tokenIs_L20w hG O hsi h
  · have h := h.2 c_13
    refine fr_iconst (pc := 16) O (v := (0 : Int32)) dX2_tokenIs_16 (by decide) ?_
    exact fr_zret (pc := 17) O dX2_tokenIs_17 isB_0 h
theorem tX2_tokenIs (l : Launch) {G : Gw} (hG : fw_IsC G) {si : Nat} (hsi : si < 8) {σ : Mem} {post : Int32 → Mem → Prop} (h : qX2_tokenIs si σ post) : fw_CI l G yX2_tokenIs cX2_tokenIs 3 .boolean 4 85 [.ref (gad G 33), .ref (gK G si)] σ post := fw_ofI (sok_C hG) (by decide) (Nat.le_of_ble_eq_true rfl) (fun X O => kX2_tokenIs hG O hsi h)
def qX2_lineOfName_B35 (post : Int32 → Mem → Prop) (σ : Mem) : Prop := post (8 : Int32) σ
set_option maxRecDepth 20000 in
theorem kX2_lineOfName_B35 {X : Cx} {G : Gw} (hG : fw_IsC G) (O : fw_Ok X G cX2_lineOfName 2 RX2 5 107 (some .int))  {post : Int32 → Mem → Prop}    {σ : Mem} (h : qX2_lineOfName_B35 post σ) : fw_At X G 2 (fw_QI X G post) 35 [(0, .ref (gad G 33))] [] σ := by
  unfold qX2_lineOfName_B35 at h
  refine fr_bipush (pc := 35) O (v := (8 : Int32)) dX2_lineOfName_35 (by decide) ?_
  exact fr_iret (pc := 37) O dX2_lineOfName_37 h
def qX2_lineOfName_L10 (post : Int32 → Mem → Prop) (k10 : Int32 → Mem → Prop) (x1 : Int32) (σ : Mem) : Prop := (((8 : Int32) ≤ x1 → qX2_lineOfName_B35 post σ) ∧ (¬ (8 : Int32) ≤ x1 → (qX2_nameOfLine x1 σ (fun r18 σ18 => (qX2_tokenIs r18 σ18 (fun r21 σ21 => ((r21 = 0 → (∀ y1_29 : Int32, y1_29 = x1 + (1 : Int32) → k10 y1_29 σ21)) ∧ (¬ r21 = 0 → post x1 σ21))))))))
set_option maxRecDepth 20000 in
theorem kX2_lineOfName_L10 {X : Cx} {G : Gw} (hG : fw_IsC G) (O : fw_Ok X G cX2_lineOfName 2 RX2 5 107 (some .int))  {post : Int32 → Mem → Prop} {k10 : Int32 → Mem → Prop}  (hk10 : ∀ (x1 : Int32) (σ : Mem), k10 x1 σ → fw_At X G 2 (fw_QI X G post) 10 [(0, .ref (gad G 33)), (1, .int x1)] [] σ) {x1 : Int32} {σ : Mem} (h : qX2_lineOfName_L10 post k10 x1 σ) : fw_At X G 2 (fw_QI X G post) 10 [(0, .ref (gad G 33)), (1, .int x1)] [] σ := by
  unfold qX2_lineOfName_L10 at h
  refine fr_iload_n (pc := 10) O 1 dX2_lineOfName_10 rfl rfl ?_
  refine fr_bipush (pc := 11) O (v := (8 : Int32)) dX2_lineOfName_11 (by decide) ?_
  refine fr_icmp_ge (pc := 13) (tgt := 35) O dX2_lineOfName_13 (by decide) (fun c_13 => ?_) (fun c_13 => ?_)
  · have h := h.1 c_13
    refine fw_sub (lv' := [(0, .ref (gad G 33))]) [0] rfl ?_
    exact kX2_lineOfName_B35 hG O  h
  · have h := h.2 c_13
    refine fr_aload_n (pc := 16) O 0 dX2_lineOfName_16 rfl rfl ?_
    refine fr_iload_n (pc := 17) O 1 dX2_lineOfName_17 rfl rfl ?_
    refine fr_callSR (pc := 18) (st := [.ref (gad G 33)]) O (tX2_nameOfLine X.2.1 hG  h) mt_X2_nameOfLine m_291 m_290 rfl (by decide) rfl (Nat.le_of_ble_eq_true rfl) dX2_lineOfName_18 (fun r18 σ18 h => ?_)
    obtain ⟨hsi_18, h⟩ := h
    refine fr_callVI (pc := 21) (st := []) O (tX2_tokenIs X.2.1 hG hsi_18 h) mt_X2_tokenIs mv_X2_tokenIs m_301 cl_X2 rfl (sC_33 hG) rfl (by decide) rfl (Nat.le_of_ble_eq_true rfl) dX2_lineOfName_21 (fun r21 σ21 h => ?_)
    refine fr_if_eq (pc := 24) (tgt := 29) O dX2_lineOfName_24 (by decide) (fun c_24 => ?_) (fun c_24 => ?_)
    · have h := h.1 c_24
      refine fr_iinc (pc := 29) O 1 [1, 0] (w := (1 : Int32)) (lvF := fun y1_29 => [(0, .ref (gad G 33)), (1, .int y1_29)]) dX2_lineOfName_29 rfl (by decide) (by decide) (fun _ => rfl) (fun y1_29 e_y1_29 => ?_)
      have h := h y1_29 e_y1_29
      refine fr_goto (pc := 32) (tgt := 10) O dX2_lineOfName_32 (by decide) ?_
      exact hk10 _ _ h
    · have h := h.2 c_24
      refine fr_iload_n (pc := 27) O 1 dX2_lineOfName_27 rfl rfl ?_
      exact fr_iret (pc := 28) O dX2_lineOfName_28 h
set_option maxRecDepth 20000 in
theorem kX2_lineOfName_L10w {X : Cx} {G : Gw} (hG : fw_IsC G) (O : fw_Ok X G cX2_lineOfName 2 RX2 5 107 (some .int))  {post : Int32 → Mem → Prop}   {n9 : Nat} {x1 : Int32} {σ : Mem} (h : it1 (qX2_lineOfName_L10 post) n9 x1 σ) : fw_At X G 2 (fw_QI X G post) 10 [(0, .ref (gad G 33)), (1, .int x1)] [] σ :=
  it1_walk (T := fun x1 σ => fw_At X G 2 (fw_QI X G post) 10 [(0, .ref (gad G 33)), (1, .int x1)] [] σ) (fun k10 hk10 x1 σ h => kX2_lineOfName_L10 hG O hk10 h) n9 x1 σ h
def qX2_lineOfName  (σ : Mem) (post : Int32 → Mem → Prop) : Prop := ((¬ (σ 33 4) = (1 : Int32) → qX2_lineOfName_B35 post σ) ∧ ((σ 33 4) = (1 : Int32) → ∃ n9, it1 (qX2_lineOfName_L10 post) n9 (0 : Int32) σ))
set_option maxRecDepth 20000 in
theorem kX2_lineOfName {X : Cx} {G : Gw} (hG : fw_IsC G) (O : fw_Ok X G cX2_lineOfName 2 RX2 5 107 (some .int))   {σ : Mem} {post : Int32 → Mem → Prop} (h : qX2_lineOfName  σ post) : fw_At X G 2 (fw_QI X G post) 0 [(0, .ref (gad G 33))] [] σ := by
  unfold qX2_lineOfName at h
  refine fr_aload_n (pc := 0) O 0 dX2_lineOfName_0 rfl rfl ?_
  refine fr_get (pc := 1) (k := 4) (v := .int (σ 33 4)) O cl_X2 m_144 (sC_33 hG) (by decide) rfl rfl dX2_lineOfName_1 ?_
  refine fr_iconst (pc := 4) O (v := (1 : Int32)) dX2_lineOfName_4 (by decide) ?_
  refine fr_icmp_ne (pc := 5) (tgt := 35) O dX2_lineOfName_5 (by decide) (fun c_5 => ?_) (fun c_5 => ?_)
  · have h := h.1 c_5
    exact kX2_lineOfName_B35 hG O  h
  · have h := h.2 c_5
    refine fr_iconst (pc := 8) O (v := (0 : Int32)) dX2_lineOfName_8 (by decide) ?_
    refine fr_istore_n (pc := 9) O [1, 0] (lv' := [(0, .ref (gad G 33)), (1, .int (0 : Int32))]) dX2_lineOfName_9 rfl (by decide) rfl ?_
    obtain ⟨n9, h⟩ := h
    exact kX2_lineOfName_L10w hG O  h
theorem tX2_lineOfName (l : Launch) {G : Gw} (hG : fw_IsC G)   {σ : Mem} {post : Int32 → Mem → Prop} (h : qX2_lineOfName  σ post) : fw_CI l G yX2_lineOfName cX2_lineOfName 2 .int 5 107 [.ref (gad G 33)] σ post := fw_ofI (sok_C hG) (by decide) (Nat.le_of_ble_eq_true rfl) (fun X O => kX2_lineOfName hG O  h)
def qX3_within_B15 (a0 : Int32) (a1 : Int32) (a2 : Int32) (post : Int32 → Mem → Prop) (s0 : Int32) (σ : Mem) : Prop := (isB s0 ∧ post s0 σ)
set_option maxRecDepth 20000 in
theorem kX3_within_B15 {X : Cx} {G : Gw} (hG : fw_IsC G) (O : fw_Ok X G cX3_within 3 RX3 0 0 (some .boolean)) {a0 : Int32} {a1 : Int32} {a2 : Int32} {post : Int32 → Mem → Prop}   {s0 : Int32} {σ : Mem} (h : qX3_within_B15 a0 a1 a2 post s0 σ) : fw_At X G 3 (fw_QI X G post) 15 [(0, .int a0), (1, .int a1), (2, .int a2)] [.int s0] σ := by
  unfold qX3_within_B15 at h
  exact fr_zret (pc := 15) O dX3_within_15 h.1 h.2
def qX3_within_B14 (a0 : Int32) (a1 : Int32) (a2 : Int32) (post : Int32 → Mem → Prop) (σ : Mem) : Prop := qX3_within_B15 a0 a1 a2 post (0 : Int32) σ
set_option maxRecDepth 20000 in
theorem kX3_within_B14 {X : Cx} {G : Gw} (hG : fw_IsC G) (O : fw_Ok X G cX3_within 3 RX3 0 0 (some .boolean)) {a0 : Int32} {a1 : Int32} {a2 : Int32} {post : Int32 → Mem → Prop}    {σ : Mem} (h : qX3_within_B14 a0 a1 a2 post σ) : fw_At X G 3 (fw_QI X G post) 14 [(0, .int a0), (1, .int a1), (2, .int a2)] [] σ := by
  unfold qX3_within_B14 at h
  refine fr_iconst (pc := 14) O (v := (0 : Int32)) dX3_within_14 (by decide) ?_
  exact kX3_within_B15 hG O  h
def qX3_within (a0 : Int32) (a1 : Int32) (a2 : Int32) (σ : Mem) (post : Int32 → Mem → Prop) : Prop := ((a0 < a1 → qX3_within_B14 a0 a1 a2 post σ) ∧ (¬ a0 < a1 → ((a2 < a0 → qX3_within_B14 a0 a1 a2 post σ) ∧ (¬ a2 < a0 → qX3_within_B15 a0 a1 a2 post (1 : Int32) σ))))
set_option maxRecDepth 20000 in
theorem kX3_within {X : Cx} {G : Gw} (hG : fw_IsC G) (O : fw_Ok X G cX3_within 3 RX3 0 0 (some .boolean)) {a0 : Int32} {a1 : Int32} {a2 : Int32}  {σ : Mem} {post : Int32 → Mem → Prop} (h : qX3_within a0 a1 a2 σ post) : fw_At X G 3 (fw_QI X G post) 0 [(0, .int a0), (1, .int a1), (2, .int a2)] [] σ := by
  unfold qX3_within at h
  refine fr_iload_n (pc := 0) O 0 dX3_within_0 rfl rfl ?_
  refine fr_iload_n (pc := 1) O 1 dX3_within_1 rfl rfl ?_
  refine fr_icmp_lt (pc := 2) (tgt := 14) O dX3_within_2 (by decide) (fun c_2 => ?_) (fun c_2 => ?_)
  · have h := h.1 c_2
    exact kX3_within_B14 hG O  h
  · have h := h.2 c_2
    refine fr_iload_n (pc := 5) O 0 dX3_within_5 rfl rfl ?_
    refine fr_iload_n (pc := 6) O 2 dX3_within_6 rfl rfl ?_
    refine fr_icmp_gt (pc := 7) (tgt := 14) O dX3_within_7 (by decide) (fun c_7 => ?_) (fun c_7 => ?_)
    · have h := h.1 c_7
      exact kX3_within_B14 hG O  h
    · have h := h.2 c_7
      refine fr_iconst (pc := 10) O (v := (1 : Int32)) dX3_within_10 (by decide) ?_
      refine fr_goto (pc := 11) (tgt := 15) O dX3_within_11 (by decide) ?_
      exact kX3_within_B15 hG O  h
theorem tX3_within (l : Launch) {G : Gw} (hG : fw_IsC G) {a0 : Int32} {a1 : Int32} {a2 : Int32}  {σ : Mem} {post : Int32 → Mem → Prop} (h : qX3_within a0 a1 a2 σ post) : fw_CI l G yX3_within cX3_within 3 .boolean 0 0 [.int a0, .int a1, .int a2] σ post := fw_ofI (sok_C hG) (by decide) (Nat.le_of_ble_eq_true rfl) (fun X O => kX3_within hG O  h)
def qX2_numberWithin_B48 (a1 : Int32) (a2 : Int32) (post : Int32 → Mem → Prop) (σ : Mem) : Prop := post (σ 33 6) σ
set_option maxRecDepth 20000 in
theorem kX2_numberWithin_B48 {X : Cx} {G : Gw} (hG : fw_IsC G) (O : fw_Ok X G cX2_numberWithin 3 RX2 3 60 (some .int)) {a1 : Int32} {a2 : Int32} {post : Int32 → Mem → Prop}    {σ : Mem} (h : qX2_numberWithin_B48 a1 a2 post σ) : fw_At X G 3 (fw_QI X G post) 48 [(0, .ref (gad G 33)), (1, .int a1), (2, .int a2)] [] σ := by
  unfold qX2_numberWithin_B48 at h
  refine fr_aload_n (pc := 48) O 0 dX2_numberWithin_48 rfl rfl ?_
  refine fr_get (pc := 49) (k := 6) (v := .int (σ 33 6)) O cl_X2 m_146 (sC_33 hG) (by decide) rfl rfl dX2_numberWithin_49 ?_
  exact fr_iret (pc := 52) O dX2_numberWithin_52 h
def qX2_numberWithin_B24 (a1 : Int32) (a2 : Int32) (post : Int32 → Mem → Prop) (σ : Mem) : Prop := ((¬ (σ 33 2) = 0 → qX2_numberWithin_B48 a1 a2 post σ) ∧ ((σ 33 2) = 0 → (qX3_within (σ 33 6) a1 a2 σ (fun r37 σ37 => ((¬ r37 = 0 → qX2_numberWithin_B48 a1 a2 post σ37) ∧ (r37 = 0 → (∀ σ45 : Mem, σ45 = up2 σ37 33 2 (3 : Int32) → qX2_numberWithin_B48 a1 a2 post σ45)))))))
set_option maxRecDepth 20000 in
theorem kX2_numberWithin_B24 {X : Cx} {G : Gw} (hG : fw_IsC G) (O : fw_Ok X G cX2_numberWithin 3 RX2 3 60 (some .int)) {a1 : Int32} {a2 : Int32} {post : Int32 → Mem → Prop}    {σ : Mem} (h : qX2_numberWithin_B24 a1 a2 post σ) : fw_At X G 3 (fw_QI X G post) 24 [(0, .ref (gad G 33)), (1, .int a1), (2, .int a2)] [] σ := by
  unfold qX2_numberWithin_B24 at h
  refine fr_aload_n (pc := 24) O 0 dX2_numberWithin_24 rfl rfl ?_
  refine fr_get (pc := 25) (k := 2) (v := .int (σ 33 2)) O cl_X2 m_141 (sC_33 hG) (by decide) rfl rfl dX2_numberWithin_25 ?_
  refine fr_if_ne (pc := 28) (tgt := 48) O dX2_numberWithin_28 (by decide) (fun c_28 => ?_) (fun c_28 => ?_)
  · have h := h.1 c_28
    exact kX2_numberWithin_B48 hG O  h
  · have h := h.2 c_28
    refine fr_aload_n (pc := 31) O 0 dX2_numberWithin_31 rfl rfl ?_
    refine fr_get (pc := 32) (k := 6) (v := .int (σ 33 6)) O cl_X2 m_146 (sC_33 hG) (by decide) rfl rfl dX2_numberWithin_32 ?_
    refine fr_iload_n (pc := 35) O 1 dX2_numberWithin_35 rfl rfl ?_
    refine fr_iload_n (pc := 36) O 2 dX2_numberWithin_36 rfl rfl ?_
    refine fr_callNI (pc := 37) (st := []) O (tX3_within X.2.1 hG  h) mt_X3_within m_238 (sC_nest_within hG O.2.2.1) rfl (by decide) rfl (Nat.le_of_ble_eq_true rfl) dX2_numberWithin_37 (fun r37 σ37 h => ?_)
    refine fr_if_ne (pc := 40) (tgt := 48) O dX2_numberWithin_40 (by decide) (fun c_40 => ?_) (fun c_40 => ?_)
    · have h := h.1 c_40
      exact kX2_numberWithin_B48 hG O  h
    · have h := h.2 c_40
      refine fr_aload_n (pc := 43) O 0 dX2_numberWithin_43 rfl rfl ?_
      refine fr_iconst (pc := 44) O (v := (3 : Int32)) dX2_numberWithin_44 (by decide) ?_
      refine fr_put (pc := 45) (k := 2) O cl_X2 m_141 (sC_33 hG) (by decide) rfl rfl rfl rfl (fun _ => Nat.le_of_ble_eq_true rfl) (fun _ => rfl) dX2_numberWithin_45 (fun σ45 e_σ45 => ?_)
      have h := h σ45 e_σ45
      exact kX2_numberWithin_B48 hG O  h
def qX2_numberWithin (a1 : Int32) (a2 : Int32) (σ : Mem) (post : Int32 → Mem → Prop) : Prop := (qX2_nextToken σ (fun σ1 => ((¬ (σ1 33 2) = 0 → qX2_numberWithin_B24 a1 a2 post σ1) ∧ ((σ1 33 2) = 0 → (((σ1 33 4) = (2 : Int32) → qX2_numberWithin_B24 a1 a2 post σ1) ∧ (¬ (σ1 33 4) = (2 : Int32) → (∀ σ21 : Mem, σ21 = up2 σ1 33 2 (2 : Int32) → qX2_numberWithin_B24 a1 a2 post σ21)))))))
set_option maxRecDepth 20000 in
theorem kX2_numberWithin {X : Cx} {G : Gw} (hG : fw_IsC G) (O : fw_Ok X G cX2_numberWithin 3 RX2 3 60 (some .int)) {a1 : Int32} {a2 : Int32}  {σ : Mem} {post : Int32 → Mem → Prop} (h : qX2_numberWithin a1 a2 σ post) : fw_At X G 3 (fw_QI X G post) 0 [(0, .ref (gad G 33)), (1, .int a1), (2, .int a2)] [] σ := by
  unfold qX2_numberWithin at h
  refine fr_aload_n (pc := 0) O 0 dX2_numberWithin_0 rfl rfl ?_
  refine fr_callVV (pc := 1) (st := []) O (tX2_nextToken X.2.1 hG  h) mt_X2_nextToken mv_X2_nextToken m_264 cl_X2 rfl (sC_33 hG) rfl (by decide) rfl (Nat.le_of_ble_eq_true rfl) dX2_numberWithin_1 (fun σ1 h => ?_)
  refine fr_aload_n (pc := 4) O 0 dX2_numberWithin_4 rfl rfl ?_
  refine fr_get (pc := 5) (k := 2) (v := .int (σ1 33 2)) O cl_X2 m_141 (sC_33 hG) (by decide) rfl rfl dX2_numberWithin_5 ?_
  refine fr_if_ne (pc := 8) (tgt := 24) O dX2_numberWithin_8 (by decide) (fun c_8 => ?_) (fun c_8 => ?_)
  · have h := h.1 c_8
    exact kX2_numberWithin_B24 hG O  h
  · have h := h.2 c_8
    refine fr_aload_n (pc := 11) O 0 dX2_numberWithin_11 rfl rfl ?_
    refine fr_get (pc := 12) (k := 4) (v := .int (σ1 33 4)) O cl_X2 m_144 (sC_33 hG) (by decide) rfl rfl dX2_numberWithin_12 ?_
    refine fr_iconst (pc := 15) O (v := (2 : Int32)) dX2_numberWithin_15 (by decide) ?_
    refine fr_icmp_eq (pc := 16) (tgt := 24) O dX2_numberWithin_16 (by decide) (fun c_16 => ?_) (fun c_16 => ?_)
    · have h := h.1 c_16
      exact kX2_numberWithin_B24 hG O  h
    · have h := h.2 c_16
      refine fr_aload_n (pc := 19) O 0 dX2_numberWithin_19 rfl rfl ?_
      refine fr_iconst (pc := 20) O (v := (2 : Int32)) dX2_numberWithin_20 (by decide) ?_
      refine fr_put (pc := 21) (k := 2) O cl_X2 m_141 (sC_33 hG) (by decide) rfl rfl rfl rfl (fun _ => Nat.le_of_ble_eq_true rfl) (fun _ => rfl) dX2_numberWithin_21 (fun σ21 e_σ21 => ?_)
      have h := h σ21 e_σ21
      exact kX2_numberWithin_B24 hG O  h
theorem tX2_numberWithin (l : Launch) {G : Gw} (hG : fw_IsC G) {a1 : Int32} {a2 : Int32}  {σ : Mem} {post : Int32 → Mem → Prop} (h : qX2_numberWithin a1 a2 σ post) : fw_CI l G yX2_numberWithin cX2_numberWithin 3 .int 3 60 [.ref (gad G 33), .int a1, .int a2] σ post := fw_ofI (sok_C hG) (by decide) (Nat.le_of_ble_eq_true rfl) (fun X O => kX2_numberWithin hG O  h)
def qX2_takeStop_B24 (post : Mem → Prop) (σ : Mem) : Prop := post σ
set_option maxRecDepth 20000 in
theorem kX2_takeStop_B24 {X : Cx} {G : Gw} (hG : fw_IsC G) (O : fw_Ok X G cX2_takeStop 1 RX2 3 60 none)  {post : Mem → Prop}    {σ : Mem} (h : qX2_takeStop_B24 post σ) : fw_At X G 1 (fw_QV X G post) 24 [(0, .ref (gad G 33))] [] σ := by
  unfold qX2_takeStop_B24 at h
  exact fr_vret (pc := 24) O dX2_takeStop_24 h
def qX2_takeStop  (σ : Mem) (post : Mem → Prop) : Prop := (qX2_nextToken σ (fun σ1 => ((¬ (σ1 33 2) = 0 → qX2_takeStop_B24 post σ1) ∧ ((σ1 33 2) = 0 → (((σ1 33 4) = (3 : Int32) → qX2_takeStop_B24 post σ1) ∧ (¬ (σ1 33 4) = (3 : Int32) → (∀ σ21 : Mem, σ21 = up2 σ1 33 2 (2 : Int32) → qX2_takeStop_B24 post σ21)))))))
set_option maxRecDepth 20000 in
theorem kX2_takeStop {X : Cx} {G : Gw} (hG : fw_IsC G) (O : fw_Ok X G cX2_takeStop 1 RX2 3 60 none)   {σ : Mem} {post : Mem → Prop} (h : qX2_takeStop  σ post) : fw_At X G 1 (fw_QV X G post) 0 [(0, .ref (gad G 33))] [] σ := by
  unfold qX2_takeStop at h
  refine fr_aload_n (pc := 0) O 0 dX2_takeStop_0 rfl rfl ?_
  refine fr_callVV (pc := 1) (st := []) O (tX2_nextToken X.2.1 hG  h) mt_X2_nextToken mv_X2_nextToken m_264 cl_X2 rfl (sC_33 hG) rfl (by decide) rfl (Nat.le_of_ble_eq_true rfl) dX2_takeStop_1 (fun σ1 h => ?_)
  refine fr_aload_n (pc := 4) O 0 dX2_takeStop_4 rfl rfl ?_
  refine fr_get (pc := 5) (k := 2) (v := .int (σ1 33 2)) O cl_X2 m_141 (sC_33 hG) (by decide) rfl rfl dX2_takeStop_5 ?_
  refine fr_if_ne (pc := 8) (tgt := 24) O dX2_takeStop_8 (by decide) (fun c_8 => ?_) (fun c_8 => ?_)
  · have h := h.1 c_8
    exact kX2_takeStop_B24 hG O  h
  · have h := h.2 c_8
    refine fr_aload_n (pc := 11) O 0 dX2_takeStop_11 rfl rfl ?_
    refine fr_get (pc := 12) (k := 4) (v := .int (σ1 33 4)) O cl_X2 m_144 (sC_33 hG) (by decide) rfl rfl dX2_takeStop_12 ?_
    refine fr_iconst (pc := 15) O (v := (3 : Int32)) dX2_takeStop_15 (by decide) ?_
    refine fr_icmp_eq (pc := 16) (tgt := 24) O dX2_takeStop_16 (by decide) (fun c_16 => ?_) (fun c_16 => ?_)
    · have h := h.1 c_16
      exact kX2_takeStop_B24 hG O  h
    · have h := h.2 c_16
      refine fr_aload_n (pc := 19) O 0 dX2_takeStop_19 rfl rfl ?_
      refine fr_iconst (pc := 20) O (v := (2 : Int32)) dX2_takeStop_20 (by decide) ?_
      refine fr_put (pc := 21) (k := 2) O cl_X2 m_141 (sC_33 hG) (by decide) rfl rfl rfl rfl (fun _ => Nat.le_of_ble_eq_true rfl) (fun _ => rfl) dX2_takeStop_21 (fun σ21 e_σ21 => ?_)
      have h := h σ21 e_σ21
      exact kX2_takeStop_B24 hG O  h
theorem tX2_takeStop (l : Launch) {G : Gw} (hG : fw_IsC G)   {σ : Mem} {post : Mem → Prop} (h : qX2_takeStop  σ post) : fw_CV l G yX2_takeStop cX2_takeStop 1 3 60 [.ref (gad G 33)] σ post := fw_ofV (sok_C hG) (by decide) (Nat.le_of_ble_eq_true rfl) (fun X O => kX2_takeStop hG O  h)
def qX2_takeWheelLine_B51 (o : Nat) (a2 : Int32) (post : Mem → Prop) (σ : Mem) : Prop := post σ
set_option maxRecDepth 20000 in
theorem kX2_takeWheelLine_B51 {X : Cx} {G : Gw} (hG : fw_IsC G) (O : fw_Ok X G cX2_takeWheelLine 5 RX2 4 82 none) {o : Nat} {a2 : Int32} {post : Mem → Prop} (ho : fw_rig o)   {σ : Mem} (h : qX2_takeWheelLine_B51 o a2 post σ) : fw_At X G 5 (fw_QV X G post) 51 [(0, .ref (gad G 33)), (1, .ref (gad G o)), (2, .int a2)] [] σ := by
  unfold qX2_takeWheelLine_B51 at h
  exact fr_vret (pc := 51) O dX2_takeWheelLine_51 h
def qX2_takeWheelLine (o : Nat) (a2 : Int32) (σ : Mem) (post : Mem → Prop) : Prop := (((σ o 2) < (4 : Int32) → (qX2_numberWithin (1 : Int32) (20 : Int32) σ (fun r18 σ18 => (qX2_numberWithin (0 : Int32) (9 : Int32) σ18 (fun r26 σ26 => (qX2_takeStop σ26 (fun σ32 => ((¬ (σ32 33 2) = 0 → qX2_takeWheelLine_B51 o a2 post σ32) ∧ ((σ32 33 2) = 0 → (qX0_appendWheel o a2 r18 r26 σ32 (fun r47 σ47 => qX2_takeWheelLine_B51 o a2 post σ47))))))))))) ∧ (¬ (σ o 2) < (4 : Int32) → (∀ σ10 : Mem, σ10 = up2 σ 33 2 (5 : Int32) → post σ10)))
set_option maxRecDepth 20000 in
theorem kX2_takeWheelLine {X : Cx} {G : Gw} (hG : fw_IsC G) (O : fw_Ok X G cX2_takeWheelLine 5 RX2 4 82 none) {o : Nat} {a2 : Int32} (ho : fw_rig o) {σ : Mem} {post : Mem → Prop} (h : qX2_takeWheelLine o a2 σ post) : fw_At X G 5 (fw_QV X G post) 0 [(0, .ref (gad G 33)), (1, .ref (gad G o)), (2, .int a2)] [] σ := by
  unfold qX2_takeWheelLine at h
  refine fr_aload_n (pc := 0) O 1 dX2_takeWheelLine_0 rfl rfl ?_
  refine fr_get (pc := 1) (k := 2) (v := .int (σ o 2)) O cl_X0 m_81 (sC_rig hG ho) (by decide) rfl rfl dX2_takeWheelLine_1 ?_
  refine fr_iconst (pc := 4) O (v := (4 : Int32)) dX2_takeWheelLine_4 (by decide) ?_
  refine fr_icmp_lt (pc := 5) (tgt := 14) O dX2_takeWheelLine_5 (by decide) (fun c_5 => ?_) (fun c_5 => ?_)
  · have h := h.1 c_5
    refine fr_aload_n (pc := 14) O 0 dX2_takeWheelLine_14 rfl rfl ?_
    refine fr_iconst (pc := 15) O (v := (1 : Int32)) dX2_takeWheelLine_15 (by decide) ?_
    refine fr_bipush (pc := 16) O (v := (20 : Int32)) dX2_takeWheelLine_16 (by decide) ?_
    refine fr_callVI (pc := 18) (st := []) O (tX2_numberWithin X.2.1 hG  h) mt_X2_numberWithin mv_X2_numberWithin m_357 cl_X2 rfl (sC_33 hG) rfl (by decide) rfl (Nat.le_of_ble_eq_true rfl) dX2_takeWheelLine_18 (fun r18 σ18 h => ?_)
    refine fr_istore_n (pc := 21) O [1, 2, 3, 0] (lv' := [(0, .ref (gad G 33)), (1, .ref (gad G o)), (2, .int a2), (3, .int r18)]) dX2_takeWheelLine_21 rfl (by decide) rfl ?_
    refine fr_aload_n (pc := 22) O 0 dX2_takeWheelLine_22 rfl rfl ?_
    refine fr_iconst (pc := 23) O (v := (0 : Int32)) dX2_takeWheelLine_23 (by decide) ?_
    refine fr_bipush (pc := 24) O (v := (9 : Int32)) dX2_takeWheelLine_24 (by decide) ?_
    refine fr_callVI (pc := 26) (st := []) O (tX2_numberWithin X.2.1 hG  h) mt_X2_numberWithin mv_X2_numberWithin m_357 cl_X2 rfl (sC_33 hG) rfl (by decide) rfl (Nat.le_of_ble_eq_true rfl) dX2_takeWheelLine_26 (fun r26 σ26 h => ?_)
    refine fr_istore (pc := 29) O [1, 2, 3, 4, 0] (lv' := [(0, .ref (gad G 33)), (1, .ref (gad G o)), (2, .int a2), (3, .int r18), (4, .int r26)]) dX2_takeWheelLine_29 (by decide) rfl ?_
    refine fr_aload_n (pc := 31) O 0 dX2_takeWheelLine_31 rfl rfl ?_
    refine fr_callVV (pc := 32) (st := []) O (tX2_takeStop X.2.1 hG  h) mt_X2_takeStop mv_X2_takeStop m_362 cl_X2 rfl (sC_33 hG) rfl (by decide) rfl (Nat.le_of_ble_eq_true rfl) dX2_takeWheelLine_32 (fun σ32 h => ?_)
    refine fr_aload_n (pc := 35) O 0 dX2_takeWheelLine_35 rfl rfl ?_
    refine fr_get (pc := 36) (k := 2) (v := .int (σ32 33 2)) O cl_X2 m_141 (sC_33 hG) (by decide) rfl rfl dX2_takeWheelLine_36 ?_
    refine fr_if_ne (pc := 39) (tgt := 51) O dX2_takeWheelLine_39 (by decide) (fun c_39 => ?_) (fun c_39 => ?_)
    · have h := h.1 c_39
      refine fw_sub (lv' := [(0, .ref (gad G 33)), (1, .ref (gad G o)), (2, .int a2)]) [0, 1, 2] rfl ?_
      exact kX2_takeWheelLine_B51 hG O ho h
    · have h := h.2 c_39
      refine fr_aload_n (pc := 42) O 1 dX2_takeWheelLine_42 rfl rfl ?_
      refine fr_iload_n (pc := 43) O 2 dX2_takeWheelLine_43 rfl rfl ?_
      refine fr_iload_n (pc := 44) O 3 dX2_takeWheelLine_44 rfl rfl ?_
      refine fr_iload (pc := 45) O 4 dX2_takeWheelLine_45 rfl ?_
      refine fr_callVI (pc := 47) (st := []) O (tX0_appendWheel X.2.1 hG ho h) mt_X0_appendWheel mv_X0_appendWheel m_366 cl_X0 rfl (sC_rig hG ho) rfl (by decide) rfl (Nat.le_of_ble_eq_true rfl) dX2_takeWheelLine_47 (fun r47 σ47 h => ?_)
      refine fr_pop (pc := 50) O dX2_takeWheelLine_50 rfl ?_
      refine fw_sub (lv' := [(0, .ref (gad G 33)), (1, .ref (gad G o)), (2, .int a2)]) [0, 1, 2] rfl ?_
      exact kX2_takeWheelLine_B51 hG O ho h
  · have h := h.2 c_5
    refine fr_aload_n (pc := 8) O 0 dX2_takeWheelLine_8 rfl rfl ?_
    refine fr_iconst (pc := 9) O (v := (5 : Int32)) dX2_takeWheelLine_9 (by decide) ?_
    refine fr_put (pc := 10) (k := 2) O cl_X2 m_141 (sC_33 hG) (by decide) rfl rfl rfl rfl (fun _ => Nat.le_of_ble_eq_true rfl) (fun _ => rfl) dX2_takeWheelLine_10 (fun σ10 e_σ10 => ?_)
    have h := h σ10 e_σ10
    exact fr_vret (pc := 13) O dX2_takeWheelLine_13 h
theorem tX2_takeWheelLine (l : Launch) {G : Gw} (hG : fw_IsC G) {o : Nat} {a2 : Int32} (ho : fw_rig o) {σ : Mem} {post : Mem → Prop} (h : qX2_takeWheelLine o a2 σ post) : fw_CV l G yX2_takeWheelLine cX2_takeWheelLine 5 4 82 [.ref (gad G 33), .ref (gad G o), .int a2] σ post := fw_ofV (sok_C hG) (by decide) (Nat.le_of_ble_eq_true rfl) (fun X O => kX2_takeWheelLine hG O ho h)
def qX2_takeShaftLine_B42 (o : Nat) (post : Mem → Prop) (σ : Mem) : Prop := post σ
set_option maxRecDepth 20000 in
theorem kX2_takeShaftLine_B42 {X : Cx} {G : Gw} (hG : fw_IsC G) (O : fw_Ok X G cX2_takeShaftLine 3 RX2 4 82 none) {o : Nat} {post : Mem → Prop} (ho : fw_rig o)   {σ : Mem} (h : qX2_takeShaftLine_B42 o post σ) : fw_At X G 3 (fw_QV X G post) 42 [(0, .ref (gad G 33)), (1, .ref (gad G o))] [] σ := by
  unfold qX2_takeShaftLine_B42 at h
  exact fr_vret (pc := 42) O dX2_takeShaftLine_42 h
def qX2_takeShaftLine (o : Nat) (σ : Mem) (post : Mem → Prop) : Prop := (((σ 33 7) = 0 → (qX2_numberWithin (1 : Int32) (20 : Int32) σ (fun r17 σ17 => (qX2_takeStop σ17 (fun σ22 => ((¬ (σ22 33 2) = 0 → qX2_takeShaftLine_B42 o post σ22) ∧ ((σ22 33 2) = 0 → (∀ σ34 : Mem, σ34 = up2 σ22 o 0 r17 → (∀ σ39 : Mem, σ39 = up2 σ34 33 7 (1 : Int32) → qX2_takeShaftLine_B42 o post σ39))))))))) ∧ (¬ (σ 33 7) = 0 → (∀ σ9 : Mem, σ9 = up2 σ 33 2 (4 : Int32) → post σ9)))
set_option maxRecDepth 20000 in
theorem kX2_takeShaftLine {X : Cx} {G : Gw} (hG : fw_IsC G) (O : fw_Ok X G cX2_takeShaftLine 3 RX2 4 82 none) {o : Nat} (ho : fw_rig o) {σ : Mem} {post : Mem → Prop} (h : qX2_takeShaftLine o σ post) : fw_At X G 3 (fw_QV X G post) 0 [(0, .ref (gad G 33)), (1, .ref (gad G o))] [] σ := by
  unfold qX2_takeShaftLine at h
  refine fr_aload_n (pc := 0) O 0 dX2_takeShaftLine_0 rfl rfl ?_
  refine fr_get (pc := 1) (k := 7) (v := .int (σ 33 7)) O cl_X2 m_147 (sC_33 hG) (by decide) rfl rfl dX2_takeShaftLine_1 ?_
  refine fr_if_eq (pc := 4) (tgt := 13) O dX2_takeShaftLine_4 (by decide) (fun c_4 => ?_) (fun c_4 => ?_)
  · have h := h.1 c_4
    refine fr_aload_n (pc := 13) O 0 dX2_takeShaftLine_13 rfl rfl ?_
    refine fr_iconst (pc := 14) O (v := (1 : Int32)) dX2_takeShaftLine_14 (by decide) ?_
    refine fr_bipush (pc := 15) O (v := (20 : Int32)) dX2_takeShaftLine_15 (by decide) ?_
    refine fr_callVI (pc := 17) (st := []) O (tX2_numberWithin X.2.1 hG  h) mt_X2_numberWithin mv_X2_numberWithin m_357 cl_X2 rfl (sC_33 hG) rfl (by decide) rfl (Nat.le_of_ble_eq_true rfl) dX2_takeShaftLine_17 (fun r17 σ17 h => ?_)
    refine fr_istore_n (pc := 20) O [1, 2, 0] (lv' := [(0, .ref (gad G 33)), (1, .ref (gad G o)), (2, .int r17)]) dX2_takeShaftLine_20 rfl (by decide) rfl ?_
    refine fr_aload_n (pc := 21) O 0 dX2_takeShaftLine_21 rfl rfl ?_
    refine fr_callVV (pc := 22) (st := []) O (tX2_takeStop X.2.1 hG  h) mt_X2_takeStop mv_X2_takeStop m_362 cl_X2 rfl (sC_33 hG) rfl (by decide) rfl (Nat.le_of_ble_eq_true rfl) dX2_takeShaftLine_22 (fun σ22 h => ?_)
    refine fr_aload_n (pc := 25) O 0 dX2_takeShaftLine_25 rfl rfl ?_
    refine fr_get (pc := 26) (k := 2) (v := .int (σ22 33 2)) O cl_X2 m_141 (sC_33 hG) (by decide) rfl rfl dX2_takeShaftLine_26 ?_
    refine fr_if_ne (pc := 29) (tgt := 42) O dX2_takeShaftLine_29 (by decide) (fun c_29 => ?_) (fun c_29 => ?_)
    · have h := h.1 c_29
      refine fw_sub (lv' := [(0, .ref (gad G 33)), (1, .ref (gad G o))]) [0, 1] rfl ?_
      exact kX2_takeShaftLine_B42 hG O ho h
    · have h := h.2 c_29
      refine fr_aload_n (pc := 32) O 1 dX2_takeShaftLine_32 rfl rfl ?_
      refine fr_iload_n (pc := 33) O 2 dX2_takeShaftLine_33 rfl rfl ?_
      refine fr_put (pc := 34) (k := 0) O cl_X0 m_76 (sC_rig hG ho) (by decide) rfl rfl rfl rfl (fun _ => Nat.le_of_ble_eq_true rfl) (fun _ => rfl) dX2_takeShaftLine_34 (fun σ34 e_σ34 => ?_)
      have h := h σ34 e_σ34
      refine fr_aload_n (pc := 37) O 0 dX2_takeShaftLine_37 rfl rfl ?_
      refine fr_iconst (pc := 38) O (v := (1 : Int32)) dX2_takeShaftLine_38 (by decide) ?_
      refine fr_put (pc := 39) (k := 7) O cl_X2 m_147 (sC_33 hG) (by decide) rfl rfl isB_1.nar isB_1.fit (fun _ => Nat.le_of_ble_eq_true rfl) (fun _ => rfl) dX2_takeShaftLine_39 (fun σ39 e_σ39 => ?_)
      have h := h σ39 e_σ39
      refine fw_sub (lv' := [(0, .ref (gad G 33)), (1, .ref (gad G o))]) [0, 1] rfl ?_
      exact kX2_takeShaftLine_B42 hG O ho h
  · have h := h.2 c_4
    refine fr_aload_n (pc := 7) O 0 dX2_takeShaftLine_7 rfl rfl ?_
    refine fr_iconst (pc := 8) O (v := (4 : Int32)) dX2_takeShaftLine_8 (by decide) ?_
    refine fr_put (pc := 9) (k := 2) O cl_X2 m_141 (sC_33 hG) (by decide) rfl rfl rfl rfl (fun _ => Nat.le_of_ble_eq_true rfl) (fun _ => rfl) dX2_takeShaftLine_9 (fun σ9 e_σ9 => ?_)
    have h := h σ9 e_σ9
    exact fr_vret (pc := 12) O dX2_takeShaftLine_12 h
theorem tX2_takeShaftLine (l : Launch) {G : Gw} (hG : fw_IsC G) {o : Nat} (ho : fw_rig o) {σ : Mem} {post : Mem → Prop} (h : qX2_takeShaftLine o σ post) : fw_CV l G yX2_takeShaftLine cX2_takeShaftLine 3 4 82 [.ref (gad G 33), .ref (gad G o)] σ post := fw_ofV (sok_C hG) (by decide) (Nat.le_of_ble_eq_true rfl) (fun X O => kX2_takeShaftLine hG O ho h)
def qX2_firstActOf (a0 : Int32) (σ : Mem) (post : Int32 → Mem → Prop) : Prop := ((a0 = (6 : Int32) → post (100 : Int32) σ) ∧ (¬ a0 = (6 : Int32) → ((a0 = (7 : Int32) → post (200 : Int32) σ) ∧ (¬ a0 = (7 : Int32) → post (0 : Int32) σ))))
set_option maxRecDepth 20000 in
theorem kX2_firstActOf {X : Cx} {G : Gw} (hG : fw_IsC G) (O : fw_Ok X G cX2_firstActOf 1 RX2 0 0 (some .int)) {a0 : Int32}  {σ : Mem} {post : Int32 → Mem → Prop} (h : qX2_firstActOf a0 σ post) : fw_At X G 1 (fw_QI X G post) 0 [(0, .int a0)] [] σ := by
  unfold qX2_firstActOf at h
  refine fr_iload_n (pc := 0) O 0 dX2_firstActOf_0 rfl rfl ?_
  by_cases e1_0 : a0 = (6 : Int32)
  · refine fr_look (pc := 1) (tgt := 28) (off := 27) O dX2_firstActOf_1 (by decide) (by rw [e1_0]; first | done | rfl) (by decide) ?_
    have h := h.1 e1_0
    refine fr_bipush (pc := 28) O (v := (100 : Int32)) dX2_firstActOf_28 (by decide) ?_
    exact fr_iret (pc := 30) O dX2_firstActOf_30 h
  · have h := h.2 e1_0
    by_cases e1_1 : a0 = (7 : Int32)
    · refine fr_look (pc := 1) (tgt := 31) (off := 30) O dX2_firstActOf_1 (by decide) (by rw [e1_1]; first | done | rfl) (by decide) ?_
      have h := h.1 e1_1
      refine fr_sipush (pc := 31) O (v := (200 : Int32)) dX2_firstActOf_31 (by decide) ?_
      exact fr_iret (pc := 34) O dX2_firstActOf_34 h
    · have h := h.2 e1_1
      have n0 := lv_neT e1_0 (show ((6 : Int32)).toInt = 6 by decide)
      have n1 := lv_neT e1_1 (show ((7 : Int32)).toInt = 7 by decide)
      refine fr_look (pc := 1) (tgt := 35) (off := 34) O dX2_firstActOf_1 (by decide) (by show Op.lookupswitch.offset [(6, 27), (7, 30)] _ _ = _; rw [lv_osw e1_0 (by decide), lv_osw e1_1 (by decide)]; first | done | rfl) (by decide) ?_
      refine fr_iconst (pc := 35) O (v := (0 : Int32)) dX2_firstActOf_35 (by decide) ?_
      exact fr_iret (pc := 36) O dX2_firstActOf_36 h
theorem tX2_firstActOf (l : Launch) {G : Gw} (hG : fw_IsC G) {a0 : Int32}  {σ : Mem} {post : Int32 → Mem → Prop} (h : qX2_firstActOf a0 σ post) : fw_CI l G yX2_firstActOf cX2_firstActOf 1 .int 0 0 [.int a0] σ post := fw_ofI (sok_C hG) (by decide) (Nat.le_of_ble_eq_true rfl) (fun X O => kX2_firstActOf hG O  h)
def qX2_takeActLine_B55 (o : Nat) (a2 : Int32) (post : Mem → Prop) (σ : Mem) : Prop := post σ
set_option maxRecDepth 20000 in
theorem kX2_takeActLine_B55 {X : Cx} {G : Gw} (hG : fw_IsC G) (O : fw_Ok X G cX2_takeActLine 4 RX2 4 82 none) {o : Nat} {a2 : Int32} {post : Mem → Prop} (ho : fw_rig o)   {σ : Mem} (h : qX2_takeActLine_B55 o a2 post σ) : fw_At X G 4 (fw_QV X G post) 55 [(0, .ref (gad G 33)), (1, .ref (gad G o)), (2, .int a2)] [] σ := by
  unfold qX2_takeActLine_B55 at h
  exact fr_vret (pc := 55) O dX2_takeActLine_55 h
def qX2_takeActLine_B29 (o : Nat) (a2 : Int32) (post : Mem → Prop) (s1 : Int32) (s2 : Int32) (σ : Mem) : Prop := (qX2_numberWithin s1 s2 σ (fun r29 σ29 => (qX2_takeStop σ29 (fun σ34 => ((¬ (σ34 33 2) = 0 → qX2_takeActLine_B55 o a2 post σ34) ∧ ((σ34 33 2) = 0 → (qX2_firstActOf a2 σ34 (fun r46 σ46 => (qX0_appendAct o (r46 + r29) σ46 (fun r51 σ51 => qX2_takeActLine_B55 o a2 post σ51))))))))))
set_option maxRecDepth 20000 in
theorem kX2_takeActLine_B29 {X : Cx} {G : Gw} (hG : fw_IsC G) (O : fw_Ok X G cX2_takeActLine 4 RX2 4 82 none) {o : Nat} {a2 : Int32} {post : Mem → Prop} (ho : fw_rig o)  {s1 : Int32} {s2 : Int32} {σ : Mem} (h : qX2_takeActLine_B29 o a2 post s1 s2 σ) : fw_At X G 4 (fw_QV X G post) 29 [(0, .ref (gad G 33)), (1, .ref (gad G o)), (2, .int a2)] [.int s2, .int s1, .ref (gad G 33)] σ := by
  unfold qX2_takeActLine_B29 at h
  refine fr_callVI (pc := 29) (st := []) O (tX2_numberWithin X.2.1 hG  h) mt_X2_numberWithin mv_X2_numberWithin m_357 cl_X2 rfl (sC_33 hG) rfl (by decide) rfl (Nat.le_of_ble_eq_true rfl) dX2_takeActLine_29 (fun r29 σ29 h => ?_)
  refine fr_istore_n (pc := 32) O [1, 2, 3, 0] (lv' := [(0, .ref (gad G 33)), (1, .ref (gad G o)), (2, .int a2), (3, .int r29)]) dX2_takeActLine_32 rfl (by decide) rfl ?_
  refine fr_aload_n (pc := 33) O 0 dX2_takeActLine_33 rfl rfl ?_
  refine fr_callVV (pc := 34) (st := []) O (tX2_takeStop X.2.1 hG  h) mt_X2_takeStop mv_X2_takeStop m_362 cl_X2 rfl (sC_33 hG) rfl (by decide) rfl (Nat.le_of_ble_eq_true rfl) dX2_takeActLine_34 (fun σ34 h => ?_)
  refine fr_aload_n (pc := 37) O 0 dX2_takeActLine_37 rfl rfl ?_
  refine fr_get (pc := 38) (k := 2) (v := .int (σ34 33 2)) O cl_X2 m_141 (sC_33 hG) (by decide) rfl rfl dX2_takeActLine_38 ?_
  refine fr_if_ne (pc := 41) (tgt := 55) O dX2_takeActLine_41 (by decide) (fun c_41 => ?_) (fun c_41 => ?_)
  · have h := h.1 c_41
    refine fw_sub (lv' := [(0, .ref (gad G 33)), (1, .ref (gad G o)), (2, .int a2)]) [0, 1, 2] rfl ?_
    exact kX2_takeActLine_B55 hG O ho h
  · have h := h.2 c_41
    refine fr_aload_n (pc := 44) O 1 dX2_takeActLine_44 rfl rfl ?_
    refine fr_iload_n (pc := 45) O 2 dX2_takeActLine_45 rfl rfl ?_
    refine fr_callSI (pc := 46) (st := [.ref (gad G o)]) O (tX2_firstActOf X.2.1 hG  h) mt_X2_firstActOf m_379 m_378 rfl (by decide) rfl (Nat.le_of_ble_eq_true rfl) dX2_takeActLine_46 (fun r46 σ46 h => ?_)
    refine fr_iload_n (pc := 49) O 3 dX2_takeActLine_49 rfl rfl ?_
    refine fr_iadd (pc := 50) O dX2_takeActLine_50 ?_
    refine fr_callVI (pc := 51) (st := []) O (tX0_appendAct X.2.1 hG ho h) mt_X0_appendAct mv_X0_appendAct m_381 cl_X0 rfl (sC_rig hG ho) rfl (by decide) rfl (Nat.le_of_ble_eq_true rfl) dX2_takeActLine_51 (fun r51 σ51 h => ?_)
    refine fr_pop (pc := 54) O dX2_takeActLine_54 rfl ?_
    refine fw_sub (lv' := [(0, .ref (gad G 33)), (1, .ref (gad G o)), (2, .int a2)]) [0, 1, 2] rfl ?_
    exact kX2_takeActLine_B55 hG O ho h
def qX2_takeActLine (o : Nat) (a2 : Int32) (σ : Mem) (post : Mem → Prop) : Prop := (((σ o 7) < (16 : Int32) → ((¬ a2 = (7 : Int32) → qX2_takeActLine_B29 o a2 post (0 : Int32) (99 : Int32) σ) ∧ (a2 = (7 : Int32) → qX2_takeActLine_B29 o a2 post (0 : Int32) (3 : Int32) σ))) ∧ (¬ (σ o 7) < (16 : Int32) → (∀ σ11 : Mem, σ11 = up2 σ 33 2 (5 : Int32) → post σ11)))
set_option maxRecDepth 20000 in
theorem kX2_takeActLine {X : Cx} {G : Gw} (hG : fw_IsC G) (O : fw_Ok X G cX2_takeActLine 4 RX2 4 82 none) {o : Nat} {a2 : Int32} (ho : fw_rig o) {σ : Mem} {post : Mem → Prop} (h : qX2_takeActLine o a2 σ post) : fw_At X G 4 (fw_QV X G post) 0 [(0, .ref (gad G 33)), (1, .ref (gad G o)), (2, .int a2)] [] σ := by
  unfold qX2_takeActLine at h
  refine fr_aload_n (pc := 0) O 1 dX2_takeActLine_0 rfl rfl ?_
  refine fr_get (pc := 1) (k := 7) (v := .int (σ o 7)) O cl_X0 m_92 (sC_rig hG ho) (by decide) rfl rfl dX2_takeActLine_1 ?_
  refine fr_bipush (pc := 4) O (v := (16 : Int32)) dX2_takeActLine_4 (by decide) ?_
  refine fr_icmp_lt (pc := 6) (tgt := 15) O dX2_takeActLine_6 (by decide) (fun c_6 => ?_) (fun c_6 => ?_)
  · have h := h.1 c_6
    refine fr_aload_n (pc := 15) O 0 dX2_takeActLine_15 rfl rfl ?_
    refine fr_iconst (pc := 16) O (v := (0 : Int32)) dX2_takeActLine_16 (by decide) ?_
    refine fr_iload_n (pc := 17) O 2 dX2_takeActLine_17 rfl rfl ?_
    refine fr_bipush (pc := 18) O (v := (7 : Int32)) dX2_takeActLine_18 (by decide) ?_
    refine fr_icmp_ne (pc := 20) (tgt := 27) O dX2_takeActLine_20 (by decide) (fun c_20 => ?_) (fun c_20 => ?_)
    · have h := h.1 c_20
      refine fr_bipush (pc := 27) O (v := (99 : Int32)) dX2_takeActLine_27 (by decide) ?_
      exact kX2_takeActLine_B29 hG O ho h
    · have h := h.2 c_20
      refine fr_iconst (pc := 23) O (v := (3 : Int32)) dX2_takeActLine_23 (by decide) ?_
      refine fr_goto (pc := 24) (tgt := 29) O dX2_takeActLine_24 (by decide) ?_
      exact kX2_takeActLine_B29 hG O ho h
  · have h := h.2 c_6
    refine fr_aload_n (pc := 9) O 0 dX2_takeActLine_9 rfl rfl ?_
    refine fr_iconst (pc := 10) O (v := (5 : Int32)) dX2_takeActLine_10 (by decide) ?_
    refine fr_put (pc := 11) (k := 2) O cl_X2 m_141 (sC_33 hG) (by decide) rfl rfl rfl rfl (fun _ => Nat.le_of_ble_eq_true rfl) (fun _ => rfl) dX2_takeActLine_11 (fun σ11 e_σ11 => ?_)
    have h := h σ11 e_σ11
    exact fr_vret (pc := 14) O dX2_takeActLine_14 h
theorem tX2_takeActLine (l : Launch) {G : Gw} (hG : fw_IsC G) {o : Nat} {a2 : Int32} (ho : fw_rig o) {σ : Mem} {post : Mem → Prop} (h : qX2_takeActLine o a2 σ post) : fw_CV l G yX2_takeActLine cX2_takeActLine 4 4 82 [.ref (gad G 33), .ref (gad G o), .int a2] σ post := fw_ofV (sok_C hG) (by decide) (Nat.le_of_ble_eq_true rfl) (fun X O => kX2_takeActLine hG O ho h)
def qX2_takeLine_B52 (o : Nat) (post : Mem → Prop) (σ : Mem) : Prop := post σ
set_option maxRecDepth 20000 in
theorem kX2_takeLine_B52 {X : Cx} {G : Gw} (hG : fw_IsC G) (O : fw_Ok X G cX2_takeLine 3 RX2 6 128 none) {o : Nat} {post : Mem → Prop} (ho : fw_rig o)   {σ : Mem} (h : qX2_takeLine_B52 o post σ) : fw_At X G 3 (fw_QV X G post) 52 [(0, .ref (gad G 33)), (1, .ref (gad G o))] [] σ := by
  unfold qX2_takeLine_B52 at h
  exact fr_vret (pc := 52) O dX2_takeLine_52 h
def qX2_takeLine (o : Nat) (σ : Mem) (post : Mem → Prop) : Prop := (qX2_lineOfName σ (fun r1 σ1 => ((¬ r1 = (8 : Int32) → (((4 : Int32) ≤ r1 → ((¬ r1 = (4 : Int32) → (qX2_takeActLine o r1 σ1 (fun σ49 => qX2_takeLine_B52 o post σ49))) ∧ (r1 = (4 : Int32) → (qX2_takeShaftLine o σ1 (fun σ40 => qX2_takeLine_B52 o post σ40))))) ∧ (¬ (4 : Int32) ≤ r1 → (qX2_takeWheelLine o r1 σ1 (fun σ27 => qX2_takeLine_B52 o post σ27))))) ∧ (r1 = (8 : Int32) → (∀ σ13 : Mem, σ13 = up2 σ1 33 2 (2 : Int32) → qX2_takeLine_B52 o post σ13)))))
set_option maxRecDepth 20000 in
theorem kX2_takeLine {X : Cx} {G : Gw} (hG : fw_IsC G) (O : fw_Ok X G cX2_takeLine 3 RX2 6 128 none) {o : Nat} (ho : fw_rig o) {σ : Mem} {post : Mem → Prop} (h : qX2_takeLine o σ post) : fw_At X G 3 (fw_QV X G post) 0 [(0, .ref (gad G 33)), (1, .ref (gad G o))] [] σ := by
  unfold qX2_takeLine at h
  refine fr_aload_n (pc := 0) O 0 dX2_takeLine_0 rfl rfl ?_
  refine fr_callVI (pc := 1) (st := []) O (tX2_lineOfName X.2.1 hG  h) mt_X2_lineOfName mv_X2_lineOfName m_286 cl_X2 rfl (sC_33 hG) rfl (by decide) rfl (Nat.le_of_ble_eq_true rfl) dX2_takeLine_1 (fun r1 σ1 h => ?_)
  refine fr_istore_n (pc := 4) O [1, 2, 0] (lv' := [(0, .ref (gad G 33)), (1, .ref (gad G o)), (2, .int r1)]) dX2_takeLine_4 rfl (by decide) rfl ?_
  refine fr_iload_n (pc := 5) O 2 dX2_takeLine_5 rfl rfl ?_
  refine fr_bipush (pc := 6) O (v := (8 : Int32)) dX2_takeLine_6 (by decide) ?_
  refine fr_icmp_ne (pc := 8) (tgt := 19) O dX2_takeLine_8 (by decide) (fun c_8 => ?_) (fun c_8 => ?_)
  · have h := h.1 c_8
    refine fr_iload_n (pc := 19) O 2 dX2_takeLine_19 rfl rfl ?_
    refine fr_iconst (pc := 20) O (v := (4 : Int32)) dX2_takeLine_20 (by decide) ?_
    refine fr_icmp_ge (pc := 21) (tgt := 33) O dX2_takeLine_21 (by decide) (fun c_21 => ?_) (fun c_21 => ?_)
    · have h := h.1 c_21
      refine fr_iload_n (pc := 33) O 2 dX2_takeLine_33 rfl rfl ?_
      refine fr_iconst (pc := 34) O (v := (4 : Int32)) dX2_takeLine_34 (by decide) ?_
      refine fr_icmp_ne (pc := 35) (tgt := 46) O dX2_takeLine_35 (by decide) (fun c_35 => ?_) (fun c_35 => ?_)
      · have h := h.1 c_35
        refine fr_aload_n (pc := 46) O 0 dX2_takeLine_46 rfl rfl ?_
        refine fr_aload_n (pc := 47) O 1 dX2_takeLine_47 rfl rfl ?_
        refine fr_iload_n (pc := 48) O 2 dX2_takeLine_48 rfl rfl ?_
        refine fr_callVV (pc := 49) (st := []) O (tX2_takeActLine X.2.1 hG ho h) mt_X2_takeActLine mv_X2_takeActLine m_374 cl_X2 rfl (sC_33 hG) rfl (by decide) rfl (Nat.le_of_ble_eq_true rfl) dX2_takeLine_49 (fun σ49 h => ?_)
        refine fw_sub (lv' := [(0, .ref (gad G 33)), (1, .ref (gad G o))]) [0, 1] rfl ?_
        exact kX2_takeLine_B52 hG O ho h
      · have h := h.2 c_35
        refine fr_aload_n (pc := 38) O 0 dX2_takeLine_38 rfl rfl ?_
        refine fr_aload_n (pc := 39) O 1 dX2_takeLine_39 rfl rfl ?_
        refine fr_callVV (pc := 40) (st := []) O (tX2_takeShaftLine X.2.1 hG ho h) mt_X2_takeShaftLine mv_X2_takeShaftLine m_370 cl_X2 rfl (sC_33 hG) rfl (by decide) rfl (Nat.le_of_ble_eq_true rfl) dX2_takeLine_40 (fun σ40 h => ?_)
        refine fr_goto (pc := 43) (tgt := 52) O dX2_takeLine_43 (by decide) ?_
        refine fw_sub (lv' := [(0, .ref (gad G 33)), (1, .ref (gad G o))]) [0, 1] rfl ?_
        exact kX2_takeLine_B52 hG O ho h
    · have h := h.2 c_21
      refine fr_aload_n (pc := 24) O 0 dX2_takeLine_24 rfl rfl ?_
      refine fr_aload_n (pc := 25) O 1 dX2_takeLine_25 rfl rfl ?_
      refine fr_iload_n (pc := 26) O 2 dX2_takeLine_26 rfl rfl ?_
      refine fr_callVV (pc := 27) (st := []) O (tX2_takeWheelLine X.2.1 hG ho h) mt_X2_takeWheelLine mv_X2_takeWheelLine m_353 cl_X2 rfl (sC_33 hG) rfl (by decide) rfl (Nat.le_of_ble_eq_true rfl) dX2_takeLine_27 (fun σ27 h => ?_)
      refine fr_goto (pc := 30) (tgt := 52) O dX2_takeLine_30 (by decide) ?_
      refine fw_sub (lv' := [(0, .ref (gad G 33)), (1, .ref (gad G o))]) [0, 1] rfl ?_
      exact kX2_takeLine_B52 hG O ho h
  · have h := h.2 c_8
    refine fr_aload_n (pc := 11) O 0 dX2_takeLine_11 rfl rfl ?_
    refine fr_iconst (pc := 12) O (v := (2 : Int32)) dX2_takeLine_12 (by decide) ?_
    refine fr_put (pc := 13) (k := 2) O cl_X2 m_141 (sC_33 hG) (by decide) rfl rfl rfl rfl (fun _ => Nat.le_of_ble_eq_true rfl) (fun _ => rfl) dX2_takeLine_13 (fun σ13 e_σ13 => ?_)
    have h := h σ13 e_σ13
    refine fr_goto (pc := 16) (tgt := 52) O dX2_takeLine_16 (by decide) ?_
    refine fw_sub (lv' := [(0, .ref (gad G 33)), (1, .ref (gad G o))]) [0, 1] rfl ?_
    exact kX2_takeLine_B52 hG O ho h
theorem tX2_takeLine (l : Launch) {G : Gw} (hG : fw_IsC G) {o : Nat} (ho : fw_rig o) {σ : Mem} {post : Mem → Prop} (h : qX2_takeLine o σ post) : fw_CV l G yX2_takeLine cX2_takeLine 3 6 128 [.ref (gad G 33), .ref (gad G o)] σ post := fw_ofV (sok_C hG) (by decide) (Nat.le_of_ble_eq_true rfl) (fun X O => kX2_takeLine hG O ho h)
def qX2_tell_B79 (o : Nat) (post : Int32 → Mem → Prop) (s0 : Int32) (σ : Mem) : Prop := post s0 σ
set_option maxRecDepth 20000 in
theorem kX2_tell_B79 {X : Cx} {G : Gw} (hG : fw_IsC G) (O : fw_Ok X G cX2_tell 3 RX2 7 150 (some .int)) {o : Nat} {post : Int32 → Mem → Prop} (ho : fw_rig o)  {s0 : Int32} {σ : Mem} (h : qX2_tell_B79 o post s0 σ) : fw_At X G 3 (fw_QI X G post) 79 [(0, .ref (gad G 33)), (1, .ref (gad G o))] [.int s0] σ := by
  unfold qX2_tell_B79 at h
  exact fr_iret (pc := 79) O dX2_tell_79 h
def qX2_tell_B61 (o : Nat) (post : Int32 → Mem → Prop) (x2 : Int32) (σ : Mem) : Prop := ((¬ (σ 33 2) = 0 → qX2_tell_B79 o post ((-10 : Int32) - (σ 33 5)) σ) ∧ ((σ 33 2) = 0 → qX2_tell_B79 o post x2 σ))
set_option maxRecDepth 20000 in
theorem kX2_tell_B61 {X : Cx} {G : Gw} (hG : fw_IsC G) (O : fw_Ok X G cX2_tell 3 RX2 7 150 (some .int)) {o : Nat} {post : Int32 → Mem → Prop} (ho : fw_rig o)  {x2 : Int32} {σ : Mem} (h : qX2_tell_B61 o post x2 σ) : fw_At X G 3 (fw_QI X G post) 61 [(0, .ref (gad G 33)), (1, .ref (gad G o)), (2, .int x2)] [] σ := by
  unfold qX2_tell_B61 at h
  refine fr_aload_n (pc := 61) O 0 dX2_tell_61 rfl rfl ?_
  refine fr_get (pc := 62) (k := 2) (v := .int (σ 33 2)) O cl_X2 m_141 (sC_33 hG) (by decide) rfl rfl dX2_tell_62 ?_
  refine fr_if_ne (pc := 65) (tgt := 72) O dX2_tell_65 (by decide) (fun c_65 => ?_) (fun c_65 => ?_)
  · have h := h.1 c_65
    refine fr_bipush (pc := 72) O (v := (-10 : Int32)) dX2_tell_72 (by decide) ?_
    refine fr_aload_n (pc := 74) O 0 dX2_tell_74 rfl rfl ?_
    refine fr_get (pc := 75) (k := 5) (v := .int (σ 33 5)) O cl_X2 m_145 (sC_33 hG) (by decide) rfl rfl dX2_tell_75 ?_
    refine fr_isub (pc := 78) O dX2_tell_78 ?_
    refine fw_sub (lv' := [(0, .ref (gad G 33)), (1, .ref (gad G o))]) [0, 1] rfl ?_
    exact kX2_tell_B79 hG O ho h
  · have h := h.2 c_65
    refine fr_iload_n (pc := 68) O 2 dX2_tell_68 rfl rfl ?_
    refine fr_goto (pc := 69) (tgt := 79) O dX2_tell_69 (by decide) ?_
    refine fw_sub (lv' := [(0, .ref (gad G 33)), (1, .ref (gad G o))]) [0, 1] rfl ?_
    exact kX2_tell_B79 hG O ho h
def qX2_tell_L25 (o : Nat) (post : Int32 → Mem → Prop) (k25 : Int32 → Mem → Prop) (x2 : Int32) (σ : Mem) : Prop := ((¬ (σ 33 2) = 0 → qX2_tell_B61 o post x2 σ) ∧ ((σ 33 2) = 0 → (((σ 33 4) = 0 → qX2_tell_B61 o post x2 σ) ∧ (¬ (σ 33 4) = 0 → (((160 : Int32) ≤ x2 → qX2_tell_B61 o post x2 σ) ∧ (¬ (160 : Int32) ≤ x2 → (qX2_takeLine o σ (fun σ48 => (∀ y2_51 : Int32, y2_51 = x2 + (1 : Int32) → (qX2_nextToken σ48 (fun σ55 => k25 y2_51 σ55)))))))))))
set_option maxRecDepth 20000 in
theorem kX2_tell_L25 {X : Cx} {G : Gw} (hG : fw_IsC G) (O : fw_Ok X G cX2_tell 3 RX2 7 150 (some .int)) {o : Nat} {post : Int32 → Mem → Prop} {k25 : Int32 → Mem → Prop} (ho : fw_rig o) (hk25 : ∀ (x2 : Int32) (σ : Mem), k25 x2 σ → fw_At X G 3 (fw_QI X G post) 25 [(0, .ref (gad G 33)), (1, .ref (gad G o)), (2, .int x2)] [] σ) {x2 : Int32} {σ : Mem} (h : qX2_tell_L25 o post k25 x2 σ) : fw_At X G 3 (fw_QI X G post) 25 [(0, .ref (gad G 33)), (1, .ref (gad G o)), (2, .int x2)] [] σ := by
  unfold qX2_tell_L25 at h
  refine fr_aload_n (pc := 25) O 0 dX2_tell_25 rfl rfl ?_
  refine fr_get (pc := 26) (k := 2) (v := .int (σ 33 2)) O cl_X2 m_141 (sC_33 hG) (by decide) rfl rfl dX2_tell_26 ?_
  refine fr_if_ne (pc := 29) (tgt := 61) O dX2_tell_29 (by decide) (fun c_29 => ?_) (fun c_29 => ?_)
  · have h := h.1 c_29
    exact kX2_tell_B61 hG O ho h
  · have h := h.2 c_29
    refine fr_aload_n (pc := 32) O 0 dX2_tell_32 rfl rfl ?_
    refine fr_get (pc := 33) (k := 4) (v := .int (σ 33 4)) O cl_X2 m_144 (sC_33 hG) (by decide) rfl rfl dX2_tell_33 ?_
    refine fr_if_eq (pc := 36) (tgt := 61) O dX2_tell_36 (by decide) (fun c_36 => ?_) (fun c_36 => ?_)
    · have h := h.1 c_36
      exact kX2_tell_B61 hG O ho h
    · have h := h.2 c_36
      refine fr_iload_n (pc := 39) O 2 dX2_tell_39 rfl rfl ?_
      refine fr_sipush (pc := 40) O (v := (160 : Int32)) dX2_tell_40 (by decide) ?_
      refine fr_icmp_ge (pc := 43) (tgt := 61) O dX2_tell_43 (by decide) (fun c_43 => ?_) (fun c_43 => ?_)
      · have h := h.1 c_43
        exact kX2_tell_B61 hG O ho h
      · have h := h.2 c_43
        refine fr_aload_n (pc := 46) O 0 dX2_tell_46 rfl rfl ?_
        refine fr_aload_n (pc := 47) O 1 dX2_tell_47 rfl rfl ?_
        refine fr_callVV (pc := 48) (st := []) O (tX2_takeLine X.2.1 hG ho h) mt_X2_takeLine mv_X2_takeLine m_282 cl_X2 rfl (sC_33 hG) rfl (by decide) rfl (Nat.le_of_ble_eq_true rfl) dX2_tell_48 (fun σ48 h => ?_)
        refine fr_iinc (pc := 51) O 2 [1, 2, 0] (w := (1 : Int32)) (lvF := fun y2_51 => [(0, .ref (gad G 33)), (1, .ref (gad G o)), (2, .int y2_51)]) dX2_tell_51 rfl (by decide) (by decide) (fun _ => rfl) (fun y2_51 e_y2_51 => ?_)
        have h := h y2_51 e_y2_51
        refine fr_aload_n (pc := 54) O 0 dX2_tell_54 rfl rfl ?_
        refine fr_callVV (pc := 55) (st := []) O (tX2_nextToken X.2.1 hG  h) mt_X2_nextToken mv_X2_nextToken m_264 cl_X2 rfl (sC_33 hG) rfl (by decide) rfl (Nat.le_of_ble_eq_true rfl) dX2_tell_55 (fun σ55 h => ?_)
        refine fr_goto (pc := 58) (tgt := 25) O dX2_tell_58 (by decide) ?_
        exact hk25 _ _ h
set_option maxRecDepth 20000 in
theorem kX2_tell_L25w {X : Cx} {G : Gw} (hG : fw_IsC G) (O : fw_Ok X G cX2_tell 3 RX2 7 150 (some .int)) {o : Nat} {post : Int32 → Mem → Prop} (ho : fw_rig o)  {n9 : Nat} {x2 : Int32} {σ : Mem} (h : it1 (qX2_tell_L25 o post) n9 x2 σ) : fw_At X G 3 (fw_QI X G post) 25 [(0, .ref (gad G 33)), (1, .ref (gad G o)), (2, .int x2)] [] σ :=
  it1_walk (T := fun x2 σ => fw_At X G 3 (fw_QI X G post) 25 [(0, .ref (gad G 33)), (1, .ref (gad G o)), (2, .int x2)] [] σ) (fun k25 hk25 x2 σ h => kX2_tell_L25 hG O ho hk25 h) n9 x2 σ h
def qX2_tell (o : Nat) (σ : Mem) (post : Int32 → Mem → Prop) : Prop := (qX0_clear o σ (fun σ1 => (∀ σ6 : Mem, σ6 = up2 σ1 33 2 (0 : Int32) → (∀ σ11 : Mem, σ11 = up2 σ6 33 3 (0 : Int32) → (∀ σ16 : Mem, σ16 = up2 σ11 33 7 (0 : Int32) → (qX2_nextToken σ16 (fun σ22 => ∃ n9, it1 (qX2_tell_L25 o post) n9 (0 : Int32) σ22)))))))
set_option maxRecDepth 20000 in
theorem kX2_tell {X : Cx} {G : Gw} (hG : fw_IsC G) (O : fw_Ok X G cX2_tell 3 RX2 7 150 (some .int)) {o : Nat} (ho : fw_rig o) {σ : Mem} {post : Int32 → Mem → Prop} (h : qX2_tell o σ post) : fw_At X G 3 (fw_QI X G post) 0 [(0, .ref (gad G 33)), (1, .ref (gad G o))] [] σ := by
  unfold qX2_tell at h
  refine fr_aload_n (pc := 0) O 1 dX2_tell_0 rfl rfl ?_
  refine fr_callVV (pc := 1) (st := []) O (tX0_clear X.2.1 hG ho h) mt_X0_clear mv_X0_clear m_256 cl_X0 rfl (sC_rig hG ho) rfl (by decide) rfl (Nat.le_of_ble_eq_true rfl) dX2_tell_1 (fun σ1 h => ?_)
  refine fr_aload_n (pc := 4) O 0 dX2_tell_4 rfl rfl ?_
  refine fr_iconst (pc := 5) O (v := (0 : Int32)) dX2_tell_5 (by decide) ?_
  refine fr_put (pc := 6) (k := 2) O cl_X2 m_141 (sC_33 hG) (by decide) rfl rfl rfl rfl (fun _ => Nat.le_of_ble_eq_true rfl) (fun _ => rfl) dX2_tell_6 (fun σ6 e_σ6 => ?_)
  have h := h σ6 e_σ6
  refine fr_aload_n (pc := 9) O 0 dX2_tell_9 rfl rfl ?_
  refine fr_iconst (pc := 10) O (v := (0 : Int32)) dX2_tell_10 (by decide) ?_
  refine fr_put (pc := 11) (k := 3) O cl_X2 m_143 (sC_33 hG) (by decide) rfl rfl rfl rfl (fun _ => Nat.le_of_ble_eq_true rfl) (fun _ => rfl) dX2_tell_11 (fun σ11 e_σ11 => ?_)
  have h := h σ11 e_σ11
  refine fr_aload_n (pc := 14) O 0 dX2_tell_14 rfl rfl ?_
  refine fr_iconst (pc := 15) O (v := (0 : Int32)) dX2_tell_15 (by decide) ?_
  refine fr_put (pc := 16) (k := 7) O cl_X2 m_147 (sC_33 hG) (by decide) rfl rfl isB_0.nar isB_0.fit (fun _ => Nat.le_of_ble_eq_true rfl) (fun _ => rfl) dX2_tell_16 (fun σ16 e_σ16 => ?_)
  have h := h σ16 e_σ16
  refine fr_iconst (pc := 19) O (v := (0 : Int32)) dX2_tell_19 (by decide) ?_
  refine fr_istore_n (pc := 20) O [1, 2, 0] (lv' := [(0, .ref (gad G 33)), (1, .ref (gad G o)), (2, .int (0 : Int32))]) dX2_tell_20 rfl (by decide) rfl ?_
  refine fr_aload_n (pc := 21) O 0 dX2_tell_21 rfl rfl ?_
  refine fr_callVV (pc := 22) (st := []) O (tX2_nextToken X.2.1 hG  h) mt_X2_nextToken mv_X2_nextToken m_264 cl_X2 rfl (sC_33 hG) rfl (by decide) rfl (Nat.le_of_ble_eq_true rfl) dX2_tell_22 (fun σ22 h => ?_)
  obtain ⟨n9, h⟩ := h
  exact kX2_tell_L25w hG O ho h
theorem tX2_tell (l : Launch) {G : Gw} (hG : fw_IsC G) {o : Nat} (ho : fw_rig o) {σ : Mem} {post : Int32 → Mem → Prop} (h : qX2_tell o σ post) : fw_CI l G yX2_tell cX2_tell 3 .int 7 150 [.ref (gad G 33), .ref (gad G o)] σ post := fw_ofI (sok_C hG) (by decide) (Nat.le_of_ble_eq_true rfl) (fun X O => kX2_tell hG O ho h)
